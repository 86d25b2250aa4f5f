/-! fewest, reach -/
def nowB (n : Nat) (may : Nat → Nat) (d : DS) : BS := bfs (-1) (canG may (dSe d) 0) n (dRo d)
def fewY (n : Nat) (may : Nat → Nat) (x : Int) (d : DS) : Int := if 0 ≤ x ∧ x < ((2 ^ n : Nat) : Int) then (if bF (nowB n may d) x.toNat = -1 then -2 else bF (nowB n may d) x.toNat) else -1
section FEWEST
variable {E : Scr} {law : Lw} {may : Nat → Nat} {rust : Int} {n : Nat} {y : YS}
theorem canG_mv {se r q : Nat} : (canG (mvF may se) 0 0 r).testBit q = (canG may se 0 r).testBit q := by
  unfold canG mvF
  simp only [andN_tb, Nat.testBit_or, Nat.zero_testBit]
  simp
theorem c_lookAround {f : Mem → Prop} {M : Mem} (hw : wfY n y) (hD : CD n may law rust M) (hy : YC y M) (H : ∀ M', FrQ M M' → GC n (mvF may (dSe y.1)) (-1) 0 0 M' → M' 86 8 = (dRo y.1 : Int) → BC (nowB n may y.1) M' → f M') : CV E mX10_lookAround [pR 0] M f := by
  have hp := pw8 hD.2.1
  have h1 := hw.1.1.1
  have h2 := hw.1.1.2.1
  apply vX10_lookAround_0
  rw [hy.1.2.2.1]
  refine fun _ => c_layP (by omega) hD (fun M1 b1 b2 => ?_)
  rw [b1 36 (by decide), hy.1.2.1]
  refine fun _ => c_spread hD.2.1 (by decide) (by decide) h1 b2 (fun M2 d1 d2 d3 => H M2 (b1.tr d1.toQ) (b2.fr d1) d2 ?_)
  rw [bfs_ext (can2 := canG may (dSe y.1) 0) h1 (fun r _ q _ => canG_mv)] at d3
  exact d3
theorem c_fewestC {f : Int → Mem → Prop} {M : Mem} {x : Int} (hx : iR x) (hw : wfY n y) (hD : CD n may law rust M) (hy : YC y M) (H : ∀ M', FrQ M M' → f (fewY n may x y.1) M') : CI E mX10_fewest [pR 0, pI x] M f := by
  have hn := hD.2.1
  have hp := pw8 hn
  unfold fewY at H
  refine vX10_fewest_0 _ (c_hasRow hx hD.1 hn (fun r er hr => ⟨⟨by decide, by decide⟩, fun _ => ?_, fun z => absurd z (by decide)⟩) (fun z => ⟨⟨by decide, by decide⟩, fun z => absurd rfl z, fun _ => ?_⟩))
  · subst er
    rw [if_pos ⟨by omega, by omega⟩, Int.toNat_natCast] at H
    refine c_lookAround hw hD hy (fun M1 b1 b2 b3 b4 => c_stepsTo hn hr b2.2.1 b4 (fun h9 => ⟨h9, ?_⟩))
    have HH := H M1 b1
    refine ⟨fun c => ?_, fun c => ?_⟩
    · rwa [if_neg c] at HH
    · rwa [if_pos c] at HH
  · rw [if_neg z] at H
    exact H M (FrQ.rf M)
theorem c_reachC {f : Int → Mem → Prop} {M : Mem} (hw : wfY n y) (hD : CD n may law rust M) (hy : YC y M) (H : ∀ M', FrQ M M' → f (bC (nowB n may y.1) : Int) M') : CI E mX10_reach [pR 0] M f := by
  refine vX10_reach_0 (c_lookAround hw hD hy (fun M1 b1 b2 b3 b4 => ?_))
  rw [b4.2.2]
  exact fun _ => H M1 b1
end FEWEST
