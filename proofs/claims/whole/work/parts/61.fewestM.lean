/-- all but the reference's rows of ways stays -/
def FrN (M M' : Mem) : Prop := (∀ a, a ≠ 98 → ¬ (131 ≤ a ∧ a ≤ 139) → M' a = M a) ∧ ∀ k, k ≠ 2 → k ≠ 69 → M' 98 k = M 98 k
theorem FrN.rf (M : Mem) : FrN M M := ⟨fun _ _ _ => rfl, fun _ _ _ => rfl⟩
theorem FrN.tr {M M1 M2 : Mem} (h1 : FrN M M1) (h2 : FrN M1 M2) : FrN M M2 := ⟨fun a a1 a2 => (h2.1 a a1 a2).trans (h1.1 a a1 a2), fun k k1 k2 => (h2.2 k k1 k2).trans (h1.2 k k1 k2)⟩
theorem FrV.toN {M M' : Mem} (h : FrV M M') : FrN M M' := ⟨fun a a1 a2 => h.1 a a1 (by omega) (by omega) (by omega), fun k _ k2 => h.2 k k2⟩
theorem FrN.th (M : Mem) (v : Int) : FrN M (upM M 98 2 v) := ⟨fun a a1 _ => upM_ne _ _ _ a1, fun k k1 _ => by rw [upM_self, va_up_neq _ _ k1]⟩
theorem YM.fN {y : YS} {M M' : Mem} (h : YM y M) (hF : FrN M M') : YM y M' := h.of (h.1.of (fun a a1 a2 => hF.1 a (by omega) (by omega)) (hF.2 59 (by decide) (by decide))) ⟨hF.1 142 (by decide) (by decide), hF.1 143 (by decide) (by decide), fun k k1 k2 => hF.2 k (by omega) (by omega)⟩ (by rw [hF.2 62 (by decide) (by decide)]; exact h.2.2.2.2)
theorem MD.gm {n : Nat} {may : Nat → Nat} {law : Lw} {rust : Int} {M : Mem} (h : MD n may law rust M) : GM n may M := ⟨h.1, fun r hr => ⟨(h.2.2.1 r hr).1, by have := (h.2.2.1 r hr).2; have := pw8 h.2.1; omega⟩⟩
theorem GM.fN {n : Nat} {may : Nat → Nat} {M M' : Mem} (h : GM n may M) (hF : FrN M M') : GM n may M' := by
  unfold GM
  rw [hF.2 12 (by decide) (by decide), hF.1 123 (by decide) (by decide)]
  exact h
section FEWESTM
variable {E : Scr} {law : Lw} {may : Nat → Nat} {rust : Int} {n : Nat} {y : YS}
theorem c_layNow {f : Mem → Prop} {M : Mem} (hn : n ≤ 8) (hw : wfY n y) (hG : GM n may M) (hy : YM y M) (H : ∀ M', FrN M M' → BR (nowB n may y.1) (wfs (-1) (canG may (dSe y.1) 0) n (dRo y.1)) M' → f M') : CV E mX11_layNow [pR 98] M f := by
  have hp := pw8 hn
  have h1 := hw.1.1.1
  have h2 := hw.1.1.2.1
  apply vX11_layNow_0
  rw [hy.1.2.1, hy.1.2.2.1]
  exact fun _ _ => c_layFar (loose := 0) hn (by omega) (by decide) ⟨by decide, by decide⟩ h1 hG (fun M' a1 a2 => H M' a1.toN a2)
theorem c_fewestM {f : Int → Mem → Prop} {M : Mem} {x : Int} (hx : iR x) (hw : wfY n y) (hD : MD n may law rust M) (hy : YM y M) (H : ∀ M', FrN M M' → f (fewY n may x y.1) M') : CI E mX11_fewest [pR 98, pI x] M f := by
  have hn := hD.2.1
  have hp := pw8 hn
  have hF0 := FrN.th M 0
  unfold fewY at H
  refine vX11_fewest_0 _ (c_isRow hx (hD.gm.fN hF0).1 hn (fun r er hr => ⟨⟨by decide, by decide⟩, fun _ => ?_, fun z => absurd z (by decide)⟩) (fun z => ⟨⟨by decide, by decide⟩, fun z => absurd rfl z, fun _ => ?_⟩))
  · subst er
    rw [if_pos ⟨by omega, by omega⟩, Int.toNat_natCast] at H
    refine c_layNow hn hw (hD.gm.fN hF0) (hy.fN hF0) (fun M1 b1 b2 => ⟨⟨by omega, by omega⟩, ?_⟩)
    rw [Int.toNat_natCast, b2.1 r (by omega)]
    have HH := H M1 (hF0.tr b1)
    have hb : BI n (nowB n may y.1) := BI.fs hw.1.1.1
    refine fun _ => ⟨fun c => ⟨⟨by omega, by omega⟩, fun _ => ?_⟩, fun c => ?_⟩
    · rwa [if_neg (by omega)] at HH
    · by_cases e : bF (nowB n may y.1) r = -1
      · rwa [if_pos e] at HH
      · have := (hb.had e).2.1; omega
  · rw [if_neg z] at H
    exact H _ hF0
end FEWESTM
