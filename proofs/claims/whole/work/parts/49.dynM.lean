/-! the reference: what is done by call -/
def ZM (d : DS) (M : Mem) : Prop := uM 143 0 (dUe d) M ∧ M 98 84 = dVa d ∧ M 98 85 = dMi d ∧ M 98 86 = dNu d
def YM (y : YS) (M : Mem) : Prop := vM 0 y.1 M ∧ UM y.2.1 M ∧ M 98 82 = bI y.2.2.1 ∧ (y.2.2.1 = true → ZM y.2.2.2 M) ∧ M 98 62 = 0
/-- all but what is done and tried stays -/
def FrR (M M' : Mem) : Prop := (∀ a, a ≠ 98 → a ≠ 121 → a ≠ 122 → ¬ (125 ≤ a ∧ a ≤ 130) → a ≠ 142 → a ≠ 143 → M' a = M a) ∧ ∀ k, k ≠ 2 → k ≠ 50 → ¬ (59 ≤ k ∧ k ≤ 65) → ¬ (80 ≤ k ∧ k ≤ 86) → M' 98 k = M 98 k
theorem FrR.rf (M : Mem) : FrR M M := ⟨fun _ _ _ _ _ _ _ => rfl, fun _ _ _ _ _ => rfl⟩
theorem FrR.tr {M M1 M2 : Mem} (h1 : FrR M M1) (h2 : FrR M1 M2) : FrR M M2 := ⟨fun a a1 a2 a3 a4 a5 a6 => (h2.1 a a1 a2 a3 a4 a5 a6).trans (h1.1 a a1 a2 a3 a4 a5 a6), fun k k1 k2 k3 k4 => (h2.2 k k1 k2 k3 k4).trans (h1.2 k k1 k2 k3 k4)⟩
theorem FrP.toR {b : Nat} {M M' : Mem} (h : FrP b M M') : FrR M M' := ⟨fun a a1 a2 a3 a4 _ _ => funext fun q => h a q a2 a3 (fun z => by omega) (fun z => by omega) (fun z => absurd z a1), fun k k1 k2 k3 k4 => h.f98 ⟨k2, by omega⟩⟩
theorem FrR.u98 {M : Mem} {k : Nat} (v : Int) (h : k = 2 ∨ k = 50 ∨ (59 ≤ k ∧ k ≤ 65) ∨ (80 ≤ k ∧ k ≤ 86)) : FrR M (upM M 98 k v) := ⟨fun a a1 _ _ _ _ _ => upM_ne _ _ _ a1, fun q q1 q2 q3 q4 => by rw [upM_self, va_up_neq _ _ (by omega)]⟩
theorem FrR.uA {M : Mem} {a k : Nat} (v : Int) (h : 125 ≤ a ∧ a ≤ 130) : FrR M (upM M a k v) := ⟨fun c _ _ _ c4 _ _ => upM_ne _ _ _ (by omega), fun q q1 q2 q3 q4 => by rw [upM_ne _ _ _ (by omega)]⟩
theorem MD.fR {n : Nat} {may : Nat → Nat} {law : Lw} {rust : Int} {M M' : Mem} (h : MD n may law rust M) (hF : FrR M M') : MD n may law rust M' := by
  obtain ⟨h1, h2, h3, h4, h5, h6⟩ := h
  have e : ∀ a, 99 ≤ a → a < 121 → M' a = M a := fun a a1 a2 => hF.1 a (by omega) (by omega) (by omega) (by omega) (by omega) (by omega)
  refine ⟨by rw [hF.2 12 (by decide) (by decide) (by decide) (by decide)]; exact h1, h2, by rw [hF.1 123 (by decide) (by decide) (by decide) (by decide) (by decide) (by decide)]; exact h3, h4.congr (e 113 (by decide) (by decide)) (e 114 (by decide) (by decide)) (e 115 (by decide) (by decide)) (e 116 (by decide) (by decide)) (e 117 (by decide) (by decide)) (e 118 (by decide) (by decide)), by rw [e 102 (by decide) (by decide)]; exact h5, h6⟩
theorem PM.fR {po : PO} {M M' : Mem} (h : PM po M) (hF : FrR M M') : PM po M' := by
  have e : ∀ a, 99 ≤ a → a < 121 → M' a = M a := fun a a1 a2 => hF.1 a (by omega) (by omega) (by omega) (by omega) (by omega) (by omega)
  unfold PM
  rw [e 107 (by decide) (by decide), e 108 (by decide) (by decide), e 109 (by decide) (by decide), hF.2 13 (by decide) (by decide) (by decide) (by decide), hF.2 14 (by decide) (by decide) (by decide) (by decide)]
  exact h
theorem vM.of {b : Nat} {d : DS} {M M' : Mem} (h : vM b d M) (e : ∀ a, 125 ≤ a → a ≤ 130 → M' a = M a) (e59 : M' 98 59 = M 98 59) : vM b d M' := by
  unfold vM
  rw [e 129 (by decide) (by decide), e 125 (by decide) (by decide), e 126 (by decide) (by decide), e 127 (by decide) (by decide), e 128 (by decide) (by decide), e 130 (by decide) (by decide), e59]
  exact h
/-- what can be undone, what is kept stays -/
def FrK (M M' : Mem) : Prop := M' 142 = M 142 ∧ M' 143 = M 143 ∧ ∀ k, 80 ≤ k → k ≤ 86 → M' 98 k = M 98 k
theorem FrK.rf (M : Mem) : FrK M M := ⟨rfl, rfl, fun _ _ _ => rfl⟩
theorem FrK.tr {M M1 M2 : Mem} (h1 : FrK M M1) (h2 : FrK M1 M2) : FrK M M2 := ⟨h2.1.trans h1.1, h2.2.1.trans h1.2.1, fun k a b => (h2.2.2 k a b).trans (h1.2.2 k a b)⟩
theorem FrP.toK {b : Nat} {M M' : Mem} (h : FrP b M M') : FrK M M' := ⟨h.row (by decide), h.row (by decide), fun k a b => h.f98 ⟨by omega, by omega⟩⟩
theorem FrK.u98 {M : Mem} {k : Nat} (v : Int) (h : ¬ (80 ≤ k ∧ k ≤ 86)) : FrK M (upM M 98 k v) := ⟨upM_ne _ _ _ (by decide), upM_ne _ _ _ (by decide), fun q a b => by rw [upM_self, va_up_neq _ _ (by omega)]⟩
theorem UM.fK {u : US} {M M' : Mem} (h : UM u M) (hF : FrK M M') : UM u M' := ⟨h.1, by rw [hF.2.2 80 (by decide) (by decide)]; exact h.2.1, fun i hi => (h.2.2 i hi).congr (fun k _ _ => by rw [hF.1])⟩
theorem ZM.of {d : DS} {M M' : Mem} (h : ZM d M) (e : M' 143 = M 143) (ek : ∀ k, 84 ≤ k → k ≤ 86 → M' 98 k = M 98 k) : ZM d M' := ⟨h.1.congr (fun k _ _ => by rw [e]), by rw [ek 84 (by decide) (by decide)]; exact h.2.1, by rw [ek 85 (by decide) (by decide)]; exact h.2.2.1, by rw [ek 86 (by decide) (by decide)]; exact h.2.2.2⟩
theorem ZM.fK {d : DS} {M M' : Mem} (h : ZM d M) (hF : FrK M M') : ZM d M' := h.of hF.2.1 (fun k a b => hF.2.2 k (by omega) b)
/-- the same, but for the thrown mark -/
theorem YM.th {y : YS} {M : Mem} (h : YM y M) (v : Int) : YM y (upM M 98 2 v) := by
  obtain ⟨h1, h2, h3, h4, h5⟩ := h
  exact ⟨h1.of (fun a a1 a2 => upM_ne _ _ _ (by omega)) (by rw [upM_self, va_up_neq _ _ (by decide)]), h2.fK (FrK.u98 v (by decide)), by rw [upM_self, va_up_neq _ _ (by decide)]; exact h3, fun hq => (h4 hq).fK (FrK.u98 v (by decide)), by rw [upM_self, va_up_neq _ _ (by decide)]; exact h5⟩
section DYNM
variable {E : Scr} {law : Lw} {may : Nat → Nat} {rust : Int} {n : Nat} {po : PO} {y : YS}
theorem c_canY {f : Int → Mem → Prop} {M : Mem} {d : DS} (hw : wfD n d) (hD : MD n may law rust M) (hv : vM 0 d M) (h62 : M 98 62 = 0) (H : f ((andN (may (dRo d)) (dSe d) : Nat) : Int) M) : CI E mX11_canNow [pR 98, pI 0] M f := by
  have hp := pw8 hD.2.1
  have hm := hD.2.2.1 (dRo d) hw.1
  have h1 := hw.1
  have h2 := hw.2.1
  exact c_canNow (b := 0) (by decide) h62 hv.2.1 (by omega) hm.1 (by omega) hv.2.2.1 (by omega) H
theorem c_pushM {f : Int → Mem → Prop} {M : Mem} {x : Int} (hx : iR x) (hw : wfY n y) (hD : MD n may law rust M) (hy : YM y M) (H : ∀ M', FrR M M' → YM (pushY n may law rust x y).2 M' → f (pushY n may law rust x y).1 M') : CI E mX11_push [pR 98, pI x] M f := by
  have hn := hD.2.1
  have hp := pw8 hn
  obtain ⟨hw1, hw2, -⟩ := hw.1.1
  have hF0 : FrR M (upM M 98 2 0) := FrR.u98 0 (Or.inl rfl)
  have hD0 := hD.fR hF0
  have hy0 := hy.th 0
  refine vX11_push_0 _ (c_isLatch hx hD0.1 (fun l el hl => ?_) (fun z => ?_))
  · subst el
    unfold pushY at H
    rw [if_pos ⟨by omega, by omega⟩, Int.toNat_natCast] at H
    refine ⟨⟨by decide, by decide⟩, fun _ => c_plainTried (fun M1 b1 b2 b3 => ?_), fun z => absurd z (by decide)⟩
    generalize upM M 98 2 0 = M0 at *
    have hF1 : FrR M0 M1 := ⟨fun a a1 _ _ _ _ _ => b1 a a1, fun k _ _ k3 _ => b2 k (by omega)⟩
    have hK1 : FrK M0 M1 := ⟨b1 142 (by decide), b1 143 (by decide), fun k k1 k2 => b2 k (by omega)⟩
    obtain ⟨y1, y2, y3, y4, y5⟩ := hy0
    have hv1 : vM 0 y.1 M1 := y1.of (fun a a1 a2 => b1 a (by omega)) (b2 59 (by decide))
    have hD1 := hD0.fR hF1
    have hy1 : YM y M1 := ⟨hv1, y2.fK hK1, by rw [hK1.2.2 82 (by decide) (by decide)]; exact y3, fun hq => (y4 hq).fK hK1, b3.2.2.1⟩
    have hle := andN_le (may (dRo y.1)) (dSe y.1)
    have hm := (hD.2.2.1 (dRo y.1) hw1).2
    refine c_canY hw.1.1 hD1 hv1 b3.2.2.1 (c_isOf (by omega) (by omega) ?_)
    rw [canB_bt]
    cases hc : canB oPl may y.1 l
    · rw [hc] at H
      exact ⟨⟨by decide, by decide⟩, fun z => absurd rfl z, fun _ => H M1 (hF0.tr hF1) hy1⟩
    · rw [hc] at H
      simp only [if_true] at H
      refine ⟨⟨by decide, by decide⟩, fun _ => ?_, fun z => absurd z (by decide)⟩
      refine c_rememberM hv1 hy1.2.1 (fun M2 d1 d2 d3 => ?_)
      have hF2 : FrR M1 M2 := ⟨fun a a1 _ _ _ a5 _ => d1 a a1 a5, fun k _ _ _ k4 => d2 k (by omega)⟩
      have hO2 : OpM oPl M2 := by
        unfold OpM
        rw [d2 60 (by decide), d2 61 (by decide), d2 62 (by decide), d2 63 (by decide), d2 64 (by decide), d2 65 (by decide)]
        exact b3
      have hv2 : vM 0 y.1 M2 := hv1.of (fun a a1 a2 => d1 a (by omega) (by omega)) (d2 59 (by decide))
      refine c_pushesOne (b := 0) (by decide) hl hw.1.1 (hD1.fR hF2) hO2 hv2 ?_
      intro M3 hF3 hv3
      have hw3 := wfD_push (o := oPl) (law := law) (may := may) (rust := rust) hw.1.1 hl
      have h31 := hw3.1
      rw [hv3.2.1]
      refine fun _ => c_manyOf (by omega) (H M3 (((hF0.tr hF1).tr hF2).tr hF3.toR) ⟨hv3, d3.fK hF3.toK, ?_, fun hq => ?_, ?_⟩)
      · rw [hF3.f98 (by decide), d2 82 (by decide)]; exact hy1.2.2.1
      · exact ((hy1.2.2.2.1 hq).of (d1 143 (by decide) (by decide)) (fun k k1 k2 => d2 k (by omega))).fK hF3.toK
      · rw [hF3.f98 (by decide), d2 62 (by decide)]; exact hy1.2.2.2.2
  · unfold pushY at H
    rw [if_neg z] at H
    exact ⟨⟨by decide, by decide⟩, fun z => absurd rfl z, fun _ => H _ hF0 hy0⟩
theorem c_forceM {f : Int → Mem → Prop} {M : Mem} {x : Int} (hx : iR x) (hw : wfY n y) (hD : MD n may law rust M) (hy : YM y M) (H : ∀ M', FrR M M' → YM (forceY n x y).2 M' → f (forceY n x y).1 M') : CI E mX11_force [pR 98, pI x] M f := by
  have hn := hD.2.1
  have hp := pw8 hn
  obtain ⟨hw1, hw2, -⟩ := hw.1.1
  have hF0 : FrR M (upM M 98 2 0) := FrR.u98 0 (Or.inl rfl)
  have hD0 := hD.fR hF0
  have hy0 := hy.th 0
  refine vX11_force_0 _ (c_isLatch hx hD0.1 (fun l el hl => ?_) (fun z => ?_))
  · subst el
    unfold forceY at H
    rw [if_pos ⟨by omega, by omega⟩, Int.toNat_natCast] at H
    refine ⟨⟨by decide, by decide⟩, fun _ => ?_, fun z => absurd z (by decide)⟩
    refine c_rememberM hy0.1 hy0.2.1 (fun M2 d1 d2 d3 => ?_)
    generalize upM M 98 2 0 = M0 at *
    have hF2 : FrR M0 M2 := ⟨fun a a1 _ _ _ a5 _ => d1 a a1 a5, fun k _ _ _ k4 => d2 k (by omega)⟩
    have hv2 : vM 0 y.1 M2 := hy0.1.of (fun a a1 a2 => d1 a (by omega) (by omega)) (d2 59 (by decide))
    have hxl := xor_lt hw1 hl
    rw [hv2.2.1, bOne_nat (by omega), bXor_nat (by omega) (pw31 (by omega)), bBit_nat (by omega) (by omega)]
    have hK : ∀ v, FrK M2 (upM M2 125 0 v) := fun v => ⟨upM_ne _ _ _ (by decide), upM_ne _ _ _ (by decide), fun k _ _ => by rw [upM_ne _ _ _ (by decide)]⟩
    refine fun _ _ => H _ ((hF0.tr hF2).tr (FrR.uA _ (by decide))) ⟨?_, d3.fK (hK _), ?_, fun hq => ?_, ?_⟩
    · obtain ⟨v1, v2, v3, v4, v5, v6, v7⟩ := hv2
      exact ⟨v1, rfl, v3, v4, v5, v6, v7⟩
    · rw [upM_ne _ _ _ (by decide), d2 82 (by decide)]; exact hy0.2.2.1
    · exact ((hy0.2.2.2.1 hq).of (d1 143 (by decide) (by decide)) (fun k k1 k2 => d2 k (by omega))).fK (hK _)
    · rw [upM_ne _ _ _ (by decide), d2 62 (by decide)]; exact hy0.2.2.2.2
  · unfold forceY at H
    rw [if_neg z] at H
    exact ⟨⟨by decide, by decide⟩, fun z => absurd rfl z, fun _ => H _ hF0 hy0⟩
theorem c_sealM {f : Int → Mem → Prop} {M : Mem} {x : Int} (hx : iR x) (hw : wfY n y) (hD : MD n may law rust M) (hy : YM y M) (H : ∀ M', FrR M M' → YM (sealY n x y).2 M' → f (sealY n x y).1 M') : CI E mX11_seal [pR 98, pI x] M f := by
  have hn := hD.2.1
  have hp := pw8 hn
  obtain ⟨hw1, hw2, -⟩ := hw.1.1
  have hF0 : FrR M (upM M 98 2 0) := FrR.u98 0 (Or.inl rfl)
  have hD0 := hD.fR hF0
  have hy0 := hy.th 0
  refine vX11_seal_0 _ (c_isLatch hx hD0.1 (fun l el hl => ?_) (fun z => ?_))
  · subst el
    unfold sealY at H
    rw [if_pos ⟨by omega, by omega⟩, Int.toNat_natCast] at H
    refine ⟨⟨by decide, by decide⟩, fun _ => ?_, fun z => absurd z (by decide)⟩
    refine c_rememberM hy0.1 hy0.2.1 (fun M2 d1 d2 d3 => ?_)
    generalize upM M 98 2 0 = M0 at *
    have hF2 : FrR M0 M2 := ⟨fun a a1 _ _ _ a5 _ => d1 a a1 a5, fun k _ _ _ k4 => d2 k (by omega)⟩
    have hv2 : vM 0 y.1 M2 := hy0.1.of (fun a a1 a2 => d1 a (by omega) (by omega)) (d2 59 (by decide))
    have hxl := xor_lt hw2 hl
    rw [hv2.2.2.1, bOne_nat (by omega), bXor_nat (by omega) (pw31 (by omega)), bBit_nat (by omega) (by omega)]
    have hK : ∀ v, FrK M2 (upM M2 126 0 v) := fun v => ⟨upM_ne _ _ _ (by decide), upM_ne _ _ _ (by decide), fun k _ _ => by rw [upM_ne _ _ _ (by decide)]⟩
    refine fun _ _ => H _ ((hF0.tr hF2).tr (FrR.uA _ (by decide))) ⟨?_, d3.fK (hK _), ?_, fun hq => ?_, ?_⟩
    · obtain ⟨v1, v2, v3, v4, v5, v6, v7⟩ := hv2
      exact ⟨v1, v2, rfl, v4, v5, v6, v7⟩
    · rw [upM_ne _ _ _ (by decide), d2 82 (by decide)]; exact hy0.2.2.1
    · exact ((hy0.2.2.2.1 hq).of (d1 143 (by decide) (by decide)) (fun k k1 k2 => d2 k (by omega))).fK (hK _)
    · rw [upM_ne _ _ _ (by decide), d2 62 (by decide)]; exact hy0.2.2.2.2
  · unfold sealY at H
    rw [if_neg z] at H
    exact ⟨⟨by decide, by decide⟩, fun z => absurd rfl z, fun _ => H _ hF0 hy0⟩
end DYNM
