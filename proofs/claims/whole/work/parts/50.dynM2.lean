/-! without numbers drawn the number stays -/
section NUS
variable {o : Op} {law : Lw} {may : Nat → Nat} {rust : Int} {po : PO}
theorem on_nu {d : DS} {l : Nat} (h : oDr o = false) : dNu (onF o law may rust d l) = dNu d := by
  unfold onF
  split
  · exact push_nu h
  · rfl
theorem rp_nu {l : Nat} (h : oDr o = false) : ∀ (t : Nat) (d : DS), dNu (rpF o law may rust l t d) = dNu d := by
  intro t
  induction t with
  | zero => intro d; rfl
  | succ t ih => intro d; exact (ih _).trans (on_nu h)
theorem ps_nu {pl : Nat → Nat} {pm : Nat → Int} (h : oDr o = false) : ∀ (j k : Nat) (d : DS), dNu (psF o law may rust pl pm j k d) = dNu d := by
  intro j
  induction j with
  | zero => intro k d; rfl
  | succ j ih =>
    intro k d
    simp only [psF]
    rw [ih]
    split
    · exact rp_nu h _ _
    · rfl
theorem ol_nu {om : Nat → Int} : ∀ (j k : Nat) (d : DS), dNu (olF om j k d) = dNu d := by
  intro j
  induction j with
  | zero => intro k d; rfl
  | succ j ih =>
    intro k d
    simp only [olF]
    rw [ih]
    split
    · rfl
    · rfl
theorem min_nu {d : DS} (h : oDr o = false) : dNu (minF o law may rust po d) = dNu d := by
  unfold minF
  show dNu (psF o law may rust po.2.1 po.2.2.1 po.1 0 _) = _
  rw [ps_nu h]
  split
  · rfl
  · exact ol_nu _ _ _
theorem go_nu (h : oDr o = false) : ∀ (j : Nat) (d : DS), dNu (goF o law may rust po j d) = dNu d := by
  intro j
  induction j with
  | zero => intro d; rfl
  | succ j ih => intro d; exact (ih _).trans (min_nu h)
end NUS
theorem vM0_fr {d : DS} {M M' : Mem} (h : vM 0 d M) (hF : FrP 1 M M') : vM 0 (nuD d (M' 98 59)) M' := by
  obtain ⟨v1, v2, v3, v4, v5, v6, v7⟩ := h
  have e : ∀ a, 125 ≤ a → a ≤ 129 → M' a 0 = M a 0 := fun a a1 a2 => hF a 0 (by omega) (by omega) (fun _ => by decide) (fun z => by omega) (fun z => by omega)
  refine ⟨by rw [e 129 (by decide) (by decide)]; exact v1, by rw [e 125 (by decide) (by decide)]; exact v2, by rw [e 126 (by decide) (by decide)]; exact v3, by rw [e 127 (by decide) (by decide)]; exact v4, by rw [e 128 (by decide) (by decide)]; exact v5, rfl, fun i hi => ?_⟩
  rw [hF 130 _ (by decide) (by decide) (fun z => by omega) (fun _ => by omega) (fun z => by omega)]
  exact v7 i hi
section DYNM2
variable {E : Scr} {law : Lw} {may : Nat → Nat} {rust : Int} {n : Nat} {po : PO} {y : YS}
theorem c_undoM {f : Int → Mem → Prop} {M : Mem} (hy : YM y M) (H : ∀ M', FrR M M' → YM (undoY y).2 M' → f (undoY y).1 M') : CI E mX11_undo [pR 98] M f := by
  obtain ⟨y1, y2, y3, y4, y5⟩ := id hy
  obtain ⟨u1, u2, u3⟩ := id y2
  apply vX11_undo_0
  rw [u2]
  unfold undoY at H
  refine fun _ => ⟨fun c _ => ⟨⟨by omega, by omega⟩, fun _ => ?_⟩, fun c => ?_⟩
  · obtain ⟨i, hi⟩ : ∃ i, y.2.1.1 = i + 1 := ⟨y.2.1.1 - 1, by omega⟩
    rw [if_neg (by omega), show y.2.1.1 - 1 = i by omega] at H
    rw [show (y.2.1.1 : Int) - 1 = (i : Int) by omega, show (11 : Int) * (i : Int) = ((11 * i : Nat) : Int) by omega]
    have hv : vM 0 y.1 (upM (upM M 98 2 0) 98 80 (i : Int)) := y1.of (fun a a1 a2 => by rw [upM_ne _ _ _ (by omega), upM_ne _ _ _ (by omega)]) rfl
    refine c_takeM (nn := 220) (Or.inl ⟨rfl, rfl⟩) (by omega) hv ((u3 i (by omega)).congr (fun k _ _ => rfl)) (fun M1 b1 b2 => ?_)
    have e98 : M1 98 = upM (upM M 98 2 0) 98 80 (i : Int) 98 := b1 98 (by decide) (by decide)
    have q : ∀ k, k ≠ 2 → k ≠ 80 → M1 98 k = M 98 k := fun k k1 k2 => by rw [e98, upM_self, va_up_neq _ _ k2, upM_self, va_up_neq _ _ k1]
    have e80 : M1 98 80 = (i : Int) := by rw [e98, upM_self, va_up_self]
    have r : ∀ a, a ≠ 98 → ¬ (125 ≤ a ∧ a ≤ 127) → a ≠ 130 → M1 a = M a := fun a a0 a1 a2 => by rw [b1 a a1 a2, upM_ne _ _ _ a0, upM_ne _ _ _ a0]
    rw [e80]
    refine fun _ => H M1 ⟨fun a a1 _ _ a4 _ _ => r a a1 (by omega) (by omega), fun k k1 _ _ k4 => q k k1 (by omega)⟩ ⟨b2, ⟨by show i ≤ 20; omega, e80, fun j hj => (u3 j (by have : j < i := hj; omega)).congr (fun k _ _ => by rw [r 142 (by decide) (by decide) (by decide)])⟩, ?_, fun hq => ?_, ?_⟩
    · rw [q 82 (by decide) (by decide)]; exact y3
    · exact (y4 hq).of (r 143 (by decide) (by decide) (by decide)) (fun k k1 k2 => q k (by omega) (by omega))
    · rw [q 62 (by decide) (by decide)]; exact y5
  · rw [if_pos (by omega)] at H
    exact H _ (FrR.u98 0 (Or.inl rfl)) (hy.th 0)
theorem c_keepM {f : Int → Mem → Prop} {M : Mem} (hy : YM y M) (H : ∀ M', FrR M M' → YM (keepY y).2 M' → f (keepY y).1 M') : CI E mX11_keep [pR 98] M f := by
  obtain ⟨y1, y2, y3, y4, y5⟩ := id hy
  have hv : vM 0 y.1 (upM (upM M 98 2 0) 98 82 1) := y1.of (fun a a1 a2 => by rw [upM_ne _ _ _ (by omega), upM_ne _ _ _ (by omega)]) rfl
  refine vX11_keep_0 (c_putM (i := 0) (nn := 11) (Or.inr ⟨rfl, rfl⟩) (by omega) hv (fun M1 b1 b2 b3 => ?_))
  have hv1 : vM 0 y.1 M1 := hv.of (fun a a1 a2 => b1 a (by omega)) (by rw [b1 98 (by decide)])
  rw [hv1.2.2.2.2.1, hv1.1, hv1.2.2.2.2.2.1]
  have e98 : M1 98 = upM (upM M 98 2 0) 98 82 1 98 := b1 98 (by decide)
  refine fun _ _ _ _ => ?_
  generalize hM2 : upM (upM (upM M1 98 84 (dVa y.1)) 98 85 (dMi y.1)) 98 86 (dNu y.1) = M2
  have ra : ∀ a, a ≠ 98 → M2 a = M1 a := fun a a1 => by rw [← hM2, upM_ne _ _ _ a1, upM_ne _ _ _ a1, upM_ne _ _ _ a1]
  have rk : ∀ k, k ≠ 84 → k ≠ 85 → k ≠ 86 → M2 98 k = M1 98 k := fun k k1 k2 k3 => by rw [← hM2, upM_self, va_up_neq _ _ k3, upM_self, va_up_neq _ _ k2, upM_self, va_up_neq _ _ k1]
  have q : ∀ k, k ≠ 2 → ¬ (82 ≤ k ∧ k ≤ 86) → M2 98 k = M 98 k := fun k k1 k2 => by rw [rk k (by omega) (by omega) (by omega), e98, upM_self, va_up_neq _ _ (by omega), upM_self, va_up_neq _ _ k1]
  have r : ∀ a, a ≠ 98 → a ≠ 143 → M2 a = M a := fun a a0 a1 => by rw [ra a a0, b1 a a1, upM_ne _ _ _ a0, upM_ne _ _ _ a0]
  refine H M2 ⟨fun a a1 _ _ _ _ a6 => r a a1 a6, fun k k1 _ _ k4 => q k k1 (by omega)⟩ ⟨?_, ⟨y2.1, ?_, fun i hi => ?_⟩, ?_, fun _ => ⟨b3.congr (fun k _ _ => by rw [ra 143 (by decide)]), ?_, ?_, ?_⟩, ?_⟩
  · exact y1.of (fun a a1 a2 => r a (by omega) (by omega)) (q 59 (by decide) (by decide))
  · show M2 98 80 = _
    rw [q 80 (by decide) (by decide)]; exact y2.2.1
  · exact (y2.2.2 i hi).congr (fun k _ _ => by rw [r 142 (by decide) (by decide)])
  · show M2 98 82 = 1
    rw [rk 82 (by decide) (by decide) (by decide), e98]; rfl
  · rw [← hM2]; rfl
  · rw [← hM2]; rfl
  · rw [← hM2]; rfl
  · rw [q 62 (by decide) (by decide)]; exact y5
theorem c_backM {f : Int → Mem → Prop} {M : Mem} (hy : YM y M) (H : ∀ M', FrR M M' → YM (backY y).2 M' → f (backY y).1 M') : CI E mX11_back [pR 98] M f := by
  obtain ⟨y1, y2, y3, y4, y5⟩ := id hy
  apply vX11_back_0
  rw [y3]
  unfold backY at H
  refine fun _ => ⟨fun c => ?_, fun c => ?_⟩
  · have hq := bI_ne c
    rw [if_pos hq] at H
    obtain ⟨z1, z2, z3, z4⟩ := y4 hq
    have hv : vM 0 y.1 (upM M 98 2 0) := (hy.th 0).1
    refine c_takeM (i := 0) (nn := 11) (Or.inr ⟨rfl, rfl⟩) (by omega) hv (z1.congr (fun k _ _ => rfl)) (fun M1 b1 b2 => ?_)
    have e98 : M1 98 = upM M 98 2 0 98 := b1 98 (by decide) (by decide)
    have e : ∀ k, k ≠ 2 → M1 98 k = M 98 k := fun k k1 => by rw [e98, upM_self, va_up_neq _ _ k1]
    rw [e 84 (by decide), e 85 (by decide), e 86 (by decide), z2, z3, z4]
    refine fun _ _ _ _ => ?_
    generalize hM2 : upM (upM (upM (upM M1 128 0 (dVa y.2.2.2)) 129 0 (dMi y.2.2.2)) 98 59 (dNu y.2.2.2)) 98 80 0 = M2
    have ra : ∀ a, a ≠ 98 → a ≠ 128 → a ≠ 129 → M2 a = M1 a := fun a a1 a2 a3 => by rw [← hM2, upM_ne _ _ _ a1, upM_ne _ _ _ a1, upM_ne _ _ _ a3, upM_ne _ _ _ a2]
    have q : ∀ k, k ≠ 2 → k ≠ 59 → k ≠ 80 → M2 98 k = M 98 k := fun k k1 k2 k3 => by rw [← hM2, upM_self, va_up_neq _ _ k3, upM_self, va_up_neq _ _ k2, upM_ne _ _ _ (by decide), upM_ne _ _ _ (by decide), e k k1]
    have r : ∀ a, a ≠ 98 → ¬ (125 ≤ a ∧ a ≤ 130) → M2 a = M a := fun a a0 a1 => by rw [ra a a0 (by omega) (by omega), b1 a (by omega) (by omega), upM_ne _ _ _ a0]
    refine H M2 ⟨fun a a1 _ _ a4 _ _ => r a a1 a4, fun k k1 _ k3 k4 => q k k1 (by omega) (by omega)⟩ ⟨?_, ⟨by show 0 ≤ 20; omega, ?_, fun i hi => absurd hi (Nat.not_lt_zero i)⟩, ?_, fun _ => ?_, ?_⟩
    · obtain ⟨v1, v2, v3, v4, v5, v6, v7⟩ := b2
      refine ⟨by rw [← hM2]; rfl, by rw [ra 125 (by decide) (by decide) (by decide)]; exact v2, by rw [ra 126 (by decide) (by decide) (by decide)]; exact v3, by rw [ra 127 (by decide) (by decide) (by decide)]; exact v4, by rw [← hM2]; rfl, by rw [← hM2]; rfl, by rw [ra 130 (by decide) (by decide) (by decide)]; exact v7⟩
    · rw [← hM2]; rfl
    · rw [q 82 (by decide) (by decide) (by decide)]; exact y3
    · exact (y4 hq).of (r 143 (by decide) (by decide)) (fun k k1 k2 => q k (by omega) (by omega) (by omega))
    · rw [q 62 (by decide) (by decide) (by decide)]; exact y5
  · have hq := bI_eq0 c
    rw [if_neg (by rw [hq]; decide)] at H
    exact H _ (FrR.u98 0 (Or.inl rfl)) (hy.th 0)
theorem c_rowM {f : Int → Mem → Prop} {M : Mem} {w : Int} (hx : iR w) (hw : wfY n y) (hD : MD n may law rust M) (hy : YM y M) (H : ∀ M', FrR M M' → YM y M' → f (rowY may w y.1) M') : CI E mX11_row [pR 98, pI w] M f := by
  have hn := hD.2.1
  have hp := pw8 hn
  have hp0 := Nat.two_pow_pos n
  have hF0 : FrR M (upM M 98 2 0) := FrR.u98 0 (Or.inl rfl)
  have HH := H _ hF0 (hy.th 0)
  unfold rowY at HH
  apply vX11_row_0
  rw [hy.1.2.1, hy.1.2.2.1]
  refine ⟨hx, fun c => ⟨hx, fun c2 => ⟨hx, fun c3 => ?_, fun c3 => ?_⟩, fun c2 _ => ?_⟩, fun c _ => ?_⟩
  · rwa [if_neg c, if_neg c2, if_neg c3] at HH
  · rw [if_neg c, if_neg c2, if_pos c3] at HH
    have hle := andN_le (may (dRo y.1)) (dSe y.1)
    have hm := (hD.2.2.1 (dRo y.1) hw.1.1.1).2
    refine c_canY hw.1.1 (hD.fR hF0) (hy.th 0).1 (hy.th 0).2.2.2.2 ?_
    rw [show (upM M 98 2 0) 98 12 = (n : Int) from (hD.fR hF0).1, bOne_nat (by omega), show ((2 ^ n : Nat) : Int) - 1 = ((2 ^ n - 1 : Nat) : Int) by omega, bAnd_nat (by omega) (by omega), Nat.and_two_pow_sub_one_of_lt_two_pow (by omega)]
    exact fun _ => HH
  · rwa [if_neg c, if_pos c2] at HH
  · rwa [if_pos c] at HH
theorem c_couldM {f : Int → Mem → Prop} {M : Mem} {x w : Int} (hx : iR x) (hx2 : iR w) (hD : MD n may law rust M) (H : f (couldY n may x w) (upM M 98 2 0)) : CI E mX11_could [pR 98, pI x, pI w] M f := by
  have hn := hD.2.1
  have hp := pw8 hn
  have hD0 := hD.fR (FrR.u98 0 (Or.inl rfl) : FrR M (upM M 98 2 0))
  unfold couldY at H
  refine vX11_could_0 _ _ (c_isRow hx hD0.1 hn (fun r er hr => ⟨⟨by decide, by decide⟩, fun z => absurd z (by decide), fun _ => ?_⟩) (fun z => ⟨⟨by decide, by decide⟩, fun _ => ?_, fun z => absurd rfl z⟩))
  · subst er
    refine c_isLatch hx2 hD0.1 (fun l el hl => ⟨⟨by decide, by decide⟩, fun z => absurd z (by decide), fun _ => ⟨⟨by omega, by omega⟩, ?_⟩⟩) (fun z => ⟨⟨by decide, by decide⟩, fun _ => ?_, fun z => absurd rfl z⟩)
    · subst el
      rw [if_pos ⟨⟨by omega, by omega⟩, by omega, by omega⟩, Int.toNat_natCast, Int.toNat_natCast] at H
      have hm := hD0.2.2.1 r hr
      rw [Int.toNat_natCast, hm.1, bBit_nat (by omega) (by omega)]
      exact fun _ => H
    · rwa [if_neg (fun q => z q.2)] at H
  · rwa [if_neg (fun q => z q.1)] at H
end DYNM2
