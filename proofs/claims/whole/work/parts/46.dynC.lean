/-! what is done by call: the numbers alone, and the class -/
/-- now, what can be undone, whether and what is kept -/
abbrev YS : Type := DS × US × Bool × DS
def oDn : Op := (true, false, false, false, false, -1)
def frcD (d : DS) (l : Nat) : DS := (dMi d, dRo d ^^^ 2 ^ l, dSe d, dEf d, dVa d, dNu d, dWo d)
def selD (d : DS) (l : Nat) : DS := (dMi d, dRo d, dSe d ^^^ 2 ^ l, dEf d, dVa d, dNu d, dWo d)
def pushY (n : Nat) (may : Nat → Nat) (law : Lw) (rust : Int) (x : Int) (y : YS) : Int × YS :=
  if 0 ≤ x ∧ x < (n : Int) then
    (if canB oPl may y.1 x.toNat then
      (((pop (dRo (pushF oPl law may rust y.1 x.toNat).2) : Nat) : Int), ((pushF oPl law may rust y.1 x.toNat).2, remU y.2.1 (dUe y.1), y.2.2))
    else (-2, y))
  else (-1, y)
def forceY (n : Nat) (x : Int) (y : YS) : Int × YS :=
  if 0 ≤ x ∧ x < (n : Int) then (((bt (dRo y.1 ^^^ 2 ^ x.toNat) x.toNat : Nat) : Int), (frcD y.1 x.toNat, remU y.2.1 (dUe y.1), y.2.2)) else (-1, y)
def sealY (n : Nat) (x : Int) (y : YS) : Int × YS :=
  if 0 ≤ x ∧ x < (n : Int) then (((bt (dSe y.1 ^^^ 2 ^ x.toNat) x.toNat : Nat) : Int), (selD y.1 x.toNat, remU y.2.1 (dUe y.1), y.2.2)) else (-1, y)
def goY (law : Lw) (may : Nat → Nat) (rust : Int) (po : PO) (x : Int) (y : YS) : Int × YS :=
  if 0 ≤ x ∧ x ≤ 200 ∧ dMi y.1 + x ≤ 9000 then (dMi (goF oDn law may rust po x.toNat y.1), (goF oDn law may rust po x.toNat y.1, if x = 0 then y.2.1 else (0, y.2.1.2), y.2.2)) else (-1, y)
def undoY (y : YS) : Int × YS := if y.2.1.1 = 0 then (-1, y) else (((y.2.1.1 - 1 : Nat) : Int), (ueD y.1 (y.2.1.2 (y.2.1.1 - 1)), (y.2.1.1 - 1, y.2.1.2), y.2.2))
def keepY (y : YS) : Int × YS := (dMi y.1, (y.1, y.2.1, true, y.1))
def backY (y : YS) : Int × YS := if y.2.2.1 = true then (dMi y.2.2.2, (y.2.2.2, (0, y.2.1.2), y.2.2)) else (-1, y)
def wfX (n : Nat) (d : DS) : Prop := wfD n d ∧ wfV d ∧ dMi d ≤ 9000 ∧ ∀ i, n ≤ i → i < 8 → dWo d i = 0
def wfY (n : Nat) (y : YS) : Prop := wfX n y.1 ∧ (y.2.1.1 ≤ 20 ∧ ∀ i, i < y.2.1.1 → wfX n (ueD y.1 (y.2.1.2 i))) ∧ (y.2.2.1 = true → wfX n y.2.2.2)
def YC (y : YS) (M : Mem) : Prop := vC 36 y.1 M ∧ UC y.2.1 y.1 M ∧ M 0 5 = bI y.2.2.1 ∧ (y.2.2.1 = true → vC 40 y.2.2.2 M)
/-- all but states, undos, clock, the knots' stack stays -/
def FrD (M M' : Mem) : Prop := ∀ a, a ≠ 0 → a ≠ 34 → ¬ (36 ≤ a ∧ a < 86) → M' a = M a
theorem FrD.rf (M : Mem) : FrD M M := fun _ _ _ _ => rfl
theorem FrD.tr {M M1 M2 : Mem} (h1 : FrD M M1) (h2 : FrD M1 M2) : FrD M M2 := fun a a1 a2 a3 => (h2 a a1 a2 a3).trans (h1 a a1 a2 a3)
theorem FrC.toD {s : Nat} {M M' : Mem} (hs : s = 36 ∨ s = 38) (h : FrC s M M') : FrD M M' := fun a _ a2 a3 => h a (by omega) (by omega) (by omega) a2
theorem CD.lo {n : Nat} {may : Nat → Nat} {law : Lw} {rust : Int} {M M' : Mem} (h : CD n may law rust M) (e : ∀ a, 21 ≤ a → a < 34 → M' a = M a) : CD n may law rust M' := by
  obtain ⟨h1, h2, h3, h4, h5, h6⟩ := h
  exact ⟨by rw [e 21 (by decide) (by decide)]; exact h1, h2, by rw [e 26 (by decide) (by decide)]; exact h3, h4.congr (e 30 (by decide) (by decide)) (e 32 (by decide) (by decide)) (e 33 (by decide) (by decide)), by rw [e 21 (by decide) (by decide)]; exact h5, h6⟩
theorem PC.lo {po : PO} {M M' : Mem} (h : PC po M) (e : ∀ a, 21 ≤ a → a < 34 → M' a = M a) : PC po M' := by
  unfold PC
  rw [e 21 (by decide) (by decide), e 27 (by decide) (by decide), e 28 (by decide) (by decide), e 29 (by decide) (by decide)]
  exact h
theorem FrD.lo {M M' : Mem} (h : FrD M M') : ∀ a, 21 ≤ a → a < 34 → M' a = M a := fun a a1 a2 => h a (by omega) (by omega) (by omega)
theorem UC.frC {u : US} {d : DS} {M M' : Mem} {s : Nat} (hs : s = 36 ∨ s = 38) (h : UC u d M) (hF : FrC s M M') : UC u d M' := h.congr (fun a a1 a2 => hF a (by omega) (by omega) (by omega) (by omega))
section DYNC
variable {E : Scr} {law : Lw} {may : Nat → Nat} {rust : Int} {n : Nat} {po : PO} {y : YS}
theorem c_asItGoes {f : Mem → Prop} {M : Mem} (H : ∀ M', (∀ a, a ≠ 42 → M' a = M a) → OpC oPl M' → f M') : CV E mX0_asItGoes [pR 42] M f := by
  refine vX0_asItGoes_0 (H _ ?_ ⟨rfl, rfl, rfl, rfl, rfl, rfl⟩)
  intro a a1
  rw [upM_ne _ _ _ a1, upM_ne _ _ _ a1, upM_ne _ _ _ a1]
theorem c_drawn {f : Mem → Prop} {M : Mem} (H : ∀ M', (∀ a, a ≠ 42 → M' a = M a) → OpC oDn M' → f M') : CV E mX0_drawn [pR 42] M f := by
  refine vX0_drawn_0 (vX0_asItGoes_0 (H _ ?_ ⟨rfl, rfl, rfl, rfl, rfl, rfl⟩))
  intro a a1
  rw [upM_ne _ _ _ a1, upM_ne _ _ _ a1, upM_ne _ _ _ a1, upM_ne _ _ _ a1]
theorem canB_bt {d : DS} {l : Nat} : bt (andN (may (dRo d)) (dSe d)) l = (if canB oPl may d l then 1 else 0) := by
  rw [bt_tb, andN_tb]
  rfl
theorem push_nu {o : Op} {d : DS} {l : Nat} (h : oDr o = false) : dNu (pushF o law may rust d l).2 = dNu d := by
  unfold pushF
  split
  · dsimp only
    split
    · rfl
    · show (eatF o _ _).2 = _
      unfold eatF
      split
      · rfl
      · split
        · rfl
        · rw [h]; rfl
  · rfl
theorem push_wn {o : Op} {d : DS} {l j : Nat} (h : j ≠ l) : dWo (pushF o law may rust d l).2 j = dWo d j := by
  unfold pushF
  split
  · dsimp only
    split
    · exact va_up_neq _ _ h
    · exact va_up_neq _ _ h
  · rfl
theorem c_pushC {f : Int → Mem → Prop} {M : Mem} {x : Int} (hx : iR x) (hB : LwB law) (hw : wfY n y) (hD : CD n may law rust M) (hy : YC y M) (H : ∀ M', FrD M M' → YC (pushY n may law rust x y).2 M' → f (pushY n may law rust x y).1 M') : CI E mX10_push [pR 0, pI x] M f := by
  obtain ⟨y1, y2, y3, y4⟩ := id hy
  have hn := hD.2.1
  have hp := pw8 hn
  obtain ⟨hw1, hw2, -⟩ := hw.1.1
  refine vX10_push_0 _ (c_has (Or.inr rfl) hx hD.1 hn (fun l el hl => ?_) (fun z => ?_))
  · subst el
    unfold pushY at H
    rw [if_pos ⟨by omega, by omega⟩, Int.toNat_natCast] at H
    rw [y1.2.1, y1.2.2.1]
    refine ⟨⟨by decide, by decide⟩, fun _ _ _ => ?_, fun z => absurd z (by decide)⟩
    refine c_movable hD hw1 (by omega) ?_
    have hm := (hD.2.2.1 (dRo y.1) hw1).2
    have hle := andN_le (may (dRo y.1)) (dSe y.1)
    rw [bBit_nat (by omega) (by omega), canB_bt]
    cases hc : canB oPl may y.1 l
    · rw [hc] at H
      exact ⟨fun z => absurd rfl z, fun _ => H M (FrD.rf M) hy⟩
    · rw [hc] at H
      simp only [if_true] at H
      refine ⟨fun _ => ?_, fun z => absurd z (by decide)⟩
      refine c_rememberC (l := l) (by omega) y2 y1 (fun M1 b1 b2 => c_asItGoes (fun M2 d1 d2 => ?_))
      have hD2 : CD n may law rust M2 := hD.lo (fun a a1 a2 => by rw [d1 a (by omega), b1 a (by omega)])
      have hv2 : vC 36 y.1 M2 := y1.congr (by rw [d1 36 (by omega), b1 36 (by omega)]) (by rw [d1 37 (by omega), b1 37 (by omega)])
      refine c_pushes (Or.inl rfl) hB hl hw.1.1 hD2 d2 hv2 ?_
      intro M3 hF3 hv3
      have hm := push_mi (o := oPl) (law := law) (may := may) (rust := rust) (d := y.1) (l := l)
      have hw3 := wfD_push (o := oPl) (law := law) (may := may) (rust := rust) hw.1.1 hl
      have hnu := push_nu (o := oPl) (law := law) (may := may) (rust := rust) (d := y.1) (l := l) rfl
      rw [hv3.2.1]
      have h31 := hw3.1
      refine fun _ => c_bitCount (by omega) (H M3 ?_ ⟨hv3, ?_, ?_, fun hi => ?_⟩)
      · refine FrD.tr ?_ (hF3.toD (Or.inl rfl))
        intro a a1 a2 a3
        rw [d1 a (by omega), b1 a (by omega)]
      · exact ((b2 _ (fun j _ z => push_wn z)).congr (fun a a1 a2 => d1 a (by omega))).frC (Or.inl rfl) hF3
      · rw [hF3 0 (by decide) (by decide) (by decide) (by decide), d1 0 (by decide), b1 0 (by decide)]; exact y3
      · exact (y4 hi).congr (by rw [hF3 40 (by decide) (by decide) (by decide) (by decide), d1 40 (by decide), b1 40 (by decide)]) (by rw [hF3 41 (by decide) (by decide) (by decide) (by decide), d1 41 (by decide), b1 41 (by decide)])
  · unfold pushY at H
    rw [if_neg z] at H
    exact ⟨⟨by decide, by decide⟩, fun z => absurd rfl z, fun _ => H M (FrD.rf M) hy⟩
theorem c_forceC {f : Int → Mem → Prop} {M : Mem} {x : Int} (hx : iR x) (hw : wfY n y) (hD : CD n may law rust M) (hy : YC y M) (H : ∀ M', FrD M M' → YC (forceY n x y).2 M' → f (forceY n x y).1 M') : CI E mX10_force [pR 0, pI x] M f := by
  obtain ⟨y1, y2, y3, y4⟩ := id hy
  have hn := hD.2.1
  have hp := pw8 hn
  obtain ⟨hw1, hw2, -⟩ := hw.1.1
  refine vX10_force_0 _ (c_has (Or.inr rfl) hx hD.1 hn (fun l el hl => ?_) (fun z => ?_))
  · subst el
    unfold forceY at H
    rw [if_pos ⟨by omega, by omega⟩, Int.toNat_natCast] at H
    refine ⟨⟨by decide, by decide⟩, fun _ => ?_, fun z => absurd z (by decide)⟩
    refine c_rememberC (l := l) (by omega) y2 y1 (fun M1 b1 b2 => ?_)
    have hv2 : vC 36 y.1 M1 := y1.congr (by rw [b1 36 (by omega)]) (by rw [b1 37 (by omega)])
    have hxl := xor_lt hw1 hl
    rw [hv2.2.1, bOne_nat (by omega), bXor_nat (by omega) (pw31 (by omega)), bBit_nat (by omega) (by omega)]
    refine fun _ _ => H _ ?_ ⟨?_, ?_, ?_, fun hi => ?_⟩
    · intro a a1 a2 a3
      rw [upM_ne _ _ _ (by omega), b1 a (by omega)]
    · obtain ⟨v1, v2, v3, v4, v5, v6, v7⟩ := hv2
      exact ⟨v1, rfl, v3, v4, v5, v6, v7⟩
    · exact (b2 _ (fun _ _ _ => rfl)).congr (fun a a1 a2 => upM_ne _ _ _ (by omega))
    · rw [upM_ne _ _ _ (by decide), b1 0 (by decide)]; exact y3
    · exact (y4 hi).congr (by rw [upM_ne _ _ _ (by decide), b1 40 (by decide)]) (by rw [upM_ne _ _ _ (by decide), b1 41 (by decide)])
  · unfold forceY at H
    rw [if_neg z] at H
    exact ⟨⟨by decide, by decide⟩, fun z => absurd rfl z, fun _ => H M (FrD.rf M) hy⟩
theorem c_sealC {f : Int → Mem → Prop} {M : Mem} {x : Int} (hx : iR x) (hw : wfY n y) (hD : CD n may law rust M) (hy : YC y M) (H : ∀ M', FrD M M' → YC (sealY n x y).2 M' → f (sealY n x y).1 M') : CI E mX10_seal [pR 0, pI x] M f := by
  obtain ⟨y1, y2, y3, y4⟩ := id hy
  have hn := hD.2.1
  have hp := pw8 hn
  obtain ⟨hw1, hw2, -⟩ := hw.1.1
  refine vX10_seal_0 _ (c_has (Or.inr rfl) hx hD.1 hn (fun l el hl => ?_) (fun z => ?_))
  · subst el
    unfold sealY at H
    rw [if_pos ⟨by omega, by omega⟩, Int.toNat_natCast] at H
    refine ⟨⟨by decide, by decide⟩, fun _ => ?_, fun z => absurd z (by decide)⟩
    refine c_rememberC (l := l) (by omega) y2 y1 (fun M1 b1 b2 => ?_)
    have hv2 : vC 36 y.1 M1 := y1.congr (by rw [b1 36 (by omega)]) (by rw [b1 37 (by omega)])
    have hxl := xor_lt hw2 hl
    rw [hv2.2.2.1, bOne_nat (by omega), bXor_nat (by omega) (pw31 (by omega)), bBit_nat (by omega) (by omega)]
    refine fun _ _ => H _ ?_ ⟨?_, ?_, ?_, fun hi => ?_⟩
    · intro a a1 a2 a3
      rw [upM_ne _ _ _ (by omega), b1 a (by omega)]
    · obtain ⟨v1, v2, v3, v4, v5, v6, v7⟩ := hv2
      exact ⟨v1, v2, rfl, v4, v5, v6, v7⟩
    · exact (b2 _ (fun _ _ _ => rfl)).congr (fun a a1 a2 => upM_ne _ _ _ (by omega))
    · rw [upM_ne _ _ _ (by decide), b1 0 (by decide)]; exact y3
    · exact (y4 hi).congr (by rw [upM_ne _ _ _ (by decide), b1 40 (by decide)]) (by rw [upM_ne _ _ _ (by decide), b1 41 (by decide)])
  · unfold sealY at H
    rw [if_neg z] at H
    exact ⟨⟨by decide, by decide⟩, fun z => absurd rfl z, fun _ => H M (FrD.rf M) hy⟩
theorem c_undoC {f : Int → Mem → Prop} {M : Mem} (hy : YC y M) (H : ∀ M', FrD M M' → YC (undoY y).2 M' → f (undoY y).1 M') : CI E mX10_undo [pR 0] M f := by
  obtain ⟨y1, y2, y3, y4⟩ := id hy
  refine vX10_undo_0 (c_takeBackC y2 y1 (fun h0 => ?_) (fun M1 i hi b1 b2 b3 => ?_))
  · unfold undoY at H
    rw [if_pos h0] at H
    exact H M (FrD.rf M) hy
  · unfold undoY at H
    rw [if_neg (by omega), show y.2.1.1 - 1 = i by omega] at H
    refine H M1 (fun a a1 a2 a3 => b1 a (by omega) (by omega) (by omega)) ⟨b3, b2, ?_, fun hq => ?_⟩
    · rw [b1 0 (by decide) (by decide) (by decide)]; exact y3
    · exact (y4 hq).congr (b1 40 (by decide) (by decide) (by decide)) (b1 41 (by decide) (by decide) (by decide))
theorem c_keepC {f : Int → Mem → Prop} {M : Mem} (hy : YC y M) (H : ∀ M', FrD M M' → YC (keepY y).2 M' → f (keepY y).1 M') : CI E mX10_keep [pR 0] M f := by
  obtain ⟨y1, y2, y3, y4⟩ := id hy
  refine vX10_keep_0 (c_takeC isSt_40 isSt_36 (by omega) y1 (fun M1 b1 b2 => ?_))
  rw [b1 36 (by decide) (by decide), y1.1]
  refine fun _ => H _ (fun a a1 a2 a3 => by rw [upM_ne _ _ _ a1, b1 a (by omega) (by omega)]) ⟨?_, ?_, ?_, fun hq => ?_⟩
  · exact y1.congr (by rw [upM_ne _ _ _ (by decide), b1 36 (by decide) (by decide)]) (by rw [upM_ne _ _ _ (by decide), b1 37 (by decide) (by decide)])
  · exact y2.congr (fun a a1 a2 => by rw [upM_ne _ _ _ (by omega), b1 a (by omega) (by omega)])
  · rw [upM_self, va_up_self]; rfl
  · exact b2.congr (upM_ne _ _ _ (by decide)) (upM_ne _ _ _ (by decide))
theorem c_backC {f : Int → Mem → Prop} {M : Mem} (hy : YC y M) (H : ∀ M', FrD M M' → YC (backY y).2 M' → f (backY y).1 M') : CI E mX10_back [pR 0] M f := by
  obtain ⟨y1, y2, y3, y4⟩ := id hy
  apply vX10_back_0
  rw [y3]
  refine fun _ => ⟨fun c => ?_, fun c => ?_⟩
  · have hq := bI_ne c
    unfold backY at H
    rw [if_pos hq] at H
    refine c_takeC isSt_36 isSt_40 (by omega) (y4 hq) (fun M1 b1 b2 => c_clearU (fun M2 d1 d2 d3 => ?_))
    rw [d1 36 (by decide), b2.1]
    refine fun _ => H M2 (fun a a1 a2 a3 => by rw [d1 a (by omega), b1 a (by omega) (by omega)]) ⟨?_, UC.zero rfl d2 d3, ?_, fun _ => ?_⟩
    · exact b2.congr (d1 36 (by decide)) (d1 37 (by decide))
    · rw [d1 0 (by decide), b1 0 (by decide) (by decide)]; exact y3
    · exact (y4 hq).congr (by rw [d1 40 (by decide), b1 40 (by decide) (by decide)]) (by rw [d1 41 (by decide), b1 41 (by decide) (by decide)])
  · have hq := bI_eq0 c
    unfold backY at H
    rw [if_neg (by rw [hq]; decide)] at H
    exact H M (FrD.rf M) hy
end DYNC
