/-! tries: the numbers alone, and the class -/
def aheadY (law : Lw) (may : Nat → Nat) (rust : Int) (po : PO) (x w : Int) (d : DS) : Int :=
  if 0 ≤ x ∧ x ≤ 200 then
    (if w = 0 then ((pop (dRo (goF oPl law may rust po x.toNat d)) : Nat) : Int)
    else if w = 1 then dEf (goF oPl law may rust po x.toNat d) - dEf d
    else if w = 2 then dVa (goF oPl law may rust po x.toNat d) - dVa d
    else if w = 3 then ((pop (dSe (goF oPl law may rust po x.toNat d)) : Nat) : Int)
    else if w = 4 then ((dRo (goF oPl law may rust po x.toNat d) : Nat) : Int)
    else -1)
  else -1
def whenF (law : Lw) (may : Nat → Nat) (rust : Int) (po : PO) (l r0 : Nat) : Nat → Nat → DS → Int
  | 0, _, _ => -2
  | j + 1, k, d => if bt (dRo (minF oPl law may rust po d) ^^^ r0) l = 0 then whenF law may rust po l r0 j (k + 1) (minF oPl law may rust po d) else (k : Int)
def whenY (n : Nat) (law : Lw) (may : Nat → Nat) (rust : Int) (po : PO) (x : Int) (d : DS) : Int :=
  if 0 ≤ x ∧ x < (n : Int) then whenF law may rust po x.toNat (dRo d) 199 1 d else -1
def nuD (d : DS) (nu : Int) : DS := (dMi d, dRo d, dSe d, dEf d, dVa d, nu, dWo d)
def chF (law : Lw) (may : Nat → Nat) (rust : Int) (po : PO) (l m : Nat) (d0 : DS) : Nat → Int → Int → Int
  | 0, _, t => t
  | j + 1, nu, t => chF law may rust po l m d0 j (dNu (goF oDn law may rust po m (nuD d0 nu))) (t + ((bt (dSe (goF oDn law may rust po m (nuD d0 nu))) l : Nat) : Int))
def chanceY (n : Nat) (law : Lw) (may : Nat → Nat) (rust : Int) (po : PO) (sd m x : Int) (d : DS) : Int :=
  if 0 ≤ sd ∧ (1 ≤ m ∧ m ≤ 99) ∧ 0 ≤ x ∧ x < (n : Int) then chF law may rust po x.toNat m.toNat d 10 sd 0 else -1
def oTr (w i : Int) : Op := (false, decide (w = 0), decide (w = 1), decide (w = 3), decide (w = 4), if w = 2 then i else -1)
def triedY (n : Nat) (law : Lw) (may : Nat → Nat) (rust : Int) (po : PO) (w i m : Int) (d : DS) : Int :=
  if (0 ≤ w ∧ w ≤ 4) ∧ (0 ≤ m ∧ m ≤ 200) ∧ (if w = 2 then 0 ≤ i ∧ i < (n : Int) else i = 0) then dEf (goF (oTr w i) law may rust po m.toNat d) - dEf d else -1
/-- all but the trial, the clock, the knots' stack stays -/
def FrT (M M' : Mem) : Prop := ∀ a, a ≠ 34 → a ≠ 38 → a ≠ 39 → a ≠ 42 → a ≠ 43 → M' a = M a
theorem FrT.rf (M : Mem) : FrT M M := fun _ _ _ _ _ _ => rfl
theorem FrT.tr {M M1 M2 : Mem} (h1 : FrT M M1) (h2 : FrT M1 M2) : FrT M M2 := fun a a1 a2 a3 a4 a5 => (h2 a a1 a2 a3 a4 a5).trans (h1 a a1 a2 a3 a4 a5)
theorem FrT.toD {M M' : Mem} (h : FrT M M') : FrD M M' := fun a _ a2 a3 => h a a2 (by omega) (by omega) (by omega) (by omega)
theorem FrC.toT {M M' : Mem} (h : FrC 38 M M') : FrT M M' := fun a a1 a2 a3 _ a5 => h a a2 a3 a5 a1
theorem YC.fr {y : YS} {M M' : Mem} (h : YC y M) (hF : FrT M M') : YC y M' := by
  obtain ⟨y1, y2, y3, y4⟩ := h
  have e : ∀ a, a ≠ 34 → a ≠ 38 → a ≠ 39 → a ≠ 42 → a ≠ 43 → M' a = M a := hF
  exact ⟨y1.congr (hF 36 (by decide) (by decide) (by decide) (by decide) (by decide)) (hF 37 (by decide) (by decide) (by decide) (by decide) (by decide)), y2.congr (fun a a1 a2 => hF a (by omega) (by omega) (by omega) (by omega) (by omega)), by rw [hF 0 (by decide) (by decide) (by decide) (by decide) (by decide)]; exact y3, fun hq => (y4 hq).congr (hF 40 (by decide) (by decide) (by decide) (by decide) (by decide)) (hF 41 (by decide) (by decide) (by decide) (by decide) (by decide))⟩
section DYNC2
variable {E : Scr} {law : Lw} {may : Nat → Nat} {rust : Int} {n : Nat} {po : PO} {y : YS}
theorem c_goC {f : Int → Mem → Prop} {M : Mem} {x : Int} (hx : iR x) (hB : LwB law) (hP : wfP n po) (hw : wfY n y) (hD : CD n may law rust M) (hPC : PC po M) (hy : YC y M) (H : ∀ M', FrD M M' → YC (goY law may rust po x y).2 M' → f (goY law may rust po x y).1 M') : CI E mX10_go [pR 0, pI x] M f := by
  obtain ⟨y1, y2, y3, y4⟩ := id hy
  have hmi := hw.1.1.2.2.2.1
  have no : ¬ (0 ≤ x ∧ x ≤ 200 ∧ dMi y.1 + x ≤ 9000) → f (-1) M := by
    intro z
    unfold goY at H
    rw [if_neg z] at H
    exact H M (FrD.rf M) hy
  apply vX10_go_0
  rw [y1.1]
  refine ⟨hx, fun c => no (by omega), fun c => ⟨hx, fun c2 => no (by omega), fun c2 _ => ⟨⟨by omega, by omega⟩, fun c3 => ⟨hx, fun c4 => ?_, fun c4 => ?_⟩, fun c3 => no (by omega)⟩⟩⟩
  · have hx0 : x = 0 := by omega
    subst hx0
    unfold goY at H
    rw [if_pos ⟨by omega, by omega, by omega⟩, if_pos rfl] at H
    refine c_drawn (fun M2 d1 d2 => ?_)
    have hv2 : vC 36 y.1 M2 := y1.congr (d1 36 (by decide)) (d1 37 (by decide))
    refine c_pass (m := 0) (o := oDn) (Or.inl rfl) hB hP (by omega) hw.1.1 hw.1.2.1 (by omega) (hD.lo (fun a a1 a2 => d1 a (by omega))) d2 (hPC.lo (fun a a1 a2 => d1 a (by omega))) hv2 ?_
    intro M3 hF3 hv3
    rw [hv3.1]
    refine fun _ => H M3 (fun a a1 a2 a3 => by rw [hF3 a (by omega) (by omega) (by omega) a2, d1 a (by omega)]) ⟨hv3, ?_, ?_, fun hq => ?_⟩
    · exact (y2.congr (fun a a1 a2 => d1 a (by omega))).frC (Or.inl rfl) hF3
    · rw [hF3 0 (by decide) (by decide) (by decide) (by decide), d1 0 (by decide)]; exact y3
    · exact (y4 hq).congr (by rw [hF3 40 (by decide) (by decide) (by decide) (by decide), d1 40 (by decide)]) (by rw [hF3 41 (by decide) (by decide) (by decide) (by decide), d1 41 (by decide)])
  · unfold goY at H
    rw [if_pos ⟨by omega, by omega, by omega⟩, if_neg (by omega)] at H
    obtain ⟨m, rfl⟩ : ∃ m : Nat, x = (m : Int) := ⟨x.toNat, by omega⟩
    rw [Int.toNat_natCast] at H
    refine c_clearU (fun M1 b1 b2 b3 => c_drawn (fun M2 d1 d2 => ?_))
    have hv2 : vC 36 y.1 M2 := y1.congr (by rw [d1 36 (by decide), b1 36 (by decide)]) (by rw [d1 37 (by decide), b1 37 (by decide)])
    refine c_pass (m := m) (o := oDn) (Or.inl rfl) hB hP (by omega) hw.1.1 hw.1.2.1 (by omega) (hD.lo (fun a a1 a2 => by rw [d1 a (by omega), b1 a (by omega)])) d2 (hPC.lo (fun a a1 a2 => by rw [d1 a (by omega), b1 a (by omega)])) hv2 ?_
    intro M3 hF3 hv3
    rw [hv3.1]
    have e44 : M3 44 = M1 44 := by rw [hF3 44 (by decide) (by decide) (by decide) (by decide), d1 44 (by decide)]
    refine fun _ => H M3 (fun a a1 a2 a3 => by rw [hF3 a (by omega) (by omega) (by omega) a2, d1 a (by omega), b1 a (by omega)]) ⟨hv3, UC.zero rfl (by rw [e44]; exact b2) (by rw [e44]; exact b3), ?_, fun hq => ?_⟩
    · rw [hF3 0 (by decide) (by decide) (by decide) (by decide), d1 0 (by decide), b1 0 (by decide)]; exact y3
    · exact (y4 hq).congr (by rw [hF3 40 (by decide) (by decide) (by decide) (by decide), d1 40 (by decide), b1 40 (by decide)]) (by rw [hF3 41 (by decide) (by decide) (by decide) (by decide), d1 41 (by decide), b1 41 (by decide)])
theorem c_aheadC {f : Int → Mem → Prop} {M : Mem} {x w : Int} (hx : iR x) (hx2 : iR w) (hB : LwB law) (hP : wfP n po) (hw : wfY n y) (hD : CD n may law rust M) (hPC : PC po M) (hy : YC y M) (H : ∀ M', FrT M M' → f (aheadY law may rust po x w y.1) M') : CI E mX10_ahead [pR 0, pI x, pI w] M f := by
  obtain ⟨y1, y2, y3, y4⟩ := id hy
  have hmi := hw.1.1.2.2.2.1
  have hm9 := hw.1.2.2.1
  have hn := hD.2.1
  have hp := pw8 hn
  unfold aheadY at H
  have no : ¬ (0 ≤ x ∧ x ≤ 200) → f (-1) M := by
    intro z
    rw [if_neg z] at H
    exact H M (FrT.rf M)
  apply vX10_ahead_0
  refine ⟨hx, fun c => no (by omega), fun c => ⟨hx, fun c2 => ?_, fun c2 => no (by omega)⟩⟩
  rw [if_pos ⟨by omega, by omega⟩] at H
  obtain ⟨m, rfl⟩ : ∃ m : Nat, x = (m : Int) := ⟨x.toNat, by omega⟩
  rw [Int.toNat_natCast] at H
  refine c_takeC isSt_38 isSt_36 (by omega) y1 (fun M1 b1 b2 => c_asItGoes (fun M2 d1 d2 => ?_))
  have hv2 : vC 38 y.1 M2 := b2.congr (d1 38 (by decide)) (d1 39 (by decide))
  refine c_pass (m := m) (o := oPl) (Or.inr rfl) hB hP (by omega) hw.1.1 hw.1.2.1 (by omega) (hD.lo (fun a a1 a2 => by rw [d1 a (by omega), b1 a (by omega) (by omega)])) d2 (hPC.lo (fun a a1 a2 => by rw [d1 a (by omega), b1 a (by omega) (by omega)])) hv2 ?_
  intro M3 hF3 hv3
  have hT : FrT M M3 := fun a a1 a2 a3 a4 a5 => by rw [hF3 a a2 a3 a5 a1, d1 a a4, b1 a a2 a3]
  have hb := go_b (o := oPl) (law := law) (may := may) (rust := rust) m y.1 hP hw.1.1 hw.1.2.1 (by omega)
  have h1 := hb.1.1
  have h2 := hb.1.2.1
  have hv0 : vC 36 y.1 M3 := (YC.fr hy hT).1
  have HH := H M3 hT
  rw [hv3.2.1, hv3.2.2.2.1, hv3.2.2.2.2.1, hv3.2.2.1, hv0.2.2.2.1, hv0.2.2.2.2.1]
  refine ⟨hx2, fun c3 _ => ?_, fun c3 _ _ => ?_, fun c3 _ _ => ?_, fun c3 _ => ?_, fun c3 _ => ?_, fun c3 => ?_⟩
  · rw [if_pos c3] at HH
    exact c_bitCount (by omega) HH
  · rw [if_neg (by omega), if_pos c3] at HH
    exact HH
  · rw [if_neg (by omega), if_neg (by omega), if_pos c3] at HH
    exact HH
  · rw [if_neg (by omega), if_neg (by omega), if_neg (by omega), if_pos c3] at HH
    exact c_bitCount (by omega) HH
  · rw [if_neg (by omega), if_neg (by omega), if_neg (by omega), if_neg (by omega), if_pos c3] at HH
    exact HH
  · rw [if_neg (by omega), if_neg (by omega), if_neg (by omega), if_neg (by omega), if_neg (by omega)] at HH
    exact HH
theorem c_whenC {f : Int → Mem → Prop} {M : Mem} {x : Int} (hx : iR x) (hB : LwB law) (hP : wfP n po) (hw : wfY n y) (hD : CD n may law rust M) (hPC : PC po M) (hy : YC y M) (H : ∀ M', FrT M M' → f (whenY n law may rust po x y.1) M') : CI E mX10_when [pR 0, pI x] M f := by
  obtain ⟨y1, y2, y3, y4⟩ := id hy
  have hmi := hw.1.1.2.2.2.1
  have hm9 := hw.1.2.2.1
  have hn := hD.2.1
  have hp := pw8 hn
  have hr0 := hw.1.1.1
  refine vX10_when_0 _ (c_has (Or.inr rfl) hx hD.1 hn (fun l el hl => ?_) (fun z => ?_))
  · subst el
    unfold whenY at H
    rw [if_pos ⟨by omega, by omega⟩, Int.toNat_natCast] at H
    refine ⟨⟨by decide, by decide⟩, fun _ => ?_, fun z => absurd z (by decide)⟩
    have loop : ∀ (j k : Nat) (d : DS) (M1 : Mem), k + j = 200 → wfD n d → wfV d → dMi d + j ≤ 10000 → FrT M M1 → OpC oPl M1 → vC 38 d M1 → (∀ M', FrT M M' → f (whenF law may rust po l (dRo y.1) j k d) M') → KW E mX10_when (qI f) M1 33 [(0, pR 0), (1, pI (l : Int)), (2, pI (k : Int))] [] := by
      intro j
      induction j with
      | zero =>
        intro k d M1 hk hwd hwv hmd hT hO hv HH
        exact vX10_when_33 _ _ ⟨⟨by omega, by omega⟩, fun _ => HH M1 hT, fun z => absurd z (by omega)⟩
      | succ j ih =>
        intro k d M1 hk hwd hwv hmd hT hO hv HH
        refine vX10_when_33 _ _ ⟨⟨by omega, by omega⟩, fun z => absurd z (by omega), fun _ => ?_⟩
        refine c_pass (m := 1) (o := oPl) (Or.inr rfl) hB hP (by omega) hwd hwv (by omega) (hD.lo (fun a a1 a2 => hT a (by omega) (by omega) (by omega) (by omega) (by omega))) hO (hPC.lo (fun a a1 a2 => hT a (by omega) (by omega) (by omega) (by omega) (by omega))) hv ?_
        intro M3 hF3 hv3
        have hv3' : vC 38 (minF oPl law may rust po d) M3 := hv3
        have hT3 : FrT M M3 := hT.tr hF3.toT
        have hv0 : vC 36 y.1 M3 := (YC.fr hy hT3).1
        have hb := min_b (o := oPl) (law := law) (may := may) (rust := rust) hP hwd (by omega)
        have hb1 := hb.1.1
        have hxx : dRo (minF oPl law may rust po d) ^^^ dRo y.1 < 2 ^ n := Nat.xor_lt_two_pow hb1 hr0
        rw [hv3'.2.1, hv0.2.1, bXor_nat (by omega) (by omega), bBit_nat (by omega) (by omega)]
        simp only [whenF] at HH
        refine fun _ _ => ⟨fun c => ?_, fun c => ?_⟩
        · rw [if_pos (by omega)] at HH
          refine ih (k + 1) _ M3 (by omega) hb.1 ?_ (by omega) hT3 (hO.fr (Or.inr rfl) hF3) hv3' HH
          unfold wfV at hwv ⊢; omega
        · rw [if_neg (by omega)] at HH
          exact HH M3 hT3
    refine c_takeC isSt_38 isSt_36 (by omega) y1 (fun M1 b1 b2 => c_asItGoes (fun M2 d1 d2 => ?_))
    exact loop 199 1 y.1 M2 (by omega) hw.1.1 hw.1.2.1 (by omega) (fun a a1 a2 a3 a4 a5 => by rw [d1 a a4, b1 a a2 a3]) d2 (b2.congr (d1 38 (by decide)) (d1 39 (by decide))) H
  · unfold whenY at H
    rw [if_neg z] at H
    exact ⟨⟨by decide, by decide⟩, fun z => absurd rfl z, fun _ => H M (FrT.rf M)⟩
end DYNC2
