def rowY (may : Nat → Nat) (w : Int) (d : DS) : Int := if w = 0 then (dRo d : Int) else if w = 1 then (dSe d : Int) else if w = 2 then ((andN (may (dRo d)) (dSe d) : Nat) : Int) else -1
def couldY (n : Nat) (may : Nat → Nat) (x w : Int) : Int := if (0 ≤ x ∧ x < ((2 ^ n : Nat) : Int)) ∧ 0 ≤ w ∧ w < (n : Int) then ((bt (may x.toNat) w.toNat : Nat) : Int) else -1
def lawY (n : Nat) (law : Lw) (x w : Int) (d : DS) : Int := if (0 ≤ x ∧ x < 3) ∧ 0 ≤ w ∧ w < (n : Int) then orM (law x.toNat (envD d w.toNat)) else MINL
def sumW (g : Nat → Int) : Nat → Int
  | 0 => 0
  | j + 1 => sumW g j + g j
section DYNC3
variable {E : Scr} {law : Lw} {may : Nat → Nat} {rust : Int} {n : Nat} {po : PO} {y : YS}
theorem c_rowC {f : Int → Mem → Prop} {M : Mem} {w : Int} (hx : iR w) (hw : wfY n y) (hD : CD n may law rust M) (hy : YC y M) (H : f (rowY may w y.1) M) : CI E mX10_row [pR 0, pI w] M f := by
  have hn := hD.2.1
  have hp := pw8 hn
  have hw2 := hw.1.1.2.1
  unfold rowY at H
  apply vX10_row_0
  rw [hy.1.2.1, hy.1.2.2.1]
  refine ⟨hx, fun c _ => ?_, fun c _ => ?_, fun c _ _ => ?_, fun c => ?_⟩
  · rwa [if_pos c] at H
  · rwa [if_neg (by omega), if_pos c] at H
  · rw [if_neg (by omega), if_neg (by omega), if_pos c] at H
    exact c_movable hD hw.1.1.1 (by omega) H
  · rwa [if_neg (by omega), if_neg (by omega), if_neg (by omega)] at H
theorem c_couldC {f : Int → Mem → Prop} {M : Mem} {x w : Int} (hx : iR x) (hx2 : iR w) (hD : CD n may law rust M) (H : f (couldY n may x w) M) : CI E mX10_could [pR 0, pI x, pI w] M f := by
  have hn := hD.2.1
  have hp := pw8 hn
  unfold couldY at H
  refine vX10_could_0 _ _ (c_hasRow hx hD.1 hn (fun r er hr => ⟨⟨by decide, by decide⟩, fun z => absurd z (by decide), fun _ => ?_⟩) (fun z => ⟨⟨by decide, by decide⟩, fun _ => ?_, fun z => absurd rfl z⟩))
  · subst er
    refine c_has (Or.inr rfl) hx2 hD.1 hn (fun l el hl => ⟨⟨by decide, by decide⟩, fun _ => ?_, fun z => absurd z (by decide)⟩) (fun z => ⟨⟨by decide, by decide⟩, fun z => absurd rfl z, fun _ => ?_⟩)
    · subst el
      rw [if_pos ⟨⟨by omega, by omega⟩, by omega, by omega⟩, Int.toNat_natCast, Int.toNat_natCast] at H
      have hm := (hD.2.2.1 r hr).2
      refine c_movable (s := 0) hD hr (by omega) ?_
      have e : andN (may r) 0 = may r := by
        apply Nat.eq_of_testBit_eq
        intro i
        rw [andN_tb, Nat.zero_testBit]
        simp
      rw [e, bBit_nat (by omega) (by omega)]
      exact H
    · rwa [if_neg (fun q => z q.2)] at H
  · rwa [if_neg (fun q => z q.1)] at H
theorem c_lawC {f : Int → Mem → Prop} {M : Mem} {x w : Int} (hx : iR x) (hx2 : iR w) (hw : wfY n y) (hD : CD n may law rust M) (hy : YC y M) (H : ∀ M', FrT M M' → f (lawY n law x w y.1) M') : CL E mX10_law [pR 0, pI x, pI w] M f := by
  have hn := hD.2.1
  unfold lawY at H
  have no : ¬ ((0 ≤ x ∧ x < 3) ∧ 0 ≤ w ∧ w < (n : Int)) → f (-9223372036854775808) M := by
    intro z
    rw [if_neg z] at H
    exact H M (FrT.rf M)
  refine vX10_law_0 _ _ ⟨hx, fun c => no (by omega), fun c => ⟨hx, fun c2 => no (by omega), fun c2 => ?_⟩⟩
  refine c_has (Or.inr rfl) hx2 hD.1 hn (fun l el hl => ⟨⟨by decide, by decide⟩, fun _ => ?_, fun z => absurd z (by decide)⟩) (fun z => ⟨⟨by decide, by decide⟩, fun z => absurd rfl z, fun _ => no (fun q => z q.2)⟩)
  subst el
  obtain ⟨k, rfl⟩ : ∃ k : Nat, x = (k : Int) := ⟨x.toNat, by omega⟩
  rw [if_pos ⟨⟨by omega, by omega⟩, by omega, by omega⟩, Int.toNat_natCast, Int.toNat_natCast] at H
  exact c_worthOf (k := k) (Or.inl rfl) (by omega) hl hw.1.1 hD hy.1 (fun M' hF => H M' (fun a a1 a2 a3 a4 a5 => hF a a5 a1))
theorem c_wornInAll {f : Int → Mem → Prop} {M : Mem} {d : DS} (hv : vC 36 d M) (H : f (sumW (dWo d) 8) M) : CI E mX7_wornInAll [pR 36] M f := by
  have loop : ∀ (j k : Nat), k + j = 8 → KW E mX7_wornInAll (qI f) M 13 [(1, pI (sumW (dWo d) k)), (2, pR 37), (3, pI 8), (4, pI (k : Int))] [] := by
    intro j
    induction j with
    | zero =>
      intro k hk
      have : k = 8 := by omega
      subst this
      exact vX7_wornInAll_13 _ _ _ ⟨⟨by decide, by decide⟩, ⟨by decide, by decide⟩, fun _ => H, fun z => absurd z (by decide)⟩
    | succ j ih =>
      intro k hk
      refine vX7_wornInAll_13 _ _ _ ⟨⟨by omega, by omega⟩, ⟨by decide, by decide⟩, fun z => absurd z (by omega), fun _ => ⟨⟨by omega, by omega⟩, fun _ => ?_⟩⟩
      rw [Int.toNat_natCast, show M 37 k = dWo d k from hv.2.2.2.2.2.2 k (by omega)]
      exact ih (k + 1) (by omega)
  exact vX7_wornInAll_0 (loop 8 0 rfl)
theorem c_otherwise {f : Mem → Prop} {M : Mem} {w i : Int} (hw : iR w) (hi : iR i) (H : ∀ M', (∀ a, a ≠ 42 → M' a = M a) → OpC (oTr w i) M' → f M') : CV E mX0_otherwise [pR 42, pI w, pI i] M f := by
  refine vX0_otherwise_0 _ _ (vX0_asItGoes_0 ⟨hw, hw, fun c => H _ ?_ ?_, fun c => ⟨hi, H _ ?_ ?_⟩⟩)
  · intro a a1
    rw [upM_ne _ _ _ a1, upM_ne _ _ _ a1, upM_ne _ _ _ a1, upM_ne _ _ _ a1, upM_ne _ _ _ a1]
  · exact ⟨rfl, rfl, rfl, rfl, rfl, by show _ = (if w = 2 then i else -1); rw [if_neg c]; rfl⟩
  · intro a a1
    rw [upM_ne _ _ _ a1, upM_ne _ _ _ a1, upM_ne _ _ _ a1, upM_ne _ _ _ a1, upM_ne _ _ _ a1]
  · exact ⟨rfl, rfl, rfl, rfl, rfl, by show _ = (if w = 2 then i else -1); rw [if_pos c]; rfl⟩
theorem c_triedC {f : Int → Mem → Prop} {M : Mem} {w i x : Int} (hxw : iR w) (hxi : iR i) (hx : iR x) (hB : LwB law) (hP : wfP n po) (hw : wfY n y) (hD : CD n may law rust M) (hPC : PC po M) (hy : YC y M) (H : ∀ M', FrT M M' → f (triedY n law may rust po w i x y.1) M') : CI E mX10_tried [pR 0, pI w, pI i, pI x] M f := by
  obtain ⟨y1, y2, y3, y4⟩ := id hy
  have hmi := hw.1.1.2.2.2.1
  have hm9 := hw.1.2.2.1
  have hn := hD.2.1
  have hp := pw8 hn
  unfold triedY at H
  have key : ∀ s0 : Int, (s0 = 0 ∧ ¬ (if w = 2 then 0 ≤ i ∧ i < (n : Int) else i = 0)) ∨ (s0 = 1 ∧ (if w = 2 then 0 ≤ i ∧ i < (n : Int) else i = 0)) → KW E mX10_tried (qI f) M 25 [(0, pR 0), (1, pI w), (2, pI i), (3, pI x)] [pI s0] := by
    intro s0 hs0
    have no : ¬ ((0 ≤ w ∧ w ≤ 4) ∧ (0 ≤ x ∧ x ≤ 200) ∧ (if w = 2 then 0 ≤ i ∧ i < (n : Int) else i = 0)) → f (-1) M := by
      intro z
      rw [if_neg z] at H
      exact H M (FrT.rf M)
    refine vX10_tried_25 _ _ _ _ ⟨hxw, fun c => no (fun q => by omega), fun c => ⟨hxw, fun c2 => no (fun q => by omega), fun c2 => ⟨⟨by omega, by omega⟩, fun c3 => no (fun q => ?_), fun c3 => ⟨hx, fun c4 => no (fun q => by omega), fun c4 => ⟨hx, fun c5 => ?_, fun c5 => no (fun q => by omega)⟩⟩⟩⟩⟩
    · rcases hs0 with ⟨_, h⟩ | ⟨h, _⟩
      · exact h q.2.2
      · omega
    · have hc : (if w = 2 then 0 ≤ i ∧ i < (n : Int) else i = 0) := by
        rcases hs0 with ⟨h, _⟩ | ⟨_, h⟩
        · exact absurd h c3
        · exact h
      rw [if_pos ⟨⟨by omega, by omega⟩, ⟨by omega, by omega⟩, hc⟩] at H
      obtain ⟨m, rfl⟩ : ∃ m : Nat, x = (m : Int) := ⟨x.toNat, by omega⟩
      rw [Int.toNat_natCast] at H
      refine c_takeC isSt_38 isSt_36 (by omega) y1 (fun M1 b1 b2 => c_otherwise hxw hxi (fun M2 d1 d2 => ?_))
      have hv2 : vC 38 y.1 M2 := b2.congr (d1 38 (by decide)) (d1 39 (by decide))
      refine c_pass (m := m) (Or.inr rfl) hB hP (by omega) hw.1.1 hw.1.2.1 (by omega) (hD.lo (fun a a1 a2 => by rw [d1 a (by omega), b1 a (by omega) (by omega)])) d2 (hPC.lo (fun a a1 a2 => by rw [d1 a (by omega), b1 a (by omega) (by omega)])) hv2 ?_
      intro M3 hF3 hv3
      have hT : FrT M M3 := fun a a1 a2 a3 a4 a5 => by rw [hF3 a a2 a3 a5 a1, d1 a a4, b1 a a2 a3]
      have hv0 : vC 36 y.1 M3 := (YC.fr hy hT).1
      rw [hv3.2.2.2.1, hv0.2.2.2.1]
      exact fun _ _ => H M3 hT
  refine vX10_tried_0 _ _ _ ⟨hxw, fun c => ⟨hxi, fun c2 => key 0 (Or.inl ⟨rfl, by rw [if_neg c]; exact c2⟩), fun c2 => key 1 (Or.inr ⟨rfl, by rw [if_neg c]; exact c2⟩)⟩, fun c => ?_⟩
  refine c_has (Or.inr rfl) hxi hD.1 hn (fun l el hl => key 1 (Or.inr ⟨rfl, ?_⟩)) (fun z => key 0 (Or.inl ⟨rfl, ?_⟩))
  · rw [if_pos c]; exact ⟨by omega, by omega⟩
  · rw [if_pos c]; exact z
theorem c_chanceC {f : Int → Mem → Prop} {M : Mem} {sd x w : Int} (hsd : iR sd) (hx : iR x) (hx2 : iR w) (hB : LwB law) (hP : wfP n po) (hw : wfY n y) (hD : CD n may law rust M) (hPC : PC po M) (hy : YC y M) (H : ∀ M', FrT M M' → f (chanceY n law may rust po sd x w y.1) M') : CI E mX10_chance [pR 0, pI sd, pI x, pI w] M f := by
  have hmi := hw.1.1.2.2.2.1
  have hm9 := hw.1.2.2.1
  have hn := hD.2.1
  have hp := pw8 hn
  unfold chanceY at H
  have no : ¬ (0 ≤ sd ∧ (1 ≤ x ∧ x ≤ 99) ∧ 0 ≤ w ∧ w < (n : Int)) → f (-1) M := by
    intro z
    rw [if_neg z] at H
    exact H M (FrT.rf M)
  refine vX10_chance_0 _ _ _ ⟨hsd, fun c => no (by omega), fun c => ⟨hx, fun c2 => no (by omega), fun c2 => ⟨hx, fun c3 => no (by omega), fun c3 => ?_⟩⟩⟩
  refine c_has (Or.inr rfl) hx2 hD.1 hn (fun l el hl => ⟨⟨by decide, by decide⟩, fun _ => ?_, fun z => absurd z (by decide)⟩) (fun z => ⟨⟨by decide, by decide⟩, fun z => absurd rfl z, fun _ => no (fun q => z q.2.2)⟩)
  subst el
  obtain ⟨m, rfl⟩ : ∃ m : Nat, x = (m : Int) := ⟨x.toNat, by omega⟩
  rw [if_pos ⟨by omega, ⟨by omega, by omega⟩, by omega, by omega⟩, Int.toNat_natCast, Int.toNat_natCast] at H
  have hwd := hw.1.1
  have hwf : ∀ nu : Int, 0 ≤ nu ∧ nu < 2147483648 → wfD n (nuD y.1 nu) := fun nu h => ⟨hwd.1, hwd.2.1, hwd.2.2.1, hwd.2.2.2.1, h, hwd.2.2.2.2.2⟩
  have loop : ∀ (j k : Nat) (nu t : Int) (M1 : Mem), k + j = 10 → 0 ≤ nu ∧ nu < 2147483648 → FrT M M1 → OpC oDn M1 → (∀ M', FrT M M' → f (chF law may rust po l m y.1 j nu t) M') → KW E mX10_chance (qI f) M1 45 [(0, pR 0), (2, pI (m : Int)), (3, pI (l : Int)), (4, pL nu), (6, pI t), (7, pI (k : Int))] [] := by
    intro j
    induction j with
    | zero =>
      intro k nu t M1 hk hnu hT hO HH
      exact vX10_chance_45 _ _ _ _ _ ⟨⟨by omega, by omega⟩, fun _ => HH M1 hT, fun z => absurd z (by omega)⟩
    | succ j ih =>
      intro k nu t M1 hk hnu hT hO HH
      refine vX10_chance_45 _ _ _ _ _ ⟨⟨by omega, by omega⟩, fun z => absurd z (by omega), fun _ => ?_⟩
      have hv0 : vC 36 y.1 M1 := (YC.fr hy hT).1
      refine c_takeC isSt_38 isSt_36 (by omega) hv0 (fun M2 b1 b2 => ⟨⟨by omega, by omega⟩, ?_⟩)
      have hv2 : vC 38 (nuD y.1 nu) (upM M2 38 5 nu) := by
        obtain ⟨v1, v2, v3, v4, v5, v6, v7⟩ := b2
        exact ⟨v1, v2, v3, v4, v5, rfl, v7⟩
      have hT2 : FrT M1 (upM M2 38 5 nu) := fun a a1 a2 a3 a4 a5 => by rw [upM_ne _ _ _ a2, b1 a a2 a3]
      have hlo : ∀ a, 21 ≤ a → a < 34 → (upM M2 38 5 nu) a = M a := fun a a1 a2 => (hT.tr hT2) a (by omega) (by omega) (by omega) (by omega) (by omega)
      have hO2 : OpC oDn (upM M2 38 5 nu) := by
        unfold OpC
        rw [upM_ne _ _ _ (show (42 : Nat) ≠ 38 by decide), b1 42 (by decide) (by decide)]
        exact hO
      refine c_pass (m := m) (Or.inr rfl) hB hP (by omega) (hwf nu hnu) hw.1.2.1 (by show dMi y.1 + _ ≤ _; omega) (hD.lo hlo) hO2 (hPC.lo hlo) hv2 ?_
      intro M3 hF3 hv3
      have hb := go_b (o := oDn) (law := law) (may := may) (rust := rust) m (nuD y.1 nu) hP (hwf nu hnu) hw.1.2.1 (by show dMi y.1 + _ ≤ _; omega)
      have h2 := hb.1.2.1
      rw [hv3.2.2.2.2.2.1, hv3.2.2.1, bBit_nat (by omega) (by omega)]
      exact fun _ _ => ih (k + 1) _ _ M3 (by omega) hb.1.2.2.2.2.1 ((hT.tr hT2).tr hF3.toT) (hO2.fr (Or.inr rfl) hF3) HH
  refine c_drawn (fun M2 d1 d2 => ⟨hsd, ?_⟩)
  exact loop 10 0 sd 0 M2 rfl ⟨by omega, by have := hsd.2; omega⟩ (fun a a1 a2 a3 a4 a5 => d1 a a4) d2 H
end DYNC3
