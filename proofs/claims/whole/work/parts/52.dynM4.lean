section DYNM4
variable {E : Scr} {law : Lw} {may : Nat → Nat} {rust : Int} {n : Nat} {po : PO} {y : YS}
theorem c_chanceM {f : Int → Mem → Prop} {M : Mem} {sd x w : Int} (hsd : iR sd) (hx : iR x) (hx2 : iR w) (hP : wfP n po) (hw : wfY n y) (hD : MD n may law rust M) (hPM : PM po M) (hy : YM y M) (H : ∀ M', FrR M M' → YM y M' → f (chanceY n law may rust po sd x w y.1) M') : CI E mX11_chance [pR 98, pI sd, pI x, pI w] M f := by
  have hmi := hw.1.1.2.2.2.1
  have hm9 := hw.1.2.2.1
  have hn := hD.2.1
  have hp := pw8 hn
  have hF0 : FrR M (upM M 98 2 0) := FrR.u98 0 (Or.inl rfl)
  have hK0 : FrK M (upM M 98 2 0) := FrK.u98 0 (by decide)
  have hy0 := hy.th 0
  unfold chanceY at H
  have no : ¬ (0 ≤ sd ∧ (1 ≤ x ∧ x ≤ 99) ∧ 0 ≤ w ∧ w < (n : Int)) → f (-1) (upM M 98 2 0) := by
    intro z
    rw [if_neg z] at H
    exact H _ hF0 hy0
  refine vX11_chance_0 _ _ _ ⟨hsd, fun c => no (by omega), fun c => ?_⟩
  refine c_isIn hx ⟨by decide, by decide⟩ ⟨by decide, by decide⟩ (fun c2 => ⟨⟨by decide, by decide⟩, fun z => absurd z (by decide), fun _ => ?_⟩) (fun z => ⟨⟨by decide, by decide⟩, fun _ => no (fun q => z q.2.1), fun z => absurd rfl z⟩)
  refine c_isLatch hx2 (hD.fR hF0).1 (fun l el hl => ⟨⟨by decide, by decide⟩, fun _ => ?_, fun z => absurd z (by decide)⟩) (fun z => ⟨⟨by decide, by decide⟩, fun z => absurd rfl z, fun _ => no (fun q => z q.2.2)⟩)
  subst el
  obtain ⟨m, rfl⟩ : ∃ m : Nat, x = (m : Int) := ⟨x.toNat, by omega⟩
  rw [if_pos ⟨by omega, ⟨by omega, by omega⟩, by omega, by omega⟩, Int.toNat_natCast, Int.toNat_natCast] at H
  have hwd := hw.1.1
  have hwf : ∀ nu : Int, 0 ≤ nu ∧ nu < 2147483648 → wfD n (nuD y.1 nu) := fun nu h => ⟨hwd.1, hwd.2.1, hwd.2.2.1, hwd.2.2.2.1, h, hwd.2.2.2.2.2⟩
  have hnu0 := hwd.2.2.2.2.1
  rw [hy0.1.2.2.2.2.2.1]
  have loop : ∀ (j k : Nat) (nu t : Int) (M1 : Mem), k + j = 10 → 0 ≤ nu ∧ nu < 2147483648 → FrR M M1 → FrK M M1 → M1 98 62 = 0 → vM 0 (nuD y.1 nu) M1 → (∀ M', FrR M M' → YM y M' → f (chF law may rust po l m y.1 j nu t) M') → KW E mX11_chance (qI f) M1 47 [(0, pR 98), (2, pI (m : Int)), (3, pI (l : Int)), (4, pL (dNu y.1)), (6, pI t), (7, pI (k : Int))] [] := by
    intro j
    induction j with
    | zero =>
      intro k nu t M1 hk hnu hF hK h62 hv HH
      refine vX11_chance_47 _ _ _ _ _ ⟨⟨by omega, by omega⟩, fun _ => ⟨⟨by omega, by omega⟩, ?_⟩, fun z => absurd z (by omega)⟩
      refine HH _ ((hF.tr (FrR.u98 0 (by decide))).tr (FrR.u98 _ (by decide))) (hy.of ?_ ((hK.tr (FrK.u98 0 (by decide))).tr (FrK.u98 _ (by decide))) h62)
      obtain ⟨v1, v2, v3, v4, v5, v6, v7⟩ := hv
      exact ⟨v1, v2, v3, v4, v5, rfl, v7⟩
    | succ j ih =>
      intro k nu t M1 hk hnu hF hK h62 hv HH
      refine vX11_chance_47 _ _ _ _ _ ⟨⟨by omega, by omega⟩, fun z => absurd z (by omega), fun _ => ?_⟩
      refine c_layTried hv (fun M2 b1 b2 b3 b4 b5 => ?_)
      have hF2 : FrR M (upM M2 98 60 1) := (hF.tr ⟨fun a a1 _ _ a4 _ _ => b1 a a1 a4, fun k _ _ k3 _ => b2 k (by omega)⟩).tr (FrR.u98 1 (by decide))
      have hK2 : FrK M (upM M2 98 60 1) := (hK.tr ⟨b1 142 (by decide) (by decide), b1 143 (by decide) (by decide), fun k k1 k2 => b2 k (by omega)⟩).tr (FrK.u98 1 (by decide))
      have hO2 : OpM oDn (upM M2 98 60 1) := ⟨rfl, b5.2.1, b5.2.2.1, b5.2.2.2.1, b5.2.2.2.2.1, b5.2.2.2.2.2⟩
      have hv1 : vM 1 (nuD y.1 nu) (upM M2 98 60 1) := b4.of (fun a a1 a2 => upM_ne _ _ _ (by omega)) rfl
      have hv0 : vM 0 (nuD y.1 nu) (upM M2 98 60 1) := b3.of (fun a a1 a2 => upM_ne _ _ _ (by omega)) rfl
      refine c_goMany (m := m) (by omega) hP (hwf nu hnu) hw.1.2.1 (by show dMi y.1 + _ ≤ _; omega) (hD.fR hF2) hO2 (hPM.fR hF2) hv1 (fun M3 hF3 hv3 => ?_)
      have hb := go_b (o := oDn) (law := law) (may := may) (rust := rust) m (nuD y.1 nu) hP (hwf nu hnu) hw.1.2.1 (by show dMi y.1 + _ ≤ _; omega)
      have h2 := hb.1.2.1
      rw [hv3.2.2.1, bBit_nat (by omega) (by omega)]
      have hv03 := vM0_fr hv0 hF3
      rw [hv3.2.2.2.2.2.1] at hv03
      exact fun _ => ih (k + 1) _ _ M3 (by omega) hb.1.2.2.2.2.1 (hF2.tr hF3.toR) (hK2.tr hF3.toK) (by rw [hF3.f98 (by decide)]; exact hO2.2.2.1) hv03 HH
  refine fun _ => ⟨hsd, ?_⟩
  refine loop 10 0 sd 0 _ rfl ⟨by omega, by have := hsd.2; omega⟩ (hF0.tr (FrR.u98 _ (by decide))) (hK0.tr (FrK.u98 _ (by decide))) hy0.2.2.2.2 ?_ H
  obtain ⟨v1, v2, v3, v4, v5, v6, v7⟩ := hy0.1
  exact ⟨v1, v2, v3, v4, v5, rfl, v7⟩
theorem c_triedM {f : Int → Mem → Prop} {M : Mem} {w i x : Int} (hxw : iR w) (hxi : iR i) (hx : iR x) (hP : wfP n po) (hw : wfY n y) (hD : MD n may law rust M) (hPM : PM po M) (hy : YM y M) (H : ∀ M', FrR M M' → YM y M' → f (triedY n law may rust po w i x y.1) M') : CI E mX11_tried [pR 98, pI w, pI i, pI x] M f := by
  have hmi := hw.1.1.2.2.2.1
  have hm9 := hw.1.2.2.1
  have hn := hD.2.1
  have hp := pw8 hn
  have hF0 : FrR M (upM M 98 2 0) := FrR.u98 0 (Or.inl rfl)
  have hy0 := hy.th 0
  unfold triedY at H
  have no : ¬ ((0 ≤ w ∧ w ≤ 4) ∧ (0 ≤ x ∧ x ≤ 200) ∧ (if w = 2 then 0 ≤ i ∧ i < (n : Int) else i = 0)) → f (-1) (upM M 98 2 0) := by
    intro z
    rw [if_neg z] at H
    exact H _ hF0 hy0
  -- the end: flags are laid, minutes go
  have fin : ∀ (m : Nat) (M1 : Mem), x = (m : Int) → m ≤ 200 → (0 ≤ w ∧ w ≤ 4) → (if w = 2 then 0 ≤ i ∧ i < (n : Int) else i = 0) → FrR M M1 → vM 0 y.1 M1 → vM 1 y.1 M1 → FrK M M1 → OpM (oTr w i) M1 → CV E mX11_goMany [pR 98, pI x] M1 (fun M4 => CV E mX11_plainTried [pR 98] M4 (fun M6 => iR (M6 127 1) → iR (M6 127 0) → f (M6 127 1 - M6 127 0) M6)) := by
    intro m M1 em hm hwr hc hF hv0 hv1 hK hO
    subst em
    rw [if_pos ⟨hwr, ⟨by omega, by omega⟩, hc⟩, Int.toNat_natCast] at H
    refine c_goMany (m := m) hm hP hw.1.1 hw.1.2.1 (by omega) (hD.fR hF) hO (hPM.fR hF) hv1 (fun M4 hF4 hv4 => c_plainTried (fun M6 b1 b2 b3 => ?_))
    have hv04 : vM 0 y.1 M4 := by
      have := vM0_fr hv0 hF4
      rw [hv4.2.2.2.2.2.1, go_nu (o := oTr w i) rfl] at this
      exact this
    rw [b1 127 (by decide), hv4.2.2.2.1, hv04.2.2.2.1]
    refine fun _ _ => H M6 ((hF.tr hF4.toR).tr ⟨fun a a1 _ _ _ _ _ => b1 a a1, fun k _ _ k3 _ => b2 k (by omega)⟩) (hy.of (hv04.of (fun a a1 a2 => b1 a (by omega)) (b2 59 (by decide))) ((hK.tr hF4.toK).tr ⟨b1 142 (by decide), b1 143 (by decide), fun k k1 k2 => b2 k (by omega)⟩) b3.2.2.1)
  have mid : 0 ≤ w ∧ w ≤ 4 → 0 ≤ x ∧ x ≤ 200 → (if w = 2 then 0 ≤ i ∧ i < (n : Int) else i = 0) → KW E mX11_tried (qI f) (upM M 98 2 0) 47 [(0, pR 98), (1, pI w), (2, pI i), (3, pI x)] [] := by
    intro hwr hxr hc
    obtain ⟨m, em⟩ : ∃ m : Nat, x = (m : Int) := ⟨x.toNat, by omega⟩
    refine vX11_tried_47 _ _ _ (c_layTried hy0.1 (fun M1 c1 c2 b2 b3 b4 => ?_))
    have hF1 : FrR M M1 := hF0.tr ⟨fun a a1 _ _ a4 _ _ => c1 a a1 a4, fun k _ _ k3 _ => c2 k (by omega)⟩
    have hK1 : FrK M M1 := (FrK.u98 0 (by decide) : FrK M (upM M 98 2 0)).tr ⟨c1 142 (by decide) (by decide), c1 143 (by decide) (by decide), fun k k1 k2 => c2 k (by omega)⟩
    -- flags one after another
    have f3 : ∀ (M2 : Mem) (s : Int), (∀ a, a ≠ 98 → M2 a = M1 a) → (∀ k, ¬ (60 ≤ k ∧ k ≤ 65) → M2 98 k = M1 98 k) → M2 98 60 = 0 → M2 98 61 = bI (decide (w = 0)) → M2 98 62 = bI (decide (w = 1)) → M2 98 65 = (if w = 2 then i else -1) → s = bI (decide (w = 3)) → KW E mX11_tried (qI f) M2 103 [(0, pR 98), (1, pI w), (3, pI x)] [pI s, pR 98] := by
      intro M2 s e1 e2 g0 g1 g2 g5 es
      have go4 : ∀ v, v = bI (decide (w = 4)) → CV E mX11_goMany [pR 98, pI x] (upM (upM M2 98 63 s) 98 64 v) (fun M4 => CV E mX11_plainTried [pR 98] M4 (fun M6 => iR (M6 127 1) → iR (M6 127 0) → f (M6 127 1 - M6 127 0) M6)) := by
        intro v ev
        generalize hM3 : upM (upM M2 98 63 s) 98 64 v = M3
        have r : ∀ a, a ≠ 98 → M3 a = M1 a := fun a a1 => by rw [← hM3, upM_ne _ _ _ a1, upM_ne _ _ _ a1, e1 a a1]
        have q : ∀ k, ¬ (60 ≤ k ∧ k ≤ 65) → M3 98 k = M1 98 k := fun k k1 => by rw [← hM3, upM_self, va_up_neq _ _ (by omega), upM_self, va_up_neq _ _ (by omega), e2 k k1]
        refine fin m M3 em (by omega) hwr hc (hF1.tr ⟨fun a a1 _ _ _ _ _ => r a a1, fun k _ _ k3 _ => q k (by omega)⟩) (b2.of (fun a a1 a2 => r a (by omega)) (q 59 (by decide))) (b3.of (fun a a1 a2 => r a (by omega)) (q 59 (by decide))) ?_ ?_
        · exact hK1.tr ⟨r 142 (by decide), r 143 (by decide), fun k k1 k2 => q k (by omega)⟩
        · rw [← hM3]
          exact ⟨g0, g1, g2, es, ev, g5⟩
      refine vX11_tried_103 _ _ _ ⟨by rw [es]; cases decide (w = 3) <;> decide, hxw, fun c => go4 0 (by simp [c, bI]), fun c => go4 1 (by simp [c, bI])⟩
    have f2 : ∀ (M2 : Mem) (s : Int), (∀ a, a ≠ 98 → M2 a = M1 a) → (∀ k, ¬ (60 ≤ k ∧ k ≤ 65) → M2 98 k = M1 98 k) → M2 98 60 = 0 → M2 98 61 = bI (decide (w = 0)) → s = bI (decide (w = 1)) → KW E mX11_tried (qI f) M2 75 [(0, pR 98), (1, pI w), (2, pI i), (3, pI x)] [pI s, pR 98] := by
      intro M2 s e1 e2 g0 g1 es
      have nx : ∀ v, v = (if w = 2 then i else -1) → ∀ s2 : Int, s2 = bI (decide (w = 3)) → KW E mX11_tried (qI f) (upM (upM M2 98 62 s) 98 65 v) 103 [(0, pR 98), (1, pI w), (3, pI x)] [pI s2, pR 98] := by
        intro v ev s2 es2
        refine f3 _ s2 (fun a a1 => by rw [upM_ne _ _ _ a1, upM_ne _ _ _ a1, e1 a a1]) (fun k k1 => by rw [upM_self, va_up_neq _ _ (by omega), upM_self, va_up_neq _ _ (by omega), e2 k k1]) g0 g1 es ev es2
      refine vX11_tried_75 _ _ _ _ ⟨by rw [es]; cases decide (w = 1) <;> decide, hxw, fun c => ⟨hxw, fun c2 => nx _ (by rw [if_neg c]) 0 (by simp [c2, bI]), fun c2 => nx _ (by rw [if_neg c]) 1 (by simp [c2, bI])⟩, fun c => ⟨hxi, hxw, fun c2 => nx _ (by rw [if_pos c]) 0 (by simp [c2, bI]), fun c2 => nx _ (by rw [if_pos c]) 1 (by simp [c2, bI])⟩⟩
    have f1 : ∀ v, v = bI (decide (w = 0)) → ∀ s2 : Int, s2 = bI (decide (w = 1)) → KW E mX11_tried (qI f) (upM M1 98 61 v) 75 [(0, pR 98), (1, pI w), (2, pI i), (3, pI x)] [pI s2, pR 98] := by
      intro v ev s2 es2
      exact f2 _ s2 (fun a a1 => upM_ne _ _ _ a1) (fun k k1 => by rw [upM_self, va_up_neq _ _ (by omega)]) b4.1 ev es2
    refine ⟨hxw, fun c => ⟨hxw, fun c2 => f1 0 (by simp [c, bI]) 0 (by simp [c2, bI]), fun c2 => f1 0 (by simp [c, bI]) 1 (by simp [c2, bI])⟩, fun c => ⟨hxw, fun c2 => f1 1 (by simp [c, bI]) 0 (by simp [c2, bI]), fun c2 => f1 1 (by simp [c, bI]) 1 (by simp [c2, bI])⟩⟩
  refine vX11_tried_0 _ _ _ (c_isIn hxw ⟨by decide, by decide⟩ ⟨by decide, by decide⟩ (fun c => ⟨⟨by decide, by decide⟩, fun z => absurd z (by decide), fun _ => ?_⟩) (fun z => ⟨⟨by decide, by decide⟩, fun _ => no (fun q => z q.1), fun z => absurd rfl z⟩))
  refine c_isIn hx ⟨by decide, by decide⟩ ⟨by decide, by decide⟩ (fun c2 => ⟨⟨by decide, by decide⟩, fun z => absurd z (by decide), fun _ => ⟨hxw, fun c3 => ⟨hxi, fun c4 => mid c c2 (by rw [if_neg c3]; exact c4), fun c4 => no (fun q => ?_)⟩, fun c3 => ?_⟩⟩) (fun z => ⟨⟨by decide, by decide⟩, fun _ => no (fun q => z q.2.1), fun z => absurd rfl z⟩)
  · have := q.2.2
    rw [if_neg c3] at this
    exact c4 this
  · refine c_isLatch hxi (hD.fR hF0).1 (fun l el hl => ⟨⟨by decide, by decide⟩, fun _ => mid c c2 (by rw [if_pos c3]; exact ⟨by omega, by omega⟩), fun z => absurd z (by decide)⟩) (fun z => ⟨⟨by decide, by decide⟩, fun z => absurd rfl z, fun _ => no (fun q => ?_)⟩)
    have := q.2.2
    rw [if_pos c3] at this
    exact z this
end DYNM4
