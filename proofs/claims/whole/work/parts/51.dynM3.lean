section DYNM3
variable {E : Scr} {law : Lw} {may : Nat → Nat} {rust : Int} {n : Nat} {po : PO} {y : YS}
theorem OpM.of {o : Op} {M M' : Mem} (h : OpM o M) (e : ∀ k, 60 ≤ k → k ≤ 65 → M' 98 k = M 98 k) : OpM o M' := by
  unfold OpM
  rw [e 60 (by decide) (by decide), e 61 (by decide) (by decide), e 62 (by decide) (by decide), e 63 (by decide) (by decide), e 64 (by decide) (by decide), e 65 (by decide) (by decide)]
  exact h
theorem YM.of {M M' : Mem} (h : YM y M) (hv : vM 0 y.1 M') (hK : FrK M M') (h62 : M' 98 62 = 0) : YM y M' := ⟨hv, h.2.1.fK hK, by rw [hK.2.2 82 (by decide) (by decide)]; exact h.2.2.1, fun hq => (h.2.2.2.1 hq).fK hK, h62⟩
theorem c_goM {f : Int → Mem → Prop} {M : Mem} {x : Int} (hx : iR x) (hP : wfP n po) (hw : wfY n y) (hD : MD n may law rust M) (hPM : PM po M) (hy : YM y M) (H : ∀ M', FrR M M' → YM (goY law may rust po x y).2 M' → f (goY law may rust po x y).1 M') : CI E mX11_go [pR 98, pI x] M f := by
  have hmi := hw.1.1.2.2.2.1
  have hF0 : FrR M (upM M 98 2 0) := FrR.u98 0 (Or.inl rfl)
  have hy0 := hy.th 0
  unfold goY at H
  have no : ¬ (0 ≤ x ∧ x ≤ 200 ∧ dMi y.1 + x ≤ 9000) → f (-1) (upM M 98 2 0) := by
    intro z
    rw [if_neg z] at H
    exact H _ hF0 hy0
  refine vX11_go_0 _ (c_isIn hx ⟨by decide, by decide⟩ ⟨by decide, by decide⟩ (fun c => ⟨⟨by decide, by decide⟩, fun z => absurd z (by decide), fun _ => ?_⟩) (fun z => ⟨⟨by decide, by decide⟩, fun _ => no (fun q => z ⟨q.1, q.2.1⟩), fun z => absurd rfl z⟩))
  rw [hy0.1.1]
  refine fun _ => ⟨⟨by omega, by omega⟩, fun c2 => c_plainTried (fun M1 b1 b2 b3 => ?_), fun c2 => no (by omega)⟩
  rw [if_pos ⟨by omega, by omega, by omega⟩] at H
  obtain ⟨m, rfl⟩ : ∃ m : Nat, x = (m : Int) := ⟨x.toNat, by omega⟩
  rw [Int.toNat_natCast] at H
  have hFs : FrR M (upM M1 98 60 1) := (hF0.tr ⟨fun a a1 _ _ _ _ _ => b1 a a1, fun k _ _ k3 _ => b2 k (by omega)⟩).tr (FrR.u98 1 (by decide))
  have hKs : FrK M (upM M1 98 60 1) := ((FrK.u98 0 (by decide)).tr ⟨b1 142 (by decide), b1 143 (by decide), fun k k1 k2 => b2 k (by omega)⟩).tr (FrK.u98 1 (by decide))
  have hvs : vM 0 y.1 (upM M1 98 60 1) := hy0.1.of (fun a a1 a2 => by rw [upM_ne _ _ _ (by omega), b1 a (by omega)]) (by rw [upM_self, va_up_neq _ _ (by decide), b2 59 (by decide)])
  have hOs : OpM oDn (upM M1 98 60 1) := ⟨rfl, b3.2.1, b3.2.2.1, b3.2.2.2.1, b3.2.2.2.2.1, b3.2.2.2.2.2⟩
  have loop : ∀ (j k : Nat) (d : DS) (M2 : Mem), k + j = m → wfD n d → wfV d → dMi d + j ≤ 10000 → FrR M M2 → FrK M M2 → OpM oDn M2 → vM 0 d M2 → goF oDn law may rust po j d = goF oDn law may rust po m y.1 → KW E mX11_go (qI f) M2 43 [(0, pR 98), (1, pI (m : Int)), (2, pI (k : Int))] [] := by
    intro j
    induction j with
    | zero =>
      intro k d M2 hk hwd hwv hmd hF hK hO hv he
      have he' : d = goF oDn law may rust po m y.1 := he
      subst he'
      apply vX11_go_43
      rw [hv.1]
      refine ⟨⟨by omega, by omega⟩, hx, fun _ => ⟨hx, fun c3 => ?_, fun c3 => ?_⟩, fun z => absurd z (by omega)⟩
      · rw [if_pos (by omega)] at H
        refine fun _ _ => ?_
        rw [show upM (upM M2 98 60 0) 98 80 (M2 98 80) = upM M2 98 60 0 from upM_same rfl]
        exact H _ (hF.tr (FrR.u98 0 (by decide))) ⟨hv.of (fun a a1 a2 => upM_ne _ _ _ (by omega)) rfl, (hy.2.1.fK hK).fK (FrK.u98 0 (by decide)), by show M2 98 82 = _; rw [hK.2.2 82 (by decide) (by decide)]; exact hy.2.2.1, fun hq => ((hy.2.2.2.1 hq).fK hK).fK (FrK.u98 0 (by decide)), hO.2.2.1⟩
      · rw [if_neg (by omega)] at H
        refine fun _ => H _ ((hF.tr (FrR.u98 0 (by decide))).tr (FrR.u98 0 (by decide))) ⟨hv.of (fun a a1 a2 => by rw [upM_ne _ _ _ (by omega), upM_ne _ _ _ (by omega)]) rfl, ⟨Nat.zero_le _, rfl, fun i hi => absurd hi (Nat.not_lt_zero i)⟩, by show M2 98 82 = _; rw [hK.2.2 82 (by decide) (by decide)]; exact hy.2.2.1, fun hq => ?_, hO.2.2.1⟩
        refine ((hy.2.2.2.1 hq).fK hK).of rfl (fun k0 a1 a2 => ?_)
        rw [upM_self, va_up_neq _ _ (by omega), upM_self, va_up_neq _ _ (by omega)]
    | succ j ih =>
      intro k d M2 hk hwd hwv hmd hF hK hO hv he
      have hwv2 := hwv
      have hd4 := hwd.2.2.2.1
      unfold wfV at hwv2
      refine vX11_go_43 _ _ ⟨⟨by omega, by omega⟩, hx, fun z => absurd z (by omega), fun _ => ?_⟩
      refine c_minuteGoes (b := 0) (o := oDn) (by decide) hP hwd ⟨by omega, by omega⟩ (by omega) (hD.fR hF) hO (hPM.fR hF) hv (fun M3 hF3 hv3 => ?_)
      have hb := min_b (o := oDn) (law := law) (may := may) (rust := rust) hP hwd (by omega)
      exact ih (k + 1) _ M3 (by omega) hb.1 (by unfold wfV; omega) (by omega) (hF.tr hF3.toR) (hK.tr hF3.toK) (hO.fr hF3) hv3 he
  exact loop m 0 y.1 _ (by omega) hw.1.1 hw.1.2.1 (by omega) hFs hKs hOs hvs rfl
/-- from what is laid for a try back to what is -/
theorem YM.tried {M M' : Mem} {o : Op} {m : Nat} (ho : oDr o = false) (hyl : YM y M) (hF : FrP 1 M M') (hv : vM 1 (goF o law may rust po m y.1) M') (h62 : M' 98 62 = 0) : YM y M' := by
  refine hyl.of ?_ hF.toK h62
  have := vM0_fr hyl.1 hF
  rw [hv.2.2.2.2.2.1, go_nu ho] at this
  exact this
theorem c_laidM {f : Mem → Prop} {M : Mem} (hy : YM y M) (H : ∀ M', FrR M M' → YM y M' → vM 1 y.1 M' → OpM oPl M' → f M') : CV E mX11_layTried [pR 98] M f := by
  refine c_layTried hy.1 (fun M1 b1 b2 b3 b4 b5 => H M1 ⟨fun a a1 _ _ a4 _ _ => b1 a a1 a4, fun k _ _ k3 _ => b2 k (by omega)⟩ ?_ b4 b5)
  exact hy.of b3 ⟨b1 142 (by decide) (by decide), b1 143 (by decide) (by decide), fun k k1 k2 => b2 k (by omega)⟩ b5.2.2.1
theorem c_aheadM {f : Int → Mem → Prop} {M : Mem} {x w : Int} (hx : iR x) (hx2 : iR w) (hP : wfP n po) (hw : wfY n y) (hD : MD n may law rust M) (hPM : PM po M) (hy : YM y M) (H : ∀ M', FrR M M' → YM y M' → f (aheadY law may rust po x w y.1) M') : CI E mX11_ahead [pR 98, pI x, pI w] M f := by
  have hmi := hw.1.1.2.2.2.1
  have hm9 := hw.1.2.2.1
  have hn := hD.2.1
  have hp := pw8 hn
  have hF0 : FrR M (upM M 98 2 0) := FrR.u98 0 (Or.inl rfl)
  have hy0 := hy.th 0
  unfold aheadY at H
  have HN := H _ hF0 hy0
  refine vX11_ahead_0 _ _ (c_isIn hx ⟨by decide, by decide⟩ ⟨by decide, by decide⟩ (fun c => ⟨⟨by decide, by decide⟩, fun z => absurd z (by decide), fun _ => ?_⟩) (fun z => ⟨⟨by decide, by decide⟩, fun _ => by rwa [if_neg z] at HN, fun z => absurd rfl z⟩))
  refine c_isIn hx2 ⟨by decide, by decide⟩ ⟨by decide, by decide⟩ (fun c2 => ⟨⟨by decide, by decide⟩, fun _ => ?_, fun z => absurd z (by decide)⟩) (fun z => ⟨⟨by decide, by decide⟩, fun z => absurd rfl z, fun _ => by rwa [if_pos c, if_neg (by omega), if_neg (by omega), if_neg (by omega), if_neg (by omega), if_neg (by omega)] at HN⟩)
  obtain ⟨m, rfl⟩ : ∃ m : Nat, x = (m : Int) := ⟨x.toNat, by omega⟩
  rw [Int.toNat_natCast] at H
  refine c_laidM hy0 (fun M1 b1 b2 b3 b4 => c_goMany (m := m) (by omega) hP hw.1.1 hw.1.2.1 (by omega) (hD.fR (hF0.tr b1)) b4 (hPM.fR (hF0.tr b1)) b3 (fun M2 hF2 hv2 => ?_))
  have hb := go_b (o := oPl) (law := law) (may := may) (rust := rust) m y.1 hP hw.1.1 hw.1.2.1 (by omega)
  have h1 := hb.1.1
  have h2 := hb.1.2.1
  have hy2 : YM y M2 := YM.tried (o := oPl) rfl b2 hF2 hv2 (by rw [hF2.f98 (by decide)]; exact b4.2.2.1)
  have HH := H M2 ((hF0.tr b1).tr hF2.toR) hy2
  rw [if_pos c] at HH
  rw [hv2.2.1, hv2.2.2.2.1, hv2.2.2.2.2.1, hv2.2.2.1, hy2.1.2.2.2.1, hy2.1.2.2.2.2.1]
  refine ⟨hx2, fun c3 _ => ?_, fun c3 _ _ => ?_, fun c3 _ _ => ?_, fun c3 _ => ?_, fun c3 _ => ?_⟩
  · rw [if_pos c3] at HH
    exact c_manyOf (by omega) HH
  · rw [if_neg (by omega), if_pos c3] at HH
    exact HH
  · rw [if_neg (by omega), if_neg (by omega), if_pos c3] at HH
    exact HH
  · rw [if_neg (by omega), if_neg (by omega), if_neg (by omega), if_pos c3] at HH
    exact c_manyOf (by omega) HH
  · rw [if_neg (by omega), if_neg (by omega), if_neg (by omega), if_neg (by omega), if_pos (by omega)] at HH
    exact HH
theorem c_whenM {f : Int → Mem → Prop} {M : Mem} {x : Int} (hx : iR x) (hP : wfP n po) (hw : wfY n y) (hD : MD n may law rust M) (hPM : PM po M) (hy : YM y M) (H : ∀ M', FrR M M' → YM y M' → f (whenY n law may rust po x y.1) M') : CI E mX11_when [pR 98, pI x] M f := by
  have hmi := hw.1.1.2.2.2.1
  have hm9 := hw.1.2.2.1
  have hn := hD.2.1
  have hp := pw8 hn
  have hr0 := hw.1.1.1
  have hF0 : FrR M (upM M 98 2 0) := FrR.u98 0 (Or.inl rfl)
  have hy0 := hy.th 0
  unfold whenY at H
  refine vX11_when_0 _ (c_isLatch hx (hD.fR hF0).1 (fun l el hl => ⟨⟨by decide, by decide⟩, fun _ => ?_, fun z => absurd z (by decide)⟩) (fun z => ⟨⟨by decide, by decide⟩, fun z => absurd rfl z, fun _ => ?_⟩))
  · subst el
    rw [if_pos ⟨by omega, by omega⟩, Int.toNat_natCast] at H
    have loop : ∀ (j k : Nat) (d : DS) (M1 : Mem), k + j = 200 → wfD n d → wfV d → dMi d + j ≤ 10000 → dNu d = dNu y.1 → FrR M M1 → YM y M1 → OpM oPl M1 → vM 1 d M1 → (∀ M', FrR M M' → YM y M' → f (whenF law may rust po l (dRo y.1) j k d) M') → KW E mX11_when (qI f) M1 21 [(0, pR 98), (1, pI (l : Int)), (2, pI (k : Int))] [] := by
      intro j
      induction j with
      | zero =>
        intro k d M1 hk hwd hwv hmd hnu hF hyy hO hv HH
        exact vX11_when_21 _ _ ⟨⟨by omega, by omega⟩, fun _ => HH M1 hF hyy, fun z => absurd z (by omega)⟩
      | succ j ih =>
        intro k d M1 hk hwd hwv hmd hnu hF hyy hO hv HH
        have hwv2 := hwv
        have hd4 := hwd.2.2.2.1
        unfold wfV at hwv2
        refine vX11_when_21 _ _ ⟨⟨by omega, by omega⟩, fun z => absurd z (by omega), fun _ => ?_⟩
        refine c_minuteGoes (b := 1) (o := oPl) (by decide) hP hwd ⟨by omega, by omega⟩ (by omega) (hD.fR hF) hO (hPM.fR hF) hv (fun M3 hF3 hv3 => ?_)
        have hb := min_b (o := oPl) (law := law) (may := may) (rust := rust) hP hwd (by omega)
        have hb1 := hb.1.1
        have hnu3 := min_nu (o := oPl) (law := law) (may := may) (rust := rust) (po := po) (d := d) rfl
        have hy3 : YM y M3 := by
          refine hyy.of ?_ hF3.toK (by rw [hF3.f98 (by decide)]; exact hyy.2.2.2.2)
          have := vM0_fr hyy.1 hF3
          rw [hv3.2.2.2.2.2.1, hnu3, hnu] at this
          exact this
        have hxx : dRo (minF oPl law may rust po d) ^^^ dRo y.1 < 2 ^ n := Nat.xor_lt_two_pow hb1 hr0
        rw [hv3.2.1, hy3.1.2.1, bXor_nat (by omega) (by omega)]
        simp only [whenF] at HH
        refine fun _ _ => c_isOf (by omega) (by omega) ?_
        have hbt := bt_lt (dRo (minF oPl law may rust po d) ^^^ dRo y.1) l
        refine ⟨⟨by omega, by omega⟩, fun c => ?_, fun c => ?_⟩
        · rw [if_pos (by omega)] at HH
          exact ih (k + 1) _ M3 (by omega) hb.1 (by unfold wfV; omega) (by omega) (hnu3.trans hnu) (hF.tr hF3.toR) hy3 (hO.fr hF3) hv3 HH
        · rw [if_neg (by omega)] at HH
          exact HH M3 (hF.tr hF3.toR) hy3
    exact c_laidM hy0 (fun M1 b1 b2 b3 b4 => loop 199 1 y.1 M1 (by omega) hw.1.1 hw.1.2.1 (by omega) rfl (hF0.tr b1) b2 b4 b3 H)
  · rw [if_neg z] at H
    exact H _ hF0 hy0
end DYNM3
