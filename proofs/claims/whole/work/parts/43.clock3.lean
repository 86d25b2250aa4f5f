theorem olF_hit {om : Nat → Int} : ∀ (j k : Nat) (d : DS), (∃ q, k ≤ q ∧ q < k + j ∧ om q = dMi d) → olF om j k d = (dMi d, dRo d, 0, dEf d, dVa d, dNu d, dWo d) := by
  intro j
  induction j with
  | zero => intro k d h; obtain ⟨q, h1, h2, _⟩ := h; omega
  | succ j ih =>
    intro k d h
    obtain ⟨q, h1, h2, h3⟩ := h
    simp only [olF]
    by_cases hk : om k = dMi d
    · rw [if_pos hk]
      by_cases hx : ∃ q, k + 1 ≤ q ∧ q < k + 1 + j ∧ om q = dMi (dMi d, dRo d, 0, dEf d, dVa d, dNu d, dWo d)
      · rw [ih _ _ hx]
      · clear ih h1 h2 h3
        revert hx
        generalize (dMi d, dRo d, (0 : Nat), dEf d, dVa d, dNu d, dWo d) = d0
        generalize k + 1 = k1
        intro hx
        induction j generalizing k1 with
        | zero => rfl
        | succ j ih2 =>
          simp only [olF]
          rw [if_neg (fun e => hx ⟨k1, Nat.le_refl _, by omega, e⟩)]
          exact ih2 (k1 + 1) (fun ⟨q, a, b, c⟩ => hx ⟨q, by omega, by omega, c⟩)
    · rw [if_neg hk]
      have hqk : q ≠ k := fun e => hk (e ▸ h3)
      exact ih _ _ ⟨q, by omega, by omega, h3⟩
theorem olF_miss {om : Nat → Int} : ∀ (j k : Nat) (d : DS), (¬ ∃ q, k ≤ q ∧ q < k + j ∧ om q = dMi d) → olF om j k d = d := by
  intro j
  induction j with
  | zero => intro k d h; rfl
  | succ j ih =>
    intro k d h
    simp only [olF]
    rw [if_neg (fun e => h ⟨k, Nat.le_refl _, by omega, e⟩)]
    exact ih _ _ (fun ⟨q, a, b, c⟩ => h ⟨q, by omega, by omega, c⟩)
def PC (po : PO) (M : Mem) : Prop := M 21 10 = (po.1 : Int) ∧ (∀ k, k < po.1 → M 27 k = (po.2.1 k : Int) ∧ M 28 k = po.2.2.1 k) ∧ M 21 13 = (po.2.2.2.1 : Int) ∧ ∀ k, k < po.2.2.2.1 → M 29 k = po.2.2.2.2 k
theorem PC.fr {s : Nat} {po : PO} {M M' : Mem} (h : PC po M) (hs : s = 36 ∨ s = 38) (hF : FrC s M M') : PC po M' := by
  have e : ∀ a, a < 34 → M' a = M a := fun a ha => hF a (by omega) (by omega) (by omega) (by omega)
  unfold PC
  rw [e 21 (by decide), e 27 (by decide), e 28 (by decide), e 29 (by decide)]
  exact h
section CLOCK3
variable {E : Scr} {law : Lw} {may : Nat → Nat} {rust : Int} {n : Nat} {o : Op} {po : PO}
theorem c_oiled {f : Int → Mem → Prop} {M : Mem} {x : Int} (hx : iR x) (hP : wfP n po) (hPC : PC po M) (h1 : (∃ q, q < po.2.2.2.1 ∧ po.2.2.2.2 q = x) → f 1 M) (h0 : (¬ ∃ q, q < po.2.2.2.1 ∧ po.2.2.2.2 q = x) → f 0 M) : CI E mX1_oiled [pR 21, pI x] M f := by
  have loop : ∀ (j k : Nat), k + j = po.2.2.2.1 → (¬ ∃ q, q < k ∧ po.2.2.2.2 q = x) → KW E mX1_oiled (qI f) M 2 [(0, pR 21), (1, pI x), (2, pI (k : Int))] [] := by
    intro j
    induction j with
    | zero =>
      intro k hk hno
      have h4 := hP.2.2.1
      apply vX1_oiled_2
      rw [hPC.2.2.1]
      exact fun _ => ⟨⟨by omega, by omega⟩, fun _ => h0 (fun ⟨q, a, b⟩ => hno ⟨q, by omega, b⟩), fun z => absurd z (by omega)⟩
    | succ j ih =>
      intro k hk hno
      have h4 := hP.2.2.1
      apply vX1_oiled_2
      rw [hPC.2.2.1, Int.toNat_natCast, hPC.2.2.2 k (by omega)]
      refine fun _ => ⟨⟨by omega, by omega⟩, fun z => absurd z (by omega), fun _ => ⟨⟨by omega, by omega⟩, fun z => absurd z (by omega), fun _ => ⟨⟨by omega, by omega⟩, fun _ => ⟨hx, fun c => ?_, fun c => h1 ⟨k, by omega, c⟩⟩⟩⟩⟩
      refine ih (k + 1) (by omega) (fun ⟨q, a, b⟩ => ?_)
      by_cases hq : q = k
      · subst hq; exact c b
      · exact hno ⟨q, by omega, b⟩
  exact vX1_oiled_0 _ (loop po.2.2.2.1 0 (by omega) (fun ⟨q, a, _⟩ => by omega))
theorem c_pass95 {f : Mem → Prop} {s k : Nat} {x3 : Nat} (hs : s = 36 ∨ s = 38) (hB : LwB law) (hP : wfP n po) (hk : k < po.1) (hx3 : x3 ≤ 2) : ∀ (t x6 : Nat) (d : DS) (M : Mem), x6 + t = x3 → wfD n d → (0 ≤ dVa d ∧ dVa d + t < 1000000) → CD n may law rust M → OpC o M → vC s d M →
    (∀ M', FrC s M M' → vC s (rpF o law may rust (po.2.1 k) t d) M' → KW E mX0_passOne (qV f) M' 41 [(0, pR 42), (1, pR 21), (2, pR s), (3, pI (x3 : Int)), (4, pI ((k : Int) + 1))] []) →
    KW E mX0_passOne (qV f) M 95 [(0, pR 42), (1, pR 21), (2, pR s), (3, pI (x3 : Int)), (4, pI (k : Int)), (5, pI (po.2.1 k : Int)), (6, pI (x6 : Int))] [] := by
  intro t
  induction t with
  | zero =>
    intro x6 d M hx hw hva hD hO hv H
    exact vX0_passOne_95 _ _ _ _ hs ⟨⟨by omega, by omega⟩, ⟨by omega, by omega⟩, fun _ => H M (FrC.rf s M) hv, fun z => absurd z (by omega)⟩
  | succ t ih =>
    intro x6 d M hx hw hva hD hO hv H
    have hpl := (hP.2.1 k hk).1
    refine vX0_passOne_95 _ _ _ _ hs ⟨⟨by omega, by omega⟩, ⟨by omega, by omega⟩, fun z => absurd z (by omega), fun _ => ?_⟩
    refine c_pushes hs hB hpl hw hD hO hv ?_
    intro M4 hF4 hv4
    have hob := on_b (o := o) (law := law) (may := may) (rust := rust) hw hpl
    cases hp : (pushF o law may rust d (po.2.1 k)).1
    · rw [push_false hp] at hv4
      refine ⟨⟨by decide, by decide⟩, fun z => absurd rfl z, fun _ => ?_⟩
      rw [hv4.2.2.2.2.1]
      have hvn : vC s (onF o law may rust d (po.2.1 k)) (upM M4 s 4 (dVa d + 1)) := by
        obtain ⟨v1, v2, v3, v4, v5, v6, v7⟩ := hv4
        have e : ∀ q v0, q ≠ 4 → (upM M4 s 4 v0) s q = M4 s q := fun q v0 hq => by rw [upM_self, va_up_neq _ _ hq]
        simp only [onF, hp]
        exact ⟨by rw [e 0 _ (by decide)]; exact v1, by rw [e 1 _ (by decide)]; exact v2, by rw [e 2 _ (by decide)]; exact v3, by rw [e 3 _ (by decide)]; exact v4, by rw [upM_self, va_up_self]; rfl, by rw [e 5 _ (by decide)]; exact v6, fun i hi => by rw [upM_ne _ _ _ (by omega)]; exact v7 i hi⟩
      have hF9 : FrC s M (upM M4 s 4 (dVa d + 1)) := hF4.tr (FrC.u M4 _ (Or.inl rfl))
      exact fun _ => ⟨⟨by omega, by omega⟩, ih (x6 + 1) _ _ (by omega) hob.1 ⟨by omega, by omega⟩ (hD.fr hs hF9) (hO.fr hs hF9) hvn (fun M' a1 a2 => H M' (hF9.tr a1) a2)⟩
    · have hvn : vC s (onF o law may rust d (po.2.1 k)) M4 := by simp only [onF, hp, if_true]; exact hv4
      exact ⟨⟨by decide, by decide⟩, fun _ => ih (x6 + 1) _ _ (by omega) hob.1 ⟨by omega, by omega⟩ (hD.fr hs hF4) (hO.fr hs hF4) hvn (fun M' a1 a2 => H M' (hF4.tr a1) a2), fun z => absurd z (by decide)⟩
theorem c_pass41 {f : Mem → Prop} {s x3 : Nat} (hs : s = 36 ∨ s = 38) (hB : LwB law) (hP : wfP n po) (hx3 : x3 = (if oTw o then 2 else 1)) : ∀ (j k : Nat) (d : DS) (M : Mem), k + j = po.1 → wfD n d → (0 ≤ dVa d ∧ dVa d + 2 * j < 999990) → CD n may law rust M → OpC o M → PC po M → vC s d M →
    (∀ M', FrC s M M' → vC s (psF o law may rust po.2.1 po.2.2.1 j k d) M' → f M') →
    KW E mX0_passOne (qV f) M 41 [(0, pR 42), (1, pR 21), (2, pR s), (3, pI (x3 : Int)), (4, pI (k : Int))] [] := by
  have hx2 : x3 ≤ 2 := by rw [hx3]; split <;> omega
  intro j
  induction j with
  | zero =>
    intro k d M hkj hw hva hD hO hPC hv H
    have h16 := hP.1
    apply vX0_passOne_41 _ _ hs
    rw [hPC.1]
    exact fun _ => ⟨⟨by omega, by omega⟩, fun _ => H M (FrC.rf s M) hv, fun z => absurd z (by omega)⟩
  | succ j ih =>
    intro k d M hkj hw hva hD hO hPC hv H
    have h16 := hP.1
    have hk : k < po.1 := by omega
    have hpk := hP.2.1 k hk
    apply vX0_passOne_41 _ _ hs
    rw [hPC.1, Int.toNat_natCast, (hPC.2.1 k hk).1, (hPC.2.1 k hk).2, hv.1, hO.2.2.2.2.2]
    have skip : ¬ (po.2.2.1 k = dMi d ∧ (po.2.1 k : Int) ≠ oId o) → KW E mX0_passOne (qV f) M 41 [(0, pR 42), (1, pR 21), (2, pR s), (3, pI (x3 : Int)), (4, pI ((k : Int) + 1))] [] := by
      intro hc
      refine ih (k + 1) d M (by omega) hw ⟨by omega, by omega⟩ hD hO hPC hv (fun M' a1 a2 => H M' a1 ?_)
      simp only [psF, if_neg hc]
      exact a2
    refine fun _ => ⟨⟨by omega, by omega⟩, fun z => absurd z (by omega), fun _ => ⟨⟨by omega, by omega⟩, fun z => absurd z (by omega), fun _ => ⟨⟨by omega, by omega⟩, fun _ => ⟨⟨by omega, by omega⟩, fun _ _ => ⟨fun c => skip (fun z => c z.1), fun c _ => ⟨fun c2 => ?_, fun c2 => skip (fun z => z.2 c2)⟩⟩⟩⟩⟩⟩
    refine c_pass95 (x6 := 0) (t := x3) hs hB hP hk hx2 d M (by omega) hw ⟨by omega, by omega⟩ hD hO hv ?_
    intro M1 hF1 hv1
    have hrb := rp_b (o := o) (law := law) (may := may) (rust := rust) hpk.1 x3 d hw
    refine ih (k + 1) _ M1 (by omega) hrb.1 ⟨by omega, by omega⟩ (hD.fr hs hF1) (hO.fr hs hF1) (hPC.fr hs hF1) hv1 (fun M' a1 a2 => H M' (hF1.tr a1) ?_)
    simp only [psF, if_pos (show po.2.2.1 k = dMi d ∧ (po.2.1 k : Int) ≠ oId o from ⟨c, c2⟩)]
    rw [← hx3]
    exact a2
theorem c_pass24 {f : Mem → Prop} {s : Nat} {d : DS} {M : Mem} (hs : s = 36 ∨ s = 38) (hB : LwB law) (hP : wfP n po) (hw : wfD n d) (hva : 0 ≤ dVa d ∧ dVa d + 32 < 999990) (hD : CD n may law rust M) (hO : OpC o M) (hPC : PC po M) (hv : vC s d M)
    (H : ∀ M', FrC s M M' → vC s (psF o law may rust po.2.1 po.2.2.1 po.1 0 d) M' → f M') : KW E mX0_passOne (qV f) M 24 [(0, pR 42), (1, pR 21), (2, pR s)] [] := by
  have h16 := hP.1
  refine vX0_passOne_24 hs (fun _ => ⟨fun c => ?_, fun c => ?_⟩)
  · have htw : oTw o = false := by rw [hO.2.2.2.2.1]; simp [c]
    exact c_pass41 (x3 := 1) hs hB hP (by rw [htw]; rfl) po.1 0 d M (by omega) hw ⟨by omega, by omega⟩ hD hO hPC hv H
  · have htw : oTw o = true := by rw [hO.2.2.2.2.1]; simp [c]
    exact c_pass41 (x3 := 2) hs hB hP (by rw [htw]; rfl) po.1 0 d M (by omega) hw ⟨by omega, by omega⟩ hD hO hPC hv H
theorem c_passOne {f : Mem → Prop} {s : Nat} {d : DS} {M : Mem} (hs : s = 36 ∨ s = 38) (hB : LwB law) (hP : wfP n po) (hw : wfD n d) (hva : 0 ≤ dVa d ∧ dVa d + 32 < 999990) (hD : CD n may law rust M) (hO : OpC o M) (hPC : PC po M) (hv : vC s d M)
    (H : ∀ M', FrC s M M' → vC s (psF o law may rust po.2.1 po.2.2.1 po.1 0 (if oNo o then d else olF po.2.2.2.2 po.2.2.2.1 0 d)) M' → f M') : CV E mX0_passOne [pR 42, pR 21, pR s] M f := by
  have hmi := hw.2.2.2.1
  apply vX0_passOne_0 hs
  rw [hv.1]
  refine fun _ => ⟨fun c => ?_, fun c _ => ?_⟩
  · have hno : oNo o = true := by rw [hO.2.2.2.1]; simp [c]
    rw [hno] at H
    exact c_pass24 hs hB hP hw hva hD hO hPC hv H
  · have hno : oNo o = false := by rw [hO.2.2.2.1]; simp [c]
    rw [hno] at H
    refine c_oiled ⟨by omega, by omega⟩ hP hPC (fun hx => ⟨⟨by decide, by decide⟩, fun z => absurd z (by decide), fun _ => ?_⟩) (fun hx => ⟨⟨by decide, by decide⟩, fun _ => ?_, fun z => absurd rfl z⟩)
    · obtain ⟨q, a, b⟩ := hx
      rw [olF_hit _ _ _ ⟨q, Nat.zero_le _, by omega, b⟩] at H
      have hF1 : FrC s M (upM M s 2 0) := FrC.u M _ (Or.inl rfl)
      have hv1 : vC s (dMi d, dRo d, 0, dEf d, dVa d, dNu d, dWo d) (upM M s 2 0) := by
        obtain ⟨v1, v2, v3, v4, v5, v6, v7⟩ := hv
        have e : ∀ q v0, q ≠ 2 → (upM M s 2 v0) s q = M s q := fun q v0 hq => by rw [upM_self, va_up_neq _ _ hq]
        exact ⟨by rw [e 0 _ (by decide)]; exact v1, by rw [e 1 _ (by decide)]; exact v2, by rw [upM_self, va_up_self]; rfl, by rw [e 3 _ (by decide)]; exact v4, by rw [e 4 _ (by decide)]; exact v5, by rw [e 5 _ (by decide)]; exact v6, fun i hi => by rw [upM_ne _ _ _ (by omega)]; exact v7 i hi⟩
      exact c_pass24 (d := (dMi d, dRo d, 0, dEf d, dVa d, dNu d, dWo d)) hs hB hP ⟨hw.1, Nat.two_pow_pos n, hw.2.2⟩ hva (hD.fr hs hF1) (hO.fr hs hF1) (hPC.fr hs hF1) hv1 (fun M' a1 a2 => H M' (hF1.tr a1) a2)
    · rw [olF_miss _ _ _ (fun ⟨q, _, a, b⟩ => hx ⟨q, by omega, b⟩)] at H
      exact c_pass24 hs hB hP hw hva hD hO hPC hv H
theorem ps_late : ∀ (j k : Nat) (d : DS), wfP n po → k + j ≤ po.1 → 99 < dMi d → psF o law may rust po.2.1 po.2.2.1 j k d = d := by
  intro j
  induction j with
  | zero => intro k d _ _ _; rfl
  | succ j ih =>
    intro k d hP hk hm
    have := hP.2.1 k (by omega)
    simp only [psF]
    rw [if_neg (by omega)]
    exact ih (k + 1) d hP (by omega) hm
theorem min_late {d : DS} (hP : wfP n po) (hm : 99 < dMi d) : minF o law may rust po d = tkF d := by
  unfold minF
  have e : (if oNo o then d else olF po.2.2.2.2 po.2.2.2.1 0 d) = d := by
    split
    · rfl
    · exact olF_miss _ _ _ (fun ⟨q, _, a, b⟩ => by have := hP.2.2.2 q (by omega); omega)
  rw [e, ps_late _ _ _ hP (by omega) hm]
theorem c_pass_loop {f : Mem → Prop} {s m : Nat} (hs : s = 36 ∨ s = 38) (hB : LwB law) (hP : wfP n po) (hm : m ≤ 200) : ∀ (j k : Nat) (d : DS) (M : Mem), k + j = m → wfD n d → wfV d → dMi d + j ≤ 10000 → CD n may law rust M → OpC o M → PC po M → vC s d M →
    (∀ M', FrC s M M' → vC s (goF o law may rust po j d) M' → f M') → KW E mX0_pass (qV f) M 3 [(0, pR 42), (1, pR 21), (2, pR s), (3, pI (m : Int)), (4, pI (k : Int))] [] := by
  intro j
  induction j with
  | zero =>
    intro k d M hk hw hwv hmi hD hO hPC hv H
    exact vX0_pass_3 _ _ hs ⟨⟨by omega, by omega⟩, ⟨by omega, by omega⟩, fun _ => H M (FrC.rf s M) hv, fun z => absurd z (by omega)⟩
  | succ j ih =>
    intro k d M hk hw hwv hmi hD hO hPC hv H
    have hw4 := hw.2.2.2.1
    have hwv2 := hwv
    unfold wfV at hwv2
    have tick : ∀ (d1 : DS) (M1 : Mem), FrC s M M1 → vC s d1 M1 → tkF d1 = minF o law may rust po d → vC s (minF o law may rust po d) (upM M1 s 0 (M1 s 0 + 1)) ∧ FrC s M (upM M1 s 0 (M1 s 0 + 1)) := by
      intro d1 M1 hF1 hv1 he
      refine ⟨?_, hF1.tr (FrC.u M1 _ (Or.inl rfl))⟩
      rw [← he]
      obtain ⟨v1, v2, v3, v4, v5, v6, v7⟩ := hv1
      have e : ∀ q v0, q ≠ 0 → (upM M1 s 0 v0) s q = M1 s q := fun q v0 hq => by rw [upM_self, va_up_neq _ _ hq]
      exact ⟨by rw [upM_self, va_up_self, v1]; rfl, by rw [e 1 _ (by decide)]; exact v2, by rw [e 2 _ (by decide)]; exact v3, by rw [e 3 _ (by decide)]; exact v4, by rw [e 4 _ (by decide)]; exact v5, by rw [e 5 _ (by decide)]; exact v6, fun i hi => by rw [upM_ne _ _ _ (by omega)]; exact v7 i hi⟩
    have h1 := min_b (o := o) (law := law) (may := may) (rust := rust) hP hw (by omega)
    have next : ∀ M2, FrC s M M2 → vC s (minF o law may rust po d) M2 → KW E mX0_pass (qV f) M2 3 [(0, pR 42), (1, pR 21), (2, pR s), (3, pI (m : Int)), (4, pI ((k : Int) + 1))] [] := by
      intro M2 hF2 hv2
      exact ih (k + 1) _ M2 (by omega) h1.1 (by unfold wfV; omega) (by omega) (hD.fr hs hF2) (hO.fr hs hF2) (hPC.fr hs hF2) hv2 (fun M' a1 a2 => H M' (hF2.tr a1) a2)
    refine vX0_pass_3 _ _ hs ⟨⟨by omega, by omega⟩, ⟨by omega, by omega⟩, fun z => absurd z (by omega), fun _ _ => ⟨fun c _ => ?_, fun c => ?_⟩⟩
    · have t := tick d M (FrC.rf s M) hv (min_late hP (by rw [← hv.1]; omega)).symm
      refine ⟨?_, next _ t.2 t.1⟩
      rw [hv.1]; exact ⟨by omega, by omega⟩
    · refine c_passOne hs hB hP hw ⟨by omega, by omega⟩ hD hO hPC hv ?_
      intro M7 hF7 hv7
      have t := tick _ M7 hF7 hv7 rfl
      have e7 : M7 s 0 = dMi d := by
        rw [hv7.1]
        have h0 : wfD n (if oNo o then d else olF po.2.2.2.2 po.2.2.2.1 0 d) ∧ dMi (if oNo o then d else olF po.2.2.2.2 po.2.2.2.1 0 d) = dMi d := by
          split
          · exact ⟨hw, rfl⟩
          · have := ol_b (om := po.2.2.2.2) po.2.2.2.1 0 d hw; exact ⟨this.1, this.2.1⟩
        have := (ps_b (o := o) (law := law) (may := may) (rust := rust) po.1 0 _ hP (by omega) h0.1).2.1
        rw [this, h0.2]
      refine fun _ => ⟨?_, next _ t.2 t.1⟩
      rw [e7]; exact ⟨by omega, by omega⟩
theorem c_pass {f : Mem → Prop} {s m : Nat} {d : DS} {M : Mem} (hs : s = 36 ∨ s = 38) (hB : LwB law) (hP : wfP n po) (hm : m ≤ 200) (hw : wfD n d) (hwv : wfV d) (hmi : dMi d + m ≤ 10000) (hD : CD n may law rust M) (hO : OpC o M) (hPC : PC po M) (hv : vC s d M) (H : ∀ M', FrC s M M' → vC s (goF o law may rust po m d) M' → f M') : CV E mX0_pass [pR 42, pR 21, pR s, pI (m : Int)] M f :=
  vX0_pass_0 _ hs (c_pass_loop hs hB hP hm m 0 d M (by omega) hw hwv hmi hD hO hPC hv H)
end CLOCK3
