/-! the class: pushes, minutes -/
section CLOCK2
variable {E : Scr} {law : Lw} {may : Nat → Nat} {rust : Int} {n : Nat} {o : Op} {po : PO}
/-- what the laws answer is 0, or within a long and no error's number -/
def LwB (law : Lw) : Prop := ∀ k env, (∀ j, j < 7 → Bd (env j)) → ∀ v, law k env = some v → Bd v
theorem orM_b {law : Lw} (hB : LwB law) (k : Nat) (env : Nat → Int) (he : ∀ j, j < 7 → Bd (env j)) : lR (orM (law k env)) ∧ (orM (law k env) = MINL ↔ law k env = none) := by
  cases h : law k env with
  | none => exact ⟨⟨by decide, by decide⟩, ⟨fun _ => rfl, fun _ => rfl⟩⟩
  | some v =>
    have := hB k env he v h
    show lR v ∧ (v = MINL ↔ _)
    exact ⟨⟨by omega, by omega⟩, ⟨fun z => absurd z (by show v ≠ -9223372036854775808; omega), fun z => by cases z⟩⟩
theorem c_limited {f : Int → Mem → Prop} {M : Mem} {k : Nat} {env : Nat → Int} {wo most : Int} (hB : LwB law) (he : ∀ j, j < 7 → Bd (env j)) (hm : 0 ≤ most ∧ most < 1000) (h : f (lawB law k env wo most) M) : CL E mX0_limited [pL (orM (law k env)), pL most, pL wo] M f := by
  have hb := orM_b hB k env he
  unfold lawB at h
  refine vX0_limited_0 _ _ _ ⟨hb.1, fun z => ⟨⟨by omega, by omega⟩, hb.1, ?_⟩, fun z => ?_⟩
  · cases hl : law k env with
    | none => rw [hl] at z; exact absurd rfl z
    | some v => rw [hl] at h; exact h
  · rw [hb.2.mp z] at h; exact h
theorem c_rusts {f : Int → Mem → Prop} {M : Mem} {s : Nat} {odds : Int} {d : DS} (hs : s = 36 ∨ s = 38) (ho : 0 ≤ odds ∧ odds ≤ 100) (hO : OpC o M) (hv : vC s d M) (H : ∀ M', FrC s M M' → vC s (dMi d, dRo d, dSe d, dEf d, dVa d, (eatF o odds (dNu d)).2, dWo d) M' → f (bI (eatF o odds (dNu d)).1) M') : CI E mX0_rusts [pR 42, pR s, pL odds] M f := by
  have hlr : lR odds := ⟨by omega, by omega⟩
  have same : ∀ e : Bool, eatF o odds (dNu d) = (e, dNu d) → f (bI e) M := by
    intro e he
    rw [he] at H
    exact H M (FrC.rf s M) hv
  unfold eatF at same
  apply vX0_rusts_0 _ hs
  rw [hv.2.2.2.2.2.1, hO.1, lAnd_mask]
  change _ ∧ (_ → _) ∧ (_ → _ ∧ (_ → _ → ((_ → _ → _ → (lR (Int.tdiv (drawN (dNu d)) 65536)) ∧ (lR (Int.tmod (Int.tdiv (drawN (dNu d)) 65536) 100)) ∧ _ ∧ ((Int.tmod (Int.tdiv (drawN (dNu d)) 65536) 100) ≥ odds → f 0 (upM M s 5 (drawN (dNu d)))) ∧ ((Int.tmod (Int.tdiv (drawN (dNu d)) 65536) 100) < odds → f 1 (upM M s 5 (drawN (dNu d))))) ∧ _)) ∧ _)
  have hN := drawN_b (dNu d)
  rw [Int.tdiv_eq_ediv_of_nonneg hN.1, Int.tmod_eq_emod_of_nonneg (by omega)]
  refine ⟨hlr, fun c => ⟨hlr, fun _ => same false (by rw [if_neg (by omega), if_pos c]), fun z => absurd z (by omega)⟩, fun c => ⟨hlr, fun c2 _ => ⟨fun z _ _ => ?_, fun z => ⟨hlr, fun y => same false ?_, fun y => same true ?_⟩⟩, fun c2 => ⟨hlr, fun z => absurd z (by omega), fun _ => same true (by rw [if_pos c2])⟩⟩⟩
  · have hdr := bI_ne z
    have hv4 : vC s (dMi d, dRo d, dSe d, dEf d, dVa d, drawN (dNu d), dWo d) (upM M s 5 (drawN (dNu d))) := by
      obtain ⟨v1, v2, v3, v4, v5, v6, v7⟩ := hv
      have e : ∀ q, q ≠ 5 → (upM M s 5 (drawN (dNu d))) s q = M s q := fun q hq => by rw [upM_self, va_up_neq _ _ hq]
      exact ⟨by rw [e 0 (by decide)]; exact v1, by rw [e 1 (by decide)]; exact v2, by rw [e 2 (by decide)]; exact v3, by rw [e 3 (by decide)]; exact v4, by rw [e 4 (by decide)]; exact v5, by rw [upM_self, va_up_self], fun i hi => by rw [upM_ne _ _ _ (by omega)]; exact v7 i hi⟩
    have gd : ∀ e : Bool, eatF o odds (dNu d) = (e, drawN (dNu d)) → f (bI e) (upM M s 5 (drawN (dNu d))) := by
      intro e he
      rw [he] at H
      exact H _ (FrC.u M _ (Or.inl rfl)) hv4
    unfold eatF at gd
    refine ⟨⟨by omega, by omega⟩, ⟨by omega, by omega⟩, hlr, fun x => gd false ?_, fun x => gd true ?_⟩
    · rw [if_neg (by omega), if_neg (by omega), hdr]; simp; omega
    · rw [if_neg (by omega), if_neg (by omega), hdr]; simp; omega
  · rw [if_neg (by omega), if_neg (by omega), bI_eq0 z]; simp; omega
  · rw [if_neg (by omega), if_neg (by omega), bI_eq0 z]; simp; omega
theorem vC_up {s : Nat} {M : Mem} (h : s + 1 ≠ s) (k : Nat) (v : Int) : (upM M s k v) (s + 1) = M (s + 1) := upM_ne M k v h
theorem c_pushes34 {f : Int → Mem → Prop} {M : Mem} {s l mk : Nat} {d : DS} (hs : s = 36 ∨ s = 38) (hB : LwB law) (hl : l < n) (hmk : mk < 256) (hbt : bt mk l = (if canB o may d l then 1 else 0)) (hw : wfD n d) (hD : CD n may law rust M) (hO : OpC o M) (hv : vC s d M)
    (H : ∀ M', FrC s M M' → vC s (pushF o law may rust d l).2 M' → f (bI (pushF o law may rust d l).1) M') : KW E mX0_pushes (qI f) M 34 [(0, pR 42), (1, pR 21), (2, pR s), (3, pI (l : Int))] [pI (mk : Int)] := by
  have hn := hD.2.1
  have hp := pw8 hn
  have hs42 : (42 : Nat) ≠ s ∧ (42 : Nat) ≠ s + 1 := by omega
  have hss : s + 1 ≠ s := by omega
  apply vX0_pushes_34 _ _ hs
  refine c_has (Or.inr rfl) ⟨by omega, by omega⟩ hD.1 hn (fun l' el hl' => ?_) (fun z => absurd ⟨by omega, by omega⟩ z)
  rw [bBit_nat (by omega) (by omega), hbt]
  have hH := H
  unfold pushF at hH
  cases hc : canB o may d l
  · rw [hc] at hH
    exact ⟨⟨by decide, by decide⟩, fun z => absurd z (by decide), fun _ => ⟨fun z => absurd rfl z, fun _ => hH M (FrC.rf s M) hv⟩⟩
  · rw [hc] at hH
    simp only [if_true] at hH
    refine ⟨⟨by decide, by decide⟩, fun z => absurd z (by decide), fun _ => ⟨fun _ => ?_, fun z => absurd z (by decide)⟩⟩
    refine c_worthOf (k := 0) hs (by decide) hl hw hD hv ?_
    intro M5 hF5
    refine c_limited (k := 0) hB (envD_b hw hl hD.2.1) ⟨by decide, by decide⟩ ?_
    obtain ⟨v1, v2, v3, v4, v5, v6, v7⟩ := vC.frS hs hv hF5
    have hr := lawB_b (law := law) (k := 0) (env := envD d l) (wo := 1) (most := 999) (by decide) ⟨by decide, by decide⟩
    obtain ⟨hw1, hw2, hw3, hw4, hw5, hw6⟩ := id hw
    have hwl := hw6 l (by omega)
    rw [v2, v4, bOne_nat (by omega), bXor_nat (by omega) (pw31 (by omega))]
    generalize hq : lawB law 0 (envD d l) 1 999 = more at hr ⊢
    refine fun _ _ => ⟨⟨by omega, by omega⟩, ⟨by omega, by omega⟩, c_wornI (w := dWo d l) (isSt_of hs) (by omega) (by rw [upM_ne _ _ _ hss, upM_ne _ _ _ hss]; exact v7 l (by omega)) (fun _ => ⟨⟨by omega, by omega⟩, c_wear (isSt_of hs) (by omega) ⟨by omega, by omega⟩ ?_⟩)⟩
    generalize hM2 : upM (upM (upM M5 s 1 ((dRo d ^^^ 2 ^ l : Nat) : Int)) s 3 (min 99999 (dEf d + more))) (s + 1) l (min 999 (dWo d l + 1)) = M2
    have hF2 : FrC s M M2 := by
      rw [← hM2]
      exact ((hF5.toC.tr (FrC.u M5 _ (Or.inl rfl))).tr (FrC.u _ _ (Or.inl rfl))).tr (FrC.u _ _ (Or.inr (Or.inl rfl)))
    have hv2 : vC s (movF law d l) M2 := by
      rw [← hM2]
      have e : ∀ q, q ≠ 1 → q ≠ 3 → (upM (upM (upM M5 s 1 ((dRo d ^^^ 2 ^ l : Nat) : Int)) s 3 (min 99999 (dEf d + more))) (s + 1) l (min 999 (dWo d l + 1))) s q = M5 s q := fun q h1 h3 => by
        rw [upM_ne _ _ _ (by omega), upM_self, va_up_neq _ _ h3, upM_self, va_up_neq _ _ h1]
      refine ⟨by rw [e 0 (by decide) (by decide)]; exact v1, ?_, by rw [e 2 (by decide) (by decide)]; exact v3, ?_, by rw [e 4 (by decide) (by decide)]; exact v5, by rw [e 5 (by decide) (by decide)]; exact v6, ?_⟩
      · rw [upM_ne _ _ _ (by omega), upM_self, va_up_neq _ _ (by decide), upM_self, va_up_self]; rfl
      · rw [upM_ne _ _ _ (by omega), upM_self, va_up_self]
        show min 99999 (dEf d + more) = min (dEf d + lawB law 0 (envD d l) 1 999) 99999
        omega
      · intro i hi
        rw [upM_self]
        show va_up _ l _ i = va_up (dWo d) l (min (dWo d l + 1) 999) i
        by_cases hil : i = l
        · subst hil; rw [va_up_self, va_up_self]; omega
        · rw [va_up_neq _ _ hil, va_up_neq _ _ hil, upM_ne _ _ _ hss, upM_ne _ _ _ hss]; exact v7 i hi
    have hw2' := wfD_mov (law := law) hw hl
    have hO2 := hO.fr hs hF2
    have hD2 := hD.fr hs hF2
    refine fun _ => ⟨fun z => ?_, fun z => ?_⟩
    · have hns : oNs o = true := by rw [hO2.2.1]; simp [z]
      rw [hns] at hH
      exact hH M2 hF2 hv2
    · have hns : oNs o = false := by rw [hO2.2.1]; simp [z]
      rw [hns] at hH
      simp only [Bool.false_eq_true, if_false] at hH
      refine c_worthOf (k := 1) hs (by decide) hl hw2' hD2 hv2 ?_
      intro M18 hF18
      have hv18 := vC.frS hs hv2 hF18
      refine c_worthOf (k := 2) hs (by decide) hl hw2' (hD2.fr hs hF18.toC) hv18 ?_
      intro M20 hF20
      have hFa : FrC s M M20 := (hF2.tr hF18.toC).tr hF20.toC
      have hD20 := hD.fr hs hFa
      have hO20 := hO.fr hs hFa
      have hv20 := vC.frS hs hv18 hF20
      rw [hD20.2.2.2.2.1]
      intro _
      refine c_limited (k := 2) hB (envD_b hw2' hl hD.2.1) ⟨by decide, by decide⟩ ?_
      have hod := lawB_b (law := law) (k := 2) (env := envD (movF law d l) l) (wo := rust) (most := 100) (by decide) hD.2.2.2.2.2
      generalize lawB law 2 (envD (movF law d l) l) rust 100 = odds at hod hH ⊢
      refine c_rusts hs hod hO20 hv20 ?_
      intro M25 hF25 hv25
      have hFb : FrC s M M25 := hFa.tr hF25
      have hsq : sealQ law (movF law d l) l = decide (orM (law 1 (envD (movF law d l) l)) ≠ 0 ∧ orM (law 1 (envD (movF law d l) l)) ≠ MINL) := by
        unfold sealQ
        cases hl1 : law 1 (envD (movF law d l) l) with
        | none => rfl
        | some v =>
          have := hB _ _ (envD_b hw2' hl hD.2.1) _ hl1
          have e : v ≠ MINL := by show v ≠ -9223372036854775808; omega
          simp [orM, e]
      have hlb := (orM_b hB 1 (envD (movF law d l) l) (envD_b hw2' hl hD.2.1)).1
      generalize orM (law 1 (envD (movF law d l) l)) = sv at hsq hlb ⊢
      have setit : (sealQ law (movF law d l) l || (eatF o odds (dNu (movF law d l))).1) = true → ((iR (M25 s 2)) → f 1 (upM M25 s 2 (bOr (M25 s 2) ((2 ^ l : Nat) : Int)))) := by
        intro hse _
        rw [hse] at hH
        rw [hv25.2.2.1]
        have hse2 : dSe (movF law d l) < 2 ^ n := hw2'.2.1
        rw [show bOr ((dSe (dMi (movF law d l), dRo (movF law d l), dSe (movF law d l), dEf (movF law d l), dVa (movF law d l), (eatF o odds (dNu (movF law d l))).2, dWo (movF law d l)) : Nat) : Int) ((2 ^ l : Nat) : Int) = _ from bOr_nat (by show dSe (movF law d l) < _; omega) (pw31 (by omega))]
        refine hH _ (hFb.tr (FrC.u M25 _ (Or.inl rfl))) ?_
        obtain ⟨u1, u2, u3, u4, u5, u6, u7⟩ := hv25
        have e : ∀ q v0, q ≠ 2 → (upM M25 s 2 v0) s q = M25 s q := fun q v0 hq => by rw [upM_self, va_up_neq _ _ hq]
        exact ⟨by rw [e 0 _ (by decide)]; exact u1, by rw [e 1 _ (by decide)]; exact u2, by rw [upM_self, va_up_self]; rfl, by rw [e 3 _ (by decide)]; exact u4, by rw [e 4 _ (by decide)]; exact u5, by rw [e 5 _ (by decide)]; exact u6, fun i hi => by rw [upM_ne _ _ _ hss]; exact u7 i hi⟩
      have leave : (sealQ law (movF law d l) l || (eatF o odds (dNu (movF law d l))).1) = false → f 1 M25 := by
        intro hse
        rw [hse] at hH
        exact hH _ hFb hv25
      cases he : (eatF o odds (dNu (movF law d l))).1
      · rw [he] at setit leave
        refine ⟨⟨by decide, by decide⟩, fun y => absurd rfl y, fun _ => ⟨hlb, fun y => leave (by rw [hsq]; simp [y]), fun y => ⟨hlb, fun x => leave (by rw [hsq]; simp [x]), fun x => setit (by rw [hsq]; simp; exact ⟨y, x⟩)⟩⟩⟩
      · rw [he] at setit
        exact ⟨⟨by decide, by decide⟩, fun _ => setit (by simp), fun y => absurd y (by decide)⟩
theorem c_pushes {f : Int → Mem → Prop} {M : Mem} {s l : Nat} {d : DS} (hs : s = 36 ∨ s = 38) (hB : LwB law) (hl : l < n) (hw : wfD n d) (hD : CD n may law rust M) (hO : OpC o M) (hv : vC s d M)
    (H : ∀ M', FrC s M M' → vC s (pushF o law may rust d l).2 M' → f (bI (pushF o law may rust d l).1) M') : CI E mX0_pushes [pR 42, pR 21, pR s, pI (l : Int)] M f := by
  have hn := hD.2.1
  have hp := pw8 hn
  obtain ⟨v1, v2, v3, v4, v5, v6, v7⟩ := id hv
  have hmm := hD.2.2.1 (dRo d) hw.1
  have cb : ∀ mk : Nat, bt (andN mk (dSe d)) l = (if mk.testBit l && !(dSe d).testBit l then 1 else 0) := by
    intro mk; rw [bt_tb, andN_tb]
  apply vX0_pushes_0 _ hs
  rw [v2, v3]
  refine fun _ => ⟨fun c _ _ => ?_, fun c => ?_⟩
  · refine c_movable hD hw.1 (by have := hw.2.1; omega) ?_
    have hal := andN_le (may (dRo d)) (dSe d)
    refine c_pushes34 hs hB hl (by omega) ?_ hw hD hO hv H
    have hnl : oNl o = false := by rw [hO.2.2.1]; simp [c]
    rw [cb]; simp [canB, hnl]
  · refine c_all (Or.inr rfl) hD.1 hn ?_
    rw [v3, bAndN_nat (by omega) (by have := hw.2.1; omega)]
    intro _
    have hal := andN_le (2 ^ n - 1) (dSe d)
    refine c_pushes34 hs hB hl (by omega) ?_ hw hD hO hv H
    have hnl : oNl o = true := by rw [hO.2.2.1]; simp [c]
    rw [cb]; simp [canB, hnl, Nat.testBit_two_pow_sub_one, hl]
end CLOCK2
