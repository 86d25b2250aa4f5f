theorem opJ_and (a b : Int) : opJ 3 a b = some (if a ≠ 0 ∧ b ≠ 0 then 1 else 0) := rfl
theorem opJ_or (a b : Int) : opJ 4 a b = some (if a ≠ 0 ∨ b ≠ 0 then 1 else 0) := rfl
theorem opJ_11 (a b : Int) : opJ 11 a b = bnd (a + b) := rfl
theorem opJ_12 (a b : Int) : opJ 12 a b = bnd (a - b) := rfl
theorem opJ_13 (a b : Int) : opJ 13 a b = mulB a b := rfl
theorem opJ_14 (a b : Int) : opJ 14 a b = (if b = 0 then none else some (Int.tdiv a b)) := rfl
theorem c_val259 {E : Scr} {f : Int → Mem → Prop} {M : Mem} {i : Nat} {a b : Int} (hi : i < 64) (ha : Bd a) (hb : Bd b) (hk : iR (M 116 i)) (hne : M 116 i ≠ 3 ∧ M 116 i ≠ 4 ∧ ¬ (11 ≤ M 116 i ∧ M 116 i ≤ 14)) (h : ∀ v, Bd v → opJ (M 116 i) a b = some v → f v M) : KW E mX11_valueOf (qL f) M 259 [(0, pR 98), (1, pI (i : Int)), (2, pL a), (4, pL b)] [] := by
  apply vX11_valueOf_259
  rw [Int.toNat_natCast]
  refine ⟨⟨by omega, by omega⟩, fun _ => ?_⟩
  refine c_compares hk ⟨by omega, by omega⟩ ⟨by omega, by omega⟩ (fun c _ hc => ?_) hne
  have hbd := opJ_Bd ha hc
  have h01 : c = 0 ∨ c = 1 := by
    unfold opJ at hc
    rw [if_neg hne.1, if_neg hne.2.1] at hc
    by_cases h5 : M 116 i = 5
    · rw [if_pos h5] at hc; cases hc; split <;> simp
    rw [if_neg h5] at hc
    by_cases h6 : M 116 i = 6
    · rw [if_pos h6] at hc; cases hc; split <;> simp
    rw [if_neg h6] at hc
    by_cases h7 : M 116 i = 7
    · rw [if_pos h7] at hc; cases hc; split <;> simp
    rw [if_neg h7] at hc
    by_cases h8 : M 116 i = 8
    · rw [if_pos h8] at hc; cases hc; split <;> simp
    rw [if_neg h8] at hc
    by_cases h9 : M 116 i = 9
    · rw [if_pos h9] at hc; cases hc; split <;> simp
    rw [if_neg h9, if_neg (by omega), if_neg (by omega), if_neg (by omega), if_neg (by omega)] at hc
    cases hc; split <;> simp
  refine ⟨⟨by omega, by omega⟩, fun c0 => ?_, fun c0 => ?_⟩
  · subst c0; exact h 0 hbd hc
  · have : c = 1 := h01.resolve_left c0
    subst this; exact h 1 hbd hc
theorem c_valueOf {E : Scr} {f : Int → Mem → Prop} {M : Mem} {i lo : Nat} (hi : i < 64) (hwf : wfN lo i (M 116 i) (M 117 i) (M 118 i)) (hvs : ∀ j, lo ≤ j → j < i → Bd (M 122 j)) (henv : ∀ j, j < 7 → Bd (M 121 j)) (he : zR (M 98 50))
    (h0 : M 98 50 = 0 → ∀ v, Bd v → ndM (M 116 i) (M 117 i) (M 118 i) (M 121) (M 122) = some v → f v M)
    (h1 : M 98 50 = 0 → ndM (M 116 i) (M 117 i) (M 118 i) (M 121) (M 122) = none → f 0 (upM M 98 50 1))
    (h2 : M 98 50 = 1 → ∀ v, Bd v → f v M) : CL E mX11_valueOf [pR 98, pI (i : Int)] M f := by
  have fin : ∀ v, Bd v → ndM (M 116 i) (M 117 i) (M 118 i) (M 121) (M 122) = some v → f v M := by
    intro v hb hv
    rcases he with e | e
    · exact h0 e v hb hv
    · exact h2 e v hb
  have hin : (0 : Int) ≤ (i : Int) ∧ (i : Int) < 128 := ⟨by omega, by omega⟩
  apply vX11_valueOf_0
  rw [Int.toNat_natCast]
  unfold ndM at fin h0 h1
  refine ⟨hin, fun _ => ⟨fun c0 => ⟨hin, fun _ => ⟨fun c1 => ⟨hin, fun _ => ?_⟩, fun c1 => ⟨hin, fun _ => ?_⟩⟩⟩, fun c0 => ⟨hin, fun _ => ?_⟩⟩⟩
  · have hpa : (lo : Int) ≤ M 117 i ∧ M 117 i < i := by
      rcases hwf with w | w | w | w
      · exact absurd w.1 c0
      · exact absurd w.1 c1
      · exact w.2
      · exact ⟨w.2.2.1, w.2.2.2.1⟩
    rw [if_neg c0, if_neg c1] at h0 h1 fin
    have ba : Bd (M 122 (M 117 i).toNat) := hvs _ (by omega) (by omega)
    generalize hA : M 122 (M 117 i).toNat = va at *
    refine ⟨⟨by omega, by omega⟩, fun _ => ⟨hin, fun _ => ⟨fun c2 => ⟨hin, fun _ => ?_⟩, fun c2 => ?_⟩⟩⟩
    · have hot : 3 ≤ M 116 i ∧ M 116 i ≤ 14 ∧ (lo : Int) ≤ M 118 i ∧ M 118 i < i := by
        rcases hwf with w | w | w | w
        · exact absurd w.1 c0
        · exact absurd w.1 c1
        · exact absurd w.1 c2
        · exact ⟨w.1, w.2.1, w.2.2.2.2.1, w.2.2.2.2.2⟩
      rw [if_neg c2] at h0 h1 fin
      have bb : Bd (M 122 (M 118 i).toNat) := hvs _ (by omega) (by omega)
      generalize hB : M 122 (M 118 i).toNat = vb at *
      have cmp : M 116 i ≠ 3 ∧ M 116 i ≠ 4 ∧ ¬ (11 ≤ M 116 i ∧ M 116 i ≤ 14) → KW E mX11_valueOf (qL f) M 259 [(0, pR 98), (1, pI (i : Int)), (2, pL va), (4, pL vb)] [] := fun hz => c_val259 hi ba bb ⟨by omega, by omega⟩ hz fin
      refine ⟨⟨by omega, by omega⟩, fun _ => ⟨hin, fun _ => ⟨?_, ?_, ?_, ?_, ?_, ?_, ?_, ?_, ?_, ?_, ?_, ?_, ?_⟩⟩⟩
      · intro k; rw [k, opJ_and] at fin
        exact ⟨fun z => fin 0 ⟨by decide, by decide⟩ (by simp [z]), fun z => ⟨fun y => fin 0 ⟨by decide, by decide⟩ (by simp [y]), fun y => fin 1 ⟨by decide, by decide⟩ (by simp [z, y])⟩⟩
      · intro k; rw [k, opJ_or] at fin
        exact ⟨fun z => fin 1 ⟨by decide, by decide⟩ (by simp [z]), fun z => ⟨fun y => fin 0 ⟨by decide, by decide⟩ (by simp [z, y]), fun y => fin 1 ⟨by decide, by decide⟩ (by simp [y])⟩⟩
      · intro k; exact cmp (by omega)
      · intro k; exact cmp (by omega)
      · intro k; exact cmp (by omega)
      · intro k; exact cmp (by omega)
      · intro k; exact cmp (by omega)
      · intro k; exact cmp (by omega)
      · intro k; rw [k, opJ_11] at h0 h1
        exact c_bounded ⟨by omega, by omega⟩ he (fun z v hv => h0 z v (bnd_Bd hv) hv) h1 (fun z => h2 z 0 ⟨by decide, by decide⟩)
      · intro k; rw [k, opJ_12] at h0 h1
        exact c_bounded ⟨by omega, by omega⟩ he (fun z v hv => h0 z v (bnd_Bd hv) hv) h1 (fun z => h2 z 0 ⟨by decide, by decide⟩)
      · intro k; rw [k, opJ_13] at h0 h1
        exact c_times ba bb he (fun z v hv => h0 z v (mulB_le hv) hv) h1 (fun z => h2 z 0 ⟨by decide, by decide⟩)
      · intro k; rw [k, opJ_14] at h0 h1
        intro _
        refine ⟨fun z _ => ?_, fun z => ⟨fun y _ => ⟨y, ?_⟩, fun y _ => h1 z (by rw [if_pos y])⟩⟩
        · have e := he.resolve_left z
          rw [upM_same e]; exact h2 e 0 ⟨by decide, by decide⟩
        · rw [upM_same z]; exact h0 z _ (tdiv_Bd ba) (by rw [if_neg y])
      · intro k; exact cmp (by omega)
    · rw [if_pos c2] at fin
      exact ⟨fun z => fin 0 ⟨by decide, by decide⟩ (by rw [if_neg z]), fun z => fin 1 ⟨by decide, by decide⟩ (by rw [if_pos z])⟩
  · have hpa : 0 ≤ M 117 i ∧ M 117 i < 7 := by
      rcases hwf with w | w | w | w
      · exact absurd w.1 c0
      · exact w.2
      · exact absurd (c1.symm.trans w.1) (by decide)
      · exact absurd c1 (by omega)
    rw [if_neg c0, if_pos c1] at fin
    exact ⟨hpa, fun _ => fin _ (henv _ (by omega)) rfl⟩
  · have hpa : 0 ≤ M 117 i ∧ M 117 i ≤ 9999 := by
      rcases hwf with w | w | w | w
      · exact w.2
      · exact absurd (c0.symm.trans w.1) (by decide)
      · exact absurd (c0.symm.trans w.1) (by decide)
      · exact absurd c0 (by omega)
    rw [if_pos c0] at fin
    exact fin _ ⟨by omega, by omega⟩ rfl
/-- the knots of a law, one behind another -/
def rnM (kn pa ot env : Nat → Int) : Nat → Nat → (Nat → Int) → Option (Nat → Int)
  | 0, _, vs => some vs
  | j + 1, i, vs => match ndM (kn i) (pa i) (ot i) env vs with
    | some v => rnM kn pa ot env j (i + 1) (va_up vs i v)
    | none => none
/-- all but the worths and the error stays -/
def FrL (M M' : Mem) : Prop := ∀ a q, a ≠ 122 → ¬ (a = 98 ∧ q = 50) → M' a q = M a q
theorem FrL.rf (M : Mem) : FrL M M := fun _ _ _ _ => rfl
theorem FrL.tr {M M1 M2 : Mem} (h1 : FrL M M1) (h2 : FrL M1 M2) : FrL M M2 := fun a q ha hq => (h2 a q ha hq).trans (h1 a q ha hq)
theorem FrL.u1 (M : Mem) (i : Nat) (v : Int) : FrL M (upM M 122 i v) := fun a q ha _ => by rw [upM_ne M i v ha]
theorem FrL.u2 (M : Mem) (v : Int) : FrL M (upM M 98 50 v) := fun a q _ hq => by
  by_cases h : a = 98
  · subst h
    rw [upM_self, va_up_neq _ _ (fun e => hq ⟨rfl, e⟩)]
  · rw [upM_ne M _ v h]
theorem FrL.row {M M' : Mem} (h : FrL M M') {a : Nat} (h1 : a ≠ 122) (h2 : a ≠ 98) : M' a = M a := funext fun q => h a q h1 (fun z => h2 z.1)
theorem c_lawOf_loop {E : Scr} {f : Int → Mem → Prop} {lo hi k : Nat} (hk : k < 3) (hhi : hi ≤ 64) (hlt : lo < hi) : ∀ (j i : Nat) (M : Mem), i + j = hi → lo ≤ i → (∀ q, lo ≤ q → q < hi → wfN lo q (M 116 q) (M 117 q) (M 118 q)) → (∀ q, lo ≤ q → q < i → Bd (M 122 q)) → (∀ q, q < 7 → Bd (M 121 q)) → zR (M 98 50) → M 115 k = (hi : Int) →
    (∀ M' vs, FrL M M' → M 98 50 = 0 → M' 98 50 = 0 → Bd (vs (hi - 1)) → rnM (M 116) (M 117) (M 118) (M 121) j i (M 122) = some vs → f (vs (hi - 1)) M') →
    (∀ M', FrL M M' → M' 98 50 = 1 → (M 98 50 = 1 ∨ rnM (M 116) (M 117) (M 118) (M 121) j i (M 122) = none) → f 0 M') →
    KW E mX11_lawOf (qL f) M 12 [(0, pR 98), (1, pI (k : Int)), (2, pI (i : Int))] [] := by
  intro j
  induction j with
  | zero =>
    intro i M hij hli hwf hvs henv he hto H0 H1
    have hi' : i = hi := by omega
    subst hi'
    apply vX11_lawOf_12
    rw [Int.toNat_natCast, hto]
    refine ⟨⟨by omega, by omega⟩, fun _ => ⟨⟨by omega, by omega⟩, fun _ _ => ⟨fun z => ⟨⟨by omega, by omega⟩, fun _ => ⟨⟨by omega, by omega⟩, fun _ => ?_⟩⟩, fun z => ?_⟩, fun z => absurd z (by omega)⟩⟩
    · have := H0 M (M 122) (FrL.rf M) z z (hvs _ (by omega) (by omega)) rfl
      rwa [show ((i : Int) - 1).toNat = i - 1 by omega]
    · exact H1 M (FrL.rf M) (he.resolve_left z) (Or.inl (he.resolve_left z))
  | succ j ih =>
    intro i M hij hli hwf hvs henv he hto H0 H1
    apply vX11_lawOf_12
    rw [Int.toNat_natCast, hto]
    refine ⟨⟨by omega, by omega⟩, fun _ => ⟨⟨by omega, by omega⟩, fun z => absurd z (by omega), fun _ => ?_⟩⟩
    -- what comes behind one knot
    have step : ∀ (M1 : Mem) (v : Int), FrL M M1 → M1 122 = M 122 → Bd v → zR (M1 98 50) →
        (M1 98 50 = 0 → M 98 50 = 0 ∧ ndM (M 116 i) (M 117 i) (M 118 i) (M 121) (M 122) = some v) → (M1 98 50 = 1 → M 98 50 = 1 ∨ ndM (M 116 i) (M 117 i) (M 118 i) (M 121) (M 122) = none) →
        (0 ≤ (i : Int) ∧ (i : Int) < 64) ∧ lR v ∧ KW E mX11_lawOf (qL f) (upM M1 122 (i : Int).toNat v) 12 [(0, pR 98), (1, pI (k : Int)), (2, pI ((i : Int) + 1))] [] := by
      intro M1 v hF h122 hb hz e0 e1
      refine ⟨⟨by omega, by omega⟩, ⟨by omega, by omega⟩, ?_⟩
      rw [Int.toNat_natCast]
      have hF2 : FrL M (upM M1 122 i v) := hF.tr (FrL.u1 M1 i v)
      have r6 := hF2.row (a := 116) (by decide) (by decide)
      have r7 := hF2.row (a := 117) (by decide) (by decide)
      have r8 := hF2.row (a := 118) (by decide) (by decide)
      have r1 := hF2.row (a := 121) (by decide) (by decide)
      have r5 := hF2.row (a := 115) (by decide) (by decide)
      have r50 : (upM M1 122 i v) 98 50 = M1 98 50 := by rw [upM_ne M1 i v (show 98 ≠ 122 by decide)]
      have r22 : (upM M1 122 i v) 122 = va_up (M 122) i v := by rw [upM_self, h122]
      refine ih (i + 1) (upM M1 122 i v) (by omega) (by omega) ?_ ?_ ?_ ?_ ?_ ?_ ?_
      · rw [r6, r7, r8]; exact hwf
      · intro q h1 h2
        rw [r22]
        by_cases hq : q = i
        · subst hq; rw [va_up_self]; exact hb
        · rw [va_up_neq _ _ hq]; exact hvs q h1 (by omega)
      · rw [r1]; exact henv
      · rw [r50]; exact hz
      · rw [r5]; exact hto
      · intro M' vs hM' a1 a2 ab a3
        rw [r50] at a1
        rw [r6, r7, r8, r1, r22] at a3
        refine H0 M' vs (hF2.tr hM') (e0 a1).1 a2 ab ?_
        simp only [rnM, (e0 a1).2]
        exact a3
      · intro M' hM' a2 a3
        rw [r50, r6, r7, r8, r1, r22] at a3
        refine H1 M' (hF2.tr hM') a2 ?_
        rcases hz with z | z
        · rcases a3 with a3 | a3
          · exact absurd (z.symm.trans a3) (by decide)
          · right
            simp only [rnM, (e0 z).2]
            exact a3
        · rcases e1 z with y | y
          · exact Or.inl y
          · right; simp only [rnM, y]
    refine c_valueOf (lo := lo) (by omega) (hwf i hli (by omega)) hvs henv he ?_ ?_ ?_
    · intro e v hb hv
      exact step M v (FrL.rf M) rfl hb he (fun _ => ⟨e, hv⟩) (fun z => absurd (e.symm.trans z) (by decide))
    · intro e hv
      have e1 : (upM M 98 50 1) 98 50 = 1 := by rw [upM_self, va_up_self]
      exact step (upM M 98 50 1) 0 (FrL.u2 M 1) (upM_ne M _ _ (by decide)) ⟨by decide, by decide⟩ (Or.inr e1) (fun z => absurd (e1.symm.trans z) (by decide)) (fun _ => Or.inr hv)
    · intro e v hb
      exact step M v (FrL.rf M) rfl hb he (fun z => absurd (e.symm.trans z) (by decide)) (fun _ => Or.inl e)
theorem c_lawOf {E : Scr} {f : Int → Mem → Prop} {lo hi k : Nat} {M : Mem} (hk : k < 3) (hhi : hi ≤ 64) (hlt : lo < hi) (hwf : ∀ q, lo ≤ q → q < hi → wfN lo q (M 116 q) (M 117 q) (M 118 q)) (henv : ∀ q, q < 7 → Bd (M 121 q)) (hfr : M 114 k = (lo : Int)) (hto : M 115 k = (hi : Int))
    (H0 : ∀ M' vs, FrL M M' → M' 98 50 = 0 → Bd (vs (hi - 1)) → rnM (M 116) (M 117) (M 118) (M 121) (hi - lo) lo (M 122) = some vs → f (vs (hi - 1)) M')
    (H1 : ∀ M', FrL M M' → M' 98 50 = 1 → rnM (M 116) (M 117) (M 118) (M 121) (hi - lo) lo (M 122) = none → f 0 M') : CL E mX11_lawOf [pR 98, pI (k : Int)] M f := by
  apply vX11_lawOf_0
  rw [Int.toNat_natCast, hfr]
  refine ⟨⟨by omega, by omega⟩, fun _ => ?_⟩
  have hF := FrL.u2 M 0
  have r6 := hF.row (a := 116) (by decide) (by decide)
  have r7 := hF.row (a := 117) (by decide) (by decide)
  have r8 := hF.row (a := 118) (by decide) (by decide)
  have r1 := hF.row (a := 121) (by decide) (by decide)
  have r5 := hF.row (a := 115) (by decide) (by decide)
  have r22 : (upM M 98 50 0) 122 = M 122 := upM_ne M _ _ (by decide)
  have e0 : (upM M 98 50 0) 98 50 = 0 := by rw [upM_self, va_up_self]
  refine c_lawOf_loop hk hhi hlt (hi - lo) lo _ (by omega) (Nat.le_refl _) ?_ ?_ ?_ (Or.inl e0) ?_ ?_ ?_
  · rw [r6, r7, r8]; exact hwf
  · intro q h1 h2; omega
  · rw [r1]; exact henv
  · rw [r5]; exact hto
  · intro M' vs h1 _ h3 hb4 h4
    rw [r6, r7, r8, r1, r22] at h4
    exact H0 M' vs (hF.tr h1) h3 hb4 h4
  · intro M' h1 h2 h3
    rw [r6, r7, r8, r1, r22, e0] at h3
    exact H1 M' (hF.tr h1) h2 (h3.resolve_left (by decide))
