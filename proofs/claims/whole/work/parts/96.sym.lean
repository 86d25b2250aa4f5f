/-! who leans on whom -/
def FJ (o : Nat) (lt0 : Nat → Nat) (s : FS) : Prop := (∀ l, l ≠ o → fL s l = lt0 l) ∧ (fL s o).testBit o = false ∧ ∀ e, e ∈ fU s → ((e.1 = 13 ∨ e.1 = 14) → (fL s o).testBit e.2.toNat = true) ∧ (e.1 = 16 → e.2.toNat ≠ o ∧ ∀ z, (lt0 e.2.toNat).testBit z = true → (fL s o).testBit z = true)
theorem stl_mem {r : Int} : ∀ (p : List Int) (u : KL) (e : Int × Int), e ∈ (stl r p u).2 → e ∈ u ∨ r ≤ rk e.1 := by
  intro p
  induction p with
  | nil => intro u e h; exact Or.inl h
  | cons k p ih =>
    intro u e h
    simp only [stl] at h
    by_cases c : rk k ≥ r
    · rw [if_pos c] at h
      rcases ih _ e h with z | z
      · rcases mem_sn z with y | y
        · exact Or.inl y
        · rw [y]; exact Or.inr c
      · exact Or.inr z
    · rw [if_neg c] at h; exact Or.inl h
theorem FJ.same {o : Nat} {lt0 : Nat → Nat} {s s' : FS} (h : FJ o lt0 s) (hL : fL s' = fL s) (hU : ∀ e, e ∈ fU s' → e ∈ fU s ∨ 1 ≤ rk e.1) : FJ o lt0 s' := by
  refine ⟨by rw [hL]; exact h.1, by rw [hL]; exact h.2.1, fun e he => ?_⟩
  rw [hL]
  rcases hU e he with z | z
  · exact h.2.2 e z
  · refine ⟨fun y => ?_, fun y => ?_⟩
    · rcases y with y | y <;> rw [y] at z <;> exact absurd z (by decide)
    · rw [y] at z; exact absurd z (by decide)
theorem rk_pos {k : Int} (h : rk k ≠ 0) : 1 ≤ rk k := by have := rk_b k; omega
section SYM
variable {bs : BF} {L : Nat} {n : Nat} {nm : Nat → Int} {ln : Nat}
theorem FJ.step {o : Nat} {lt0 : Nat → Nat} {s s' : FS} {b : Bool} (hb : ln.testBit o = false) (h : FJ o lt0 s) (hs : stepF bs L (o : Int) n nm ln s = Sum.inr (b, s')) : FJ o lt0 s' := by
  unfold stepF at hs
  by_cases cw : fW s = true
  · rw [if_pos cw] at hs
    by_cases c25 : tK (fT s) = 25
    · rw [if_pos c25] at hs
      by_cases c8 : 8 ≤ fO s
      · rw [if_pos c8] at hs; exact absurd hs (by simp)
      · rw [if_neg c8] at hs
        cases hs
        exact h.same rfl (fun e he => Or.inl he)
    rw [if_neg c25] at hs
    by_cases c12 : tK (fT s) = 12
    · rw [if_pos c12] at hs
      by_cases c8 : topR (fP s) > 3
      · rw [if_pos c8] at hs; exact absurd hs (by simp)
      rw [if_neg c8] at hs
      by_cases c9 : 64 ≤ fC s
      · rw [if_pos c9] at hs; exact absurd hs (by simp)
      rw [if_neg c9] at hs
      cases hs
      exact h.same rfl (fun e he => Or.inl he)
    rw [if_neg c12, if_neg (by omega)] at hs
    by_cases c13 : 13 ≤ tK (fT s) ∧ tK (fT s) ≤ 16
    · rw [if_pos c13] at hs
      by_cases c9 : 64 ≤ fC s
      · rw [if_pos c9] at hs; exact absurd hs (by simp)
      rw [if_neg c9] at hs
      generalize tok bs L (tN (fT s)) = t2 at hs
      unfold askF at hs
      by_cases c15 : tK (fT s) = 15
      · rw [if_pos c15] at hs
        by_cases d1 : tK t2 ≠ 37
        · rw [if_pos d1] at hs; exact absurd hs (by simp)
        rw [if_neg d1] at hs
        by_cases d2 : tV t2 > 8
        · rw [if_pos d2] at hs; exact absurd hs (by simp)
        rw [if_neg d2] at hs
        cases hs
        refine ⟨h.1, h.2.1, fun e he => ?_⟩
        rcases mem_sn he with z | z
        · exact h.2.2 e z
        · rw [z]; exact ⟨fun y => absurd y (by show ¬ ((15 : Int) = 13 ∨ (15 : Int) = 14); decide), fun y => absurd y (by show ¬ ((15 : Int) = 16); decide)⟩
      rw [if_neg c15] at hs
      by_cases d1 : tK t2 ≠ 38
      · rw [if_pos d1] at hs; exact absurd hs (by simp)
      rw [if_neg d1] at hs
      by_cases d2 : findN nm (tV t2) n 0 = -1
      · rw [if_pos d2] at hs; exact absurd hs (by simp)
      rw [if_neg d2] at hs
      rcases findN_c (nm := nm) (v := tV t2) n 0 with z | ⟨w, w1, w2, w3⟩
      · exact absurd z d2
      rw [w3] at hs
      simp only [Int.toNat_natCast] at hs
      by_cases c16 : tK (fT s) = 16
      · rw [if_pos c16] at hs
        by_cases d3 : ln.testBit w = false
        · rw [if_pos d3] at hs; exact absurd hs (by simp)
        rw [if_neg d3] at hs
        by_cases d4 : (fL s w).testBit o = true
        · rw [if_pos d4] at hs; exact absurd hs (by simp)
        rw [if_neg d4] at hs
        have hwo : w ≠ o := fun z => d3 (by rw [z]; exact hb)
        cases hs
        have eL : upN (fL s) o (fL s o ||| fL s w) o = fL s o ||| fL s w := upN_self _ _ _
        refine ⟨fun l hl => ?_, ?_, fun e he => ?_⟩
        · show upN (fL s) o (fL s o ||| fL s w) l = lt0 l
          rw [upN_ne _ _ hl]; exact h.1 l hl
        · show (upN (fL s) o (fL s o ||| fL s w) o).testBit o = false
          rw [eL, Nat.testBit_or, h.2.1]
          cases hz : (fL s w).testBit o
          · rfl
          · exact absurd hz d4
        · show _ ∧ (_ → _ ∧ ∀ z, _ → (upN (fL s) o (fL s o ||| fL s w) o).testBit z = true)
          show ((e.1 = 13 ∨ e.1 = 14) → (upN (fL s) o (fL s o ||| fL s w) o).testBit e.2.toNat = true) ∧ (e.1 = 16 → e.2.toNat ≠ o ∧ ∀ z, (lt0 e.2.toNat).testBit z = true → (upN (fL s) o (fL s o ||| fL s w) o).testBit z = true)
          rw [eL]
          rcases mem_sn he with z | z
          · have := h.2.2 e z
            exact ⟨fun y => by rw [Nat.testBit_or, this.1 y]; rfl, fun y => ⟨(this.2 y).1, fun q hq => by rw [Nat.testBit_or, (this.2 y).2 q hq]; rfl⟩⟩
          · rw [z]
            refine ⟨fun y => absurd y (by show ¬ ((16 : Int) = 13 ∨ (16 : Int) = 14); decide), fun _ => ⟨by show ((w : Int)).toNat ≠ o; omega, fun q hq => ?_⟩⟩
            have hq' : (lt0 (w : Int).toNat).testBit q = true := hq
            rw [Int.toNat_natCast] at hq'
            rw [Nat.testBit_or, h.1 w hwo, hq']
            cases (fL s o).testBit q <;> rfl
      rw [if_neg c16] at hs
      by_cases d3 : (w : Int) = (o : Int)
      · rw [if_pos d3] at hs; exact absurd hs (by simp)
      rw [if_neg d3] at hs
      cases hs
      have eL : upN (fL s) o (fL s o ||| 2 ^ w) o = fL s o ||| 2 ^ w := upN_self _ _ _
      refine ⟨fun l hl => ?_, ?_, fun e he => ?_⟩
      · show upN (fL s) o (fL s o ||| 2 ^ w) l = lt0 l
        rw [upN_ne _ _ hl]; exact h.1 l hl
      · show (upN (fL s) o (fL s o ||| 2 ^ w) o).testBit o = false
        rw [eL, Nat.testBit_or, h.2.1, Nat.testBit_two_pow]
        simp; omega
      · show ((e.1 = 13 ∨ e.1 = 14) → (upN (fL s) o (fL s o ||| 2 ^ w) o).testBit e.2.toNat = true) ∧ (e.1 = 16 → e.2.toNat ≠ o ∧ ∀ z, (lt0 e.2.toNat).testBit z = true → (upN (fL s) o (fL s o ||| 2 ^ w) o).testBit z = true)
        rw [eL]
        rcases mem_sn he with z | z
        · have := h.2.2 e z
          exact ⟨fun y => by rw [Nat.testBit_or, this.1 y]; rfl, fun y => ⟨(this.2 y).1, fun q hq => by rw [Nat.testBit_or, (this.2 y).2 q hq]; rfl⟩⟩
        · rw [z]
          refine ⟨fun _ => ?_, fun y => absurd y c16⟩
          show (fL s o ||| 2 ^ w).testBit (w : Int).toNat = true
          rw [Int.toNat_natCast, Nat.testBit_or, Nat.testBit_two_pow]
          simp
    · rw [if_neg c13] at hs; exact absurd hs (by simp)
  · rw [if_neg cw] at hs
    by_cases c1 : tK (fT s) = 24 ∧ fO s = 0
    · rw [if_pos c1] at hs
      cases hs
      exact h.same rfl (fun e he => stl_mem _ _ e he)
    rw [if_neg c1] at hs
    by_cases c2 : tK (fT s) = 26 ∧ 0 < fO s
    · rw [if_pos c2] at hs
      cases hs
      exact h.same rfl (fun e he => stl_mem _ _ e he)
    rw [if_neg c2] at hs
    by_cases c3 : rk (tK (fT s)) = 0 ∨ tK (fT s) = 12 ∨ (0 ≤ (o : Int) ∧ 4 ≤ rk (tK (fT s)))
    · rw [if_pos c3] at hs; exact absurd hs (by simp)
    rw [if_neg c3] at hs
    have hr : 1 ≤ (if rk (tK (fT s)) = 4 then 5 else rk (tK (fT s))) := by
      have := rk_b (tK (fT s))
      by_cases z : rk (tK (fT s)) = 4
      · rw [if_pos z]; decide
      · rw [if_neg z]; omega
    generalize (if rk (tK (fT s)) = 4 then 5 else rk (tK (fT s)) : Int) = rr at hs hr
    by_cases c4 : rk (tK (fT s)) = 4 ∧ topR (stl rr (fP s) (fU s)).1 = 4
    · rw [if_pos c4] at hs; exact absurd hs (by simp)
    rw [if_neg c4] at hs
    by_cases c5 : 64 ≤ fC s
    · rw [if_pos c5] at hs; exact absurd hs (by simp)
    rw [if_neg c5] at hs
    cases hs
    exact h.same rfl (fun e he => (stl_mem _ _ e he).imp id (fun z => by omega))
theorem fml_J {o : Nat} {lt0 : Nat → Nat} (hb : ln.testBit o = false) : ∀ (j : Nat) (s r : FS), FJ o lt0 s → fml bs L (o : Int) n nm ln j s = Sum.inr r → FJ o lt0 r := by
  intro j
  induction j with
  | zero => intro s r _ h; simp only [fml] at h; exact absurd h (by simp)
  | succ j ih =>
    intro s r hI h
    simp only [fml] at h
    cases es : stepF bs L (o : Int) n nm ln s with
    | inl e => rw [es] at h; exact absurd h (by simp)
    | inr p =>
      obtain ⟨b, s'⟩ := p
      rw [es] at h
      have hs := hI.step hb es
      cases b with
      | false =>
        have h' : (Sum.inr s' : Res FS) = Sum.inr r := h
        cases h'
        exact hs
      | true => exact ih s' r hs h
theorem stepF_L {s s' : FS} {b : Bool} (hs : stepF bs L (-1) n nm ln s = Sum.inr (b, s')) : fL s' = fL s := by
  unfold stepF at hs
  by_cases cw : fW s = true
  · rw [if_pos cw] at hs
    by_cases c25 : tK (fT s) = 25
    · rw [if_pos c25] at hs
      by_cases c8 : 8 ≤ fO s
      · rw [if_pos c8] at hs; exact absurd hs (by simp)
      · rw [if_neg c8] at hs; cases hs; rfl
    rw [if_neg c25] at hs
    by_cases c12 : tK (fT s) = 12
    · rw [if_pos c12] at hs
      by_cases c8 : topR (fP s) > 3
      · rw [if_pos c8] at hs; exact absurd hs (by simp)
      rw [if_neg c8] at hs
      by_cases c9 : 64 ≤ fC s
      · rw [if_pos c9] at hs; exact absurd hs (by simp)
      rw [if_neg c9] at hs; cases hs; rfl
    rw [if_neg c12, if_pos (by decide)] at hs
    by_cases c13 : tK (fT s) = 37 ∨ (17 ≤ tK (fT s) ∧ tK (fT s) ≤ 23)
    · rw [if_pos c13] at hs
      by_cases c9 : 64 ≤ fC s
      · rw [if_pos c9] at hs; exact absurd hs (by simp)
      rw [if_neg c9] at hs
      by_cases c10 : tK (fT s) = 37 ∧ tV (fT s) > 9999
      · rw [if_pos c10] at hs; exact absurd hs (by simp)
      rw [if_neg c10] at hs; cases hs; rfl
    · rw [if_neg c13] at hs; exact absurd hs (by simp)
  · rw [if_neg cw] at hs
    by_cases c1 : tK (fT s) = 24 ∧ fO s = 0
    · rw [if_pos c1] at hs; cases hs; rfl
    rw [if_neg c1] at hs
    by_cases c2 : tK (fT s) = 26 ∧ 0 < fO s
    · rw [if_pos c2] at hs; cases hs; rfl
    rw [if_neg c2] at hs
    by_cases c3 : rk (tK (fT s)) = 0 ∨ tK (fT s) = 12 ∨ (0 ≤ (-1 : Int) ∧ 4 ≤ rk (tK (fT s)))
    · rw [if_pos c3] at hs; exact absurd hs (by simp)
    rw [if_neg c3] at hs
    generalize (if rk (tK (fT s)) = 4 then 5 else rk (tK (fT s)) : Int) = rr at hs
    by_cases c4 : rk (tK (fT s)) = 4 ∧ topR (stl rr (fP s) (fU s)).1 = 4
    · rw [if_pos c4] at hs; exact absurd hs (by simp)
    rw [if_neg c4] at hs
    by_cases c5 : 64 ≤ fC s
    · rw [if_pos c5] at hs; exact absurd hs (by simp)
    rw [if_neg c5] at hs; cases hs; rfl
theorem fml_L : ∀ (j : Nat) (s r : FS), fml bs L (-1) n nm ln j s = Sum.inr r → fL r = fL s := by
  intro j
  induction j with
  | zero => intro s r h; simp only [fml] at h; exact absurd h (by simp)
  | succ j ih =>
    intro s r h
    simp only [fml] at h
    cases es : stepF bs L (-1) n nm ln s with
    | inl e => rw [es] at h; exact absurd h (by simp)
    | inr p =>
      obtain ⟨b, s'⟩ := p
      rw [es] at h
      have hs := stepF_L es
      cases b with
      | false =>
        have h' : (Sum.inr s' : Res FS) = Sum.inr r := h
        cases h'
        exact hs
      | true => exact (ih s' r h).trans hs
end SYM
def PJ (b : PB) : Prop := (∀ o, b.1.testBit o = false → b.2.1 o = 0) ∧ ∀ e, e ∈ b.2.2.2 → (b.2.1 e.1).testBit e.1 = false ∧ ∀ v, v ∈ e.2.1 → ((v.1 = 13 ∨ v.1 = 14) → (b.2.1 e.1).testBit v.2.toNat = true) ∧ (v.1 = 16 → ∀ z, (b.2.1 v.2.toNat).testBit z = true → (b.2.1 e.1).testBit z = true)
section SYM2
variable {bs : BF} {L : Nat} {s r : PSt}
theorem PJ.lean (hI : PI L s) (h : PJ s.2.2.1) (e : leanP bs L s = Sum.inr r) : PJ r.2.2.1 := by
  obtain ⟨hTk, ⟨hn, hu⟩, ⟨hln, hlt, hlo, hll⟩, hps, hrs, ⟨hal, hal2, hal3⟩, h7, h8, -⟩ := id hI
  unfold leanP at e
  simp only at e
  generalize tok bs L (tN (sT s)) = t1 at *
  generalize tok bs L (tN t1) = t2 at *
  by_cases c2 : tK t1 ≠ 38
  · rw [if_pos c2] at e; exact absurd e (by simp)
  rw [if_neg c2] at e
  by_cases c3 : findN (sM s) (tV t1) (sN s) 0 = -1
  · rw [if_pos c3] at e; exact absurd e (by simp)
  rw [if_neg c3] at e
  rcases findN_c (nm := sM s) (v := tV t1) (sN s) 0 with z | ⟨o, o1, o2, o3⟩
  · exact absurd z c3
  rw [o3, Int.toNat_natCast] at e
  by_cases c4 : (sLn s).testBit o = true
  · rw [if_pos c4] at e; exact absurd e (by simp)
  rw [if_neg c4] at e
  have hb : (sLn s).testBit o = false := by cases hz : (sLn s).testBit o with
    | true => exact absurd hz c4
    | false => rfl
  cases ef : fml bs L (o : Int) (sN s) (sM s) (sLn s) (L + 1) (fmS t2 (sC s) (sLt s)) with
  | inl w => rw [ef] at e; exact absurd e (by simp)
  | inr q =>
    rw [ef] at e
    have e' := Sum.inr.inj e
    subst e'
    have h0 : sLt s o = 0 := h.1 o hb
    obtain ⟨j1, j2, j3⟩ := fml_J (lt0 := sLt s) hb (L + 1) (fmS t2 (sC s) (sLt s)) q ⟨fun l _ => rfl, by show (sLt s o).testBit o = false; rw [h0]; exact Nat.zero_testBit o, fun e he => absurd he (show ¬ e ∈ ([] : KL) by simp)⟩ ef
    have hno : ∀ e, e ∈ sLf s → e.1 ≠ o := by
      intro e he z
      have := hlo o
      rw [hb] at this
      unfold lnOf at this
      rw [eq_comm, List.any_eq_false] at this
      exact this _ he (by simp [z])
    refine ⟨fun z hz => ?_, fun e he => ?_⟩
    · have hz' : (sLn s ||| 2 ^ o).testBit z = false := hz
      rw [Nat.testBit_or, Nat.testBit_two_pow] at hz'
      have hzo : z ≠ o := fun y => by rw [y] at hz'; simp at hz'
      have hzl : (sLn s).testBit z = false := by
        cases hy : (sLn s).testBit z
        · rfl
        · rw [hy] at hz'; simp at hz'
      show fL q z = 0
      rw [j1 z hzo]; exact h.1 z hzl
    · show (fL q e.1).testBit e.1 = false ∧ ∀ v, v ∈ e.2.1 → ((v.1 = 13 ∨ v.1 = 14) → (fL q e.1).testBit v.2.toNat = true) ∧ (v.1 = 16 → ∀ z, (fL q v.2.toNat).testBit z = true → (fL q e.1).testBit z = true)
      rcases mem_sn he with z | z
      · have hk := h.2 e z
        have heo := hno e z
        rw [j1 e.1 heo]
        refine ⟨hk.1, fun v hv => ⟨(hk.2 v hv).1, fun y w hw => ?_⟩⟩
        obtain ⟨i, hi⟩ := List.getElem?_of_mem z
        have hmm := h8 i e.1 e.2.1 e.2.2.1 e.2.2.2 hi
        obtain ⟨l0, a1, a2⟩ := hmm.1 v hv
        have hv0 : v.2.toNat ≠ o := by
          intro hvo
          rcases a1 with ⟨b1, -⟩ | ⟨b1, -⟩ | ⟨-, b1 | b1 | b1⟩
          · rw [y] at b1; exact absurd (by decide) b1
          · exact b1
          · omega
          · omega
          · have := a2 _ b1.2.2.2
            have h3 : lnOf (sLf s) v.2.toNat = true := by
              unfold lnOf at this ⊢
              rw [List.any_eq_true] at this ⊢
              obtain ⟨e2, m1, m2⟩ := this
              exact ⟨e2, List.mem_of_mem_take m1, m2⟩
            rw [← hlo, hvo, hb] at h3
            exact absurd h3 (by decide)
        rw [j1 _ hv0] at hw
        exact (hk.2 v hv).2 y w hw
      · rw [z]
        refine ⟨j2, fun v hv => ?_⟩
        have := j3 v hv
        refine ⟨this.1, fun y w hw => (this.2 y).2 w ?_⟩
        rw [j1 _ (this.2 y).1] at hw
        exact hw
theorem PJ.line (hI : PI L s) (h : PJ s.2.2.1) (e : lineP bs L s = Sum.inr r) : PJ r.2.2.1 := by
  unfold lineP at e
  by_cases c0 : tK (sT s) = 0
  · rw [if_pos c0] at e
    unfold latchP at e
    simp only at e
    repeat' split at e
    all_goals first
      | (have e' := Sum.inr.inj e; subst e'; exact h)
      | exact absurd e (by simp)
  rw [if_neg c0] at e
  by_cases c1 : tK (sT s) = 1
  · rw [if_pos c1] at e; exact PJ.lean hI h e
  rw [if_neg c1] at e
  by_cases c2 : tK (sT s) = 2
  · rw [if_pos c2] at e
    unfold pushP at e
    simp only at e
    repeat' split at e
    all_goals first
      | (have e' := Sum.inr.inj e; subst e'; exact h)
      | exact absurd e (by simp)
  rw [if_neg c2] at e
  by_cases c3 : tK (sT s) = 3
  · rw [if_pos c3] at e
    unfold oilP at e
    simp only at e
    repeat' split at e
    all_goals first
      | (have e' := Sum.inr.inj e; subst e'; exact h)
      | exact absurd e (by simp)
  rw [if_neg c3] at e
  by_cases c4 : tK (sT s) = 4
  · rw [if_pos c4] at e
    unfold rustP at e
    simp only at e
    repeat' split at e
    all_goals first
      | (have e' := Sum.inr.inj e; subst e'; exact h)
      | exact absurd e (by simp)
  rw [if_neg c4] at e
  by_cases c5 : tK (sT s) = 5
  · rw [if_pos c5] at e
    unfold seedP at e
    simp only at e
    repeat' split at e
    all_goals first
      | (have e' := Sum.inr.inj e; subst e'; exact h)
      | exact absurd e (by simp)
  rw [if_neg c5] at e
  by_cases c6 : tK (sT s) = 6
  · rw [if_pos c6] at e
    unfold lawP at e
    simp only at e
    by_cases d2 : tK (tok bs L (tN (sT s))) < 7 ∨ 9 < tK (tok bs L (tN (sT s)))
    · rw [if_pos d2] at e; exact absurd e (by simp)
    rw [if_neg d2] at e
    by_cases d4 : (sWf s (tK (tok bs L (tN (sT s))) - 7).toNat).length ≠ 0
    · rw [if_pos d4] at e; exact absurd e (by simp)
    rw [if_neg d4] at e
    cases ef : fml bs L (-1) (sN s) (sM s) (sLn s) (L + 1) (fmS (tok bs L (tN (tok bs L (tN (sT s))))) (sC s) (sLt s)) with
    | inl w => rw [ef] at e; exact absurd e (by simp)
    | inr q =>
      rw [ef] at e
      have e' := Sum.inr.inj e
      subst e'
      have hq : fL q = sLt s := fml_L _ _ q ef
      show PJ (sLn s, fL q, sRt s, sLf s)
      rw [hq]; exact h
  rw [if_neg c6] at e
  exact absurd e (by simp)
theorem PJ.lnE (hI : PI L s) (h : PJ s.2.2.1) (e : lineE bs L s = Sum.inr r) : PJ r.2.2.1 := by
  unfold lineE at e
  cases el : lineP bs L s with
  | inl w => rw [el] at e; exact absurd e (by simp)
  | inr q =>
    rw [el] at e
    simp only at e
    by_cases c : tK (sT q) = 24
    · rw [if_pos c] at e
      have e' := Sum.inr.inj e
      subst e'
      have := PJ.line hI h el
      exact this
    · rw [if_neg c] at e; exact absurd e (by simp)
theorem txt_PJ : ∀ (j m m' : Nat) (s r : PSt), PI L s → PJ s.2.2.1 → txtP bs L j m s = Sum.inr (r, m') → PI L r ∧ PJ r.2.2.1 := by
  intro j
  induction j with
  | zero => intro m m' s r h1 h2 e; simp only [txtP] at e; cases e; exact ⟨h1, h2⟩
  | succ j ih =>
    intro m m' s r h1 h2 e
    simp only [txtP] at e
    by_cases c : tK (sT s) = 39
    · rw [if_pos c] at e; cases e; exact ⟨h1, h2⟩
    rw [if_neg c] at e
    cases el : lineE bs L s with
    | inl w => rw [el] at e; exact absurd e (by simp)
    | inr q => rw [el] at e; exact ih (m + 1) m' q r (h1.lnE c el).1 (PJ.lnE h1 h2 el) e
theorem PJ.zero : PJ (ps0 bs L).2.2.1 := ⟨fun _ _ => rfl, fun e he => absurd he (show ¬ e ∈ ([] : List LF) by simp)⟩
/-- a latch's own row is not asked -/
theorem evB_congr {g g2 : Int → Int → Bool} : ∀ (P : KL) (st : List Bool), (∀ e, e ∈ P → e.1 ≠ 12 → e.1 ≠ 11 → e.1 ≠ 10 → g e.1 e.2 = g2 e.1 e.2) → evB g P st = evB g2 P st := by
  intro P
  induction P with
  | nil => intro st _; rfl
  | cons e P ih =>
    intro st h
    have h' : ∀ e', e' ∈ P → e'.1 ≠ 12 → e'.1 ≠ 11 → e'.1 ≠ 10 → g e'.1 e'.2 = g2 e'.1 e'.2 := fun e' he => h e' (List.mem_cons_of_mem _ he)
    simp only [evB]
    by_cases c12 : e.1 = 12
    · rw [if_pos c12, if_pos c12]
      match st with
      | [] => rfl
      | a :: s => exact ih _ h'
    rw [if_neg c12, if_neg c12]
    by_cases c11 : e.1 = 11
    · rw [if_pos c11, if_pos c11]
      match st with
      | [] => rfl
      | [_] => rfl
      | b :: a :: s => exact ih _ h'
    rw [if_neg c11, if_neg c11]
    by_cases c10 : e.1 = 10
    · rw [if_pos c10, if_pos c10]
      match st with
      | [] => rfl
      | [_] => rfl
      | b :: a :: s => exact ih _ h'
    rw [if_neg c10, if_neg c10, h e (List.mem_cons_self ..) c12 c11 c10]
    exact ih _ h'
theorem opP_sym {lt : Nat → Nat} {n q x y : Nat} {c : Int} (hxy : ∀ z, z ≠ q → x.testBit z = y.testBit z) : ∀ (l : List LF) (o1 o2 : Nat), (∀ e, e ∈ l → ∀ v, v ∈ e.2.1 → okB n v ∧ ((v.1 = 13 ∨ v.1 = 14) → (lt e.1).testBit v.2.toNat = true) ∧ (v.1 = 16 → ∀ z, (lt v.2.toNat).testBit z = true → (lt e.1).testBit z = true)) → (∀ z, (lt z).testBit q = false → o1.testBit z = o2.testBit z) → ∀ z, (lt z).testBit q = false → (opP x c l o1).testBit z = (opP y c l o2).testBit z := by
  intro l
  induction l with
  | nil => intro o1 o2 _ h; exact h
  | cons e l ih =>
    intro o1 o2 h1 h2
    simp only [opP]
    refine ih _ _ (fun e' he => h1 e' (List.mem_cons_of_mem _ he)) (fun z hz => ?_)
    by_cases ce : (lt e.1).testBit q = false
    · have hev : evB (lfB x c o1) e.2.1 [] = evB (lfB y c o2) e.2.1 [] := by
        refine evB_congr _ _ (fun v hv c12 c11 c10 => ?_)
        obtain ⟨k1, k2, k3⟩ := h1 e (List.mem_cons_self ..) v hv
        unfold lfB
        by_cases d13 : v.1 = 13
        · rw [if_pos d13, if_pos d13]
          exact hxy _ (fun z => by have := k2 (Or.inl d13); rw [z, ce] at this; exact absurd this (by decide))
        rw [if_neg d13, if_neg d13]
        by_cases d14 : v.1 = 14
        · rw [if_pos d14, if_pos d14, hxy _ (fun z => by have := k2 (Or.inr d14); rw [z, ce] at this; exact absurd this (by decide))]
        rw [if_neg d14, if_neg d14]
        by_cases d15 : v.1 = 15
        · rw [if_pos d15, if_pos d15]
        rw [if_neg d15, if_neg d15]
        have d16 : v.1 = 16 := by rcases k1 with z | z | z <;> omega
        refine h2 _ ?_
        cases hz : (lt v.2.toNat).testBit q
        · rfl
        · have := k3 d16 q hz
          rw [ce] at this; exact absurd this (by decide)
      rw [hev]
      cases hd1 (evB (lfB y c o2) e.2.1 [])
      · simp only [Bool.false_eq_true, if_false]; exact h2 z hz
      · simp only [if_true]
        rw [Nat.testBit_or, Nat.testBit_or, h2 z hz]
    · have hne : z ≠ e.1 := fun y => ce (by rw [← y]; exact hz)
      have hun : ∀ (b : Bool) (op : Nat), (if b = true then op ||| 2 ^ e.1 else op).testBit z = op.testBit z := by
        intro b op
        cases b
        · rfl
        · simp only [if_true]
          rw [Nat.testBit_or, Nat.testBit_two_pow]
          simp; omega
      rw [hun, hun]; exact h2 z hz
theorem opP_keep {x : Nat} {c : Int} {z : Nat} : ∀ (l : List LF) (op : Nat), op.testBit z = true → (opP x c l op).testBit z = true := by
  intro l
  induction l with
  | nil => intro op h; exact h
  | cons e l ih =>
    intro op h
    simp only [opP]
    refine ih _ ?_
    cases hd1 (evB (lfB x c op) e.2.1 [])
    · exact h
    · simp only [if_true]; rw [Nat.testBit_or, h]; rfl
theorem bt_xor {x q i : Nat} : bt (x ^^^ 2 ^ q) i = if i = q then 1 - bt x i else bt x i := by
  rw [bt_tb, bt_tb, Nat.testBit_xor, Nat.testBit_two_pow]
  by_cases e : i = q
  · subst e; cases x.testBit i <;> simp
  · rw [if_neg e]
    have : ¬ q = i := fun z => e z.symm
    cases x.testBit i <;> simp [this]
theorem popN_xor {x q : Nat} (h : x.testBit q = false) : ∀ m, popN m (x ^^^ 2 ^ q) = popN m x + if q < m then 1 else 0 := by
  intro m
  induction m with
  | zero => rfl
  | succ m ih =>
    simp only [popN]
    rw [ih, bt_xor]
    by_cases e : m = q
    · subst e
      have : bt x m = 0 := by rw [bt_tb, h]; rfl
      rw [this]; simp
    · rw [if_neg e]
      by_cases c : q < m
      · rw [if_pos c, if_pos (by omega)]; omega
      · rw [if_neg c, if_neg (by omega)]; omega
theorem mayP_tb {x q : Nat} : (mayP s x).testBit q = if x.testBit q = true then (opA s x ((pop x : Int) - 1)).testBit q else (opA s x (pop x : Int)).testBit q := by
  unfold mayP
  rw [Nat.testBit_or, andN_tb, Nat.testBit_and]
  cases x.testBit q <;> simp
theorem mayP_sym (hI : PI L s) (hJ : PJ s.2.2.1) : SymC (sN s) (mayP s) := by
  have key : ∀ r q, q < sN s → r.testBit q = false → (mayP s r).testBit q = (mayP s (r ^^^ 2 ^ q)).testBit q := by
    intro r q hq hb
    have hn : sN s ≤ 8 := hI.2.1.1
    have hb2 : (r ^^^ 2 ^ q).testBit q = true := by rw [Nat.testBit_xor, hb, Nat.testBit_two_pow]; simp
    rw [mayP_tb, mayP_tb, hb2, hb, if_pos rfl, if_neg (by decide)]
    have hp : pop (r ^^^ 2 ^ q) = pop r + 1 := by
      have := popN_xor hb 17
      rw [if_pos (by omega)] at this; exact this
    rw [hp, show ((pop r + 1 : Nat) : Int) - 1 = (pop r : Int) by omega]
    unfold opA
    refine opP_sym (lt := sLt s) (n := sN s) (q := q) (fun z hz => ?_) (sLf s) _ _ (fun e he v hv => ?_) (fun z _ => rfl) q ?_
    · rw [Nat.testBit_xor, Nat.testBit_two_pow]
      have : ¬ q = z := fun y => hz y.symm
      simp [this]
    · have h8 := hI.2.2.2.2.2.2.2.1
      obtain ⟨i, hi⟩ := List.getElem?_of_mem he
      obtain ⟨l0, a1, -⟩ := (h8 i e.1 e.2.1 e.2.2.1 e.2.2.2 hi).1 v hv
      have := (hJ.2 e he).2 v hv
      exact ⟨okEl_B a1, this.1, this.2⟩
    · have hlo := hI.2.2.1.2.2.1 q
      cases hz : (sLn s).testBit q with
      | false => have h0 : sLt s q = 0 := hJ.1 q hz
                 rw [h0]; exact Nat.zero_testBit q
      | true =>
        rw [hz] at hlo
        unfold lnOf at hlo
        rw [eq_comm, List.any_eq_true] at hlo
        obtain ⟨e, he1, he2⟩ := hlo
        have he3 : e.1 = q := by simpa using he2
        have := (hJ.2 e he1).1
        rw [he3] at this; exact this
  intro r hr q hq
  cases hb : r.testBit q with
  | false => exact key r q hq hb
  | true =>
    have hb2 : (r ^^^ 2 ^ q).testBit q = false := by rw [Nat.testBit_xor, hb, Nat.testBit_two_pow]; simp
    have := key (r ^^^ 2 ^ q) q hq hb2
    rw [xor_back] at this
    exact this.symm
theorem mayP_free (hI : PI L s) : LnO (sN s) (mayP s) (sLn s) := by
  refine ⟨hI.2.2.1.1, fun l hl hb r hr => ?_⟩
  have key : ∀ c, (opA s r c).testBit l = true := by
    intro c
    unfold opA
    refine opP_keep _ _ ?_
    rw [andN_tb, hb, Nat.testBit_two_pow_sub_one]
    simp [hl]
  rw [mayP_tb]
  cases r.testBit l
  · exact key _
  · exact key _
end SYM2
