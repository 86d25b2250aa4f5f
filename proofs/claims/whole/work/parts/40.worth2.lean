def FrW (dd : Nat) (M M' : Mem) : Prop := ∀ a, a ≠ dd + 3 → M' a = M a
theorem FrW.rf (dd : Nat) (M : Mem) : FrW dd M M := fun _ _ => rfl
theorem FrW.tr {dd : Nat} {M M1 M2 : Mem} (h1 : FrW dd M M1) (h2 : FrW dd M1 M2) : FrW dd M M2 := fun a ha => (h2 a ha).trans (h1 a ha)
theorem FrW.u (dd : Nat) (M : Mem) (i : Nat) (v : Int) : FrW dd M (upM M (dd + 3) i v) := fun a ha => upM_ne M i v ha
theorem c_worth_loop {E : Scr} {f : Int → Mem → Prop} {dd sc fr to : Nat} {lf : Int → Int → Int} {M0 : Mem} (hd : (dd = 15 ∧ sc = 19) ∨ (dd = 31 ∧ sc = 43)) (hto : to ≤ 64)
    (hk : ∀ i, fr ≤ i → i < to → iR (M0 (dd + 1) i)) (hlb : ∀ i, fr ≤ i → i < to → rk (M0 (dd + 1) i) = 0 → iR (lf (M0 (dd + 1) i) (M0 (dd + 2) i)))
    (hleaf : ∀ i, fr ≤ i → i < to → rk (M0 (dd + 1) i) = 0 → ∀ (M1 : Mem) (f' : Int → Mem → Prop), FrW dd M0 M1 → f' (lf (M0 (dd + 1) i) (M0 (dd + 2) i)) M1 → CI E mX6_leaf [pR sc, pI (M0 (dd + 1) i), pI (M0 (dd + 2) i)] M1 f') :
    ∀ (j i : Nat) (st : List Int) (M : Mem), i + j = to → fr ≤ i → st.length ≤ i - fr → FrW dd M0 M → SR (M (dd + 3)) st → (∀ v ∈ st, Bd v) →
    (∀ M', FrW dd M0 M' → f (orM (one1 (evS (M0 (dd + 1)) (M0 (dd + 2)) lf j i st))) M') →
    KW E mX2_worth (qL f) M 14 [(0, pR dd), (2, pI (to : Int)), (3, pR sc), (4, pI (st.length : Int)), (5, pI (i : Int))] [] := by
  intro j
  induction j with
  | zero =>
    intro i st M hij hfi hsl hF hs hb H
    have h := H M hF
    refine vX2_worth_14 _ _ _ hd ⟨⟨by omega, by omega⟩, ⟨by omega, by omega⟩, fun _ => ⟨⟨by omega, by omega⟩, fun c => ?_, fun c _ => ?_⟩, fun z => absurd z (by omega)⟩
    · have e : one1 (evS (M0 (dd + 1)) (M0 (dd + 2)) lf 0 i st) = none := by
        match st, c with
        | [], _ => rfl
        | [a], c => exact absurd rfl c
        | _ :: _ :: _, _ => rfl
      rw [e] at h; exact h
    · match st, c with
      | [a], _ =>
        have e := hs.top
        have e2 : M (dd + 3) 0 = a := e
        rw [e2]
        exact h
      | [], c => exact absurd c (by simp)
      | _ :: _ :: _, c => exact absurd c (by simp; omega)
  | succ j ih =>
    intro i st M hij hfi hsl hF hs hb H
    have r1 : M (dd + 1) = M0 (dd + 1) := hF _ (by omega)
    have r2 : M (dd + 2) = M0 (dd + 2) := hF _ (by omega)
    apply vX2_worth_14 _ _ _ hd
    rw [Int.toNat_natCast, r1]
    have hki := hk i hfi (by omega)
    refine ⟨⟨by omega, by omega⟩, ⟨by omega, by omega⟩, fun z => absurd z (by omega), fun _ => ⟨⟨by omega, by omega⟩, fun z => absurd z (by omega), fun _ => ⟨⟨by omega, by omega⟩, fun _ => ?_⟩⟩⟩
    refine c_sidesOf hki ?_
    rw [r1]
    -- what comes behind a value laid at the depth s.length
    have lay : ∀ (s : List Int) (v : Int), s.length < 64 → s.length ≤ i - fr → SR (M (dd + 3)) s → (∀ w ∈ s, Bd w) → Bd v → evS (M0 (dd + 1)) (M0 (dd + 2)) lf (j + 1) i st = evS (M0 (dd + 1)) (M0 (dd + 2)) lf j (i + 1) (v :: s) →
        KW E mX2_worth (qL f) (upM M (dd + 3) s.length v) 173 [(0, pR dd), (2, pI (to : Int)), (3, pR sc), (4, pI (s.length : Int)), (5, pI (i : Int))] [] := by
      intro s v hsl2 hsl3 hss hsb hvb heq
      have e1 : (upM M (dd + 3) s.length v) (dd + 3) s.length = v := by rw [upM_self, va_up_self]
      apply vX2_worth_173 _ _ _ hd
      rw [Int.toNat_natCast, e1]
      refine ⟨⟨by omega, by omega⟩, fun _ => ⟨fun _ => ?_, fun z => absurd z (by omega)⟩⟩
      have := ih (i + 1) (v :: s) (upM M (dd + 3) s.length v) (by omega) (by omega) (by simp; omega) (hF.tr (FrW.u dd M _ _)) (by rw [upM_self]; exact hss.push v) (fun w hw => by rcases List.mem_cons.mp hw with rfl | h; exact hvb; exact hsb w h) (fun M' a1 => by rw [← heq]; exact H M' a1)
      simpa using this
    have hsl4 : st.length < 64 := by omega
    have err : evS (M0 (dd + 1)) (M0 (dd + 2)) lf (j + 1) i st = none → f MINL M := by
      intro e
      have := H M hF
      rw [e] at this
      exact this
    by_cases h12 : M0 (dd + 1) i = 12
    · -- not
      rw [show sdC (M0 (dd + 1) i) = 1 by unfold sdC; rw [if_pos h12]]
      refine ⟨⟨by omega, by omega⟩, ⟨by omega, by omega⟩, fun z => err ?_, fun z => ⟨⟨by omega, by omega⟩, fun _ => ⟨⟨by omega, by omega⟩, fun _ => ⟨⟨by omega, by omega⟩, fun y => absurd rfl y, fun _ => ?_⟩, fun y => absurd y (by decide)⟩, fun y => absurd y (by omega)⟩⟩
      · have : st = [] := List.length_eq_zero_iff.mp (by omega)
        subst this
        simp only [evS, if_pos h12]
      · match st, z with
        | a :: s, _ =>
          have hl : ((a :: s).length : Int) - 1 = (s.length : Int) := by simp
          have hsl' : s.length < 64 := by simp at hsl4; omega
          have hsl'' : s.length ≤ i - fr := by simp at hsl; omega
          rw [hl, Int.toNat_natCast, hs.top]
          refine ⟨⟨by omega, by omega⟩, fun _ => ⟨fun y => ⟨⟨by omega, by omega⟩, ?_⟩, fun y => ⟨⟨by omega, by omega⟩, ?_⟩⟩⟩
          · exact lay s 0 hsl' hsl'' hs.pop (fun w hw => hb w (List.mem_cons_of_mem _ hw)) ⟨by decide, by decide⟩ (by simp only [evS, if_pos h12, if_neg y])
          · exact lay s 1 hsl' hsl'' hs.pop (fun w hw => hb w (List.mem_cons_of_mem _ hw)) ⟨by decide, by decide⟩ (by simp only [evS, if_pos h12, if_pos y])
        | [], z => exact absurd z (by simp)
    · by_cases h0 : rk (M0 (dd + 1) i) = 0
      · rw [show sdC (M0 (dd + 1) i) = 0 by unfold sdC; rw [if_neg h12, if_pos h0]]
        refine ⟨⟨by omega, by omega⟩, ⟨by omega, by omega⟩, fun z => absurd z (by omega), fun z => ⟨⟨by omega, by omega⟩, fun _ => ⟨⟨by omega, by omega⟩, fun y => absurd rfl y, fun _ => ⟨⟨by omega, by omega⟩, fun _ => ⟨⟨by omega, by omega⟩, fun _ => ?_⟩⟩⟩, fun y => absurd y (by omega)⟩⟩
        rw [r2]
        refine hleaf i hfi (by omega) h0 M _ hF ?_
        have hlv := hlb i hfi (by omega) h0
        rw [show (st.length : Int) - 0 = (st.length : Int) by omega, Int.toNat_natCast]
        exact ⟨hlv, ⟨by omega, by omega⟩, lay st _ hsl4 hsl hs hb ⟨by omega, by omega⟩ (by simp only [evS, if_neg h12, if_pos h0])⟩
      · rw [show sdC (M0 (dd + 1) i) = 2 by unfold sdC; rw [if_neg h12, if_neg h0]]
        refine ⟨⟨by omega, by omega⟩, ⟨by omega, by omega⟩, fun z => err ?_, fun z => ⟨⟨by omega, by omega⟩, fun _ => ⟨⟨by omega, by omega⟩, fun _ => ⟨⟨by omega, by omega⟩, fun _ => ⟨⟨by omega, by omega⟩, fun y => absurd y (by omega), fun _ => ⟨⟨by omega, by omega⟩, fun _ => ?_⟩⟩, fun y => absurd y (by decide)⟩, fun y => absurd y (by decide)⟩, fun y => absurd y (by omega)⟩⟩
        · match st, z with
          | [], _ => simp only [evS, if_neg h12, if_neg h0]
          | [a], _ => simp only [evS, if_neg h12, if_neg h0]
          | _ :: _ :: _, z => exact absurd z (by simp; omega)
        · match st, z with
          | b :: a :: s, _ =>
            have hl : ((b :: a :: s).length : Int) - 2 = (s.length : Int) := by simp; omega
            have hl2 : ((b :: a :: s).length : Int) - 2 + 1 = ((s.length + 1 : Nat) : Int) := by simp; omega
            have hsl' : s.length < 64 := by simp at hsl4; omega
            have hsl'' : s.length ≤ i - fr := by simp at hsl; omega
            have eb : M (dd + 3) (s.length + 1) = b := by have := hs.top; simpa using this
            have ea : M (dd + 3) s.length = a := hs.pop.top
            rw [hl2, Int.toNat_natCast, hl, Int.toNat_natCast, ea, eb]
            have ba : Bd a := hb a (by simp)
            have bb : Bd b := hb b (by simp)
            have hlen : (s.length + 1 : Nat) < 64 := by simp at hsl4; omega
            refine ⟨⟨by omega, by omega⟩, fun _ => ⟨⟨by omega, by omega⟩, fun _ => ?_⟩⟩
            refine c_joined hki h0 h12 ba bb ?_
            refine ⟨⟨by omega, by omega⟩, ?_, ?_⟩
            · cases hj : opJ (cm (M0 (dd + 1) i)) a b with
              | none => exact ⟨by decide, by decide⟩
              | some v =>
                have := opJ_Bd ba hj
                show lR v
                exact ⟨by omega, by omega⟩
            · cases hj : opJ (cm (M0 (dd + 1) i)) a b with
              | none =>
                have e1 : (upM M (dd + 3) s.length MINL) (dd + 3) s.length = MINL := by rw [upM_self, va_up_self]
                have e2 : evS (M0 (dd + 1)) (M0 (dd + 2)) lf (j + 1) i (b :: a :: s) = none := by simp only [evS, if_neg h12, if_neg h0, hj]
                show KW E mX2_worth (qL f) (upM M (dd + 3) s.length MINL) 173 _ _
                apply vX2_worth_173 _ _ _ hd
                rw [Int.toNat_natCast, e1]
                refine ⟨⟨by omega, by omega⟩, fun _ => ⟨fun y => absurd rfl y, fun _ => ?_⟩⟩
                have := H _ (hF.tr (FrW.u dd M s.length MINL))
                rw [e2] at this
                exact this
              | some v =>
                exact lay s v hsl' hsl'' hs.pop.pop (fun w hw => hb w (List.mem_cons_of_mem _ (List.mem_cons_of_mem _ hw))) (opJ_Bd ba hj) (by simp only [evS, if_neg h12, if_neg h0, hj])
          | [], z => exact absurd z (by simp)
          | [a], z => exact absurd z (by simp)
theorem c_worth {E : Scr} {f : Int → Mem → Prop} {dd sc fr to : Nat} {lf : Int → Int → Int} {M : Mem} (hd : (dd = 15 ∧ sc = 19) ∨ (dd = 31 ∧ sc = 43)) (hft : fr ≤ to) (hto : to ≤ 64)
    (hk : ∀ i, fr ≤ i → i < to → iR (M (dd + 1) i)) (hlb : ∀ i, fr ≤ i → i < to → rk (M (dd + 1) i) = 0 → iR (lf (M (dd + 1) i) (M (dd + 2) i)))
    (hleaf : ∀ i, fr ≤ i → i < to → rk (M (dd + 1) i) = 0 → ∀ (M1 : Mem) (f' : Int → Mem → Prop), FrW dd M M1 → f' (lf (M (dd + 1) i) (M (dd + 2) i)) M1 → CI E mX6_leaf [pR sc, pI (M (dd + 1) i), pI (M (dd + 2) i)] M1 f')
    (H : ∀ M', FrW dd M M' → f (orM (one1 (evS (M (dd + 1)) (M (dd + 2)) lf (to - fr) fr []))) M') : CL E mX2_worth [pR dd, pI (fr : Int), pI (to : Int), pR sc] M f := by
  refine vX2_worth_0 _ _ hd ⟨⟨by omega, by omega⟩, fun _ => ?_, fun z => absurd z (by omega)⟩
  exact c_worth_loop hd hto hk hlb hleaf (to - fr) fr [] M (by omega) (Nat.le_refl _) (by simp) (FrW.rf dd M) (fun i v h => by simp at h) (fun v h => by simp at h) H
