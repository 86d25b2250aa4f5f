/-! the class: a state taken over, undone -/
theorem vC.congr {s : Nat} {d : DS} {M M' : Mem} (h : vC s d M) (h0 : M' s = M s) (h1 : M' (s + 1) = M (s + 1)) : vC s d M' := by
  unfold vC
  rw [h0, h1]
  exact h
section STATE
variable {E : Scr} {n : Nat}
theorem c_takeC {f : Mem → Prop} {M : Mem} {ss oo : Nat} {d : DS} (hs : isSt ss) (ho : isSt oo) (hne : ss + 2 ≤ oo ∨ oo + 2 ≤ ss) (hv : vC oo d M) (H : ∀ M', (∀ a, a ≠ ss → a ≠ ss + 1 → M' a = M a) → vC ss d M' → f M') : CV E mX7_take [pR ss, pR oo] M f := by
  refine vX7_take_0 hs ho (by omega) (by omega) (fun _ _ _ _ _ _ => H _ ?_ ?_)
  · intro a a1 a2
    rw [cpM_ne _ a2, upM_ne _ _ _ a1, upM_ne _ _ _ a1, upM_ne _ _ _ a1, upM_ne _ _ _ a1, upM_ne _ _ _ a1, upM_ne _ _ _ a1]
  · obtain ⟨v1, v2, v3, v4, v5, v6, v7⟩ := hv
    unfold vC
    rw [cpM_ne _ (show ss ≠ ss + 1 by omega), cpM_self]
    have e1 : ∀ (M0 : Mem) (k : Nat) (v : Int), upM M0 ss k v (oo + 1) = M0 (oo + 1) := fun M0 k v => upM_ne _ _ _ (by omega)
    simp only [upM_self, e1]
    refine ⟨v1, v2, v3, v4, v5, v6, fun i hi => ?_⟩
    simp only [va_cpy]
    rw [if_pos ⟨by omega, by omega⟩, show 0 + (i - 0) = i by omega]
    exact v7 i hi
theorem c_clearU {f : Mem → Prop} {M : Mem} (H : ∀ M', (∀ a, a ≠ 44 → M' a = M a) → M' 44 1 = 0 → M' 44 2 = 0 → f M') : CV E mX9_clear [pR 44] M f := by
  refine vX9_clear_0 (H _ ?_ rfl rfl)
  intro a a1
  rw [upM_ne _ _ _ a1, upM_ne _ _ _ a1]
/-- row, sealed, effort, worn: what an undoing brings back -/
abbrev UE : Type := Nat × Nat × Int × (Nat → Int)
abbrev US : Type := Nat × (Nat → UE)
def ueD (d : DS) (e : UE) : DS := (dMi d, e.1, e.2.1, e.2.2.1, dVa d, dNu d, e.2.2.2)
def dUe (d : DS) : UE := (dRo d, dSe d, dEf d, dWo d)
theorem ueD_dUe (d : DS) : ueD d (dUe d) = d := rfl
def remU (u : US) (e : UE) : US := if u.1 = 20 then (20, fun i => if i = 19 then e else u.2 (i + 1)) else (u.1 + 1, fun i => if i = u.1 then e else u.2 i)
def UC (u : US) (d : DS) (M : Mem) : Prop := u.1 ≤ 20 ∧ ∃ o : Nat, o < 20 ∧ M 44 1 = (o : Int) ∧ M 44 2 = (u.1 : Int) ∧ ∀ i, i < u.1 → vC (46 + 2 * ((o + i) % 20)) (ueD d (u.2 i)) M
theorem UC.congr {u : US} {d : DS} {M M' : Mem} (h : UC u d M) (e : ∀ a, 44 ≤ a → a < 86 → M' a = M a) : UC u d M' := by
  obtain ⟨h1, o, h2, h3, h4, h5⟩ := h
  refine ⟨h1, o, h2, by rw [e 44 (by decide) (by decide)]; exact h3, by rw [e 44 (by decide) (by decide)]; exact h4, fun i hi => (h5 i hi).congr (e _ (by omega) (by omega)) (e _ (by omega) (by omega))⟩
theorem UC.dd {u : US} {d d' : DS} {M : Mem} (h : UC u d M) (e1 : dMi d' = dMi d) (e2 : dVa d' = dVa d) (e3 : dNu d' = dNu d) : UC u d' M := by
  have e : ∀ x, ueD d' x = ueD d x := fun x => by unfold ueD; rw [e1, e2, e3]
  obtain ⟨h1, o, h2, h3, h4, h5⟩ := h
  exact ⟨h1, o, h2, h3, h4, fun i hi => by rw [e]; exact h5 i hi⟩
theorem UC.zero {u : US} {d : DS} {M : Mem} (h0 : u.1 = 0) (h1 : M 44 1 = 0) (h2 : M 44 2 = 0) : UC u d M := ⟨by omega, 0, by decide, h1, by rw [h2, h0]; rfl, fun i hi => by omega⟩
theorem tmodN {a : Nat} : Int.tmod (a : Int) 20 = ((a % 20 : Nat) : Int) := by
  rw [Int.tmod_eq_emod_of_nonneg (by omega)]; omega
theorem c_rememberC {f : Mem → Prop} {M : Mem} {d : DS} {u : US} (hu : UC u d M) (hv : vC 36 d M) (H : ∀ M', (∀ a, ¬ (44 ≤ a ∧ a < 86) → M' a = M a) → UC (remU u (dUe d)) d M' → f M') : CV E mX9_remember [pR 44, pR 36] M f := by
  obtain ⟨h1, o, h2, h3, h4, h5⟩ := hu
  have slot : ∀ j, j < 20 → isSt (46 + 2 * j) := fun j hj => (st_all j hj).2
  apply vX9_remember_0
  rw [h4, h3]
  refine fun _ => ⟨fun c _ _ => ?_, fun c _ => ?_⟩
  · rw [show (o : Int) + (u.1 : Int) = ((o + u.1 : Nat) : Int) by omega, tmodN, Int.toNat_natCast]
    have hm : (o + u.1) % 20 < 20 := Nat.mod_lt _ (by decide)
    refine ⟨⟨by omega, by omega⟩, ⟨by omega, by omega⟩, c_takeC (slot _ hm) isSt_36 (by omega) hv ?_⟩
    intro M1 hf1 hv1
    have e44 : M1 44 = M 44 := hf1 44 (by omega) (by omega)
    rw [e44, h4]
    refine fun _ => ⟨⟨by omega, by omega⟩, H _ ?_ ?_⟩
    · intro a ha
      rw [upM_ne _ _ _ (by omega), hf1 a (by omega) (by omega)]
    · unfold remU
      rw [if_neg (by omega)]
      refine ⟨by show u.1 + 1 ≤ 20; omega, o, h2, ?_, ?_, ?_⟩
      · rw [upM_self, va_up_neq _ _ (by decide), e44, h3]
      · rw [upM_self, va_up_self]; show _ = ((u.1 + 1 : Nat) : Int); omega
      · intro i hi
        have hi' : i < u.1 + 1 := hi
        show vC _ (ueD d (if i = u.1 then dUe d else u.2 i)) _
        by_cases hiu : i = u.1
        · rw [if_pos hiu, hiu, ueD_dUe]
          exact hv1.congr (upM_ne _ _ _ (by omega)) (upM_ne _ _ _ (by omega))
        · rw [if_neg hiu]
          refine (h5 i (by omega)).congr ?_ ?_
          · rw [upM_ne _ _ _ (by omega), hf1 _ (by omega) (by omega)]
          · rw [upM_ne _ _ _ (by omega), hf1 _ (by omega) (by omega)]
  · have hu20 : u.1 = 20 := by omega
    rw [show (o : Int) + 1 = ((o + 1 : Nat) : Int) by omega, tmodN, hu20]
    have hm0 : (o + 1) % 20 < 20 := Nat.mod_lt _ (by decide)
    refine ⟨⟨by omega, by omega⟩, ⟨by omega, by omega⟩, fun _ => ⟨⟨by omega, by omega⟩, fun _ _ => ?_⟩⟩
    rw [show (((o + 1) % 20 : Nat) : Int) + (((20 : Nat) : Int) - 1) = (((o + 1) % 20 + 19 : Nat) : Int) by omega, tmodN, Int.toNat_natCast]
    have hm : ((o + 1) % 20 + 19) % 20 < 20 := Nat.mod_lt _ (by decide)
    refine ⟨⟨by omega, by omega⟩, ⟨by omega, by omega⟩, c_takeC (slot _ hm) isSt_36 (by omega) (hv.congr ?_ ?_) ?_⟩
    · rw [upM_ne _ _ _ (by omega), upM_ne _ _ _ (by omega)]
    · rw [upM_ne _ _ _ (by omega), upM_ne _ _ _ (by omega)]
    intro M1 hf1 hv1
    have e44 : M1 44 = upM (upM M 44 1 (((o + 1) % 20 : Nat) : Int)) 44 2 (((20 : Nat) : Int) - 1) 44 := hf1 44 (by omega) (by omega)
    have e442 : M1 44 2 = 19 := by rw [e44, upM_self, va_up_self]; rfl
    have e441 : M1 44 1 = (((o + 1) % 20 : Nat) : Int) := by rw [e44, upM_self, va_up_neq _ _ (by decide), upM_self, va_up_self]
    rw [e442]
    refine fun _ => ⟨⟨by omega, by omega⟩, H _ ?_ ?_⟩
    · intro a ha
      rw [upM_ne _ _ _ (by omega), hf1 a (by omega) (by omega), upM_ne _ _ _ (by omega), upM_ne _ _ _ (by omega)]
    · unfold remU
      rw [if_pos hu20]
      refine ⟨by show 20 ≤ 20; omega, (o + 1) % 20, hm0, ?_, ?_, ?_⟩
      · rw [upM_self, va_up_neq _ _ (by decide), e441]
      · rw [upM_self, va_up_self]; rfl
      · intro i hi
        have hi' : i < 20 := hi
        show vC _ (ueD d (if i = 19 then dUe d else u.2 (i + 1))) _
        by_cases hiu : i = 19
        · rw [if_pos hiu, hiu, ueD_dUe]
          exact hv1.congr (upM_ne _ _ _ (by omega)) (upM_ne _ _ _ (by omega))
        · rw [if_neg hiu]
          have := h5 (i + 1) (by omega)
          rw [show (o + (i + 1)) % 20 = ((o + 1) % 20 + i) % 20 by omega] at this
          refine this.congr ?_ ?_
          · rw [upM_ne _ _ _ (by omega), hf1 _ (by omega) (by omega), upM_ne _ _ _ (by omega), upM_ne _ _ _ (by omega)]
          · rw [upM_ne _ _ _ (by omega), hf1 _ (by omega) (by omega), upM_ne _ _ _ (by omega), upM_ne _ _ _ (by omega)]
theorem c_takeBackC {f : Int → Mem → Prop} {M : Mem} {d : DS} {u : US} (hu : UC u d M) (hv : vC 36 d M) (H0 : u.1 = 0 → f (-1) M) (H : ∀ M' i, u.1 = i + 1 → (∀ a, a ≠ 36 → a ≠ 37 → a ≠ 44 → M' a = M a) → UC (i, u.2) (ueD d (u.2 i)) M' → vC 36 (ueD d (u.2 i)) M' → f (i : Int) M') : CI E mX9_takeBack [pR 44, pR 36] M f := by
  obtain ⟨h1, o, h2, h3, h4, h5⟩ := hu
  have slot : ∀ j, j < 20 → isSt (46 + 2 * j) := fun j hj => (st_all j hj).2
  apply vX9_takeBack_0
  rw [h4, h3]
  refine fun _ => ⟨fun c _ => ⟨⟨by omega, by omega⟩, fun _ _ => ?_⟩, fun c => H0 (by omega)⟩
  obtain ⟨i, hi⟩ : ∃ i, u.1 = i + 1 := ⟨u.1 - 1, by omega⟩
  rw [show (u.1 : Int) - 1 = (i : Int) by omega, show (o : Int) + (i : Int) = ((o + i : Nat) : Int) by omega, tmodN, Int.toNat_natCast]
  have hm : (o + i) % 20 < 20 := Nat.mod_lt _ (by decide)
  refine ⟨⟨by omega, by omega⟩, ⟨by omega, by omega⟩, c_takeC isSt_36 (slot _ hm) (by omega) ((h5 i (by omega)).congr (upM_ne _ _ _ (by omega)) (upM_ne _ _ _ (by omega))) ?_⟩
  intro M1 hf1 hv1
  have e44 : M1 44 = upM M 44 2 (i : Int) 44 := hf1 44 (by omega) (by omega)
  rw [e44, upM_self, va_up_self]
  refine fun _ => H M1 i hi ?_ ?_ hv1
  · intro a a1 a2 a3
    rw [hf1 a a1 a2, upM_ne _ _ _ a3]
  · refine UC.dd (d := d) ?_ rfl rfl rfl
    refine ⟨by show i ≤ 20; omega, o, h2, ?_, ?_, ?_⟩
    · rw [e44, upM_self, va_up_neq _ _ (by decide), h3]
    · rw [e44, upM_self, va_up_self]
    · intro j hj
      have hj' : j < i := hj
      refine (h5 j (by omega)).congr ?_ ?_
      · rw [hf1 _ (by omega) (by omega), upM_ne _ _ _ (by omega)]
      · rw [hf1 _ (by omega) (by omega), upM_ne _ _ _ (by omega)]
end STATE
