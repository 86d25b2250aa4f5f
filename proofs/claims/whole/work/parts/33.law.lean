/-! the laws' values: what one knot makes of its sides; the reference's valueOf, lawOf, boundLaw -/
abbrev Bd (x : Int) : Prop := -1000000000000 ≤ x ∧ x ≤ 1000000000000
def bnd (x : Int) : Option Int := if x > 1000000000000 ∨ x < -1000000000000 then none else some x
def absI (x : Int) : Int := if x < 0 then -x else x
def mulB (a b : Int) : Option Int := if a ≠ 0 ∧ b ≠ 0 ∧ absI b > Int.tdiv 1000000000000 (absI a) then none else some (a * b)
def b01 (p : Prop) [Decidable p] : Int := if p then 1 else 0
/-- signs by the reference's numbers: 3 and, 4 or, 5 .. 10 comparisons, 11 + 12 - 13 * 14 / -/
def opJ (k : Int) (a b : Int) : Option Int :=
  if k = 3 then some (if a ≠ 0 ∧ b ≠ 0 then 1 else 0)
  else if k = 4 then some (if a ≠ 0 ∨ b ≠ 0 then 1 else 0)
  else if k = 5 then some (if a < b then 1 else 0)
  else if k = 6 then some (if a ≤ b then 1 else 0)
  else if k = 7 then some (if a = b then 1 else 0)
  else if k = 8 then some (if a ≠ b then 1 else 0)
  else if k = 9 then some (if a ≥ b then 1 else 0)
  else if k = 11 then bnd (a + b)
  else if k = 12 then bnd (a - b)
  else if k = 13 then mulB a b
  else if k = 14 then (if b = 0 then none else some (Int.tdiv a b))
  else some (if a > b then 1 else 0)
theorem absI_pos {a : Int} (h : a ≠ 0) : 0 < absI a := by unfold absI; split <;> omega
theorem mulB_le {a b c : Int} (h : mulB a b = some c) : Bd c := by
  unfold mulB at h
  split at h
  · cases h
  · rename_i hc
    cases h
    by_cases ha : a = 0
    · subst ha; rw [Int.zero_mul]; exact ⟨by decide, by decide⟩
    · by_cases hb : b = 0
      · subst hb; rw [Int.mul_zero]; exact ⟨by decide, by decide⟩
      · have h1 : absI b ≤ Int.tdiv 1000000000000 (absI a) := by
          apply Int.not_lt.mp
          intro h2
          exact hc ⟨ha, hb, h2⟩
        have hp := absI_pos ha
        have h2 : absI b * absI a ≤ 1000000000000 := by
          rw [Int.tdiv_eq_ediv_of_nonneg (by decide)] at h1
          have h3 := Int.mul_le_mul_of_nonneg_right h1 (Int.le_of_lt hp)
          have h4 := Int.ediv_mul_le 1000000000000 (show absI a ≠ 0 by omega)
          omega
        have hpb := absI_pos hb
        have h5 : a * b = absI b * absI a ∨ a * b = -(absI b * absI a) := by
          unfold absI
          split <;> split
          · left; rw [Int.neg_mul_neg]; exact Int.mul_comm a b
          · right; rw [Int.neg_mul, Int.neg_neg]; exact Int.mul_comm a b
          · right; rw [Int.mul_neg, Int.neg_neg]; exact Int.mul_comm a b
          · left; exact Int.mul_comm a b
        have h6 : 0 < absI b * absI a := Int.mul_pos hpb hp
        omega
theorem tdiv_Bd {a b : Int} (h : Bd a) : Bd (Int.tdiv a b) := by
  have h1 := Int.natAbs_tdiv_le_natAbs a b
  omega
theorem ite01 {p : Prop} [Decidable p] {c : Int} (h : some (if p then (1 : Int) else 0) = some c) : Bd c := by
  by_cases hp : p
  · rw [if_pos hp] at h; cases h; exact ⟨by decide, by decide⟩
  · rw [if_neg hp] at h; cases h; exact ⟨by decide, by decide⟩
theorem bnd_Bd {x c : Int} (h : bnd x = some c) : Bd c := by
  unfold bnd at h
  split at h
  · cases h
  · cases h; omega
theorem opJ_Bd {k a b c : Int} (ha : Bd a) (h : opJ k a b = some c) : Bd c := by
  unfold opJ at h
  by_cases h3 : k = 3
  · rw [if_pos h3] at h; exact ite01 h
  rw [if_neg h3] at h
  by_cases h4 : k = 4
  · rw [if_pos h4] at h; exact ite01 h
  rw [if_neg h4] at h
  by_cases h5 : k = 5
  · rw [if_pos h5] at h; exact ite01 h
  rw [if_neg h5] at h
  by_cases h6 : k = 6
  · rw [if_pos h6] at h; exact ite01 h
  rw [if_neg h6] at h
  by_cases h7 : k = 7
  · rw [if_pos h7] at h; exact ite01 h
  rw [if_neg h7] at h
  by_cases h8 : k = 8
  · rw [if_pos h8] at h; exact ite01 h
  rw [if_neg h8] at h
  by_cases h9 : k = 9
  · rw [if_pos h9] at h; exact ite01 h
  rw [if_neg h9] at h
  by_cases h11 : k = 11
  · rw [if_pos h11] at h; exact bnd_Bd h
  rw [if_neg h11] at h
  by_cases h12 : k = 12
  · rw [if_pos h12] at h; exact bnd_Bd h
  rw [if_neg h12] at h
  by_cases h13 : k = 13
  · rw [if_pos h13] at h; exact mulB_le h
  rw [if_neg h13] at h
  by_cases h14 : k = 14
  · rw [if_pos h14] at h
    by_cases hb : b = 0
    · rw [if_pos hb] at h; cases h
    · rw [if_neg hb] at h; cases h; exact tdiv_Bd ha
  rw [if_neg h14] at h
  exact ite01 h
theorem upM_same {M : Mem} {a k : Nat} {v : Int} (h : M a k = v) : upM M a k v = M := by
  funext b
  by_cases hb : b = a
  · subst hb
    rw [upM_self]
    funext j
    by_cases hj : j = k
    · subst hj; rw [va_up_self, h]
    · rw [va_up_neq _ _ hj]
  · rw [upM_ne M k v hb]
theorem c_compares {E : Scr} {f : Int → Mem → Prop} {M : Mem} {k a b : Int} (hk : iR k) (ha : lR a) (hb : lR b) (h : ∀ c, (k ≠ 3 ∧ k ≠ 4 ∧ ¬ (11 ≤ k ∧ k ≤ 14)) → opJ k a b = some c → f c M) (hne : k ≠ 3 ∧ k ≠ 4 ∧ ¬ (11 ≤ k ∧ k ≤ 14)) : CI E mX11_compares [pI k, pL a, pL b] M f := by
  have h := fun c => h c hne
  unfold opJ at h
  rw [if_neg hne.1, if_neg hne.2.1] at h
  refine vX11_compares_0 _ _ _ ⟨hk, ?_, ?_, ?_, ?_, ?_, ?_⟩
  · rintro rfl; exact ⟨ha, hb, fun c => h 0 (by simp; omega), fun c => h 1 (by simp; omega)⟩
  · rintro rfl; exact ⟨ha, hb, fun c => h 0 (by simp; omega), fun c => h 1 (by simp; omega)⟩
  · rintro rfl; exact ⟨ha, hb, fun c => h 0 (by simp; omega), fun c => h 1 (by simp; omega)⟩
  · rintro rfl; exact ⟨ha, hb, fun c => h 0 (by simp; omega), fun c => h 1 (by simp; omega)⟩
  · rintro rfl; exact ⟨ha, hb, fun c => h 0 (by simp; omega), fun c => h 1 (by simp; omega)⟩
  · intro hk2
    rw [if_neg (by omega), if_neg (by omega), if_neg (by omega), if_neg (by omega), if_neg (by omega), if_neg (by omega), if_neg (by omega), if_neg (by omega), if_neg (by omega)] at h
    exact ⟨ha, hb, fun c => h 0 (by simp; omega), fun c => h 1 (by simp; omega)⟩
/-- what a knot is worth: its kind, its two parts, the names, the worths of knots ahead -/
def ndM (kn pa ot : Int) (env vs : Nat → Int) : Option Int :=
  if kn = 0 then some pa else if kn = 1 then some (env pa.toNat) else if kn = 2 then some (if vs pa.toNat = 0 then 1 else 0) else opJ kn (vs pa.toNat) (vs ot.toNat)
def wfN (lo i : Nat) (kn pa ot : Int) : Prop :=
  (kn = 0 ∧ 0 ≤ pa ∧ pa ≤ 9999) ∨ (kn = 1 ∧ 0 ≤ pa ∧ pa < 7) ∨ (kn = 2 ∧ (lo : Int) ≤ pa ∧ pa < i) ∨ (3 ≤ kn ∧ kn ≤ 14 ∧ (lo : Int) ≤ pa ∧ pa < i ∧ (lo : Int) ≤ ot ∧ ot < i)
theorem c_bounded {E : Scr} {f : Int → Mem → Prop} {M : Mem} {x : Int} (hx : lR x) (he : zR (M 98 50)) (h0 : M 98 50 = 0 → ∀ v, bnd x = some v → f v M) (h1 : M 98 50 = 0 → bnd x = none → f 0 (upM M 98 50 1)) (h2 : M 98 50 = 1 → f 0 M) : CL E mX11_bounded [pR 98, pL x] M f := by
  apply vX11_bounded_0
  unfold bnd at h0 h1
  intro _
  refine ⟨fun c _ => ?_, fun c => ⟨hx, fun d _ => h1 c (by rw [if_pos (Or.inl d)]), fun d => ⟨hx, fun g _ => ?_, fun g _ => h1 c (by rw [if_pos (Or.inr g)])⟩⟩⟩
  · have e : M 98 50 = 1 := he.resolve_left c
    rw [upM_same e]; exact h2 e
  · rw [upM_same c]; exact h0 c x (by rw [if_neg (by omega)])
theorem c_times_48 {E : Scr} {f : Int → Mem → Prop} {M : Mem} {a b : Int} (he : zR (M 98 50)) (h0 : M 98 50 = 0 → f (a * b) M) (h2 : M 98 50 = 1 → f 0 M) : KW E mX11_times (qL f) M 48 [(0, pR 98), (1, pL a), (3, pL b)] [] := by
  apply vX11_times_48
  intro _
  refine ⟨fun c _ => ?_, fun c _ => ?_⟩
  · have e : M 98 50 = 1 := he.resolve_left c
    rw [upM_same e]; exact h2 e
  · rw [upM_same c]; exact h0 c
theorem tdiv_lR {a : Int} (h : 0 < a) : lR (Int.tdiv 1000000000000 a) := by
  have h1 := Int.natAbs_tdiv_le_natAbs 1000000000000 a
  exact ⟨by omega, by omega⟩
theorem c_times_24 {E : Scr} {f : Int → Mem → Prop} {M : Mem} {a b : Int} (ha : Bd a) (hb : Bd b) (hna : a ≠ 0) (hnb : b ≠ 0) (he : zR (M 98 50)) (h0 : M 98 50 = 0 → ∀ v, mulB a b = some v → f v M) (h1 : M 98 50 = 0 → mulB a b = none → f 0 (upM M 98 50 1)) (h2 : M 98 50 = 1 → f 0 M) : KW E mX11_times (qL f) M 24 [(0, pR 98), (1, pL a), (3, pL b)] [pL (absI b)] := by
  have hsb : lR (absI b) := by unfold absI; split <;> exact ⟨by omega, by omega⟩
  have hp := absI_pos hna
  unfold mulB at h0 h1
  have big : absI b > Int.tdiv 1000000000000 (absI a) → ((zR (M 98 50)) → (((M 98 50) ≠ 0 → ((zR 1) → f 0 (upM M 98 50 1))) ∧ ((M 98 50) = 0 → ((zR 1) → f 0 (upM M 98 50 1))))) := by
    intro hg _
    refine ⟨fun c _ => ?_, fun c _ => h1 c (by rw [if_pos ⟨hna, hnb, hg⟩])⟩
    have e : M 98 50 = 1 := he.resolve_left c
    rw [upM_same e]; exact h2 e
  have small : absI b ≤ Int.tdiv 1000000000000 (absI a) → KW E mX11_times (qL f) M 48 [(0, pR 98), (1, pL a), (3, pL b)] [] := by
    intro hg
    exact c_times_48 he (fun c => h0 c _ (by rw [if_neg (by omega)])) h2
  refine vX11_times_24 _ _ _ ⟨⟨by omega, by omega⟩, fun c => ?_, fun c => ?_⟩
  · have e : absI a = a := by unfold absI; rw [if_neg (by omega)]
    rw [e] at big small hp
    exact ⟨⟨by omega, by omega⟩, hna, hsb, tdiv_lR hp, small, big⟩
  · have e : absI a = -a := by unfold absI; rw [if_pos c]
    rw [e] at big small hp
    exact ⟨⟨by omega, by omega⟩, by omega, hsb, tdiv_lR hp, small, big⟩
theorem c_times {E : Scr} {f : Int → Mem → Prop} {M : Mem} {a b : Int} (ha : Bd a) (hb : Bd b) (he : zR (M 98 50)) (h0 : M 98 50 = 0 → ∀ v, mulB a b = some v → f v M) (h1 : M 98 50 = 0 → mulB a b = none → f 0 (upM M 98 50 1)) (h2 : M 98 50 = 1 → f 0 M) : CL E mX11_times [pR 98, pL a, pL b] M f := by
  refine vX11_times_0 _ _ ⟨⟨by omega, by omega⟩, fun c => ?_, fun c => ⟨⟨by omega, by omega⟩, fun d => ?_, fun d => ⟨⟨by omega, by omega⟩, fun g => ?_, fun g => ?_⟩⟩⟩
  · exact c_times_48 he (fun z => h0 z _ (by unfold mulB; rw [if_neg (by omega)])) h2
  · exact c_times_48 he (fun z => h0 z _ (by unfold mulB; rw [if_neg (by omega)])) h2
  · have e : b = absI b := by unfold absI; rw [if_neg (by omega)]
    have := c_times_24 ha hb c d he h0 h1 h2 (E := E)
    rwa [← e] at this
  · have e : -b = absI b := by unfold absI; rw [if_pos g]
    have := c_times_24 ha hb c d he h0 h1 h2 (E := E)
    rwa [← e] at this
