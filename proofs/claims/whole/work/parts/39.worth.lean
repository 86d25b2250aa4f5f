/-! the class's knots: rank, joined, worth -/
abbrev MINL : Int := -9223372036854775808
def rk (k : Int) : Int := if k = 10 then 1 else if k = 11 then 2 else if k = 12 then 3 else if k = 27 ∨ k = 28 ∨ k = 29 ∨ k = 34 ∨ k = 35 ∨ k = 36 then 4 else if k = 30 ∨ k = 31 then 5 else if k = 32 ∨ k = 33 then 6 else 0
theorem rk_out {k : Int} (h : k < 10 ∨ 36 < k) : rk k = 0 := by
  unfold rk
  rw [if_neg (by omega), if_neg (by omega), if_neg (by omega), if_neg (by omega), if_neg (by omega), if_neg (by omega)]
theorem rk_b (k : Int) : 0 ≤ rk k ∧ rk k ≤ 6 := by
  unfold rk
  repeat' split
  all_goals omega
theorem c_rank {E : Scr} {f : Int → Mem → Prop} {M : Mem} {k : Int} (hk : iR k) (h : f (rk k) M) : CI E mX10_rank [pI k] M f := by
  apply vX10_rank_0
  refine ⟨hk, ?_⟩
  repeat' apply And.intro
  all_goals intro e
  all_goals first
    | (subst e; exact h)
    | (subst e; exact vX10_rank_137 h)
    | (rw [rk_out e] at h; exact vX10_rank_137 h)
def sdC (k : Int) : Int := if k = 12 then 1 else if rk k = 0 then 0 else 2
theorem c_sidesOf {E : Scr} {f : Int → Mem → Prop} {M : Mem} {k : Int} (hk : iR k) (h : f (sdC k) M) : CI E mX2_sidesOf [pI k] M f := by
  unfold sdC at h
  refine vX2_sidesOf_0 _ ⟨hk, fun c => ?_, fun c => by rw [if_pos c] at h; exact h⟩
  rw [if_neg c] at h
  refine c_rank hk ?_
  have := rk_b k
  exact ⟨⟨by omega, by omega⟩, fun z => by rw [if_neg z] at h; exact h, fun z => by rw [if_pos z] at h; exact h⟩
/-- the class's number of a sign, in the reference's -/
def cm (k : Int) : Int := if k = 11 then 3 else if k = 10 then 4 else if k = 27 then 5 else if k = 34 then 6 else if k = 28 then 7 else if k = 35 then 8 else if k = 36 then 9 else if k = 29 then 10 else if k = 30 then 11 else if k = 31 then 12 else if k = 32 then 13 else 14
def orM (v : Option Int) : Int := match v with
  | some x => x
  | none => MINL
theorem c_within {E : Scr} {f : Int → Mem → Prop} {M : Mem} {x : Int} (hx : lR x) (h : f (orM (bnd x)) M) : CL E mX2_within [pL x] M f := by
  unfold bnd at h
  refine vX2_within_0 _ ⟨hx, fun c => ?_, fun c => ⟨hx, fun d => ?_, fun d => ?_⟩⟩
  · rw [if_pos (Or.inl c)] at h; exact h
  · rw [if_neg (by omega)] at h; exact h
  · rw [if_pos (Or.inr d)] at h; exact h
theorem c_product26 {E : Scr} {f : Int → Mem → Prop} {M : Mem} {a b : Int} (ha : Bd a) (hb : Bd b) (h : f (orM (mulB a b)) M) : KW E mX2_product (qL f) M 26 [(0, pL a), (2, pL b), (4, pL (absI a))] [pL (absI b)] := by
  have h1 : Bd (absI a) := by unfold absI; split <;> omega
  have h2 : Bd (absI b) := by unfold absI; split <;> omega
  have h0 : absI b ≥ 0 := by unfold absI; split <;> omega
  unfold mulB at h
  refine vX2_product_26 _ _ _ _ ⟨⟨by omega, by omega⟩, fun c => ?_, fun c => ⟨⟨by omega, by omega⟩, c, ⟨by omega, by omega⟩, tdiv_lR (by unfold absI at c ⊢; split <;> omega), fun d => ?_, fun d => ?_⟩⟩
  · have : a = 0 := by unfold absI at c; split at c <;> omega
    rw [if_neg (by omega)] at h; exact h
  · rw [if_neg (by omega)] at h; exact h
  · have hna : a ≠ 0 := by intro z; subst z; exact c rfl
    have hnb : b ≠ 0 := by
      intro z; subst z
      have hp : 0 < absI a := absI_pos hna
      have : (0 : Int) ≤ Int.tdiv 1000000000000 (absI a) := Int.tdiv_nonneg (by decide) (by omega)
      have e0 : absI 0 = 0 := rfl
      omega
    rw [if_pos ⟨hna, hnb, d⟩] at h; exact h
theorem c_product {E : Scr} {f : Int → Mem → Prop} {M : Mem} {a b : Int} (ha : Bd a) (hb : Bd b) (h : f (orM (mulB a b)) M) : CL E mX2_product [pL a, pL b] M f := by
  have k9 := c_product26 (E := E) ha hb h
  refine vX2_product_0 _ _ ⟨⟨by omega, by omega⟩, fun c => ⟨⟨by omega, by omega⟩, fun d => ?_, fun d => ?_⟩, fun c => ⟨⟨by omega, by omega⟩, fun d => ?_, fun d => ?_⟩⟩
  · rwa [show absI a = a by unfold absI; rw [if_neg (by omega)], show absI b = b by unfold absI; rw [if_neg (by omega)]] at k9
  · rwa [show absI a = a by unfold absI; rw [if_neg (by omega)], show absI b = -b by unfold absI; rw [if_pos d]] at k9
  · rwa [show absI a = -a by unfold absI; rw [if_pos c], show absI b = b by unfold absI; rw [if_neg (by omega)]] at k9
  · rwa [show absI a = -a by unfold absI; rw [if_pos c], show absI b = -b by unfold absI; rw [if_pos d]] at k9
theorem c_joined {E : Scr} {f : Int → Mem → Prop} {M : Mem} {k a b : Int} (hk : iR k) (hr : rk k ≠ 0) (hn : k ≠ 12) (ha : Bd a) (hb : Bd b) (h : f (orM (opJ (cm k) a b)) M) : CL E mX2_joined [pI k, pL a, pL b] M f := by
  have la : lR a := ⟨by omega, by omega⟩
  have lb : lR b := ⟨by omega, by omega⟩
  apply vX2_joined_0
  refine ⟨hk, ?_, ?_, ?_, ?_, ?_, ?_, ?_, ?_, ?_, ?_, ?_, ?_, ?_, ?_, ?_, ?_, ?_, ?_, ?_, ?_, ?_, ?_, ?_, ?_, ?_, ?_, ?_, ?_⟩
  · rintro rfl
    have h : f (orM (some (if a ≠ 0 ∨ b ≠ 0 then 1 else 0))) M := h
    exact ⟨la, fun z => by simpa [z, orM] using h, fun z => ⟨lb, fun y => by simpa [z, y, orM] using h, fun y => by simpa [y, orM] using h⟩⟩
  · rintro rfl
    have h : f (orM (some (if a ≠ 0 ∧ b ≠ 0 then 1 else 0))) M := h
    exact ⟨la, fun z => by simpa [z, orM] using h, fun z => ⟨lb, fun y => by simpa [y, orM] using h, fun y => by simpa [z, y, orM] using h⟩⟩
  · intro e; exact absurd e hn
  · intro e; subst e; exact absurd rfl hr
  · intro e; subst e; exact absurd rfl hr
  · intro e; subst e; exact absurd rfl hr
  · intro e; subst e; exact absurd rfl hr
  · intro e; subst e; exact absurd rfl hr
  · intro e; subst e; exact absurd rfl hr
  · intro e; subst e; exact absurd rfl hr
  · intro e; subst e; exact absurd rfl hr
  · intro e; subst e; exact absurd rfl hr
  · intro e; subst e; exact absurd rfl hr
  · intro e; subst e; exact absurd rfl hr
  · intro e; subst e; exact absurd rfl hr
  · intro e; subst e; exact absurd rfl hr
  · intro e; subst e; exact absurd rfl hr
  · rintro rfl
    have h : f (orM (some (if a < b then 1 else 0))) M := h
    exact ⟨la, lb, fun z => by rw [if_neg (by omega)] at h; exact h, fun z => by rw [if_pos z] at h; exact h⟩
  · rintro rfl
    have h : f (orM (some (if a = b then 1 else 0))) M := h
    exact ⟨la, lb, fun z => by rw [if_neg z] at h; exact h, fun z => by rw [if_pos z] at h; exact h⟩
  · rintro rfl
    have h : f (orM (some (if a > b then 1 else 0))) M := h
    exact ⟨la, lb, fun z => by rw [if_neg (by omega)] at h; exact h, fun z => by rw [if_pos z] at h; exact h⟩
  · rintro rfl
    have h : f (orM (bnd (a + b))) M := h
    exact c_within ⟨by omega, by omega⟩ h
  · rintro rfl
    have h : f (orM (bnd (a - b))) M := h
    exact c_within ⟨by omega, by omega⟩ h
  · rintro rfl
    have h : f (orM (mulB a b)) M := h
    exact c_product ha hb h
  · rintro rfl
    have h : f (orM (if b = 0 then none else some (Int.tdiv a b))) M := h
    exact ⟨lb, fun z => ⟨la, lb, z, by rw [if_neg z] at h; exact h⟩, fun z => by rw [if_pos z] at h; exact h⟩
  · rintro rfl
    have h : f (orM (some (if a ≤ b then 1 else 0))) M := h
    exact ⟨la, lb, fun z => by rw [if_neg (by omega)] at h; exact h, fun z => by rw [if_pos z] at h; exact h⟩
  · rintro rfl
    have h : f (orM (some (if a ≠ b then 1 else 0))) M := h
    exact ⟨la, lb, fun z => by rw [if_neg (by omega)] at h; exact h, fun z => by rw [if_pos z] at h; exact h⟩
  · rintro rfl
    have h : f (orM (some (if a ≥ b then 1 else 0))) M := h
    exact ⟨la, lb, fun z => by rw [if_neg (by omega)] at h; exact h, fun z => by rw [if_pos z] at h; exact h⟩
  · intro e; exact absurd (rk_out e) hr
/-- knots one behind another, each behind its sides, by a stack (top first) -/
def evS (kd vl : Nat → Int) (lf : Int → Int → Int) : Nat → Nat → List Int → Option (List Int)
  | 0, _, st => some st
  | j + 1, i, st => if kd i = 12 then (match st with
      | a :: s => evS kd vl lf j (i + 1) ((if a = 0 then 1 else 0) :: s)
      | [] => none)
    else if rk (kd i) = 0 then evS kd vl lf j (i + 1) (lf (kd i) (vl i) :: st)
    else match st with
      | b :: a :: s => (match opJ (cm (kd i)) a b with
        | some c => evS kd vl lf j (i + 1) (c :: s)
        | none => none)
      | _ => none
def one1 (r : Option (List Int)) : Option Int := match r with
  | some [v] => some v
  | _ => none
def SR (g : Nat → Int) (st : List Int) : Prop := ∀ i v, st[i]? = some v → g (st.length - 1 - i) = v
theorem SR.push {g : Nat → Int} {st : List Int} (h : SR g st) (v : Int) : SR (va_up g st.length v) (v :: st) := by
  intro i w hi
  cases i with
  | zero =>
    simp at hi
    subst hi
    simp [va_up]
  | succ i =>
    rw [List.getElem?_cons_succ] at hi
    have hl := (List.getElem?_eq_some_iff.mp hi).1
    have := h i w hi
    rw [show (v :: st).length - 1 - (i + 1) = st.length - 1 - i by simp; omega, va_up_neq _ _ (by omega)]
    exact this
theorem SR.top {g : Nat → Int} {a : Int} {s : List Int} (h : SR g (a :: s)) : g s.length = a := by
  have := h 0 a rfl
  simpa using this
theorem SR.pop {g : Nat → Int} {a : Int} {s : List Int} (h : SR g (a :: s)) : SR g s := by
  intro i v hi
  have := h (i + 1) v (by rw [List.getElem?_cons_succ]; exact hi)
  have hl := (List.getElem?_eq_some_iff.mp hi).1
  rwa [show (a :: s).length - 1 - (i + 1) = s.length - 1 - i by simp; omega] at this
