/-! PURE PICTURE OF THE MACHINE: logical cells by number; ints and longs as Int; one memory M, references R, shapes T -/
abbrev PV : Type := Int ⊕ (Int ⊕ (Option Nat ⊕ Nat))
abbrev pI (x : Int) : PV := Sum.inl x
abbrev pL (x : Int) : PV := Sum.inr (Sum.inl x)
abbrev pQ (r : Option Nat) : PV := Sum.inr (Sum.inr (Sum.inl r))
abbrev pR (a : Nat) : PV := Sum.inr (Sum.inr (Sum.inl (some a)))
abbrev pX (j : Nat) : PV := Sum.inr (Sum.inr (Sum.inr j))
def toV (φ ex : Nat → Nat) : PV → Value
  | Sum.inl x => .int (Int32.ofInt x)
  | Sum.inr (Sum.inl x) => .long (Int64.ofInt x)
  | Sum.inr (Sum.inr (Sum.inl r)) => va_rf (r.map φ)
  | Sum.inr (Sum.inr (Sum.inr j)) => .ref (ex j)
abbrev iR (x : Int) : Prop := -2147483648 ≤ x ∧ x < 2147483648
abbrev lR (x : Int) : Prop := -9223372036854775808 ≤ x ∧ x < 9223372036854775808
abbrev zR (x : Int) : Prop := x = 0 ∨ x = 1
theorem i32_toInt {x : Int} (h : iR x) : (Int32.ofInt x).toInt = x := by
  rw [Int32.toInt_ofInt, Int.bmod_def]; have := h.1; have := h.2; simp only [Int32.size]; omega
theorem i64_toInt {x : Int} (h : lR x) : (Int64.ofInt x).toInt = x := by
  rw [Int64.toInt_ofInt, Int.bmod_def]; have := h.1; have := h.2; simp only [Int64.size]; omega
theorem i32_lt {x y : Int} (hx : iR x) (hy : iR y) : Int32.ofInt x < Int32.ofInt y ↔ x < y := by
  rw [Int32.lt_iff_toInt_lt, i32_toInt hx, i32_toInt hy]
theorem i32_le {x y : Int} (hx : iR x) (hy : iR y) : Int32.ofInt x ≤ Int32.ofInt y ↔ x ≤ y := by
  rw [Int32.le_iff_toInt_le, i32_toInt hx, i32_toInt hy]
theorem i32_eq {x y : Int} (hx : iR x) (hy : iR y) : Int32.ofInt x = Int32.ofInt y ↔ x = y := by
  rw [← Int32.toInt_inj, i32_toInt hx, i32_toInt hy]
theorem i64_lt {x y : Int} (hx : lR x) (hy : lR y) : Int64.ofInt x < Int64.ofInt y ↔ x < y := by
  rw [Int64.lt_iff_toInt_lt, i64_toInt hx, i64_toInt hy]
theorem i64_eq {x y : Int} (hx : lR x) (hy : lR y) : Int64.ofInt x = Int64.ofInt y ↔ x = y := by
  rw [← Int64.toInt_inj, i64_toInt hx, i64_toInt hy]
theorem i32_clamp {x : Int} {n : Nat} (h0 : 0 ≤ x) (h1 : x < n) (hn : n < 2147483648) : (Int32.ofInt x).toNatClampNeg = x.toNat := by
  rw [Int32.toNatClampNeg, i32_toInt ⟨by omega, by omega⟩]
theorem i32_in {x : Int} {n : Nat} (h0 : 0 ≤ x) (h1 : x < n) (hn : n < 2147483648) : vp_in (Int32.ofInt x) n := by
  intro h
  rcases h with h | h
  · have h2 : Int32.ofInt x < Int32.ofInt 0 := h
    rw [i32_lt ⟨by omega, by omega⟩ ⟨by omega, by omega⟩] at h2
    omega
  · rw [i32_clamp h0 h1 hn] at h
    omega
/-! shapes: kinds 0 .. 11 objects of vwCl, 20 int[], 21 long[], 22 boolean[], 30 no cell (a number left out) -/
def fTy (ci k : Nat) : FieldType := match ci with
  | 0 => tyX0 k
  | 1 => tyX1 k
  | 2 => tyX2 k
  | 3 => tyX3 k
  | 4 => tyX4 k
  | 5 => tyX5 k
  | 6 => tyX6 k
  | 7 => tyX7 k
  | 8 => tyX8 k
  | 9 => tyX9 k
  | 10 => tyX10 k
  | _ => tyX11 k
def kTy (t : FieldType) : Nat := match t with
  | .int => 0
  | .long => 1
  | .boolean => 2
  | _ => 3
def fK (ci k : Nat) : Nat := kTy (fTy ci k)
def nF (ci : Nat) : Nat := match vwCl[ci]? with
  | some q => q.2.2
  | none => 0
def sTy (t : Nat × Nat) (k : Nat) : Nat := match t.1 with
  | 20 => 0
  | 21 => 1
  | 22 => 2
  | ci => fK ci k
def tR (ty : Nat) (x : Int) : Prop := match ty with
  | 0 => iR x
  | 1 => lR x
  | 2 => zR x
  | _ => True
abbrev Shp : Type := List (Nat × Nat)
abbrev Mem : Type := Nat → Nat → Int
abbrev Rfs : Type := Nat → Nat → Option Nat
def Rng (T : Shp) (M : Mem) : Prop := ∀ (a : Nat) (t : Nat × Nat), T[a]? = some t → t.2 < 2147483648 ∧ ∀ k : Nat, tR (sTy t k) (M a k)
def fldV (φ : Nat → Nat) (ci k : Nat) (r : Option Nat) (x : Int) : Value := match fK ci k with
  | 0 => .int (Int32.ofInt x)
  | 1 => .long (Int64.ofInt x)
  | 2 => .int (Int32.ofInt x)
  | _ => va_rf (r.map φ)
def fldsV (φ : Nat → Nat) (ci : Nat) (R : Nat → Option Nat) (M : Nat → Int) : List Value := (List.range (nF ci)).map fun k => fldV φ ci k (R k) (M k)
def cellE (φ : Nat → Nat) (ar : Nat → ClassId) (t : Nat × Nat) (R : Nat → Option Nat) (M : Nat → Int) : va_E := match t.1 with
  | 20 => .inl (ar 0, t.2, .inl (fun j => Int32.ofInt (M j)))
  | 21 => .inl (ar 1, t.2, .inr (.inl fun j => Int64.ofInt (M j)))
  | 22 => .inl (ar 2, t.2, .inl (fun j => Int32.ofInt (M j)))
  | ci => .inr (ci, fldsV φ ci R M)
/-- a number with a cell -/
def lvT (T : Shp) (a : Nat) : Bool := !((T.getD a (30, 0)).1 == 30)
/-- its place among the cells -/
def gi (T : Shp) (a : Nat) : Nat := ((List.range a).filter (lvT T)).length
def wsO (φ : Nat → Nat) (ar : Nat → ClassId) (T : Shp) (R : Rfs) (M : Mem) : va_W := ((List.range T.length).filter (lvT T)).map fun a => (φ a, cellE φ ar (T.getD a (0, 0)) (R a) (M a))
def tysO (ar : Nat → ClassId) : List (ClassId × FieldType) := [(ar 0, .int), (ar 1, .long), (ar 2, .boolean)]
def upM (M : Mem) (a k : Nat) (v : Int) : Mem := fun b => if b = a then va_up (M a) k v else M b
def upR (R : Rfs) (a k : Nat) (v : Option Nat) : Rfs := fun b => if b = a then va_up (R a) k v else R b
theorem upM_self (M : Mem) (a k : Nat) (v : Int) : upM M a k v a = va_up (M a) k v := by simp [upM]
theorem upM_ne (M : Mem) {a b : Nat} (k : Nat) (v : Int) (h : b ≠ a) : upM M a k v b = M b := by simp [upM, h]
theorem upR_self (M : Rfs) (a k : Nat) (v : Option Nat) : upR M a k v a = va_up (M a) k v := by simp [upR]
theorem upR_ne (M : Rfs) {a b : Nat} (k : Nat) (v : Option Nat) (h : b ≠ a) : upR M a k v b = M b := by simp [upR, h]
theorem rgF {q : Nat → Bool} {n a : Nat} (ha : a < n) (hq : q a = true) : ((List.range n).filter q)[((List.range a).filter q).length]? = some a := by
  induction n with
  | zero => omega
  | succ n ih =>
    rw [List.range_succ, List.filter_append]
    by_cases h : a < n
    · have h2 := ih h
      rw [List.getElem?_append_left (List.getElem?_eq_some_iff.mp h2).1]; exact h2
    · have e : a = n := by omega
      subst e
      rw [List.getElem?_append_right (Nat.le_refl _), Nat.sub_self]
      simp [hq]
theorem rgF_get {q : Nat → Bool} : ∀ {n k a : Nat}, ((List.range n).filter q)[k]? = some a → a < n ∧ q a = true ∧ k = ((List.range a).filter q).length := by
  intro n
  induction n with
  | zero => intro k a h; simp at h
  | succ n ih =>
    intro k a h
    rw [List.range_succ, List.filter_append] at h
    by_cases hk : k < ((List.range n).filter q).length
    · rw [List.getElem?_append_left hk] at h
      obtain ⟨h1, h2, h3⟩ := ih h
      exact ⟨by omega, h2, h3⟩
    · rw [List.getElem?_append_right (by omega)] at h
      cases hp : q n with
      | false => simp [hp] at h
      | true =>
        simp only [List.filter_cons, hp, if_true, List.filter_nil] at h
        have h9 := (List.getElem?_eq_some_iff.mp h).1
        simp at h9
        have h8 : k - ((List.range n).filter q).length = 0 := by omega
        rw [h8] at h
        simp at h
        subst h
        exact ⟨by omega, hp, by omega⟩
theorem lvT_of {T : Shp} {a : Nat} {t : Nat × Nat} (h : T[a]? = some t) (ht : t.1 ≠ 30) : lvT T a = true := by
  unfold lvT; rw [List.getD_eq_getElem?_getD, h]; simpa using ht
theorem lvT_get {T : Shp} {a : Nat} (h : lvT T a = true) : ∃ t, T[a]? = some t ∧ t.1 ≠ 30 := by
  unfold lvT at h
  rw [List.getD_eq_getElem?_getD] at h
  cases hT : T[a]? with
  | none => rw [hT] at h; simp at h
  | some t => rw [hT] at h; exact ⟨t, rfl, by simpa using h⟩
theorem gi_inj {T : Shp} {a b : Nat} {t1 t2 : Nat × Nat} (h1 : T[a]? = some t1) (n1 : t1.1 ≠ 30) (h2 : T[b]? = some t2) (n2 : t2.1 ≠ 30) (h : gi T a = gi T b) : a = b := by
  have q1 := rgF (q := lvT T) (n := a + b + 1) (a := a) (by omega) (lvT_of h1 n1)
  have q2 := rgF (q := lvT T) (n := a + b + 1) (a := b) (by omega) (lvT_of h2 n2)
  unfold gi at h
  rw [h, q2] at q1
  exact (Option.some.inj q1).symm
theorem wsO_len (φ : Nat → Nat) (ar : Nat → ClassId) (T : Shp) (R : Rfs) (M : Mem) : (wsO φ ar T R M).length = gi T T.length := by unfold wsO gi; rw [List.length_map]
theorem wsO_atT {φ : Nat → Nat} {ar : Nat → ClassId} {T : Shp} {R : Rfs} {M : Mem} {a : Nat} {t : Nat × Nat} (h : T[a]? = some t) (ht : t.1 ≠ 30) : (wsO φ ar T R M)[gi T a]? = some (φ a, cellE φ ar t (R a) (M a)) := by
  have hl : a < T.length := (List.getElem?_eq_some_iff.mp h).1
  unfold wsO gi
  rw [List.getElem?_map, rgF hl (lvT_of h ht), Option.map_some, List.getD_eq_getElem?_getD, h]
  rfl
theorem wsO_at {φ : Nat → Nat} {ar : Nat → ClassId} {T : Shp} {R : Rfs} {M : Mem} {a k n : Nat} (h : T[a]? = some (k, n)) (ht : k ≠ 30) : (wsO φ ar T R M)[gi T a]? = some (φ a, cellE φ ar (k, n) (R a) (M a)) := wsO_atT h ht
theorem wsO_get {φ : Nat → Nat} {ar : Nat → ClassId} {T : Shp} {R : Rfs} {M : Mem} {k : Nat} {q : Nat × va_E} (h : (wsO φ ar T R M)[k]? = some q) : ∃ a t, T[a]? = some t ∧ t.1 ≠ 30 ∧ k = gi T a ∧ q = (φ a, cellE φ ar t (R a) (M a)) := by
  unfold wsO at h
  rw [List.getElem?_map] at h
  cases hq : ((List.range T.length).filter (lvT T))[k]? with
  | none => rw [hq] at h; simp at h
  | some a =>
    rw [hq, Option.map_some] at h
    obtain ⟨h1, h2, h3⟩ := rgF_get hq
    obtain ⟨t, ht, hn⟩ := lvT_get h2
    refine ⟨a, t, ht, hn, h3, ?_⟩
    rw [← Option.some.inj h, List.getD_eq_getElem?_getD, ht]
    rfl
theorem wsO_setG {φ : Nat → Nat} {ar : Nat → ClassId} {T : Shp} {R R' : Rfs} {M M' : Mem} {a : Nat} {t : Nat × Nat} {e : va_E} (h : T[a]? = some t) (ht : t.1 ≠ 30) (he : e = cellE φ ar t (R' a) (M' a)) (hR : ∀ b, b ≠ a → R' b = R b) (hM : ∀ b, b ≠ a → M' b = M b) : (wsO φ ar T R M).set (gi T a) (φ a, e) = wsO φ ar T R' M' := by
  apply List.ext_getElem?
  intro b
  have hl : gi T a < (wsO φ ar T R M).length := (List.getElem?_eq_some_iff.mp (wsO_atT h ht)).1
  by_cases hb : b = gi T a
  · subst hb
    rw [List.getElem?_set_self hl, wsO_atT h ht, he]
  · rw [List.getElem?_set_ne (Ne.symm hb)]
    unfold wsO
    rw [List.getElem?_map, List.getElem?_map]
    cases hq : ((List.range T.length).filter (lvT T))[b]? with
    | none => rfl
    | some c =>
      have hc : c ≠ a := fun z => hb (by rw [(rgF_get hq).2.2, z]; rfl)
      rw [Option.map_some, Option.map_some, hR c hc, hM c hc]
theorem lvT_push {T : Shp} {t : Nat × Nat} {a : Nat} (ha : a < T.length) : lvT (T ++ [t]) a = lvT T a ∧ ∀ d, (T ++ [t]).getD a d = T.getD a d := by
  have e : (T ++ [t])[a]? = T[a]? := List.getElem?_append_left ha
  refine ⟨?_, fun d => ?_⟩
  · unfold lvT; rw [List.getD_eq_getElem?_getD, List.getD_eq_getElem?_getD, e]
  · rw [List.getD_eq_getElem?_getD, List.getD_eq_getElem?_getD, e]
theorem wsO_pushG {φ : Nat → Nat} {ar : Nat → ClassId} {T : Shp} {R : Rfs} {M : Mem} {t : Nat × Nat} : wsO φ ar (T ++ [t]) R M = wsO φ ar T R M ++ (if t.1 = 30 then [] else [(φ T.length, cellE φ ar t (R T.length) (M T.length))]) := by
  have e0 : (T ++ [t])[T.length]? = some t := by rw [List.getElem?_append_right (Nat.le_refl _), Nat.sub_self]; rfl
  have e1 : lvT (T ++ [t]) T.length = !(t.1 == 30) := by unfold lvT; rw [List.getD_eq_getElem?_getD, e0]; rfl
  have e2 : (List.range T.length).filter (lvT (T ++ [t])) = (List.range T.length).filter (lvT T) := List.filter_congr fun a ha => (lvT_push (List.mem_range.mp ha)).1
  unfold wsO
  rw [List.length_append, List.length_singleton, List.range_succ, List.filter_append, List.map_append, e2]
  congr 1
  · apply List.map_congr_left
    intro a ha
    rw [(lvT_push (List.mem_range.mp (List.mem_filter.mp ha).1)).2]
  · by_cases h : t.1 = 30
    · rw [if_pos h, List.filter_cons_of_neg (by rw [e1, h]; decide)]; rfl
    · rw [if_neg h, List.filter_cons_of_pos (by rw [e1]; simpa using h)]
      simp only [List.filter_nil, List.map_cons, List.map_nil, List.getD_eq_getElem?_getD, e0]
      rfl
theorem wsO_push {φ : Nat → Nat} {ar : Nat → ClassId} {T : Shp} {R : Rfs} {M : Mem} {t : Nat × Nat} (ht : t.1 ≠ 30) : wsO φ ar (T ++ [t]) R M = wsO φ ar T R M ++ [(φ T.length, cellE φ ar t (R T.length) (M T.length))] := by
  rw [wsO_pushG, if_neg ht]
theorem wsO_rep {φ : Nat → Nat} {ar : Nat → ClassId} {R : Rfs} {M : Mem} : ∀ (n : Nat) (T : Shp), wsO φ ar (T ++ List.replicate n (30, 0)) R M = wsO φ ar T R M := by
  intro n
  induction n with
  | zero => intro T; rw [List.replicate_zero, List.append_nil]
  | succ n ih =>
    intro T
    rw [List.replicate_succ, List.append_cons, ih, wsO_pushG, if_pos rfl, List.append_nil]
theorem fldsV_at {φ : Nat → Nat} {ci k : Nat} {R : Nat → Option Nat} {M : Nat → Int} (h : k < nF ci) : (fldsV φ ci R M)[k]? = some (fldV φ ci k (R k) (M k)) := by
  simp [fldsV, h]
theorem fldsV_len {φ : Nat → Nat} {ci : Nat} {R : Nat → Option Nat} {M : Nat → Int} : (fldsV φ ci R M).length = nF ci := by simp [fldsV]
theorem fldsV_set {φ : Nat → Nat} {ci k : Nat} {R R' : Nat → Option Nat} {M M' : Nat → Int} {v : Value} (hv : v = fldV φ ci k (R' k) (M' k)) (hR : ∀ j, j ≠ k → R' j = R j) (hM : ∀ j, j ≠ k → M' j = M j) : (fldsV φ ci R M).set k v = fldsV φ ci R' M' := by
  apply List.ext_getElem?
  intro b
  by_cases hb : b < nF ci
  · by_cases hk : b = k
    · subst hk
      rw [List.getElem?_set_self (by rw [fldsV_len]; exact hb), fldsV_at hb, hv]
    · rw [List.getElem?_set_ne (Ne.symm hk), fldsV_at hb, fldsV_at hb, hR b hk, hM b hk]
  · rw [List.getElem?_eq_none (by rw [List.length_set, fldsV_len]; omega), List.getElem?_eq_none (by rw [fldsV_len]; omega)]
theorem cellE_obj {φ : Nat → Nat} {ar : Nat → ClassId} {ci n : Nat} {R : Nat → Option Nat} {M : Nat → Int} (h : ci < 20) : cellE φ ar (ci, n) R M = .inr (ci, fldsV φ ci R M) := by
  unfold cellE
  split <;> first | rfl | (rename_i h1; simp at h1; omega) | (simp_all; done)
theorem sTy_obj {ci n k : Nat} (h : ci < 20) : sTy (ci, n) k = fK ci k := by
  unfold sTy
  split <;> first | rfl | (rename_i h1; simp at h1; omega) | (simp_all; done)
theorem Rng.up {T : Shp} {M : Mem} {a k : Nat} {t : Nat × Nat} {v : Int} (h : Rng T M) (ht : T[a]? = some t) (hv : tR (sTy t k) v) : Rng T (upM M a k v) := by
  intro b t' ht'
  refine ⟨(h b t' ht').1, fun j => ?_⟩
  by_cases hb : b = a
  · subst hb
    rw [ht] at ht'
    cases ht'
    rw [upM_self]
    by_cases hj : j = k
    · subst hj; simpa [va_up] using hv
    · simpa [va_up, hj] using (h b t ht).2 j
  · rw [upM_ne M k v hb]
    exact (h b t' ht').2 j
theorem Rng.push {T : Shp} {M : Mem} {t : Nat × Nat} (h : Rng T M) (hl : t.2 < 2147483648) (hz : ∀ k, M T.length k = 0) : Rng (T ++ [t]) M := by
  intro b t' ht'
  by_cases hb : b < T.length
  · rw [List.getElem?_append_left hb] at ht'
    exact h b t' ht'
  · have hb2 : b = T.length := by
      have := (List.getElem?_eq_some_iff.mp ht').1
      simp at this
      omega
    subst hb2
    simp at ht'
    subst ht'
    refine ⟨hl, fun k => ?_⟩
    rw [hz k]
    unfold tR
    split
    · exact ⟨by omega, by omega⟩
    · exact ⟨by omega, by omega⟩
    · exact Or.inl rfl
    · trivial
