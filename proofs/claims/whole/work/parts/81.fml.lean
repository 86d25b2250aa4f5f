/-! what a formula is read to: the knots one behind another, the stack of what waits, step by step -/
abbrev KL : Type := List (Int × Int)
abbrev FS : Type := Tk × List Int × Nat × Nat × KL × (Nat → Nat) × Bool
abbrev fT (s : FS) : Tk := s.1
abbrev fP (s : FS) : List Int := s.2.1
abbrev fO (s : FS) : Nat := s.2.2.1
abbrev fC (s : FS) : Nat := s.2.2.2.1
abbrev fU (s : FS) : KL := s.2.2.2.2.1
abbrev fL (s : FS) : Nat → Nat := s.2.2.2.2.2.1
abbrev fW (s : FS) : Bool := s.2.2.2.2.2.2
def stl (r : Int) : List Int → KL → List Int × KL
  | [], u => ([], u)
  | k :: p, u => if rk k ≥ r then stl r p (u ++ [(k, 0)]) else (k :: p, u)
def topR (p : List Int) : Int := match p with
  | [] => 0
  | k :: _ => rk k
def findN (nm : Nat → Int) (v : Int) : Nat → Nat → Int
  | 0, _ => -1
  | j + 1, k => if nm k = v then (k : Int) else findN nm v j (k + 1)
abbrev Res (α : Type) : Type := (Int × Nat) ⊕ α
def askF (bs : BF) (L : Nat) (own : Int) (n : Nat) (nm : Nat → Int) (ln : Nat) (s : FS) (t2 : Tk) : Res (Bool × FS) :=
  if tK (fT s) = 15 then
    (if tK t2 ≠ 37 then Sum.inl (1, tS t2) else if tV t2 > 8 then Sum.inl (2, tS t2)
     else Sum.inr (true, (tok bs L (tN t2), fP s, fO s, fC s + 1, fU s ++ [(15, tV t2)], fL s, false)))
  else if tK t2 ≠ 38 then Sum.inl (1, tS t2)
  else if findN nm (tV t2) n 0 = -1 then Sum.inl (4, tS t2)
  else if tK (fT s) = 16 then
    (if ln.testBit (findN nm (tV t2) n 0).toNat = false then Sum.inl (4, tS t2)
     else if (fL s (findN nm (tV t2) n 0).toNat).testBit own.toNat = true then Sum.inl (5, tS t2)
     else Sum.inr (true, (tok bs L (tN t2), fP s, fO s, fC s + 1, fU s ++ [(16, findN nm (tV t2) n 0)], upN (fL s) own.toNat (fL s own.toNat ||| fL s (findN nm (tV t2) n 0).toNat), false)))
  else if findN nm (tV t2) n 0 = own then Sum.inl (5, tS t2)
  else Sum.inr (true, (tok bs L (tN t2), fP s, fO s, fC s + 1, fU s ++ [(tK (fT s), findN nm (tV t2) n 0)], upN (fL s) own.toNat (fL s own.toNat ||| 2 ^ (findN nm (tV t2) n 0).toNat), false))
def stepF (bs : BF) (L : Nat) (own : Int) (n : Nat) (nm : Nat → Int) (ln : Nat) (s : FS) : Res (Bool × FS) :=
  if fW s = true then
    (if tK (fT s) = 25 then (if 8 ≤ fO s then Sum.inl (2, tS (fT s)) else Sum.inr (true, (tok bs L (tN (fT s)), 25 :: fP s, fO s + 1, fC s, fU s, fL s, true)))
     else if tK (fT s) = 12 then (if topR (fP s) > 3 then Sum.inl (1, tS (fT s)) else if 64 ≤ fC s then Sum.inl (2, tS (fT s)) else Sum.inr (true, (tok bs L (tN (fT s)), 12 :: fP s, fO s, fC s + 1, fU s, fL s, true)))
     else if own < 0 then
       (if tK (fT s) = 37 ∨ (17 ≤ tK (fT s) ∧ tK (fT s) ≤ 23) then (if 64 ≤ fC s then Sum.inl (2, tS (fT s)) else if tK (fT s) = 37 ∧ tV (fT s) > 9999 then Sum.inl (2, tS (fT s)) else Sum.inr (true, (tok bs L (tN (fT s)), fP s, fO s, fC s + 1, fU s ++ [(tK (fT s), tV (fT s))], fL s, false)))
        else Sum.inl (1, tS (fT s)))
     else (if 13 ≤ tK (fT s) ∧ tK (fT s) ≤ 16 then (if 64 ≤ fC s then Sum.inl (2, tS (fT s)) else askF bs L own n nm ln s (tok bs L (tN (fT s)))) else Sum.inl (1, tS (fT s))))
  else
    (if tK (fT s) = 24 ∧ fO s = 0 then Sum.inr (false, (fT s, (stl 1 (fP s) (fU s)).1, fO s, fC s, (stl 1 (fP s) (fU s)).2, fL s, false))
     else if tK (fT s) = 26 ∧ 0 < fO s then Sum.inr (true, (tok bs L (tN (fT s)), (stl 1 (fP s) (fU s)).1.tail, fO s - 1, fC s, (stl 1 (fP s) (fU s)).2, fL s, false))
     else if rk (tK (fT s)) = 0 ∨ tK (fT s) = 12 ∨ (0 ≤ own ∧ 4 ≤ rk (tK (fT s))) then Sum.inl (1, tS (fT s))
     else if rk (tK (fT s)) = 4 ∧ topR (stl (if rk (tK (fT s)) = 4 then 5 else rk (tK (fT s))) (fP s) (fU s)).1 = 4 then Sum.inl (1, tS (fT s))
     else if 64 ≤ fC s then Sum.inl (2, tS (fT s))
     else Sum.inr (true, (tok bs L (tN (fT s)), tK (fT s) :: (stl (if rk (tK (fT s)) = 4 then 5 else rk (tK (fT s))) (fP s) (fU s)).1, fO s, fC s + 1, (stl (if rk (tK (fT s)) = 4 then 5 else rk (tK (fT s))) (fP s) (fU s)).2, fL s, true)))
def fml (bs : BF) (L : Nat) (own : Int) (n : Nat) (nm : Nat → Int) (ln : Nat) : Nat → FS → Res FS
  | 0, s => Sum.inl (1, tS (fT s))
  | j + 1, s => match stepF bs L own n nm ln s with
    | Sum.inl e => Sum.inl e
    | Sum.inr (false, s') => Sum.inr s'
    | Sum.inr (true, s') => fml bs L own n nm ln j s'
def TkI (L : Nat) (t : Tk) : Prop := tS t ≤ L ∧ tS t ≤ tN t ∧ tN t ≤ L ∧ (0 ≤ tK t ∧ tK t ≤ 40) ∧ (tK t ≠ 39 → tS t < tN t) ∧ (0 ≤ tV t ∧ tV t < 2147483648)
theorem tok_I {bs : BF} {L p : Nat} (hp : p ≤ L) : TkI L (tok bs L p) ∧ p ≤ tS (tok bs L p) := by
  have h := tok_b (bs := bs) hp
  exact ⟨⟨h.2.1, h.2.2.1, h.2.2.2.1, h.2.2.2.2.1, h.2.2.2.2.2.1, h.2.2.2.2.2.2⟩, h.1⟩
def npL : List Int → Nat
  | [] => 0
  | k :: p => (if k = 25 then 0 else 1) + npL p
def prC : List Int → Nat
  | [] => 0
  | k :: p => (if k = 25 then 1 else 0) + prC p
def bnL : List Int → Nat
  | [] => 0
  | k :: p => (if k = 25 ∨ k = 12 then 0 else 1) + bnL p
def sdN (k : Int) : Nat := if k = 12 then 1 else if rk k = 0 then 0 else 2
def dpF : Nat → KL → Option Nat
  | d, [] => some d
  | d, e :: P => if sdN e.1 ≤ d then dpF (d - sdN e.1 + 1) P else none
theorem dpF_sn {k v : Int} : ∀ (P : KL) (d m : Nat), dpF d P = some m → dpF d (P ++ [(k, v)]) = if sdN k ≤ m then some (m - sdN k + 1) else none := by
  intro P
  induction P with
  | nil => intro d m h; have h' : some d = some m := h
           cases h'; rfl
  | cons e P ih =>
    intro d m h
    simp only [dpF, List.cons_append] at h ⊢
    by_cases c : sdN e.1 ≤ d
    · rw [if_pos c] at h ⊢
      exact ih _ _ h
    · rw [if_neg c] at h; exact absurd h (by simp)
def okPd (lw : Prop) (k : Int) : Prop := k = 25 ∨ k = 12 ∨ k = 10 ∨ k = 11 ∨ (lw ∧ 4 ≤ rk k ∧ 27 ≤ k ∧ k ≤ 36)
def okEl (lw : Prop) (own : Int) (n ln : Nat) (e : Int × Int) : Prop :=
  (rk e.1 ≠ 0 ∧ e.2 = 0 ∧ okPd lw e.1 ∧ e.1 ≠ 25) ∨ (lw ∧ ((e.1 = 37 ∧ 0 ≤ e.2 ∧ e.2 ≤ 9999) ∨ (17 ≤ e.1 ∧ e.1 ≤ 23 ∧ 0 ≤ e.2 ∧ e.2 < 2147483648))) ∨
  (¬ lw ∧ (((e.1 = 13 ∨ e.1 = 14) ∧ 0 ≤ e.2 ∧ e.2 < n ∧ e.2 ≠ own) ∨ (e.1 = 15 ∧ 0 ≤ e.2 ∧ e.2 ≤ 8) ∨ (e.1 = 16 ∧ 0 ≤ e.2 ∧ e.2 < n ∧ ln.testBit e.2.toNat = true)))
def FI (L : Nat) (own : Int) (n ln base : Nat) (s : FS) : Prop :=
  TkI L (fT s) ∧ (∀ k, k ∈ fP s → okPd (own < 0) k) ∧ prC (fP s) = fO s ∧ fO s ≤ 8 ∧ base + (fU s).length + npL (fP s) = fC s ∧ fC s ≤ 64 ∧ dpF 0 (fU s) = some (bnL (fP s) + if fW s = true then 0 else 1) ∧ (∀ e, e ∈ fU s → okEl (own < 0) own n ln e) ∧ ∀ l, fL s l < 2 ^ 8
theorem rk25 : rk 25 = 0 := by decide
theorem rk12 : rk 12 = 3 := by decide
theorem rk10 : rk 10 = 1 := by decide
theorem rk11 : rk 11 = 2 := by decide
theorem rk_ok {k : Int} (h : rk k ≠ 0) : k = 10 ∨ k = 11 ∨ k = 12 ∨ (4 ≤ rk k ∧ 27 ≤ k ∧ k ≤ 36) := by
  unfold rk at h ⊢
  by_cases c1 : k = 10
  · exact Or.inl c1
  by_cases c2 : k = 11
  · exact Or.inr (Or.inl c2)
  by_cases c3 : k = 12
  · exact Or.inr (Or.inr (Or.inl c3))
  rw [if_neg c1, if_neg c2, if_neg c3] at h ⊢
  by_cases c4 : k = 27 ∨ k = 28 ∨ k = 29 ∨ k = 34 ∨ k = 35 ∨ k = 36
  · rw [if_pos c4]; exact Or.inr (Or.inr (Or.inr ⟨by omega, by omega, by omega⟩))
  · rw [if_neg c4] at h ⊢
    by_cases c5 : k = 30 ∨ k = 31
    · rw [if_pos c5]; exact Or.inr (Or.inr (Or.inr ⟨by omega, by omega, by omega⟩))
    · rw [if_neg c5] at h ⊢
      by_cases c6 : k = 32 ∨ k = 33
      · rw [if_pos c6]; exact Or.inr (Or.inr (Or.inr ⟨by omega, by omega, by omega⟩))
      · rw [if_neg c6] at h; exact absurd rfl h
theorem okPd_rk {lw : Prop} {k : Int} (h : okPd lw k) (hk : k ≠ 25) : 1 ≤ rk k := by
  rcases h with z | z | z | z | z
  · exact absurd z hk
  · rw [z, rk12]; decide
  · rw [z, rk10]; decide
  · rw [z, rk11]; decide
  · omega
theorem sdN_pd {lw : Prop} {k : Int} (h : okPd lw k) (hk : k ≠ 25) : sdN k = if k = 12 then 1 else 2 := by
  have := okPd_rk h hk
  unfold sdN
  by_cases c : k = 12
  · rw [if_pos c, if_pos c]
  · rw [if_neg c, if_neg c, if_neg (by omega)]
theorem stl_ok {lw : Prop} {own r : Int} {n ln : Nat} (hr : 1 ≤ r) : ∀ (p : List Int) (u : KL), (∀ k, k ∈ p → okPd lw k) → (∀ e, e ∈ u → okEl lw own n ln e) → dpF 0 u = some (bnL p + 1) →
    (∀ k, k ∈ (stl r p u).1 → okPd lw k) ∧ (∀ e, e ∈ (stl r p u).2 → okEl lw own n ln e) ∧ dpF 0 (stl r p u).2 = some (bnL (stl r p u).1 + 1) ∧ prC (stl r p u).1 = prC p ∧ (stl r p u).2.length + npL (stl r p u).1 = u.length + npL p ∧ topR (stl r p u).1 < r := by
  intro p
  induction p with
  | nil => intro u h1 h2 h3; exact ⟨h1, h2, h3, rfl, rfl, by show (0 : Int) < r; omega⟩
  | cons k p ih =>
    intro u h1 h2 h3
    simp only [stl]
    by_cases c : rk k ≥ r
    · rw [if_pos c]
      have hk25 : k ≠ 25 := fun z => by rw [z, rk25] at c; omega
      have hk := h1 k (List.mem_cons_self ..)
      have hs := sdN_pd hk hk25
      have e1 : bnL (k :: p) = (if k = 25 ∨ k = 12 then 0 else 1) + bnL p := rfl
      have e2 : prC (k :: p) = (if k = 25 then 1 else 0) + prC p := rfl
      have e3 : npL (k :: p) = (if k = 25 then 0 else 1) + npL p := rfl
      have hd := dpF_sn (k := k) (v := 0) u 0 _ h3
      have := ih (u ++ [(k, 0)]) (fun q hq => h1 q (List.mem_cons_of_mem _ hq)) (fun e he => ?_) ?_
      · refine ⟨this.1, this.2.1, this.2.2.1, ?_, ?_, this.2.2.2.2.2⟩
        · rw [this.2.2.2.1, e2, if_neg hk25]; omega
        · rw [this.2.2.2.2.1, e3, if_neg hk25, List.length_append]; show u.length + 1 + _ = _; omega
      · rcases List.mem_append.mp he with z | z
        · exact h2 e z
        · have z' : e = (k, 0) := by simpa using z
          rw [z']
          exact Or.inl ⟨by show rk k ≠ 0; omega, rfl, hk, hk25⟩
      · rw [hd, hs, e1]
        by_cases c12 : k = 12
        · rw [if_pos c12, if_pos (Or.inr c12), if_pos (by omega)]; congr 1; omega
        · have c13 : ¬ (k = 25 ∨ k = 12) := fun z => z.elim hk25 c12
          rw [if_neg c12, if_neg c13, if_pos (by omega)]; congr 1; omega
    · rw [if_neg c]
      exact ⟨h1, h2, h3, rfl, rfl, by show rk k < r; omega⟩
theorem findN_c {nm : Nat → Int} {v : Int} : ∀ (j k : Nat), findN nm v j k = -1 ∨ ∃ q : Nat, k ≤ q ∧ q < k + j ∧ findN nm v j k = (q : Int) := by
  intro j
  induction j with
  | zero => intro k; exact Or.inl rfl
  | succ j ih =>
    intro k
    simp only [findN]
    by_cases c : nm k = v
    · rw [if_pos c]; exact Or.inr ⟨k, Nat.le_refl _, by omega, rfl⟩
    · rw [if_neg c]
      rcases ih (k + 1) with z | ⟨q, q1, q2, q3⟩
      · exact Or.inl z
      · exact Or.inr ⟨q, by omega, by omega, q3⟩
theorem dp_leaf {P : KL} {k v : Int} {m : Nat} (h : dpF 0 P = some m) (hk : rk k = 0) (h12 : k ≠ 12) : dpF 0 (P ++ [(k, v)]) = some (m + 1) := by
  rw [dpF_sn P 0 m h]
  have : sdN k = 0 := by unfold sdN; rw [if_neg h12, if_pos hk]
  rw [this, if_pos (Nat.zero_le _)]
  rfl
theorem mem_sn {α : Type} {P : List α} {a e : α} (h : e ∈ P ++ [a]) : e ∈ P ∨ e = a := by
  rcases List.mem_append.mp h with z | z
  · exact Or.inl z
  · exact Or.inr (by simpa using z)
theorem pr_top {p : List Int} (h1 : ∀ lw : Prop, (∀ k, k ∈ p → okPd lw k) → topR p < 1 → 0 < prC p → ∃ q, p = 25 :: q) : True := trivial
theorem top25 {lw : Prop} {p : List Int} (h1 : ∀ k, k ∈ p → okPd lw k) (h2 : topR p < 1) (h3 : 0 < prC p) : ∃ q, p = 25 :: q := by
  cases p with
  | nil => exact absurd h3 (by decide)
  | cons k q =>
    refine ⟨q, ?_⟩
    have hk := h1 k (List.mem_cons_self ..)
    have h2' : rk k < 1 := h2
    by_cases c : k = 25
    · rw [c]
    · have := okPd_rk hk c; omega
theorem FI.step {bs : BF} {L : Nat} {own : Int} {n : Nat} {nm : Nat → Int} {ln base : Nat} {s s' : FS} {b : Bool} (hn : n ≤ 8) (hown : own < n) (h : FI L own n ln base s) (hs : stepF bs L own n nm ln s = Sum.inr (b, s')) : FI L own n ln base s' ∧ (b = true → tS (fT s) + 1 ≤ tS (fT s')) ∧ (b = false → fP s' = [] ∧ fW s' = false ∧ fT s' = fT s ∧ tK (fT s') = 24 ∧ fO s' = 0) := by
  obtain ⟨t, pd, op, cnt, u, lt, wt⟩ := s
  obtain ⟨h1, h2, h3, h4, h5, h6, h7, h8, h9⟩ := h
  replace h1 : TkI L t := h1
  replace h2 : ∀ k, k ∈ pd → okPd (own < 0) k := h2
  replace h3 : prC pd = op := h3
  replace h4 : op ≤ 8 := h4
  replace h5 : base + u.length + npL pd = cnt := h5
  replace h6 : cnt ≤ 64 := h6
  replace h7 : dpF 0 u = some (bnL pd + if wt = true then 0 else 1) := h7
  replace h8 : ∀ e, e ∈ u → okEl (own < 0) own n ln e := h8
  replace h9 : ∀ l, lt l < 2 ^ 8 := h9
  have hnx := tok_I (bs := bs) h1.2.2.1
  unfold stepF at hs
  replace hs : (if wt = true then _ else _) = _ := hs
  by_cases cw : wt = true
  · rw [if_pos cw] at hs
    subst cw
    rw [if_pos rfl] at h7
    by_cases c25 : tK t = 25
    · rw [if_pos (show tK (fT (t, pd, op, cnt, u, lt, true)) = 25 from c25)] at hs
      by_cases c8 : 8 ≤ op
      · rw [if_pos (show 8 ≤ fO (t, pd, op, cnt, u, lt, true) from c8)] at hs; cases hs
      · rw [if_neg (show ¬ 8 ≤ fO (t, pd, op, cnt, u, lt, true) from c8)] at hs
        cases hs
        refine ⟨⟨hnx.1, fun k hk => ?_, ?_, by show op + 1 ≤ 8; omega, ?_, h6, ?_, h8, h9⟩, fun _ => ?_, fun z => by cases z⟩
        · rcases List.mem_cons.mp hk with z | z
          · exact Or.inl z
          · exact h2 k z
        · show (if (25 : Int) = 25 then 1 else 0) + prC pd = op + 1; rw [if_pos rfl]; omega
        · show base + u.length + ((if (25 : Int) = 25 then 0 else 1) + npL pd) = cnt; rw [if_pos rfl]; omega
        · show dpF 0 u = some ((if (25 : Int) = 25 ∨ (25 : Int) = 12 then 0 else 1) + bnL pd + 0); rw [if_pos (Or.inl rfl), h7]; congr 1; omega
        · have := h1.2.2.2.2.1 (by omega); have := hnx.2; show tS t + 1 ≤ tS (tok bs L (tN t)); omega
    · rw [if_neg (show ¬ tK (fT (t, pd, op, cnt, u, lt, true)) = 25 from c25)] at hs
      by_cases c12 : tK t = 12
      · rw [if_pos (show tK (fT (t, pd, op, cnt, u, lt, true)) = 12 from c12)] at hs
        by_cases ct : topR pd > 3
        · rw [if_pos (show topR (fP (t, pd, op, cnt, u, lt, true)) > 3 from ct)] at hs; cases hs
        · rw [if_neg (show ¬ topR (fP (t, pd, op, cnt, u, lt, true)) > 3 from ct)] at hs
          by_cases cc : 64 ≤ cnt
          · rw [if_pos (show 64 ≤ fC (t, pd, op, cnt, u, lt, true) from cc)] at hs; cases hs
          · rw [if_neg (show ¬ 64 ≤ fC (t, pd, op, cnt, u, lt, true) from cc)] at hs
            cases hs
            refine ⟨⟨hnx.1, fun k hk => ?_, ?_, h4, ?_, by show cnt + 1 ≤ 64; omega, ?_, h8, h9⟩, fun _ => ?_, fun z => by cases z⟩
            · rcases List.mem_cons.mp hk with z | z
              · exact Or.inr (Or.inl z)
              · exact h2 k z
            · show (if (12 : Int) = 25 then 1 else 0) + prC pd = op; rw [if_neg (by decide)]; omega
            · show base + u.length + ((if (12 : Int) = 25 then 0 else 1) + npL pd) = cnt + 1; rw [if_neg (by decide)]; omega
            · show dpF 0 u = some ((if (12 : Int) = 25 ∨ (12 : Int) = 12 then 0 else 1) + bnL pd + 0); rw [if_pos (Or.inr rfl), h7]; congr 1; omega
            · have := h1.2.2.2.2.1 (by omega); have := hnx.2; show tS t + 1 ≤ tS (tok bs L (tN t)); omega
      · rw [if_neg (show ¬ tK (fT (t, pd, op, cnt, u, lt, true)) = 12 from c12)] at hs
        by_cases co : own < 0
        · rw [if_pos co] at hs
          by_cases cl : tK t = 37 ∨ (17 ≤ tK t ∧ tK t ≤ 23)
          · rw [if_pos (show tK (fT (t, pd, op, cnt, u, lt, true)) = 37 ∨ _ from cl)] at hs
            by_cases cc : 64 ≤ cnt
            · rw [if_pos (show 64 ≤ fC (t, pd, op, cnt, u, lt, true) from cc)] at hs; cases hs
            · rw [if_neg (show ¬ 64 ≤ fC (t, pd, op, cnt, u, lt, true) from cc)] at hs
              by_cases cv : tK t = 37 ∧ tV t > 9999
              · rw [if_pos (show tK (fT (t, pd, op, cnt, u, lt, true)) = 37 ∧ _ from cv)] at hs; cases hs
              · rw [if_neg (show ¬ (tK (fT (t, pd, op, cnt, u, lt, true)) = 37 ∧ _) from cv)] at hs
                cases hs
                refine ⟨⟨hnx.1, h2, h3, h4, ?_, by show cnt + 1 ≤ 64; omega, ?_, fun e he => ?_, h9⟩, fun _ => ?_, fun z => by cases z⟩
                · show base + (u ++ [(tK t, tV t)]).length + npL pd = cnt + 1; rw [List.length_append]; show base + (u.length + 1) + _ = _; omega
                · have hr0 : rk (tK t) = 0 := by
                    by_cases q : rk (tK t) = 0
                    · exact q
                    · have := rk_ok q
                      omega
                  show dpF 0 (u ++ [(tK t, tV t)]) = some (bnL pd + 1)
                  exact dp_leaf h7 hr0 c12
                · rcases mem_sn he with z | z
                  · exact h8 e z
                  · rw [z]
                    have := h1.2.2.2.2.2
                    refine Or.inr (Or.inl ⟨co, ?_⟩)
                    show (tK t = 37 ∧ 0 ≤ tV t ∧ tV t ≤ 9999) ∨ (17 ≤ tK t ∧ tK t ≤ 23 ∧ 0 ≤ tV t ∧ tV t < 2147483648)
                    omega
                · have := h1.2.2.2.2.1 (by omega); have := hnx.2; show tS t + 1 ≤ tS (tok bs L (tN t)); omega
          · rw [if_neg (show ¬ (tK (fT (t, pd, op, cnt, u, lt, true)) = 37 ∨ _) from cl)] at hs; cases hs
        · rw [if_neg co] at hs
          by_cases cl : 13 ≤ tK t ∧ tK t ≤ 16
          · rw [if_pos (show 13 ≤ tK (fT (t, pd, op, cnt, u, lt, true)) ∧ _ from cl)] at hs
            by_cases cc : 64 ≤ cnt
            · rw [if_pos (show 64 ≤ fC (t, pd, op, cnt, u, lt, true) from cc)] at hs; cases hs
            · rw [if_neg (show ¬ 64 ≤ fC (t, pd, op, cnt, u, lt, true) from cc)] at hs
              have hn2 := tok_I (bs := bs) hnx.1.2.2.1
              have hst : tS t + 1 ≤ tS (tok bs L (tN (tok bs L (tN t)))) := by
                have := h1.2.2.2.2.1 (by omega); have := hnx.2; have := hnx.1.2.1; have := hn2.2; omega
              -- the common end
              have fin : ∀ (kk vv : Int) (lt' : Nat → Nat), rk kk = 0 → kk ≠ 12 → okEl (own < 0) own n ln (kk, vv) → (∀ l, lt' l < 2 ^ 8) → FI L own n ln base (tok bs L (tN (tok bs L (tN t))), pd, op, cnt + 1, u ++ [(kk, vv)], lt', false) := by
                intro kk vv lt' r1 r2 r3 r4
                refine ⟨hn2.1, h2, h3, h4, ?_, by show cnt + 1 ≤ 64; omega, ?_, fun e he => ?_, r4⟩
                · show base + (u ++ [(kk, vv)]).length + npL pd = cnt + 1; rw [List.length_append]; show base + (u.length + 1) + _ = _; omega
                · show dpF 0 (u ++ [(kk, vv)]) = some (bnL pd + 1); exact dp_leaf h7 r1 r2
                · rcases mem_sn he with z | z
                  · exact h8 e z
                  · rw [z]; exact r3
              unfold askF at hs
              by_cases c15 : tK t = 15
              · rw [if_pos (show tK (fT (t, pd, op, cnt, u, lt, true)) = 15 from c15)] at hs
                by_cases d1 : tK (tok bs L (tN t)) ≠ 37
                · rw [if_pos (show tK (tok bs L (tN (fT (t, pd, op, cnt, u, lt, true)))) ≠ 37 from d1)] at hs; cases hs
                · rw [if_neg (show ¬ tK (tok bs L (tN (fT (t, pd, op, cnt, u, lt, true)))) ≠ 37 from d1)] at hs
                  by_cases d2 : tV (tok bs L (tN t)) > 8
                  · rw [if_pos (show tV (tok bs L (tN (fT (t, pd, op, cnt, u, lt, true)))) > 8 from d2)] at hs; cases hs
                  · rw [if_neg (show ¬ tV (tok bs L (tN (fT (t, pd, op, cnt, u, lt, true)))) > 8 from d2)] at hs
                    cases hs
                    have := hnx.1.2.2.2.2.2
                    exact ⟨fin 15 _ lt (by decide) (by decide) (Or.inr (Or.inr ⟨co, Or.inr (Or.inl ⟨rfl, by show 0 ≤ tV (tok bs L (tN t)); omega, by show tV (tok bs L (tN t)) ≤ 8; omega⟩)⟩)) h9, fun _ => hst, fun z => by cases z⟩
              · rw [if_neg (show ¬ tK (fT (t, pd, op, cnt, u, lt, true)) = 15 from c15)] at hs
                by_cases d1 : tK (tok bs L (tN t)) ≠ 38
                · rw [if_pos (show tK (tok bs L (tN (fT (t, pd, op, cnt, u, lt, true)))) ≠ 38 from d1)] at hs; cases hs
                · rw [if_neg (show ¬ tK (tok bs L (tN (fT (t, pd, op, cnt, u, lt, true)))) ≠ 38 from d1)] at hs
                  rcases findN_c (nm := nm) (v := tV (tok bs L (tN t))) n 0 with z | ⟨o, o1, o2, o3⟩
                  · rw [if_pos (show findN nm (tV (tok bs L (tN (fT (t, pd, op, cnt, u, lt, true))))) n 0 = -1 from z)] at hs; cases hs
                  · replace hs : (if findN nm (tV (tok bs L (tN t))) n 0 = -1 then _ else _) = _ := hs
                    rw [o3, if_neg (by omega)] at hs
                    by_cases c16 : tK t = 16
                    · rw [if_pos (show tK (fT (t, pd, op, cnt, u, lt, true)) = 16 from c16), Int.toNat_natCast] at hs
                      by_cases d2 : ln.testBit o = false
                      · rw [if_pos d2] at hs; cases hs
                      · rw [if_neg d2] at hs
                        by_cases d3 : (lt o).testBit own.toNat = true
                        · rw [if_pos (show (fL (t, pd, op, cnt, u, lt, true) o).testBit own.toNat = true from d3)] at hs; cases hs
                        · rw [if_neg (show ¬ (fL (t, pd, op, cnt, u, lt, true) o).testBit own.toNat = true from d3)] at hs
                          cases hs
                          refine ⟨fin 16 _ _ (by decide) (by decide) (Or.inr (Or.inr ⟨co, Or.inr (Or.inr ⟨rfl, by show (0 : Int) ≤ (o : Int); omega, by show (o : Int) < (n : Int); omega, ?_⟩)⟩)) (fun l => ?_), fun _ => hst, fun z => by cases z⟩
                          · show ln.testBit ((o : Int)).toNat = true
                            rw [Int.toNat_natCast]
                            cases z : ln.testBit o
                            · exact absurd z d2
                            · rfl
                          · show upN lt own.toNat _ l < 2 ^ 8
                            by_cases e : l = own.toNat
                            · rw [e, upN_self]; exact Nat.or_lt_two_pow (h9 _) (h9 _)
                            · rw [upN_ne _ _ e]; exact h9 l
                    · rw [if_neg (show ¬ tK (fT (t, pd, op, cnt, u, lt, true)) = 16 from c16)] at hs
                      by_cases d2 : (o : Int) = own
                      · rw [if_pos d2] at hs; cases hs
                      · rw [if_neg d2] at hs
                        cases hs
                        have hk : tK t = 13 ∨ tK t = 14 := by omega
                        refine ⟨fin (tK t) _ _ (by rcases hk with z | z <;> (rw [z]; decide)) (by omega) (Or.inr (Or.inr ⟨co, Or.inl ⟨hk, by show (0 : Int) ≤ (o : Int); omega, by show (o : Int) < (n : Int); omega, d2⟩⟩)) (fun l => ?_), fun _ => hst, fun z => by cases z⟩
                        show upN lt own.toNat _ l < 2 ^ 8
                        by_cases e : l = own.toNat
                        · rw [e, upN_self, Int.toNat_natCast]; exact Nat.or_lt_two_pow (h9 _) (Nat.pow_lt_pow_right (by decide) (by omega))
                        · rw [upN_ne _ _ e]; exact h9 l
          · rw [if_neg (show ¬ (13 ≤ tK (fT (t, pd, op, cnt, u, lt, true)) ∧ _) from cl)] at hs; cases hs
  · have cw' : wt = false := by
      cases wt
      · rfl
      · exact absurd rfl cw
    subst cw'
    rw [if_neg cw] at hs
    rw [if_neg cw] at h7
    by_cases c24 : tK t = 24 ∧ op = 0
    · rw [if_pos (show tK (fT (t, pd, op, cnt, u, lt, false)) = 24 ∧ _ from c24)] at hs
      cases hs
      have hq := stl_ok (own := own) (n := n) (ln := ln) (lw := own < 0) (r := 1) (Int.le_refl _) pd u h2 h8 h7
      have hempty : (stl 1 pd u).1 = [] := by
        cases hz : (stl 1 pd u).1 with
        | nil => rfl
        | cons k q =>
          have a1 := hq.1 k (by rw [hz]; exact List.mem_cons_self ..)
          have a2 := hq.2.2.2.2.2
          have a3 := hq.2.2.2.1
          rw [hz] at a2 a3
          have a2' : rk k < 1 := a2
          by_cases c : k = 25
          · rw [c] at a3
            have a3' : (if (25 : Int) = 25 then 1 else 0) + prC q = prC pd := a3
            rw [if_pos rfl] at a3'
            omega
          · have := okPd_rk a1 c; omega
      refine ⟨⟨h1, hq.1, ?_, h4, ?_, h6, ?_, hq.2.1, h9⟩, (fun z => by cases z), fun _ => ⟨hempty, rfl, rfl, c24.1, c24.2⟩⟩
      · show prC (stl 1 pd u).1 = op; rw [hq.2.2.2.1]; exact h3
      · show base + (stl 1 pd u).2.length + npL (stl 1 pd u).1 = cnt; have := hq.2.2.2.2.1; omega
      · exact hq.2.2.1
    · rw [if_neg (show ¬ (tK (fT (t, pd, op, cnt, u, lt, false)) = 24 ∧ _) from c24)] at hs
      by_cases c26 : tK t = 26 ∧ 0 < op
      · rw [if_pos (show tK (fT (t, pd, op, cnt, u, lt, false)) = 26 ∧ _ from c26)] at hs
        cases hs
        have hq := stl_ok (own := own) (n := n) (ln := ln) (lw := own < 0) (r := 1) (Int.le_refl _) pd u h2 h8 h7
        obtain ⟨q, eq⟩ := top25 hq.1 hq.2.2.2.2.2 (by rw [hq.2.2.2.1]; omega)
        have a3 := hq.2.2.2.1
        have a5 := hq.2.2.2.2.1
        have a7 := hq.2.2.1
        rw [eq] at a3 a5 a7
        have a3' : (if (25 : Int) = 25 then 1 else 0) + prC q = prC pd := a3
        have a5' : (stl 1 pd u).2.length + ((if (25 : Int) = 25 then 0 else 1) + npL q) = u.length + npL pd := a5
        have a7' : dpF 0 (stl 1 pd u).2 = some ((if (25 : Int) = 25 ∨ (25 : Int) = 12 then 0 else 1) + bnL q + 1) := a7
        rw [if_pos rfl] at a3' a5'
        rw [if_pos (Or.inl rfl)] at a7'
        have etl : (stl 1 pd u).1.tail = q := by rw [eq]; rfl
        refine ⟨⟨hnx.1, fun k hk => ?_, ?_, by show op - 1 ≤ 8; omega, ?_, h6, ?_, hq.2.1, h9⟩, fun _ => ?_, fun z => by cases z⟩
        · have hk' : k ∈ (stl 1 pd u).1.tail := hk
          rw [etl] at hk'
          exact hq.1 k (by rw [eq]; exact List.mem_cons_of_mem _ hk')
        · show prC (stl 1 pd u).1.tail = op - 1; rw [etl]; omega
        · show base + (stl 1 pd u).2.length + npL (stl 1 pd u).1.tail = cnt; rw [etl]; omega
        · show dpF 0 (stl 1 pd u).2 = some (bnL (stl 1 pd u).1.tail + 1); rw [etl, a7']; congr 1; omega
        · have := h1.2.2.2.2.1 (by omega); have := hnx.2; show tS t + 1 ≤ tS (tok bs L (tN t)); omega
      · rw [if_neg (show ¬ (tK (fT (t, pd, op, cnt, u, lt, false)) = 26 ∧ _) from c26)] at hs
        by_cases c0 : rk (tK t) = 0 ∨ tK t = 12 ∨ (0 ≤ own ∧ 4 ≤ rk (tK t))
        · rw [if_pos (show rk (tK (fT (t, pd, op, cnt, u, lt, false))) = 0 ∨ _ from c0)] at hs; cases hs
        · rw [if_neg (show ¬ (rk (tK (fT (t, pd, op, cnt, u, lt, false))) = 0 ∨ _) from c0)] at hs
          replace hs : (if rk (tK t) = 4 ∧ topR (stl (if rk (tK t) = 4 then 5 else rk (tK t)) pd u).1 = 4 then _ else _) = _ := hs
          have hrb := rk_b (tK t)
          have hr1 : 1 ≤ (if rk (tK t) = 4 then 5 else rk (tK t)) := by split <;> omega
          have hq := stl_ok (own := own) (n := n) (ln := ln) (lw := own < 0) hr1 pd u h2 h8 h7
          by_cases c4 : rk (tK t) = 4 ∧ topR (stl (if rk (tK t) = 4 then 5 else rk (tK t)) pd u).1 = 4
          · rw [if_pos c4] at hs; cases hs
          · rw [if_neg c4] at hs
            by_cases cc : 64 ≤ cnt
            · rw [if_pos (show 64 ≤ fC (t, pd, op, cnt, u, lt, false) from cc)] at hs; cases hs
            · rw [if_neg (show ¬ 64 ≤ fC (t, pd, op, cnt, u, lt, false) from cc)] at hs
              cases hs
              have hne : rk (tK t) ≠ 0 := fun z => c0 (Or.inl z)
              have h12 : tK t ≠ 12 := fun z => c0 (Or.inr (Or.inl z))
              have hpd : okPd (own < 0) (tK t) := by
                rcases rk_ok hne with z | z | z | z
                · exact Or.inr (Or.inr (Or.inl z))
                · exact Or.inr (Or.inr (Or.inr (Or.inl z)))
                · exact absurd z h12
                · refine Or.inr (Or.inr (Or.inr (Or.inr ⟨?_, z⟩)))
                  rcases Int.lt_or_le own 0 with q | q
                  · exact q
                  · exact absurd (Or.inr (Or.inr ⟨q, z.1⟩)) c0
              have h25 : tK t ≠ 25 := fun z => hne (by rw [z]; exact rk25)
              refine ⟨⟨hnx.1, fun k hk => ?_, ?_, h4, ?_, by show cnt + 1 ≤ 64; omega, ?_, hq.2.1, h9⟩, fun _ => ?_, fun z => by cases z⟩
              · rcases List.mem_cons.mp hk with z | z
                · rw [z]; exact hpd
                · exact hq.1 k z
              · show (if tK t = 25 then 1 else 0) + prC (stl (if rk (tK t) = 4 then 5 else rk (tK t)) pd u).1 = op
                rw [if_neg h25, hq.2.2.2.1]; omega
              · show base + (stl (if rk (tK t) = 4 then 5 else rk (tK t)) pd u).2.length + ((if tK t = 25 then 0 else 1) + npL (stl (if rk (tK t) = 4 then 5 else rk (tK t)) pd u).1) = cnt + 1
                have := hq.2.2.2.2.1
                rw [if_neg h25]; omega
              · show dpF 0 (stl (if rk (tK t) = 4 then 5 else rk (tK t)) pd u).2 = some ((if tK t = 25 ∨ tK t = 12 then 0 else 1) + bnL (stl (if rk (tK t) = 4 then 5 else rk (tK t)) pd u).1 + 0)
                have c13 : ¬ (tK t = 25 ∨ tK t = 12) := fun z => z.elim h25 h12
                rw [if_neg c13, hq.2.2.1]; congr 1; omega
              · have := h1.2.2.2.2.1 (fun z => hne (by rw [z]; decide)); have := hnx.2; show tS t + 1 ≤ tS (tok bs L (tN t)); omega
