/-! the walk over the rows: the numbers alone -/
theorem pigeon : ∀ (N c : Nat) (me : Nat → Nat), (∀ i, i < c → me i < N) → (∀ i j, i < c → j < c → me i = me j → i = j) → c ≤ N := by
  intro N
  induction N with
  | zero =>
    intro c me h1 _
    cases c with
    | zero => omega
    | succ c => exact absurd (h1 0 (by omega)) (by omega)
  | succ N ih =>
    intro c me h1 h2
    cases c with
    | zero => omega
    | succ c =>
      have := ih c (fun i => if me i = N then me c else me i) ?_ ?_
      · omega
      · intro i hi
        have a1 := h1 i (by omega)
        have a2 := h1 c (by omega)
        show (if me i = N then me c else me i) < N
        by_cases e : me i = N
        · rw [if_pos e]
          have : me c ≠ N := fun e2 => by have := h2 i c (by omega) (by omega) (e.trans e2.symm); omega
          omega
        · rw [if_neg e]; omega
      · intro i j hi hj hij
        replace hij : (if me i = N then me c else me i) = (if me j = N then me c else me j) := hij
        by_cases e : me i = N
        · by_cases e2 : me j = N
          · exact h2 i j (by omega) (by omega) (e.trans e2.symm)
          · rw [if_pos e, if_neg e2] at hij
            have := h2 c j (by omega) (by omega) hij; omega
        · by_cases e2 : me j = N
          · rw [if_neg e, if_pos e2] at hij
            have := h2 i c (by omega) (by omega) hij; omega
          · rw [if_neg e, if_neg e2] at hij
            exact h2 i j (by omega) (by omega) hij
/-- how far, who is met, how many -/
abbrev BS : Type := (Nat → Int) × (Nat → Nat) × Nat
abbrev bF (b : BS) : Nat → Int := b.1
abbrev bM (b : BS) : Nat → Nat := b.2.1
abbrev bC (b : BS) : Nat := b.2.2
def upN {α : Type} (g : Nat → α) (k : Nat) (v : α) : Nat → α := fun i => if i = k then v else g i
theorem upN_self {α : Type} (g : Nat → α) (k : Nat) (v : α) : upN g k v k = v := by simp [upN]
theorem upN_ne {α : Type} (g : Nat → α) {k i : Nat} (v : α) (h : i ≠ k) : upN g k v i = g i := by simp [upN, h]
/-- a row is taken up, if it wasn't yet -/
def bTk (to : Nat) (fr : Int) (b : BS) : BS := (upN (bF b) to fr, upN (bM b) (bC b) to, bC b + 1)
def bVis (nev : Int) (cr row l : Nat) (b : BS) : BS := if cr.testBit l = true ∧ ((row ^^^ 2 ^ l : Nat) : Int) ≠ nev ∧ bF b (row ^^^ 2 ^ l) = -1 then bTk (row ^^^ 2 ^ l) (bF b row + 1) b else b
def bRow (nev : Int) (cr row : Nat) : Nat → Nat → BS → BS
  | 0, _, b => b
  | j + 1, l, b => bRow nev cr row j (l + 1) (bVis nev cr row l b)
def bGo (nev : Int) (can : Nat → Nat) (n : Nat) : Nat → Nat → BS → BS
  | 0, _, b => b
  | j + 1, k, b => if k < bC b then bGo nev can n j (k + 1) (bRow nev (can (bM b k)) (bM b k) n 0 b) else b
def bSt (s : Nat) : BS := (fun r => if r = s then 0 else -1, fun _ => s, 1)
def bfs (nev : Int) (can : Nat → Nat) (n s : Nat) : BS := bGo nev can n 257 0 (bSt s)
/-- what holds all along the walk -/
def BI (n : Nat) (b : BS) : Prop := 1 ≤ bC b ∧ (∀ i, i < bC b → bM b i < 2 ^ n) ∧ (∀ i j, i < bC b → j < bC b → bM b i = bM b j → i = j) ∧ (∀ i, i < bC b → 0 ≤ bF b (bM b i) ∧ bF b (bM b i) ≤ i) ∧ ∀ r, bF b r ≠ -1 → ∃ i, i < bC b ∧ bM b i = r
theorem BI.cnt {n : Nat} {b : BS} (h : BI n b) : bC b ≤ 2 ^ n := pigeon _ _ _ h.2.1 h.2.2.1
theorem BI.less {n r : Nat} {b : BS} (h : BI n b) (hr : r < 2 ^ n) (hf : bF b r = -1) : bC b < 2 ^ n := by
  have hne : ∀ i, i < bC b → bM b i ≠ r := fun i hi e => by have := h.2.2.2.1 i hi; rw [e, hf] at this; omega
  have := pigeon (2 ^ n) (bC b + 1) (upN (bM b) (bC b) r) ?_ ?_
  · omega
  · intro i hi
    by_cases e : i = bC b
    · rw [e, upN_self]; exact hr
    · rw [upN_ne _ _ e]; exact h.2.1 i (by omega)
  · intro i j hi hj hij
    by_cases e : i = bC b
    · by_cases e2 : j = bC b
      · omega
      · rw [e, upN_self, upN_ne _ _ e2] at hij
        exact absurd hij.symm (hne j (by omega))
    · by_cases e2 : j = bC b
      · rw [e2, upN_self, upN_ne _ _ e] at hij
        exact absurd hij (hne i (by omega))
      · rw [upN_ne _ _ e, upN_ne _ _ e2] at hij
        exact h.2.2.1 i j (by omega) (by omega) hij
theorem BI.had {n r : Nat} {b : BS} (h : BI n b) (hf : bF b r ≠ -1) : r < 2 ^ n ∧ 0 ≤ bF b r ∧ bF b r < bC b := by
  obtain ⟨i, hi, e⟩ := h.2.2.2.2 r hf
  have h1 := h.2.1 i hi
  have h2 := h.2.2.2.1 i hi
  rw [e] at h1 h2
  exact ⟨h1, h2.1, by omega⟩
theorem BI.st {n s : Nat} (hs : s < 2 ^ n) : BI n (bSt s) := by
  refine ⟨Nat.le_refl _, fun i _ => hs, fun i j hi hj _ => ?_, fun i hi => ?_, fun r hr => ⟨0, Nat.zero_lt_one, ?_⟩⟩
  · have h1 : i < 1 := hi
    have h2 : j < 1 := hj
    omega
  · show 0 ≤ (if s = s then (0 : Int) else -1) ∧ (if s = s then (0 : Int) else -1) ≤ i
    rw [if_pos rfl]
    exact ⟨by omega, by omega⟩
  · have hr' : (if r = s then (0 : Int) else -1) ≠ -1 := hr
    by_cases e : r = s
    · exact e.symm
    · rw [if_neg e] at hr'; exact absurd rfl hr'
theorem BI.tk {n to : Nat} {fr : Int} {b : BS} (h : BI n b) (hto : to < 2 ^ n) (hf : bF b to = -1) (hfr : 0 ≤ fr ∧ fr ≤ bC b) : BI n (bTk to fr b) := by
  have hne : ∀ i, i < bC b → bM b i ≠ to := fun i hi e => by have := h.2.2.2.1 i hi; rw [e, hf] at this; omega
  refine ⟨by show 1 ≤ bC b + 1; omega, fun i hi => ?_, fun i j hi hj hij => ?_, fun i hi => ?_, fun r hr => ?_⟩
  · have hi' : i < bC b + 1 := hi
    show upN (bM b) (bC b) to i < _
    by_cases e : i = bC b
    · rw [e, upN_self]; exact hto
    · rw [upN_ne _ _ e]; exact h.2.1 i (by omega)
  · have hi' : i < bC b + 1 := hi
    have hj' : j < bC b + 1 := hj
    have hij' : upN (bM b) (bC b) to i = upN (bM b) (bC b) to j := hij
    by_cases e : i = bC b
    · by_cases e2 : j = bC b
      · omega
      · rw [e, upN_self, upN_ne _ _ e2] at hij'
        exact absurd hij'.symm (hne j (by omega))
    · by_cases e2 : j = bC b
      · rw [e2, upN_self, upN_ne _ _ e] at hij'
        exact absurd hij' (hne i (by omega))
      · rw [upN_ne _ _ e, upN_ne _ _ e2] at hij'
        exact h.2.2.1 i j (by omega) (by omega) hij'
  · have hi' : i < bC b + 1 := hi
    show 0 ≤ upN (bF b) to fr (upN (bM b) (bC b) to i) ∧ upN (bF b) to fr (upN (bM b) (bC b) to i) ≤ i
    by_cases e : i = bC b
    · rw [e, upN_self, upN_self]; exact hfr
    · rw [upN_ne _ _ e, upN_ne _ _ (hne i (by omega))]; exact h.2.2.2.1 i (by omega)
  · have hr' : upN (bF b) to fr r ≠ -1 := hr
    by_cases e : r = to
    · exact ⟨bC b, by show bC b < bC b + 1; omega, by show upN (bM b) (bC b) to (bC b) = r; rw [upN_self, e]⟩
    · rw [upN_ne _ _ e] at hr'
      obtain ⟨i, hi, e2⟩ := h.2.2.2.2 r hr'
      exact ⟨i, by show i < bC b + 1; omega, by show upN (bM b) (bC b) to i = r; rw [upN_ne _ _ (by omega), e2]⟩
theorem BI.vis {n cr row l : Nat} {nev : Int} {b : BS} (h : BI n b) (hl : l < n) (hr : bF b row ≠ -1) : BI n (bVis nev cr row l b) ∧ bF (bVis nev cr row l b) row = bF b row := by
  have hh := h.had hr
  unfold bVis
  split
  · rename_i c
    refine ⟨h.tk (xor_lt hh.1 hl) c.2.2 ⟨by omega, by omega⟩, ?_⟩
    show upN (bF b) _ _ row = _
    rw [upN_ne]
    intro e
    rw [← e] at c
    exact hr c.2.2
  · exact ⟨h, rfl⟩
