/-! the walk asks of a row only its latches -/
section WALKE
variable {n : Nat} {nev : Int}
theorem bRow_ext {c1 c2 row : Nat} : ∀ (j l : Nat) (b : BS), (∀ q, l ≤ q → q < l + j → c1.testBit q = c2.testBit q) → bRow nev c1 row j l b = bRow nev c2 row j l b := by
  intro j
  induction j with
  | zero => intro l b _; rfl
  | succ j ih =>
    intro l b h
    simp only [bRow]
    have e : bVis nev c1 row l b = bVis nev c2 row l b := by unfold bVis; rw [h l (by omega) (by omega)]
    rw [e]
    exact ih (l + 1) _ (fun q a1 a2 => h q (by omega) (by omega))
theorem bGo_ext {can1 can2 : Nat → Nat} (hc : ∀ r, r < 2 ^ n → ∀ q, q < n → (can1 r).testBit q = (can2 r).testBit q) : ∀ (j k : Nat) (b : BS), BI n b → bGo nev can1 n j k b = bGo nev can2 n j k b := by
  intro j
  induction j with
  | zero => intro k b _; rfl
  | succ j ih =>
    intro k b hb
    simp only [bGo]
    by_cases hk : k < bC b
    · rw [if_pos hk, if_pos hk]
      have hm := hb.2.1 k hk
      have hf := hb.2.2.2.1 k hk
      rw [bRow_ext n 0 b (fun q _ a2 => hc _ hm q (by omega))]
      exact ih (k + 1) _ (BI.row n 0 b (by omega) hb (by omega)).1
    · rw [if_neg hk, if_neg hk]
theorem bfs_ext {can1 can2 : Nat → Nat} {s : Nat} (hs : s < 2 ^ n) (hc : ∀ r, r < 2 ^ n → ∀ q, q < n → (can1 r).testBit q = (can2 r).testBit q) : bfs nev can1 n s = bfs nev can2 n s := bGo_ext hc _ _ _ (BI.st hs)
theorem BI.go {can : Nat → Nat} : ∀ (j k : Nat) (b : BS), BI n b → BI n (bGo nev can n j k b) := by
  intro j
  induction j with
  | zero => intro k b h; exact h
  | succ j ih =>
    intro k b h
    simp only [bGo]
    by_cases hk : k < bC b
    · rw [if_pos hk]
      have hf := h.2.2.2.1 k hk
      exact ih (k + 1) _ (BI.row n 0 b (by omega) h (by omega)).1
    · rw [if_neg hk]; exact h
theorem BI.fs {can : Nat → Nat} {s : Nat} (hs : s < 2 ^ n) : BI n (bfs nev can n s) := BI.go _ _ _ (BI.st hs)
end WALKE
