/-! the reference's walk, with its ways -/
abbrev WF : Type := Nat → Int
def wVis (nev : Int) (cr row l : Nat) (b : BS) (w : WF) : WF :=
  if cr.testBit l = true ∧ ((row ^^^ 2 ^ l : Nat) : Int) ≠ nev then
    (if bF (bVis nev cr row l b) (row ^^^ 2 ^ l) = bF b row + 1 then
      upN w (row ^^^ 2 ^ l) (min ((if bF b (row ^^^ 2 ^ l) = -1 then 0 else w (row ^^^ 2 ^ l)) + w row) 1000000000)
    else w)
  else w
def wRow (nev : Int) (cr row : Nat) : Nat → Nat → BS → WF → WF
  | 0, _, _, w => w
  | j + 1, l, b, w => wRow nev cr row j (l + 1) (bVis nev cr row l b) (wVis nev cr row l b w)
def wGo (nev : Int) (can : Nat → Nat) (n : Nat) : Nat → Nat → BS → WF → WF
  | 0, _, _, w => w
  | j + 1, k, b, w => if k < bC b then wGo nev can n j (k + 1) (bRow nev (can (bM b k)) (bM b k) n 0 b) (wRow nev (can (bM b k)) (bM b k) n 0 b w) else w
def wfs (nev : Int) (can : Nat → Nat) (n s : Nat) : WF := wGo nev can n 257 0 (bSt s) (fun _ => 1)
def BR (b : BS) (w : WF) (M : Mem) : Prop := (∀ r, r < 256 → M 131 r = bF b r) ∧ (∀ i, i < bC b → M 133 i = (bM b i : Int)) ∧ M 98 69 = (bC b : Int) ∧ ∀ r, bF b r ≠ -1 → M 132 r = w r ∧ 0 ≤ w r ∧ w r ≤ 1000000000
/-- all but the walk's rows stays -/
def FrV (M M' : Mem) : Prop := (∀ a, a ≠ 98 → a ≠ 131 → a ≠ 132 → a ≠ 133 → M' a = M a) ∧ ∀ k, k ≠ 69 → M' 98 k = M 98 k
theorem FrV.rf (M : Mem) : FrV M M := ⟨fun _ _ _ _ _ => rfl, fun _ _ => rfl⟩
theorem FrV.tr {M M1 M2 : Mem} (h1 : FrV M M1) (h2 : FrV M1 M2) : FrV M M2 := ⟨fun a a1 a2 a3 a4 => (h2.1 a a1 a2 a3 a4).trans (h1.1 a a1 a2 a3 a4), fun k k1 => (h2.2 k k1).trans (h1.2 k k1)⟩
def GM (n : Nat) (may : Nat → Nat) (M : Mem) : Prop := M 98 12 = (n : Int) ∧ ∀ r, r < 2 ^ n → M 123 r = (may r : Int) ∧ may r < 256
theorem GM.fr {n : Nat} {may : Nat → Nat} {M M' : Mem} (h : GM n may M) (hF : FrV M M') : GM n may M' := by
  unfold GM
  rw [hF.2 12 (by decide), hF.1 123 (by decide) (by decide) (by decide) (by decide)]
  exact h
theorem BR.tk {n to : Nat} {fr : Int} {b : BS} {w : WF} {M : Mem} (hb : BI n b) (h : BR b w M) : BR (bTk to fr b) (upN w to 0) (upM (upM (upM (upM M 131 to fr) 132 to 0) 133 (bC b) (to : Int)) 98 69 ((bC b : Int) + 1)) := by
  obtain ⟨b1, b2, b3, b4⟩ := h
  refine ⟨fun r hr => ?_, fun i hi => ?_, ?_, fun r hr => ?_⟩
  · show va_up (M 131) to fr r = upN (bF b) to fr r
    by_cases e : r = to
    · rw [e, va_up_self, upN_self]
    · rw [va_up_neq _ _ e, upN_ne _ _ e]; exact b1 r hr
  · have hi' : i < bC b + 1 := hi
    show va_up (M 133) (bC b) (to : Int) i = ((upN (bM b) (bC b) to i : Nat) : Int)
    by_cases e : i = bC b
    · rw [e, va_up_self, upN_self]
    · rw [va_up_neq _ _ e, upN_ne _ _ e]; exact b2 i (by omega)
  · show (bC b : Int) + 1 = ((bC b + 1 : Nat) : Int)
    omega
  · have hr' : upN (bF b) to fr r ≠ -1 := hr
    show va_up (M 132) to 0 r = upN w to 0 r ∧ 0 ≤ upN w to 0 r ∧ upN w to 0 r ≤ 1000000000
    by_cases e : r = to
    · rw [e, va_up_self, upN_self]; exact ⟨rfl, by decide, by decide⟩
    · rw [upN_ne _ _ e] at hr'
      rw [va_up_neq _ _ e, upN_ne _ _ e]; exact b4 r hr'
