/-! lines: the pure reading -/
abbrev LF : Type := Nat × KL × Nat × Nat
abbrev PA : Type := Nat × (Nat → Int) × Nat
abbrev PB : Type := Nat × (Nat → Nat) × (Nat → Nat) × List LF
abbrev PCc : Type := List (Nat × Int) × List Int
abbrev PDd : Type := Int × Int × Bool × Bool
abbrev PF : Type := (Nat → KL) × (Nat → Nat) × (Nat → Nat)
abbrev PG : Type := KL × Nat × Nat × Nat
abbrev PSt : Type := Tk × PA × PB × PCc × PDd × PF × PG
abbrev sT (s : PSt) : Tk := s.1
abbrev sN (s : PSt) : Nat := s.2.1.1
abbrev sM (s : PSt) : Nat → Int := s.2.1.2.1
abbrev sU (s : PSt) : Nat := s.2.1.2.2
abbrev sLn (s : PSt) : Nat := s.2.2.1.1
abbrev sLt (s : PSt) : Nat → Nat := s.2.2.1.2.1
abbrev sRt (s : PSt) : Nat → Nat := s.2.2.1.2.2.1
abbrev sLf (s : PSt) : List LF := s.2.2.1.2.2.2
abbrev sPu (s : PSt) : List (Nat × Int) := s.2.2.2.1.1
abbrev sOi (s : PSt) : List Int := s.2.2.2.1.2
abbrev sRu (s : PSt) : Int := s.2.2.2.2.1.1
abbrev sSe (s : PSt) : Int := s.2.2.2.2.1.2.1
abbrev sRd (s : PSt) : Bool := s.2.2.2.2.1.2.2.1
abbrev sSd (s : PSt) : Bool := s.2.2.2.2.1.2.2.2
abbrev sWf (s : PSt) : Nat → KL := s.2.2.2.2.2.1.1
abbrev sWs (s : PSt) : Nat → Nat := s.2.2.2.2.2.1.2.1
abbrev sWb (s : PSt) : Nat → Nat := s.2.2.2.2.2.1.2.2
abbrev sAl (s : PSt) : KL := s.2.2.2.2.2.2.1
abbrev sC (s : PSt) : Nat := s.2.2.2.2.2.2.2.1
abbrev sLk (s : PSt) : Nat := s.2.2.2.2.2.2.2.2.1
abbrev sWk (s : PSt) : Nat := s.2.2.2.2.2.2.2.2.2
def fmS (t : Tk) (c : Nat) (lt : Nat → Nat) : FS := (t, [], 0, c, [], lt, true)
def latchP (bs : BF) (L : Nat) (s : PSt) : Res PSt :=
  let t1 := tok bs L (tN (sT s))
  let t2 := tok bs L (tN t1)
  if 8 ≤ sN s then Sum.inl (2, tS (sT s))
  else if tK t1 ≠ 38 then Sum.inl (1, tS t1)
  else if findN (sM s) (tV t1) (sN s) 0 ≠ -1 then Sum.inl (3, tS t1)
  else if tK t2 ≠ 37 then Sum.inl (1, tS t2)
  else if 1 < tV t2 then Sum.inl (2, tS t2)
  else Sum.inr (tok bs L (tN t2), (sN s + 1, upN (sM s) (sN s) (tV t1), sU s ||| (tV t2).toNat * 2 ^ sN s), s.2.2)
def leanP (bs : BF) (L : Nat) (s : PSt) : Res PSt :=
  let t1 := tok bs L (tN (sT s))
  let o := findN (sM s) (tV t1) (sN s) 0
  if tK t1 ≠ 38 then Sum.inl (1, tS t1)
  else if o = -1 then Sum.inl (4, tS t1)
  else if (sLn s).testBit o.toNat = true then Sum.inl (3, tS t1)
  else match fml bs L o (sN s) (sM s) (sLn s) (L + 1) (fmS (tok bs L (tN t1)) (sC s) (sLt s)) with
    | Sum.inl e => Sum.inl e
    | Sum.inr r => Sum.inr (fT r, s.2.1, (sLn s ||| 2 ^ o.toNat, fL r, upN (sRt s) o.toNat (sLk s + (fU r).length - 1), sLf s ++ [(o.toNat, fU r, (sAl s).length, sLk s)]), s.2.2.2.1, s.2.2.2.2.1, s.2.2.2.2.2.1, (sAl s ++ fU r, fC r, sLk s + (fU r).length, sWk s))
def pushP (bs : BF) (L : Nat) (s : PSt) : Res PSt :=
  let t1 := tok bs L (tN (sT s))
  let o := findN (sM s) (tV t1) (sN s) 0
  let t2 := tok bs L (tN t1)
  if 16 ≤ (sPu s).length then Sum.inl (2, tS (sT s))
  else if tK t1 ≠ 38 then Sum.inl (1, tS t1)
  else if o = -1 then Sum.inl (4, tS t1)
  else if tK t2 ≠ 37 then Sum.inl (1, tS t2)
  else if 99 < tV t2 then Sum.inl (2, tS t2)
  else Sum.inr (tok bs L (tN t2), s.2.1, s.2.2.1, (sPu s ++ [(o.toNat, tV t2)], sOi s), s.2.2.2.2)
def oilP (bs : BF) (L : Nat) (s : PSt) : Res PSt :=
  let t1 := tok bs L (tN (sT s))
  if 4 ≤ (sOi s).length then Sum.inl (2, tS (sT s))
  else if tK t1 ≠ 37 then Sum.inl (1, tS t1)
  else if 99 < tV t1 then Sum.inl (2, tS t1)
  else Sum.inr (tok bs L (tN t1), s.2.1, s.2.2.1, (sPu s, sOi s ++ [tV t1]), s.2.2.2.2)
def rustP (bs : BF) (L : Nat) (s : PSt) : Res PSt :=
  let t1 := tok bs L (tN (sT s))
  if sRd s = true then Sum.inl (3, tS (sT s))
  else if tK t1 ≠ 37 then Sum.inl (1, tS t1)
  else if 100 < tV t1 then Sum.inl (2, tS t1)
  else Sum.inr (tok bs L (tN t1), s.2.1, s.2.2.1, s.2.2.2.1, (tV t1, sSe s, true, sSd s), s.2.2.2.2.2)
def seedP (bs : BF) (L : Nat) (s : PSt) : Res PSt :=
  let t1 := tok bs L (tN (sT s))
  if sSd s = true then Sum.inl (3, tS (sT s))
  else if tK t1 ≠ 37 then Sum.inl (1, tS t1)
  else if 99999 < tV t1 then Sum.inl (2, tS t1)
  else Sum.inr (tok bs L (tN t1), s.2.1, s.2.2.1, s.2.2.2.1, (sRu s, tV t1, sRd s, true), s.2.2.2.2.2)
def lawP (bs : BF) (L : Nat) (s : PSt) : Res PSt :=
  let t1 := tok bs L (tN (sT s))
  let k := (tK t1 - 7).toNat
  if tK t1 < 7 ∨ 9 < tK t1 then Sum.inl (1, tS t1)
  else if (sWf s k).length ≠ 0 then Sum.inl (3, tS t1)
  else match fml bs L (-1) (sN s) (sM s) (sLn s) (L + 1) (fmS (tok bs L (tN t1)) (sC s) (sLt s)) with
    | Sum.inl e => Sum.inl e
    | Sum.inr r => Sum.inr (fT r, s.2.1, (sLn s, fL r, sRt s, sLf s), s.2.2.2.1, s.2.2.2.2.1, (upN (sWf s) k (fU r), upN (sWs s) k (sAl s).length, upN (sWb s) k (sWk s)), (sAl s ++ fU r, fC r, sLk s, sWk s + (fU r).length))
def lineP (bs : BF) (L : Nat) (s : PSt) : Res PSt :=
  if tK (sT s) = 0 then latchP bs L s else if tK (sT s) = 1 then leanP bs L s else if tK (sT s) = 2 then pushP bs L s else if tK (sT s) = 3 then oilP bs L s else if tK (sT s) = 4 then rustP bs L s else if tK (sT s) = 5 then seedP bs L s else if tK (sT s) = 6 then lawP bs L s else Sum.inl (1, tS (sT s))
def lineE (bs : BF) (L : Nat) (s : PSt) : Res PSt := match lineP bs L s with
  | Sum.inl e => Sum.inl e
  | Sum.inr r => if tK (sT r) = 24 then Sum.inr (tok bs L (tN (sT r)), r.2) else Sum.inl (1, tS (sT r))
def txtP (bs : BF) (L : Nat) : Nat → Nat → PSt → Res (PSt × Nat)
  | 0, m, s => Sum.inr (s, m)
  | j + 1, m, s => if tK (sT s) = 39 then Sum.inr (s, m) else match lineE bs L s with
    | Sum.inl e => Sum.inl e
    | Sum.inr r => txtP bs L j (m + 1) r
def ps0 (bs : BF) (L : Nat) : PSt := (tok bs L 0, (0, fun _ => 0, 0), (0, fun _ => 0, fun _ => 0, []), ([], []), (0, 0, false, false), (fun _ => [], fun _ => 0, fun _ => 0), ([], 0, 0, 0))
/-- what holds of what was read -/
def lnOf (l : List LF) : Nat → Bool := fun o => l.any (fun e => e.1 == o)
def cbN (x : Nat) : Nat → Nat
  | 0 => 0
  | k + 1 => cbN x k + if x.testBit k = true then 1 else 0
theorem cbN_le (x : Nat) : ∀ n, cbN x n ≤ n := by
  intro n
  induction n with
  | zero => exact Nat.le_refl _
  | succ n ih => simp only [cbN]; cases x.testBit n <;> simp <;> omega
theorem cbN_or {x o : Nat} (hx : x.testBit o = false) : ∀ n, cbN (x ||| 2 ^ o) n = cbN x n + if o < n then 1 else 0 := by
  intro n
  induction n with
  | zero => rfl
  | succ n ih =>
    simp only [cbN]
    rw [ih, Nat.testBit_or, Nat.testBit_two_pow]
    by_cases e : o = n
    · subst e
      rw [hx]; simp
    · by_cases c : o < n
      · have c2 : o < n + 1 := by omega
        cases x.testBit n <;> simp [e, c, c2] <;> omega
      · have c2 : ¬ o < n + 1 := by omega
        cases x.testBit n <;> simp [e, c, c2]
def PI (L : Nat) (s : PSt) : Prop :=
  TkI L (sT s) ∧ (sN s ≤ 8 ∧ sU s < 2 ^ sN s) ∧ (sLn s < 2 ^ sN s ∧ (∀ l, sLt s l < 2 ^ 8) ∧ (∀ o, (sLn s).testBit o = lnOf (sLf s) o) ∧ (sLf s).length = cbN (sLn s) (sN s)) ∧ ((sPu s).length ≤ 16 ∧ (sOi s).length ≤ 4) ∧ (0 ≤ sRu s ∧ sRu s ≤ 100 ∧ 0 ≤ sSe s ∧ sSe s ≤ 99999) ∧ ((sAl s).length = sC s ∧ sC s ≤ 64 ∧ sLk s + sWk s = sC s) ∧
  (∀ e, e ∈ sLf s → e.1 < sN s ∧ e.2.2.1 + e.2.1.length ≤ (sAl s).length ∧ e.2.2.2 + e.2.1.length ≤ sLk s ∧ dpF 0 e.2.1 = some 1 ∧ (∀ i q, e.2.1[i]? = some q → (sAl s)[e.2.2.1 + i]? = some q) ∧ sRt s e.1 = e.2.2.2 + e.2.1.length - 1) ∧
  (∀ (i o : Nat) (P : KL) (sg rb : Nat), (sLf s)[i]? = some (o, P, sg, rb) → (∀ q, q ∈ P → ∃ ln0, okEl False (o : Int) (sN s) ln0 q ∧ ∀ z, ln0.testBit z = true → lnOf ((sLf s).take i) z = true) ∧ lnOf ((sLf s).take i) o = false) ∧
  (∀ k, k < 3 → sWf s k ≠ [] → sWs s k + (sWf s k).length ≤ (sAl s).length ∧ sWb s k + (sWf s k).length ≤ sWk s ∧ dpF 0 (sWf s k) = some 1 ∧ (∀ q, q ∈ sWf s k → okEl True (-1) (sN s) (sLn s) q) ∧ (∀ i q, (sWf s k)[i]? = some q → (sAl s)[sWs s k + i]? = some q)) ∧
  (∀ e, e ∈ sPu s → e.1 < sN s ∧ 0 ≤ e.2 ∧ e.2 ≤ 99) ∧ (∀ e, e ∈ sOi s → 0 ≤ e ∧ e ≤ 99) ∧ ∀ l, l < sN s → 0 ≤ sM s l ∧ sM s l < 2147483648
/-- as it lies in the class -/
def PrC (bs : BF) (L : Nat) (s : PSt) (M : Mem) : Prop :=
  TPc bs L M ∧ TC (sT s) M ∧ NmC (sN s) (sM s) (sLn s) M ∧ M 5 2 = (sU s : Int) ∧ LtC (sLt s) M ∧ (M 5 4 = ((sLf s).length : Int) ∧ ∀ (i o : Nat) (P : KL) (sg rb : Nat), (sLf s)[i]? = some (o, P, sg, rb) → M 7 i = (o : Int) ∧ M 8 (2 * o) = (sg : Int) ∧ M 8 (2 * o + 1) = ((sg + P.length : Nat) : Int)) ∧
  (M 5 10 = ((sPu s).length : Int) ∧ ∀ (i o : Nat) (m : Int), (sPu s)[i]? = some (o, m) → M 11 i = (o : Int) ∧ M 12 i = m) ∧ (M 5 13 = ((sOi s).length : Int) ∧ ∀ (i : Nat) (m : Int), (sOi s)[i]? = some m → M 13 i = m) ∧ (M 5 15 = sRu s ∧ M 5 16 = sSe s ∧ M 1 7 = bI (sRd s) ∧ M 1 8 = bI (sSd s)) ∧
  (∀ k, k < 3 → M 14 (2 * k) = ((if sWf s k = [] then 0 else sWs s k : Nat) : Int) ∧ M 14 (2 * k + 1) = ((if sWf s k = [] then 0 else sWs s k + (sWf s k).length : Nat) : Int)) ∧ KA (sAl s) M ∧ M 1 6 = (sC s : Int)
/-- what the reading may change in the class: the reader, its tape's token, its door -/
def FrRd (M M' : Mem) : Prop := (∀ a, ¬ (1 ≤ a ∧ a ≤ 2) → ¬ (5 ≤ a ∧ a ≤ 9) → ¬ (11 ≤ a ∧ a ≤ 17) → a ≠ 20 → M' a = M a) ∧ ∀ k, k < 4 → M' 2 k = M 2 k
theorem FrRd.rf (M : Mem) : FrRd M M := ⟨fun _ _ _ _ _ => rfl, fun _ _ => rfl⟩
theorem FrRd.tr {M M1 M2 : Mem} (h1 : FrRd M M1) (h2 : FrRd M1 M2) : FrRd M M2 := ⟨fun a a1 a2 a3 a4 => (h2.1 a a1 a2 a3 a4).trans (h1.1 a a1 a2 a3 a4), fun k k1 => (h2.2 k k1).trans (h1.2 k k1)⟩
theorem FrF.toRd {M M' : Mem} (h : FrF M M') : FrRd M M' := ⟨fun a a1 a2 a3 a4 => h.1 a (by omega) (by omega) (by omega) (by omega) (by omega) (by omega) (by omega), h.2.1⟩
theorem FrTk.toRd {M M' : Mem} (h : FrTk M M') : FrRd M M' := ⟨fun a a1 _ _ _ => h.1 a (by omega), h.2⟩
theorem FrRd.u {M : Mem} {a k : Nat} (v : Int) (h : a = 1 ∨ (5 ≤ a ∧ a ≤ 9) ∨ (11 ≤ a ∧ a ≤ 17) ∨ a = 20) : FrRd M (upM M a k v) := ⟨fun c c1 c2 c3 c4 => upM_ne _ _ _ (by omega), fun q _ => by rw [upM_ne _ _ _ (by omega)]⟩
theorem FrRd.tp {bs : BF} {L : Nat} {M M' : Mem} (h : FrRd M M') (hT : TPc bs L M) : TPc bs L M' := by
  unfold TPc
  rw [h.2 3 (by decide), h.1 3 (by decide) (by decide) (by decide) (by decide), h.1 4 (by decide) (by decide) (by decide) (by decide)]
  exact hT
theorem FI.ini {L : Nat} {own : Int} {n ln : Nat} {t : Tk} {c : Nat} {lt : Nat → Nat} {al : KL} (ht : TkI L t) (hc : al.length = c) (hc2 : c ≤ 64) (hl : ∀ l, lt l < 2 ^ 8) : FI L own n ln al.length (fmS t c lt) :=
  ⟨ht, fun k hk => absurd hk (show ¬ k ∈ ([] : List Int) by simp), rfl, Nat.zero_le _, by show al.length + 0 + 0 = c; omega, hc2, rfl, fun e he => absurd he (show ¬ e ∈ ([] : KL) by simp), hl⟩
theorem lnOf_sn {l : List LF} {e : LF} {o : Nat} : lnOf (l ++ [e]) o = (lnOf l o || (e.1 == o)) := by
  unfold lnOf
  rw [List.any_append]
  simp
