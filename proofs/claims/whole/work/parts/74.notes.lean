/-! notes and strikes: size, by how many known, and of each: latch (-1: a strike), row or number, could -/
abbrev NS : Type := Nat × Int × (Nat → Int) × (Nat → Int) × (Nat → Int)
abbrev nSz (s : NS) : Nat := s.1
abbrev nKb (s : NS) : Int := s.2.1
abbrev nLa (s : NS) : Nat → Int := s.2.2.1
abbrev nSu (s : NS) : Nat → Int := s.2.2.2.1
abbrev nCo (s : NS) : Nat → Int := s.2.2.2.2
def wfNo (n : Nat) (s : NS) : Prop := nSz s ≤ 24 ∧ (-1 ≤ nKb s ∧ nKb s ≤ nSz s) ∧ ∀ i, i < nSz s → (nLa s i = -1 ∧ 0 ≤ nSu s i ∧ nSu s i < i ∧ nCo s i = 0) ∨ (0 ≤ nLa s i ∧ nLa s i < n ∧ 0 ≤ nSu s i ∧ nSu s i < ((2 ^ n : Nat) : Int) ∧ (nCo s i = 0 ∨ nCo s i = 1))
def nAdd (a b c : Int) (s : NS) : Int × NS := if nSz s = 24 then (-1, s) else ((nSz s : Int), (nSz s + 1, nKb s, upN (nLa s) (nSz s) a, upN (nSu s) (nSz s) b, upN (nCo s) (nSz s) c))
def notY (n : Nat) (x l c : Int) (s : NS) : Int × NS := if (0 ≤ x ∧ x < ((2 ^ n : Nat) : Int)) ∧ 0 ≤ l ∧ l < (n : Int) then nAdd l x c s else (-1, s)
def strY (x : Int) (s : NS) : Int × NS := if 0 ≤ x ∧ x < (nSz s : Int) then nAdd (-1) x 0 s else (-1, s)
def knoY (x : Int) (s : NS) : Int × NS := if -1 ≤ x ∧ x ≤ (nSz s : Int) then (1, (nSz s, x, nLa s, nSu s, nCo s)) else (0, s)
def nCt (s : NS) : Nat := if nKb s < 0 then nSz s else (nKb s).toNat
def stF (s : NS) : Nat → (Nat → Bool) → (Nat → Bool)
  | 0, h => h
  | i + 1, h => stF s i (if nLa s i = -1 ∧ h i = false then upN h (nSu s i).toNat true else h)
def nSt (s : NS) : Nat → Bool := stF s (nCt s) (fun _ => false)
def letB (le row : Nat) : Bool := decide (le = 0) || decide (bt row ((le - 1) / 2) = le % 2)
def okN (s : NS) (st : Nat → Bool) (l le i : Nat) : Bool := !(decide (nLa s i = (l : Int)) && !st i && !decide (bI (letB le (nSu s i).toNat) = nCo s i))
def agP (s : NS) (st : Nat → Bool) (l le : Nat) : Nat → Bool
  | 0 => true
  | k + 1 => agP s st l le k && okN s st l le k
def ftP (s : NS) (l le : Nat) : Bool := !(decide (0 < le ∧ (le - 1) / 2 = l)) && agP s (nSt s) l le (nCt s)
def ftF (p : Nat → Bool) : Nat → Nat → Nat → Nat
  | 0, _, t => t
  | j + 1, le, t => ftF p j (le + 1) (if p le = true then t ||| 2 ^ le else t)
def nFit (n : Nat) (s : NS) (l : Nat) : Nat := ftF (ftP s l) (2 * n + 1) 0 0
def fitY (n : Nat) (x : Int) (s : NS) : Int := if 0 ≤ x ∧ x < (n : Int) then (nFit n s x.toNat : Int) else -1
def cnF (p : Nat → Bool) : Nat → Nat
  | 0 => 0
  | m + 1 => cnF p m + if p m = true then 1 else 0
def yesN (ft row : Nat) : Nat := cnF (fun le => ft.testBit le && letB le row) 17
def worN (ft row : Nat) : Int := max (yesN ft row : Int) ((pop ft : Int) - (yesN ft row : Int))
def akF (ft : Nat) : Nat → Nat → Nat × Int → Nat × Int
  | 0, _, v => v
  | j + 1, r, v => akF ft j (r + 1) (if v.2 < 0 ∨ worN ft r < v.2 then (r, worN ft r) else v)
def askY (n : Nat) (x w : Int) (s : NS) : Int := if (0 ≤ x ∧ x < (n : Int)) ∧ 0 ≤ w ∧ w ≤ 1 then (if w = 0 then ((akF (nFit n s x.toNat) (2 ^ n) 0 (0, -1)).1 : Int) else (akF (nFit n s x.toNat) (2 ^ n) 0 (0, -1)).2) else -1
def NC (s : NS) (M : Mem) : Prop := M 93 4 = (nSz s : Int) ∧ M 93 5 = nKb s ∧ ∀ i, i < nSz s → M 94 i = nLa s i ∧ M 95 i = nSu s i ∧ M 96 i = nCo s i
def NM (s : NS) (M : Mem) : Prop := M 98 76 = (nSz s : Int) ∧ M 98 77 = nKb s ∧ ∀ i, i < nSz s → M 140 (3 * i) = (if nLa s i = -1 then -1 else nSu s i) ∧ M 140 (3 * i + 1) = (if nLa s i = -1 then nSu s i else nLa s i) ∧ M 140 (3 * i + 2) = nCo s i
def FrO (M M' : Mem) : Prop := ∀ a, ¬ (93 ≤ a ∧ a ≤ 97) → M' a = M a
theorem FrO.rf (M : Mem) : FrO M M := fun _ _ => rfl
theorem FrO.tr {M M1 M2 : Mem} (h1 : FrO M M1) (h2 : FrO M1 M2) : FrO M M2 := fun a a1 => (h2 a a1).trans (h1 a a1)
def FrJ (M M' : Mem) : Prop := (∀ a, a ≠ 98 → a ≠ 140 → a ≠ 141 → M' a = M a) ∧ ∀ k, k ≠ 2 → k ≠ 76 → k ≠ 77 → M' 98 k = M 98 k
theorem FrJ.rf (M : Mem) : FrJ M M := ⟨fun _ _ _ _ => rfl, fun _ _ _ _ => rfl⟩
theorem FrJ.tr {M M1 M2 : Mem} (h1 : FrJ M M1) (h2 : FrJ M1 M2) : FrJ M M2 := ⟨fun a a1 a2 a3 => (h2.1 a a1 a2 a3).trans (h1.1 a a1 a2 a3), fun k k1 k2 k3 => (h2.2 k k1 k2 k3).trans (h1.2 k k1 k2 k3)⟩
theorem FrJ.th (M : Mem) (v : Int) : FrJ M (upM M 98 2 v) := ⟨fun a a1 _ _ => upM_ne _ _ _ a1, fun k k1 _ _ => by rw [upM_self, va_up_neq _ _ k1]⟩
theorem NM.th {s : NS} {M : Mem} (h : NM s M) (v : Int) : NM s (upM M 98 2 v) := h
theorem nAdd_wf {n : Nat} {s : NS} {a b c : Int} (h : wfNo n s) (hx : (a = -1 ∧ 0 ≤ b ∧ b < (nSz s : Int) ∧ c = 0) ∨ (0 ≤ a ∧ a < n ∧ 0 ≤ b ∧ b < ((2 ^ n : Nat) : Int) ∧ (c = 0 ∨ c = 1))) : wfNo n (nAdd a b c s).2 := by
  unfold nAdd
  by_cases e : nSz s = 24
  · rw [if_pos e]; exact h
  · rw [if_neg e]
    obtain ⟨h1, h2, h3⟩ := h
    refine ⟨by show nSz s + 1 ≤ 24; omega, ⟨h2.1, by show nKb s ≤ ((nSz s + 1 : Nat) : Int); omega⟩, fun i hi => ?_⟩
    have hi' : i < nSz s + 1 := hi
    show (upN (nLa s) (nSz s) a i = -1 ∧ 0 ≤ upN (nSu s) (nSz s) b i ∧ upN (nSu s) (nSz s) b i < i ∧ upN (nCo s) (nSz s) c i = 0) ∨ (0 ≤ upN (nLa s) (nSz s) a i ∧ upN (nLa s) (nSz s) a i < n ∧ 0 ≤ upN (nSu s) (nSz s) b i ∧ upN (nSu s) (nSz s) b i < ((2 ^ n : Nat) : Int) ∧ (upN (nCo s) (nSz s) c i = 0 ∨ upN (nCo s) (nSz s) c i = 1))
    by_cases e2 : i = nSz s
    · rw [e2, upN_self, upN_self, upN_self]; exact hx
    · rw [upN_ne _ _ e2, upN_ne _ _ e2, upN_ne _ _ e2]; exact h3 i (by omega)
theorem notY_wf {n : Nat} {s : NS} {x l c : Int} (h : wfNo n s) (hc : c = 0 ∨ c = 1) : wfNo n (notY n x l c s).2 := by
  unfold notY
  split
  · rename_i z; exact nAdd_wf h (Or.inr ⟨z.2.1, z.2.2, z.1.1, z.1.2, hc⟩)
  · exact h
theorem strY_wf {n : Nat} {s : NS} {x : Int} (h : wfNo n s) : wfNo n (strY x s).2 := by
  unfold strY
  split
  · rename_i z; exact nAdd_wf h (Or.inl ⟨rfl, z.1, z.2, rfl⟩)
  · exact h
theorem knoY_wf {n : Nat} {s : NS} {x : Int} (h : wfNo n s) : wfNo n (knoY x s).2 := by
  unfold knoY
  split
  · rename_i z; exact ⟨h.1, z, h.2.2⟩
  · exact h
theorem nCt_b {n : Nat} {s : NS} (h : wfNo n s) : nCt s ≤ nSz s := by
  unfold nCt
  have := h.2.1
  split <;> omega
theorem ftF_b {p : Nat → Bool} : ∀ (j le t : Nat), t < 2 ^ le → ftF p j le t < 2 ^ (le + j) := by
  intro j
  induction j with
  | zero => intro le t h; exact h
  | succ j ih =>
    intro le t h
    simp only [ftF]
    rw [show le + (j + 1) = le + 1 + j by omega]
    refine ih (le + 1) _ ?_
    have h1 : 2 ^ le < 2 ^ (le + 1) := Nat.pow_lt_pow_right (by decide) (by omega)
    split
    · exact Nat.or_lt_two_pow (by omega) h1
    · omega
theorem cnF_le (p : Nat → Bool) : ∀ m, cnF p m ≤ m := by
  intro m
  induction m with
  | zero => exact Nat.le_refl _
  | succ m ih => simp only [cnF]; split <;> omega
theorem cnF_pop {p : Nat → Bool} {ft : Nat} (h : ∀ i, p i = true → ft.testBit i = true) : ∀ m, cnF p m ≤ popN m ft := by
  intro m
  induction m with
  | zero => exact Nat.le_refl _
  | succ m ih =>
    simp only [cnF, popN, bt_tb]
    have := h m
    cases hp : p m <;> cases hf : ft.testBit m <;> simp_all <;> omega
theorem cnF_ext {p : Nat → Bool} {a : Nat} (h : ∀ i, a ≤ i → p i = false) : ∀ c, cnF p (a + c) = cnF p a := by
  intro c
  induction c with
  | zero => rfl
  | succ c ih => show (cnF p (a + c) + if p (a + c) = true then 1 else 0) = cnF p a; rw [h (a + c) (by omega), ih]; rfl
theorem nFit_b {n : Nat} {s : NS} {l : Nat} (hn : n ≤ 8) : nFit n s l < 2 ^ (2 * n + 1) ∧ nFit n s l < 131072 := by
  have h := ftF_b (p := ftP s l) (2 * n + 1) 0 0 (by decide)
  rw [Nat.zero_add] at h
  have h2 : 2 ^ (2 * n + 1) ≤ 2 ^ 17 := Nat.pow_le_pow_right (by decide) (by omega)
  exact ⟨h, by unfold nFit; omega⟩
theorem yes_b {ft row : Nat} : yesN ft row ≤ pop ft := cnF_pop (fun i hi => by rw [Bool.and_eq_true] at hi; exact hi.1) 17
section NOTESC
variable {E : Scr} {law : Lw} {may : Nat → Nat} {rust : Int} {n : Nat} {s : NS}
theorem c_addN {f : Int → Mem → Prop} {M : Mem} {a b c : Int} (ha : iR a) (hb : iR b) (hc : zR c) (hw : wfNo n s) (hN : NC s M) (H : ∀ M', FrO M M' → NC (nAdd a b c s).2 M' → f (nAdd a b c s).1 M') : CI E mX3_add [pR 93, pI a, pI b, pI c] M f := by
  have h1 := hw.1
  unfold nAdd at H
  apply vX3_add_0
  rw [hN.1]
  refine fun _ => ⟨fun c1 => ?_, fun c1 => ?_⟩
  · rw [if_neg (by omega)] at H
    refine fun _ => ⟨⟨by omega, by omega⟩, ha, fun _ => ⟨⟨by omega, by omega⟩, hb, fun _ => ⟨⟨by omega, by omega⟩, hc, fun _ => ⟨⟨by omega, by omega⟩, fun _ => ?_⟩⟩⟩⟩
    rw [Int.toNat_natCast, show (nSz s : Int) + 1 - 1 = (nSz s : Int) by omega]
    refine H _ (fun q q1 => by rw [upM_ne _ _ _ (by omega), upM_ne _ _ _ (by omega), upM_ne _ _ _ (by omega), upM_ne _ _ _ (by omega)]) ⟨rfl, hN.2.1, fun i hi => ?_⟩
    have hi' : i < nSz s + 1 := hi
    show va_up (M 94) (nSz s) a i = upN (nLa s) (nSz s) a i ∧ va_up (M 95) (nSz s) b i = upN (nSu s) (nSz s) b i ∧ va_up (M 96) (nSz s) c i = upN (nCo s) (nSz s) c i
    by_cases e : i = nSz s
    · rw [e, va_up_self, va_up_self, va_up_self, upN_self, upN_self, upN_self]; exact ⟨rfl, rfl, rfl⟩
    · rw [va_up_neq _ _ e, va_up_neq _ _ e, va_up_neq _ _ e, upN_ne _ _ e, upN_ne _ _ e, upN_ne _ _ e]; exact hN.2.2 i (by omega)
  · rw [if_pos (by omega)] at H
    exact H M (FrO.rf M) hN
theorem c_noteC {f : Int → Mem → Prop} {M : Mem} {x l c : Int} (hx : iR x) (hl : iR l) (hc : zR c) (hw : wfNo n s) (hD : CD n may law rust M) (hN : NC s M) (H : ∀ M', FrO M M' → NC (notY n x l c s).2 M' → f (notY n x l c s).1 M') : CI E mX10_note [pR 0, pI x, pI l, pI c] M f := by
  have hn := hD.2.1
  unfold notY at H
  refine vX10_note_0 _ _ _ (c_hasRow hx hD.1 hn (fun r er hr => ⟨⟨by decide, by decide⟩, fun z => absurd z (by decide), fun _ => c_has (Or.inr rfl) hl hD.1 hn (fun q eq hq => ⟨⟨by decide, by decide⟩, fun _ => ?_, fun z => absurd z (by decide)⟩) (fun z => ⟨⟨by decide, by decide⟩, fun z => absurd rfl z, fun _ => ?_⟩)⟩) (fun z => ⟨⟨by decide, by decide⟩, fun _ => ?_, fun z => absurd rfl z⟩))
  · rw [if_pos (by omega)] at H
    exact c_addN hl hx hc hw hN H
  · rw [if_neg (fun q => z q.2)] at H
    exact H M (FrO.rf M) hN
  · rw [if_neg (fun q => z q.1)] at H
    exact H M (FrO.rf M) hN
theorem c_strikeC {f : Int → Mem → Prop} {M : Mem} {x : Int} (hx : iR x) (hw : wfNo n s) (hN : NC s M) (H : ∀ M', FrO M M' → NC (strY x s).2 M' → f (strY x s).1 M') : CI E mX10_strike [pR 0, pI x] M f := by
  unfold strY at H
  apply vX10_strike_0
  rw [hN.1]
  refine ⟨hx, fun c => ?_, fun c => fun _ => ⟨hx, fun c2 => ?_, fun c2 => ?_⟩⟩
  · rw [if_neg (by omega)] at H; exact H M (FrO.rf M) hN
  · rw [if_pos (by omega)] at H; exact c_addN ⟨by decide, by decide⟩ hx (Or.inl rfl) hw hN H
  · rw [if_neg (by omega)] at H; exact H M (FrO.rf M) hN
theorem c_knownC {f : Int → Mem → Prop} {M : Mem} {x : Int} (hx : iR x) (hN : NC s M) (H : ∀ M', FrO M M' → NC (knoY x s).2 M' → f (knoY x s).1 M') : CI E mX10_known [pR 0, pI x] M f := by
  unfold knoY at H
  apply vX10_known_0
  rw [hN.1]
  refine ⟨hx, fun c => ?_, fun c => fun _ => ⟨hx, fun c2 => ⟨hx, ?_⟩, fun c2 => ?_⟩⟩
  · rw [if_neg (by omega)] at H; exact H M (FrO.rf M) hN
  · rw [if_pos (by omega)] at H; exact H _ (fun q q1 => upM_ne _ _ _ (by omega)) ⟨hN.1, rfl, hN.2.2⟩
  · rw [if_neg (by omega)] at H; exact H M (FrO.rf M) hN
theorem c_counted {f : Int → Mem → Prop} {M : Mem} (hw : wfNo n s) (hN : NC s M) (H : f (nCt s : Int) M) : CI E mX3_counted [pR 93] M f := by
  have h2 := hw.2.1
  unfold nCt at H
  apply vX3_counted_0
  rw [hN.1, hN.2.1]
  refine fun _ => ⟨fun c => fun _ _ => ?_, fun c => fun _ => ?_⟩
  · rw [if_neg (by omega), show (((nKb s).toNat : Nat) : Int) = min (nKb s) (nSz s : Int) by omega] at H
    exact H
  · rw [if_pos (by omega)] at H
    exact H
theorem c_settleStrikes {f : Mem → Prop} {M : Mem} (hw : wfNo n s) (hN : NC s M) (H : ∀ M', (∀ a, a ≠ 97 → M' a = M a) → (∀ i, i < 24 → M' 97 i = bI (nSt s i)) → f M') : CV E mX3_settleStrikes [pR 93, pI (nCt s : Int)] M f := by
  have h1 := hw.1
  have hc := nCt_b hw
  have loop2 : ∀ (i : Nat) (h : Nat → Bool) (M1 : Mem), i ≤ nCt s → (∀ a, a ≠ 97 → M1 a = M a) → (∀ q, q < 24 → M1 97 q = bI (h q)) → stF s i h = nSt s → KW E mX3_settleStrikes (qV f) M1 25 [(0, pR 93), (2, pI ((i : Int) - 1))] [] := by
    intro i
    induction i with
    | zero =>
      intro h M1 hi e1 e2 e3
      have e3' : h = nSt s := e3
      exact vX3_settleStrikes_25 _ ⟨⟨by decide, by decide⟩, fun _ => H M1 e1 (by rw [← e3']; exact e2), fun z => absurd z (by decide)⟩
    | succ i ih =>
      intro h M1 hi e1 e2 e3
      have hN1 := hN.2.2 i (by omega)
      have hwi := hw.2.2 i (by omega)
      simp only [stF] at e3
      apply vX3_settleStrikes_25
      rw [show ((i + 1 : Nat) : Int) - 1 = (i : Int) by omega, Int.toNat_natCast, show (i : Int) + (-1) = (i : Int) - 1 by omega, e1 94 (by decide), e1 95 (by decide), hN1.1, hN1.2.1, e2 i (by omega)]
      refine ⟨⟨by omega, by omega⟩, fun z => absurd z (by omega), fun _ => ⟨⟨by omega, by omega⟩, fun _ => ⟨⟨by omega, by omega⟩, fun _ => ⟨fun c => ?_, fun c => ⟨⟨by omega, by omega⟩, fun _ => ⟨fun c2 => ?_, fun c2 => ⟨fun c3 => ?_, fun c3 => ⟨fun c4 => ?_, fun c4 => ⟨⟨by omega, by omega⟩, ?_⟩⟩⟩⟩⟩⟩⟩⟩⟩
      · rw [if_neg (fun z => c z.1)] at e3
        exact ih h M1 (by omega) e1 e2 e3
      · rw [if_neg (fun z => c2 (by rw [z.2]; rfl))] at e3
        exact ih h M1 (by omega) e1 e2 e3
      · omega
      · omega
      · have hz : h i = false := by
          cases z : h i
          · rfl
          · rw [z] at c2; exact absurd c2 (by decide)
        rw [if_pos ⟨c, hz⟩] at e3
        refine ih _ _ (by omega) (fun a a1 => by rw [upM_ne _ _ _ a1]; exact e1 a a1) (fun q hq => ?_) e3
        rw [upM_self]
        by_cases e : q = (nSu s i).toNat
        · rw [e, va_up_self, upN_self]; rfl
        · rw [va_up_neq _ _ e, upN_ne _ _ e]; exact e2 q hq
  have loop : ∀ (j k : Nat) (M1 : Mem), k + j = 24 → (∀ a, a ≠ 97 → M1 a = M a) → (∀ q, q < k → M1 97 q = 0) → KW E mX3_settleStrikes (qV f) M1 2 [(0, pR 93), (1, pI (nCt s : Int)), (2, pI (k : Int))] [] := by
    intro j
    induction j with
    | zero =>
      intro k M1 hk e1 e2
      exact vX3_settleStrikes_2 _ _ ⟨⟨by omega, by omega⟩, fun _ => loop2 _ (fun _ => false) M1 (Nat.le_refl _) e1 (fun q hq => e2 q (by omega)) rfl, fun z => absurd z (by omega)⟩
    | succ j ih =>
      intro k M1 hk e1 e2
      refine vX3_settleStrikes_2 _ _ ⟨⟨by omega, by omega⟩, fun z => absurd z (by omega), fun _ => ⟨⟨by omega, by omega⟩, ?_⟩⟩
      rw [Int.toNat_natCast]
      refine ih (k + 1) _ (by omega) (fun a a1 => by rw [upM_ne _ _ _ a1]; exact e1 a a1) (fun q hq => ?_)
      rw [upM_self]
      by_cases e : q = k
      · rw [e, va_up_self]
      · rw [va_up_neq _ _ e]; exact e2 q (by omega)
  exact vX3_settleStrikes_0 _ (loop 24 0 M (by omega) (fun _ _ => rfl) (fun q hq => absurd hq (by omega)))
theorem c_lets {f : Int → Mem → Prop} {M : Mem} {le row : Nat} (hle : le ≤ 17) (hr : row < 2147483648) (H : f (bI (letB le row)) M) : CI E mX3_lets [pI (le : Int), pI (row : Int)] M f := by
  refine vX3_lets_0 _ _ ⟨⟨by omega, by omega⟩, fun c => ?_, fun c => ?_⟩
  · have e1 : Int.tdiv ((le : Int) - 1) 2 = (((le - 1) / 2 : Nat) : Int) := by rw [show (le : Int) - 1 = ((le - 1 : Nat) : Int) by omega]; rfl
    have e2 : Int.tmod (le : Int) 2 = ((le % 2 : Nat) : Int) := rfl
    rw [e1, e2, bBit_nat hr (by omega)]
    have hlt := bt_lt row ((le - 1) / 2)
    refine ⟨⟨by omega, by omega⟩, ⟨by omega, by omega⟩, ⟨by omega, by omega⟩, fun c2 => ?_, fun c2 => ?_⟩
    · have : letB le row = false := by
        unfold letB
        rw [decide_eq_false (by omega), decide_eq_false (by omega)]; rfl
      rw [this] at H; exact H
    · have : letB le row = true := by
        unfold letB
        rw [decide_eq_true (show bt row ((le - 1) / 2) = le % 2 by omega), Bool.or_true]
      rw [this] at H; exact H
  · have : letB le row = true := by
      unfold letB
      rw [decide_eq_true (show le = 0 by omega), Bool.true_or]
    rw [this] at H; exact H
theorem agP_mono {st : Nat → Bool} {l le a : Nat} (h : agP s st l le a = false) : ∀ c, agP s st l le (a + c) = false := by
  intro c
  induction c with
  | zero => exact h
  | succ c ih => show (agP s st l le (a + c) && _) = false; rw [ih]; rfl
theorem c_agrees {f : Int → Mem → Prop} {M : Mem} {l le : Nat} (hle : le ≤ 17) (hln : l < n) (hn : n ≤ 8) (hw : wfNo n s) (hN : NC s M) (h97 : ∀ i, i < 24 → M 97 i = bI (nSt s i)) (H : f (bI (agP s (nSt s) l le (nCt s))) M) : CI E mX3_agrees [pR 93, pI (le : Int), pI (l : Int), pI (nCt s : Int)] M f := by
  have h1 := hw.1
  have hc := nCt_b hw
  have hp := pw8 hn
  have loop : ∀ (j k : Nat), k + j = nCt s → agP s (nSt s) l le k = true → KW E mX3_agrees (qI f) M 3 [(0, pR 93), (1, pI (le : Int)), (2, pI (l : Int)), (3, pI (nCt s : Int)), (4, pI (k : Int))] [] := by
    intro j
    induction j with
    | zero =>
      intro k hk ha
      have : k = nCt s := by omega
      subst this
      rw [ha] at H
      exact vX3_agrees_3 _ _ _ _ ⟨⟨by omega, by omega⟩, ⟨by omega, by omega⟩, fun _ => H, fun z => absurd z (by omega)⟩
    | succ j ih =>
      intro k hk ha
      have hN1 := hN.2.2 k (by omega)
      have hwi := hw.2.2 k (by omega)
      have nx : okN s (nSt s) l le k = true → KW E mX3_agrees (qI f) M 3 [(0, pR 93), (1, pI (le : Int)), (2, pI (l : Int)), (3, pI (nCt s : Int)), (4, pI ((k : Int) + 1))] [] := fun z => ih (k + 1) (by omega) (by show (agP s (nSt s) l le k && _) = true; rw [ha, z]; rfl)
      apply vX3_agrees_3
      rw [Int.toNat_natCast, hN1.1, hN1.2.1, h97 k (by omega)]
      refine ⟨⟨by omega, by omega⟩, ⟨by omega, by omega⟩, fun z => absurd z (by omega), fun _ => ⟨⟨by omega, by omega⟩, fun z => absurd z (by omega), fun _ => ⟨⟨by omega, by omega⟩, fun _ => ⟨⟨by omega, by omega⟩, fun c => nx ?_, fun c => ⟨⟨by omega, by omega⟩, fun _ => ⟨fun c2 => nx ?_, fun c2 => ⟨⟨by omega, by omega⟩, fun _ => ?_⟩⟩⟩⟩⟩⟩⟩
      · unfold okN; rw [decide_eq_false c]; rfl
      · have hz : nSt s k = true := by
          cases z : nSt s k
          · rw [z] at c2; exact absurd rfl c2
          · rfl
        unfold okN; rw [hz]; simp
      · have hz : nSt s k = false := by
          cases z : nSt s k
          · rfl
          · rw [z] at c2; exact absurd c2 (by decide)
        obtain ⟨row, er⟩ : ∃ row : Nat, nSu s k = (row : Int) := ⟨(nSu s k).toNat, by omega⟩
        rw [er]
        refine c_lets hle (by omega) ⟨⟨by omega, by omega⟩, ?_⟩
        rw [hN1.2.2]
        have hrg : iR (bI (letB le row)) := by cases letB le row <;> exact ⟨by decide, by decide⟩
        refine fun _ => ⟨hrg, fun c3 => nx ?_, fun c3 => ?_⟩
        · unfold okN; rw [er, Int.toNat_natCast, decide_eq_true c3]; simp
        · have hf : okN s (nSt s) l le k = false := by unfold okN; rw [er, Int.toNat_natCast, decide_eq_false c3, decide_eq_true c, hz]; rfl
          have h5 : agP s (nSt s) l le (k + 1) = false := by show (agP s (nSt s) l le k && _) = false; rw [hf, Bool.and_false]
          have := agP_mono h5 (nCt s - (k + 1))
          rw [show k + 1 + (nCt s - (k + 1)) = nCt s by omega] at this
          rw [this] at H
          exact H
  exact vX3_agrees_0 _ _ _ (loop _ 0 (Nat.zero_add _) rfl)
theorem c_fitting {f : Int → Mem → Prop} {M : Mem} {l : Nat} (hln : l < n) (hn : n ≤ 8) (hw : wfNo n s) (hN : NC s M) (H : ∀ M', FrO M M' → NC s M' → f (nFit n s l : Int) M') : CI E mX3_fitting [pR 93, pI (l : Int), pI (n : Int)] M f := by
  refine vX3_fitting_0 _ _ (c_counted hw hN (c_settleStrikes hw hN (fun M1 b1 b2 => ?_)))
  have hN1 : NC s M1 := by
    unfold NC
    rw [b1 93 (by decide), b1 94 (by decide), b1 95 (by decide), b1 96 (by decide)]
    exact hN
  have HH := H M1 (fun a a1 => b1 a (by omega)) hN1
  have hc := nCt_b hw
  have h1 := hw.1
  have loop : ∀ (j le t : Nat), le + j = 2 * n + 1 → t < 2 ^ le → nFit n s l = ftF (ftP s l) j le t → KW E mX3_fitting (qI f) M1 16 [(0, pR 93), (1, pI (l : Int)), (2, pI (n : Int)), (3, pI (nCt s : Int)), (4, pI (t : Int)), (5, pI (le : Int))] [] := by
    intro j
    induction j with
    | zero =>
      intro le t hj ht e
      have e' : nFit n s l = t := e
      rw [e'] at HH
      exact vX3_fitting_16 _ _ _ _ _ ⟨⟨by omega, by omega⟩, ⟨by omega, by omega⟩, fun _ => HH, fun z => absurd z (by omega)⟩
    | succ j ih =>
      intro le t hj ht e
      have hle17 : le < 17 := by omega
      have hpl : 2 ^ le < 2 ^ (le + 1) := Nat.pow_lt_pow_right (by decide) (by omega)
      have hpl2 : 2 ^ (le + 1) ≤ 2 ^ 17 := Nat.pow_le_pow_right (by decide) (by omega)
      simp only [ftF] at e
      have no : ftP s l le = false → KW E mX3_fitting (qI f) M1 16 [(0, pR 93), (1, pI (l : Int)), (2, pI (n : Int)), (3, pI (nCt s : Int)), (4, pI (t : Int)), (5, pI ((le : Int) + 1))] [] := by
        intro z
        rw [z, if_neg (by decide)] at e
        exact ih (le + 1) t (by omega) (by omega) e
      have own : (le : Int) ≤ 0 ∨ Int.tdiv ((le : Int) - 1) 2 ≠ (l : Int) → KW E mX3_fitting (qI f) M1 44 [(0, pR 93), (1, pI (l : Int)), (2, pI (n : Int)), (3, pI (nCt s : Int)), (4, pI (t : Int)), (5, pI (le : Int))] [pI 0] := by
        intro z
        have hz : ¬ (0 < le ∧ (le - 1) / 2 = l) := by
          rintro ⟨z1, z2⟩
          have e1 : Int.tdiv ((le : Int) - 1) 2 = (((le - 1) / 2 : Nat) : Int) := by rw [show (le : Int) - 1 = ((le - 1 : Nat) : Int) by omega]; rfl
          rw [e1] at z
          omega
        refine vX3_fitting_44 _ _ _ _ _ _ ⟨⟨by decide, by decide⟩, fun z => absurd rfl z, fun _ => c_agrees (by omega) hln hn hw hN1 b2 ?_⟩
        rw [bOne_nat (by omega), bOr_nat (by omega) (by omega)]
        have ep : ftP s l le = agP s (nSt s) l le (nCt s) := by unfold ftP; rw [decide_eq_false hz]; rfl
        cases ha : agP s (nSt s) l le (nCt s)
        · exact ⟨⟨by decide, by decide⟩, fun _ => no (by rw [ep, ha]), fun z => absurd rfl z⟩
        · rw [ep, ha, if_pos rfl] at e
          exact ⟨⟨by decide, by decide⟩, fun z => absurd z (by decide), fun _ => ih (le + 1) _ (by omega) (Nat.or_lt_two_pow (by omega) hpl) e⟩
      refine vX3_fitting_16 _ _ _ _ _ ⟨⟨by omega, by omega⟩, ⟨by omega, by omega⟩, fun z => absurd z (by omega), fun _ => ⟨⟨by omega, by omega⟩, fun c => own (Or.inl c), fun c => ⟨⟨by omega, by omega⟩, ?_, ⟨by omega, by omega⟩, fun c2 => own (Or.inr c2), fun c2 => ?_⟩⟩⟩
      · have e1 : Int.tdiv ((le : Int) - 1) 2 = (((le - 1) / 2 : Nat) : Int) := by rw [show (le : Int) - 1 = ((le - 1 : Nat) : Int) by omega]; rfl
        rw [e1]; exact ⟨by omega, by omega⟩
      · have e1 : Int.tdiv ((le : Int) - 1) 2 = (((le - 1) / 2 : Nat) : Int) := by rw [show (le : Int) - 1 = ((le - 1 : Nat) : Int) by omega]; rfl
        rw [e1] at c2
        refine vX3_fitting_44 _ _ _ _ _ _ ⟨⟨by decide, by decide⟩, fun _ => no ?_, fun z => absurd z (by decide)⟩
        unfold ftP
        rw [decide_eq_true ⟨by omega, by omega⟩]; rfl
  exact loop (2 * n + 1) 0 0 (Nat.zero_add _) (by decide) rfl
theorem c_fitsC {f : Int → Mem → Prop} {M : Mem} {x : Int} (hx : iR x) (hw : wfNo n s) (hD : CD n may law rust M) (hN : NC s M) (H : ∀ M', FrO M M' → NC s M' → f (fitY n x s) M') : CI E mX10_fits [pR 0, pI x] M f := by
  have hn := hD.2.1
  unfold fitY at H
  refine vX10_fits_0 _ (c_has (Or.inr rfl) hx hD.1 hn (fun l el hl => ⟨⟨by decide, by decide⟩, fun z => absurd z (by decide), fun _ => ?_⟩) (fun z => ⟨⟨by decide, by decide⟩, fun _ => ?_, fun z => absurd rfl z⟩))
  · subst el
    rw [if_pos ⟨by omega, by omega⟩, Int.toNat_natCast] at H
    rw [hD.1]
    exact fun _ => c_fitting hl hn hw hN H
  · rw [if_neg z] at H; exact H M (FrO.rf M) hN
end NOTESC
