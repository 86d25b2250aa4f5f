/-! tokens of the reference -/
def rwL : List Nat := [108, 97, 116, 99, 104, 32, 108, 101, 97, 110, 32, 112, 117, 115, 104, 32, 111, 105, 108, 32, 114, 117, 115, 116, 32, 115, 101, 101, 100, 32, 108, 97, 119, 32, 101, 102, 102, 111, 114, 116, 32, 115, 101, 97, 108, 32, 101, 97, 116, 32, 117, 112, 32, 100, 111, 119, 110, 32, 109, 97, 110, 121, 32, 97, 115, 32, 97, 110, 100, 32, 111, 114, 32, 110, 111, 116, 32, 119, 111, 114, 110, 32, 112, 108, 97, 99, 101, 32, 117, 112, 115, 32, 115, 101, 97, 108, 115, 32, 104, 105, 103, 104, 32, 116, 105, 114, 101, 100, 32, 109, 105, 110, 117, 116, 101, 32]
def rwN (i : Nat) : Nat := rwL.getD i 0
def woL : List Nat := [0, 6, 11, 16, 20, 25, 30, 34, 41, 46, 50, 53, 58, 63, 66, 70, 73, 77, 82, 88, 92, 98, 103, 109, 116]
def woN (k : Nat) : Nat := woL.getD k 0
def wlL : List Nat := [5, 4, 4, 3, 4, 4, 3, 6, 4, 3, 2, 4, 4, 2, 3, 2, 3, 4, 5, 3, 5, 4, 5, 6]
def wlN (k : Nat) : Nat := wlL.getD k 0
def peL : List Nat := [0, 1, 2, 3, 4, 5, 6, 7, 8, 9, 13, 14, 15, 16, 11, 10, 12, 17, 18, 19, 20, 21, 22, 23]
def peN (k : Nat) : Nat := peL.getD k 0
def prD (d : Nat → Nat) : Nat → Nat
  | 0 => 0
  | i + 1 => prD d i * 32 + d i
def wdN (k i : Nat) : Nat := if i < wlN k then rwN (woN k + i) - 96 else 0
theorem w_tab : ∀ k, k < 24 → woN k + wlN k + 1 = woN (k + 1) ∧ rwN (woN k + wlN k) = 32 ∧ 1 ≤ wlN k ∧ wlN k ≤ 6 ∧ woN (k + 1) ≤ 116 ∧ prD (wdN k) 6 = wcN (peN k) ∧ peN k < 24 := by decide +kernel
theorem w_let : ∀ k, k < 24 → ∀ i, i < 6 → i < wlN k → 97 ≤ rwN (woN k + i) ∧ rwN (woN k + i) ≤ 122 := by decide +kernel
theorem w_in : ∀ j, j < 24 → ∃ k, k < 24 ∧ peN k = j := by decide +kernel
theorem w_dis : ∀ k, k < 24 → lstM (wcN k) 24 = ((k : Nat) : Int) := by decide +kernel
theorem w_pe : ∀ k, k < 24 → ((peN k ≤ 9 ∨ 17 ≤ peN k) ∧ k = peN k) ∨ (peN k = 10 ∧ k = 15) ∨ (peN k = 11 ∧ k = 14) ∨ (peN k = 12 ∧ k = 16) ∨ (13 ≤ peN k ∧ peN k ≤ 16 ∧ k + 3 = peN k) := by decide +kernel
theorem prL_prD {bs : BF} {s e : Nat} : ∀ i, prL bs s e i = prD (dgL bs s e) i := by
  intro i
  induction i with
  | zero => rfl
  | succ i ih => simp only [prL, prD]; rw [ih]
theorem prD_inj {d1 d2 : Nat → Nat} (h1 : ∀ i, d1 i < 32) (h2 : ∀ i, d2 i < 32) : ∀ m, prD d1 m = prD d2 m → ∀ i, i < m → d1 i = d2 i := by
  intro m
  induction m with
  | zero => intro _ i hi; omega
  | succ m ih =>
    intro h i hi
    simp only [prD] at h
    have a1 := h1 m
    have a2 := h2 m
    by_cases e : i = m
    · rw [e]; omega
    · exact ih (by omega) i (by omega)
theorem prD_ext {d1 d2 : Nat → Nat} : ∀ m, (∀ i, i < m → d1 i = d2 i) → prD d1 m = prD d2 m := by
  intro m
  induction m with
  | zero => intro _; rfl
  | succ m ih => intro h; simp only [prD]; rw [ih (fun i hi => h i (by omega)), h m (by omega)]
theorem lstM_hit {v : Nat} : ∀ j, j ≤ 24 → ∀ i : Nat, i < 24 → lstM v j = (i : Int) → wcN i = v := by
  intro j
  induction j with
  | zero => intro _ i hi h; have h' : (38 : Int) = (i : Int) := h
            omega
  | succ j ih =>
    intro hj i hi h
    simp only [lstM] at h
    by_cases c : wcN j = v
    · rw [if_pos c] at h
      have : i = j := by omega
      rw [this]; exact c
    · rw [if_neg c] at h; exact ih (by omega) i hi h
def mtE (bs : BF) (a k : Nat) : Nat → Bool
  | 0 => true
  | i + 1 => mtE bs a k i && decide (rwN (woN k + i) = bs (a + i))
def mtB (bs : BF) (a b k : Nat) : Bool := decide (wlN k = b - a) && mtE bs a k (wlN k)
def fstM (p : Nat → Bool) : Nat → Nat → Int
  | 0, _ => -1
  | j + 1, k => if p k = true then (k : Int) else fstM p j (k + 1)
theorem fstM_c {p : Nat → Bool} : ∀ (j k : Nat), (fstM p j k = -1 ∧ ∀ q, k ≤ q → q < k + j → p q = false) ∨ ∃ q, k ≤ q ∧ q < k + j ∧ p q = true ∧ fstM p j k = ((q : Nat) : Int) := by
  intro j
  induction j with
  | zero => intro k; exact Or.inl ⟨rfl, fun q a1 a2 => by omega⟩
  | succ j ih =>
    intro k
    simp only [fstM]
    by_cases c : p k = true
    · rw [if_pos c]; exact Or.inr ⟨k, Nat.le_refl _, by omega, c, rfl⟩
    · rw [if_neg c]
      rcases ih (k + 1) with ⟨z1, z2⟩ | ⟨q, q1, q2, q3, q4⟩
      · refine Or.inl ⟨z1, fun q a1 a2 => ?_⟩
        by_cases e : q = k
        · rw [e]
          cases z : p k
          · rfl
          · exact absurd z c
        · exact z2 q (by omega) (by omega)
      · exact Or.inr ⟨q, by omega, by omega, q3, q4⟩
theorem mtE_all {bs : BF} {a k : Nat} : ∀ i, mtE bs a k i = true ↔ ∀ q, q < i → rwN (woN k + q) = bs (a + q) := by
  intro i
  induction i with
  | zero => exact ⟨fun _ q hq => absurd hq (by omega), fun _ => rfl⟩
  | succ i ih =>
    simp only [mtE]
    rw [Bool.and_eq_true, ih, decide_eq_true_eq]
    constructor
    · intro h q hq
      by_cases e : q = i
      · rw [e]; exact h.2
      · exact h.1 q (by omega)
    · intro h
      exact ⟨fun q hq => h q (by omega), h i (by omega)⟩
theorem mt_iff {bs : BF} {a b k : Nat} (hk : k < 24) (hab : a < b) (hlen : b - a ≤ 6) (hl : ∀ q, a ≤ q → q < b → 97 ≤ bs q ∧ bs q ≤ 122) : mtB bs a b k = true ↔ prL bs a b 6 = wcN (peN k) := by
  have ht := w_tab k hk
  have hw := w_let k hk
  have b1 : ∀ i, dgL bs a b i < 32 := fun i => by have := (dgL_b (i := i) hl).1; omega
  have b2 : ∀ i, wdN k i < 32 := fun i => by
    unfold wdN
    split
    · rename_i c; have := hw i (by omega) c; omega
    · omega
  unfold mtB
  rw [Bool.and_eq_true, decide_eq_true_eq, mtE_all, prL_prD, ← ht.2.2.2.2.2.1]
  constructor
  · rintro ⟨h1, h2⟩
    refine prD_ext 6 (fun i hi => ?_)
    unfold dgL wdN
    by_cases c : a + i < b
    · rw [if_pos c, if_pos (by omega), h2 i (by omega)]
    · rw [if_neg c, if_neg (by omega)]
  · intro h
    have hd := prD_inj b1 b2 6 h
    have hlen2 : wlN k = b - a := by
      rcases Nat.lt_trichotomy (wlN k) (b - a) with c | c | c
      · have := hd (wlN k) (by omega)
        have c2 := (dgL_b (i := wlN k) hl).2 (by omega)
        unfold wdN at this
        rw [if_neg (by omega)] at this
        omega
      · exact c
      · have := hd (b - a) (by omega)
        have c2 := hw (b - a) (by omega) c
        unfold wdN dgL at this
        rw [if_neg (by omega), if_pos c] at this
        omega
    refine ⟨hlen2, fun q hq => ?_⟩
    have := hd q (by omega)
    have c2 := hw q (by omega) hq
    have c3 := hl (a + q) (by omega) (by omega)
    unfold wdN dgL at this
    rw [if_pos (by omega), if_pos hq] at this
    omega
/-- what the reference holds for a token -/
def RK (t : Tk) (kd wh : Int) : Prop :=
  (((0 ≤ tK t ∧ tK t ≤ 9) ∨ (17 ≤ tK t ∧ tK t ≤ 23)) ∧ kd = 1 ∧ wh = tK t) ∨ (tK t = 10 ∧ kd = 1 ∧ wh = 15) ∨ (tK t = 11 ∧ kd = 1 ∧ wh = 14) ∨ (tK t = 12 ∧ kd = 1 ∧ wh = 16) ∨ (13 ≤ tK t ∧ tK t ≤ 16 ∧ kd = 1 ∧ wh = tK t - 3) ∨
  (tK t = 24 ∧ kd = 4 ∧ wh = 59) ∨ (tK t = 25 ∧ kd = 4 ∧ wh = 40) ∨ (tK t = 26 ∧ kd = 4 ∧ wh = 41) ∨ (tK t = 30 ∧ kd = 4 ∧ wh = 43) ∨ (tK t = 31 ∧ kd = 4 ∧ wh = 45) ∨ (tK t = 32 ∧ kd = 4 ∧ wh = 42) ∨ (tK t = 33 ∧ kd = 4 ∧ wh = 47) ∨
  (tK t = 27 ∧ kd = 5 ∧ wh = 0) ∨ (tK t = 34 ∧ kd = 5 ∧ wh = 1) ∨ (tK t = 28 ∧ kd = 5 ∧ wh = 2) ∨ (tK t = 35 ∧ kd = 5 ∧ wh = 3) ∨ (tK t = 36 ∧ kd = 5 ∧ wh = 4) ∨ (tK t = 29 ∧ kd = 5 ∧ wh = 5) ∨
  (tK t = 37 ∧ kd = 3 ∧ 0 ≤ wh ∧ wh ≤ 999999 ∧ ((tV t = wh ∧ wh ≤ 99999) ∨ (99999 < tV t ∧ 99999 < wh))) ∨ (tK t = 38 ∧ kd = 2 ∧ wh = tV t) ∨ (tK t = 39 ∧ kd = 0) ∨ (tK t = 40 ∧ (kd = 6 ∨ (kd = 4 ∧ wh = 37)))
def TM (t : Tk) (M : Mem) : Prop := RK t (M 98 8) (M 98 9) ∧ M 98 10 = (tS t : Int) ∧ M 98 7 = (tN t : Int)
def TPm (bs : BF) (L : Nat) (M : Mem) : Prop := M 98 6 = (L : Int) ∧ L ≤ 700 ∧ (∀ i, i < L → M 99 i = (bs i : Int) ∧ bs i < 256) ∧ ∀ i, i < 116 → M 100 i = (rwN i : Int)
def FrTm (M M' : Mem) : Prop := (∀ a, a ≠ 98 → M' a = M a) ∧ ∀ k, ¬ (7 ≤ k ∧ k ≤ 10) → M' 98 k = M 98 k
theorem FrTm.rf (M : Mem) : FrTm M M := ⟨fun _ _ => rfl, fun _ _ => rfl⟩
theorem FrTm.tr {M M1 M2 : Mem} (h1 : FrTm M M1) (h2 : FrTm M1 M2) : FrTm M M2 := ⟨fun a a1 => (h2.1 a a1).trans (h1.1 a a1), fun k k1 => (h2.2 k k1).trans (h1.2 k k1)⟩
theorem FrTm.u (M : Mem) {k : Nat} (v : Int) (h : 7 ≤ k ∧ k ≤ 10) : FrTm M (upM M 98 k v) := ⟨fun a a1 => upM_ne _ _ _ a1, fun q q1 => by rw [upM_self, va_up_neq _ _ (by omega)]⟩
theorem TPm.fr {bs : BF} {L : Nat} {M M' : Mem} (h : TPm bs L M) (hF : FrTm M M') : TPm bs L M' := by
  unfold TPm
  rw [hF.2 6 (by decide), hF.1 99 (by decide), hF.1 100 (by decide)]
  exact h
section TOKM
variable {E : Scr} {bs : BF} {L : Nat}
theorem c_isSmall {f : Int → Mem → Prop} {M : Mem} {p : Nat} (hT : TPm bs L M) (hp : p ≤ L) (H1 : p < L → 97 ≤ bs p → bs p ≤ 122 → f 1 M) (H0 : ¬ (p < L ∧ 97 ≤ bs p ∧ bs p ≤ 122) → f 0 M) : CI E mX11_isSmall [pR 98, pI (p : Int)] M f := by
  obtain ⟨t1, t2, t3, t4⟩ := hT
  apply vX11_isSmall_0
  rw [t1, Int.toNat_natCast]
  by_cases c : p < L
  · rw [(t3 p c).1]
    exact fun _ => ⟨⟨by omega, by omega⟩, fun z => H0 (by omega), fun _ => ⟨⟨by omega, by omega⟩, fun _ => ⟨fun z => H0 (by omega), fun z1 => ⟨⟨by omega, by omega⟩, fun _ => ⟨fun z => H0 (by omega), fun z2 => H1 c (by omega) (by omega)⟩⟩⟩⟩⟩
  · exact fun _ => ⟨⟨by omega, by omega⟩, fun z => H0 (by omega), fun z => absurd z (by omega)⟩
theorem c_isDigit {f : Int → Mem → Prop} {M : Mem} {p : Nat} (hT : TPm bs L M) (hp : p ≤ L) (H1 : p < L → 48 ≤ bs p → bs p ≤ 57 → f 1 M) (H0 : ¬ (p < L ∧ 48 ≤ bs p ∧ bs p ≤ 57) → f 0 M) : CI E mX11_isDigit [pR 98, pI (p : Int)] M f := by
  obtain ⟨t1, t2, t3, t4⟩ := hT
  apply vX11_isDigit_0
  rw [t1, Int.toNat_natCast]
  by_cases c : p < L
  · rw [(t3 p c).1]
    exact fun _ => ⟨⟨by omega, by omega⟩, fun z => H0 (by omega), fun _ => ⟨⟨by omega, by omega⟩, fun _ => ⟨fun z => H0 (by omega), fun z1 => ⟨⟨by omega, by omega⟩, fun _ => ⟨fun z => H0 (by omega), fun z2 => H1 c (by omega) (by omega)⟩⟩⟩⟩⟩
  · exact fun _ => ⟨⟨by omega, by omega⟩, fun z => H0 (by omega), fun z => absurd z (by omega)⟩
theorem c_wordAt {f : Int → Mem → Prop} {M : Mem} {a b : Nat} (hT : TPm bs L M) (hab : a ≤ b) (hb : b ≤ L) (H : f (fstM (mtB bs a b) 24 0) M) : CI E mX11_wordAt [pR 98, pI (a : Int), pI (b : Int)] M f := by
  have hL := hT.2.1
  have w57 : ∀ (k : Nat), k < 24 → (mtB bs a b k = true → f (k : Int) M) → (mtB bs a b k = false → KW E mX11_wordAt (qI f) M 5 [(0, pR 98), (1, pI (a : Int)), (2, pI (b : Int)), (3, pI ((k : Int) + 1)), (4, pI ((woN k : Int) + ((wlN k : Int) + 1)))] []) → ∀ (j i : Nat), i + j = wlN k → KW E mX11_wordAt (qI f) M 57 [(0, pR 98), (1, pI (a : Int)), (2, pI (b : Int)), (3, pI (k : Int)), (4, pI (woN k : Int)), (5, pI (wlN k : Int)), (6, pI (bI (decide (wlN k = b - a) && mtE bs a k i))), (7, pI (i : Int))] [] := by
    intro k hk HY HN j
    have ht := w_tab k hk
    have rg : ∀ z : Bool, iR (bI z) := fun z => by cases z <;> exact ⟨by decide, by decide⟩
    induction j with
    | zero =>
      intro i hi
      have : i = wlN k := by omega
      subst this
      have e : (decide (wlN k = b - a) && mtE bs a k (wlN k)) = mtB bs a b k := rfl
      rw [e]
      refine vX11_wordAt_57 _ _ _ _ _ _ _ ⟨⟨by omega, by omega⟩, ⟨by omega, by omega⟩, fun _ => ⟨rg _, fun c => HN ?_, fun c => HY ?_⟩, fun z => absurd z (by omega)⟩
      · cases z : mtB bs a b k
        · rfl
        · rw [z] at c; exact absurd c (by decide)
      · cases z : mtB bs a b k
        · rw [z] at c; exact absurd rfl c
        · rfl
    | succ j ih =>
      intro i hi
      have nx := ih (i + 1) (by omega)
      have e1 : mtE bs a k (i + 1) = (mtE bs a k i && decide (rwN (woN k + i) = bs (a + i))) := rfl
      rw [e1, ← Bool.and_assoc] at nx
      have hR := hT.2.2.2 (woN k + i) (by omega)
      cases hs : (decide (wlN k = b - a) && mtE bs a k i)
      · have hf : mtB bs a b k = false := by
          cases z : mtB bs a b k
          · rfl
          · unfold mtB at z
            rw [Bool.and_eq_true, mtE_all] at z
            have : (decide (wlN k = b - a) && mtE bs a k i) = true := by
              rw [Bool.and_eq_true, mtE_all]; exact ⟨z.1, fun q hq => z.2 q (by omega)⟩
            rw [hs] at this; exact absurd this (by decide)
        exact vX11_wordAt_57 _ _ _ _ _ _ _ ⟨⟨by omega, by omega⟩, ⟨by omega, by omega⟩, fun z => absurd z (by omega), fun _ => ⟨⟨by decide, by decide⟩, fun _ => ⟨⟨by decide, by decide⟩, fun _ => HN hf, fun z => absurd rfl z⟩, fun z => absurd rfl z⟩⟩
      · have hlk : wlN k = b - a := by rw [Bool.and_eq_true, decide_eq_true_eq] at hs; exact hs.1
        rw [hs, Bool.true_and] at nx
        apply vX11_wordAt_57
        rw [show ((woN k : Int) + (i : Int)).toNat = woN k + i by omega, show ((a : Int) + (i : Int)).toNat = a + i by omega, hR, (hT.2.2.1 (a + i) (by omega)).1]
        refine ⟨⟨by omega, by omega⟩, ⟨by omega, by omega⟩, fun z => absurd z (by omega), fun _ => ⟨⟨by decide, by decide⟩, fun z => absurd z (by decide), fun _ => ⟨⟨by omega, by omega⟩, fun _ => ⟨⟨by omega, by omega⟩, fun _ => ⟨fun c => ?_, fun c => ?_⟩⟩⟩⟩⟩
        · rw [decide_eq_false (by omega)] at nx; exact nx
        · rw [decide_eq_true (by omega)] at nx; exact nx
  have w18 : ∀ (k : Nat), k < 24 → (mtB bs a b k = true → f (k : Int) M) → (mtB bs a b k = false → KW E mX11_wordAt (qI f) M 5 [(0, pR 98), (1, pI (a : Int)), (2, pI (b : Int)), (3, pI ((k : Int) + 1)), (4, pI ((woN k : Int) + ((wlN k : Int) + 1)))] []) → ∀ (j i : Nat), i + j = wlN k → KW E mX11_wordAt (qI f) M 18 [(0, pR 98), (1, pI (a : Int)), (2, pI (b : Int)), (3, pI (k : Int)), (4, pI (woN k : Int)), (5, pI (i : Int))] [] := by
    intro k hk HY HN j
    have ht := w_tab k hk
    induction j with
    | zero =>
      intro i hi
      have : i = wlN k := by omega
      subst this
      have hR := hT.2.2.2 (woN k + wlN k) (by omega)
      have nx := w57 k hk HY HN (wlN k) 0 (Nat.zero_add _)
      apply vX11_wordAt_18
      rw [show ((woN k : Int) + (wlN k : Int)).toNat = woN k + wlN k by omega, hR, ht.2.1]
      refine ⟨⟨by omega, by omega⟩, fun _ => ⟨fun _ => ⟨⟨by omega, by omega⟩, ⟨by omega, by omega⟩, fun c => ?_, fun c => ?_⟩, fun z => absurd rfl z⟩⟩
      · have e : (decide (wlN k = b - a) && mtE bs a k 0) = false := by rw [decide_eq_false (by omega)]; rfl
        rw [e] at nx; exact nx
      · have e : (decide (wlN k = b - a) && mtE bs a k 0) = true := by rw [decide_eq_true (by omega)]; rfl
        rw [e] at nx; exact nx
    | succ j ih =>
      intro i hi
      have hR := hT.2.2.2 (woN k + i) (by omega)
      have hlt := w_let k hk i (by omega) (by omega)
      apply vX11_wordAt_18
      rw [show ((woN k : Int) + (i : Int)).toNat = woN k + i by omega, hR]
      exact ⟨⟨by omega, by omega⟩, fun _ => ⟨fun z => absurd z (by omega), fun _ => ih (i + 1) (by omega)⟩⟩
  have loop : ∀ (j k : Nat), k + j = 24 → f (fstM (mtB bs a b) j k) M → KW E mX11_wordAt (qI f) M 5 [(0, pR 98), (1, pI (a : Int)), (2, pI (b : Int)), (3, pI (k : Int)), (4, pI (woN k : Int))] [] := by
    intro j
    induction j with
    | zero =>
      intro k hk hf
      have : k = 24 := by omega
      subst this
      exact vX11_wordAt_5 _ _ _ _ ⟨⟨by decide, by decide⟩, fun _ => hf, fun z => absurd z (by decide)⟩
    | succ j ih =>
      intro k hk hf
      have ht := w_tab k (by omega)
      simp only [fstM] at hf
      refine vX11_wordAt_5 _ _ _ _ ⟨⟨by omega, by omega⟩, fun z => absurd z (by omega), fun _ => w18 k (by omega) (fun z => ?_) (fun z => ?_) (wlN k) 0 (Nat.zero_add _)⟩
      · rw [if_pos z] at hf; exact hf
      · rw [if_neg (by rw [z]; decide)] at hf
        have := ih (k + 1) (by omega) hf
        rw [← ht.1] at this
        rw [show (woN k : Int) + ((wlN k : Int) + 1) = ((woN k + wlN k + 1 : Nat) : Int) by omega]
        exact this
  exact vX11_wordAt_0 _ _ (loop 24 0 (by omega) H)
theorem c_packed {f : Int → Mem → Prop} {M : Mem} {a b : Nat} (hT : TPm bs L M) (hab : a ≤ b) (hb : b ≤ L) (hl : ∀ q, a ≤ q → q < b → 97 ≤ bs q ∧ bs q ≤ 122) (H : f ((prL bs a b 6 : Nat) : Int) M) : CI E mX11_packed [pR 98, pI (a : Int), pI (b : Int)] M f := by
  have hL := hT.2.1
  have hpb := prL_b (e := b) hl
  have loop : ∀ (j i : Nat), i + j = 6 → KW E mX11_packed (qI f) M 5 [(0, pR 98), (1, pI (a : Int)), (2, pI (b : Int)), (3, pI ((prL bs a b i : Nat) : Int)), (4, pI ((a + i : Nat) : Int))] [] := by
    intro j
    induction j with
    | zero =>
      intro i hi
      have : i = 6 := by omega
      subst this
      exact vX11_packed_5 _ _ _ _ ⟨⟨by omega, by omega⟩, ⟨by omega, by omega⟩, fun _ => H, fun z => absurd z (by omega)⟩
    | succ j ih =>
      intro i hi
      have nx := ih (i + 1) (by omega)
      have hp := hpb i
      have h5 : (32 : Nat) ^ i ≤ 32 ^ 5 := Nat.pow_le_pow_right (by decide) (by omega)
      have h55 : (32 : Nat) ^ 5 = 33554432 := by decide
      have hd := (dgL_b (i := i) hl).1
      have e1 : bShl ((prL bs a b i : Nat) : Int) 5 = ((prL bs a b i * 2 ^ 5 : Nat) : Int) := bShl_nat (k := 5) (by decide) (by omega)
      have e2 : ∀ d : Nat, d < 32 → bOr (bShl ((prL bs a b i : Nat) : Int) 5) (d : Int) = ((prL bs a b i * 32 + d : Nat) : Int) := fun d hd2 => by
        rw [e1, bOr_nat (by omega) (by omega), or_pr (by omega)]
      have e3 : prL bs a b (i + 1) = prL bs a b i * 32 + dgL bs a b i := rfl
      rw [e3] at nx
      apply vX11_packed_5
      rw [Int.toNat_natCast]
      refine ⟨⟨by omega, by omega⟩, ⟨by omega, by omega⟩, fun z => absurd z (by omega), fun _ => ⟨⟨by omega, by omega⟩, ⟨by omega, by omega⟩, fun c => ?_, fun c => ⟨⟨by omega, by omega⟩, fun _ => ?_⟩⟩⟩
      · have : dgL bs a b i = 0 := by unfold dgL; rw [if_neg (by omega)]
        rw [this] at nx
        have e4 := e2 0 (by decide)
        rw [show bOr (bShl ((prL bs a b i : Nat) : Int) 5) 0 = ((prL bs a b i * 32 + 0 : Nat) : Int) from e4]
        exact nx
      · have hda : dgL bs a b i = bs (a + i) - 96 := by unfold dgL; rw [if_pos (by omega)]
        have hlt := hl (a + i) (by omega) (by omega)
        rw [(hT.2.2.1 (a + i) (by omega)).1, show (bs (a + i) : Int) - 96 = ((bs (a + i) - 96 : Nat) : Int) by omega, e2 _ (by omega), ← hda]
        exact nx
  exact vX11_packed_0 _ _ (loop 6 0 (by omega))
end TOKM
