/-! tokens: kind, value, start, next -/
abbrev BF : Type := Nat → Nat
abbrev Tk : Type := Int × Int × Nat × Nat
abbrev tK (t : Tk) : Int := t.1
abbrev tV (t : Tk) : Int := t.2.1
abbrev tS (t : Tk) : Nat := t.2.2.1
abbrev tN (t : Tk) : Nat := t.2.2.2
def skF (bs : BF) (L : Nat) : Nat → Nat → Nat
  | 0, p => p
  | j + 1, p => if p < L ∧ (bs p = 32 ∨ bs p = 10) then skF bs L j (p + 1) else p
def spF (lo hi : Nat) (bs : BF) (L : Nat) : Nat → Nat → Nat
  | 0, p => p
  | j + 1, p => if p < L ∧ lo ≤ bs p ∧ bs p ≤ hi then spF lo hi bs L j (p + 1) else p
def dgL (bs : BF) (s e i : Nat) : Nat := if s + i < e then bs (s + i) - 96 else 0
def prL (bs : BF) (s e : Nat) : Nat → Nat
  | 0 => 0
  | i + 1 => prL bs s e i * 32 + dgL bs s e i
def wcL : List Nat := [404360448, 407943168, 559521792, 513146880, 626642944, 642945024, 404455424, 174276180, 642822144, 169476096, 522190848, 48365568, 486146048, 721420288, 150714368, 437740544, 53477376, 788084736, 549489824, 722042880, 642822752, 278110208, 681120896, 446125701]
def wcN (k : Nat) : Nat := wcL.getD k 0
def lstM (v : Nat) : Nat → Int
  | 0 => 38
  | j + 1 => if wcN j = v then (j : Int) else lstM v j
def nvC (bs : BF) (s : Nat) : Nat → Int
  | 0 => 0
  | i + 1 => min 1000000 (nvC bs s i * 10 + (bs (s + i) : Int) - 48)
def sgT (bs : BF) (L s : Nat) : Tk :=
  if bs s = 60 ∧ s + 1 < L ∧ bs (s + 1) = 61 then (34, 0, s, s + 2)
  else if bs s = 60 ∧ s + 1 < L ∧ bs (s + 1) = 62 then (35, 0, s, s + 2)
  else if bs s = 62 ∧ s + 1 < L ∧ bs (s + 1) = 61 then (36, 0, s, s + 2)
  else (if sgF (bs s : Int) 10 0 < 0 then 40 else 24 + sgF (bs s : Int) 10 0, 0, s, s + 1)
def tokA (bs : BF) (L s : Nat) : Tk :=
  if L ≤ s then (39, 0, s, s)
  else if 97 ≤ bs s ∧ bs s ≤ 122 then (if spF 97 122 bs L (L - s) s - s > 6 then 40 else lstM (prL bs s (spF 97 122 bs L (L - s) s) 6) 24, (prL bs s (spF 97 122 bs L (L - s) s) 6 : Nat), s, spF 97 122 bs L (L - s) s)
  else if 48 ≤ bs s ∧ bs s ≤ 57 then (37, nvC bs s (spF 48 57 bs L (L - s) s - s), s, spF 48 57 bs L (L - s) s)
  else sgT bs L s
def tok (bs : BF) (L p : Nat) : Tk := tokA bs L (skF bs L (L - p) p)
theorem spF_b {lo hi : Nat} {bs : BF} {L : Nat} : ∀ (j p : Nat), p + j = L → p ≤ spF lo hi bs L j p ∧ spF lo hi bs L j p ≤ L ∧ (∀ q, p ≤ q → q < spF lo hi bs L j p → lo ≤ bs q ∧ bs q ≤ hi) ∧ ¬ (spF lo hi bs L j p < L ∧ lo ≤ bs (spF lo hi bs L j p) ∧ bs (spF lo hi bs L j p) ≤ hi) := by
  intro j
  induction j with
  | zero =>
    intro p h
    refine ⟨Nat.le_refl _, by show p ≤ L; omega, fun q a1 a2 => ?_, fun z => ?_⟩
    · have a2' : q < p := a2
      omega
    · have z' : p < L := z.1
      omega
  | succ j ih =>
    intro p h
    simp only [spF]
    by_cases c : p < L ∧ lo ≤ bs p ∧ bs p ≤ hi
    · rw [if_pos c]
      have := ih (p + 1) (by omega)
      refine ⟨by omega, this.2.1, fun q a1 a2 => ?_, this.2.2.2⟩
      by_cases e : q = p
      · rw [e]; exact c.2
      · exact this.2.2.1 q (by omega) a2
    · rw [if_neg c]
      exact ⟨Nat.le_refl _, by omega, fun q a1 a2 => by omega, c⟩
theorem skF_b {bs : BF} {L : Nat} : ∀ (j p : Nat), p + j = L → p ≤ skF bs L j p ∧ skF bs L j p ≤ L := by
  intro j
  induction j with
  | zero => intro p h; exact ⟨Nat.le_refl _, by show p ≤ L; omega⟩
  | succ j ih =>
    intro p h
    simp only [skF]
    split
    · have := ih (p + 1) (by omega); omega
    · omega
theorem sgF_b {c : Int} : ∀ (j k : Nat), k + j = 10 → sgF c j k = -1 ∨ ((k : Int) ≤ sgF c j k ∧ sgF c j k < 10) := by
  intro j
  induction j with
  | zero => intro k _; exact Or.inl rfl
  | succ j ih =>
    intro k h
    simp only [sgF]
    split
    · exact Or.inr ⟨by omega, by omega⟩
    · rcases ih (k + 1) (by omega) with z | z
      · exact Or.inl z
      · exact Or.inr ⟨by omega, z.2⟩
theorem dgL_b {bs : BF} {s e i : Nat} (h : ∀ q, s ≤ q → q < e → 97 ≤ bs q ∧ bs q ≤ 122) : dgL bs s e i ≤ 26 ∧ (s + i < e → 1 ≤ dgL bs s e i) := by
  unfold dgL
  split
  · rename_i c
    have := h (s + i) (by omega) c
    omega
  · exact ⟨by omega, fun z => by omega⟩
theorem prL_b {bs : BF} {s e : Nat} (h : ∀ q, s ≤ q → q < e → 97 ≤ bs q ∧ bs q ≤ 122) : ∀ i, prL bs s e i < 32 ^ i := by
  intro i
  induction i with
  | zero => exact Nat.one_pos
  | succ i ih =>
    have := (dgL_b (i := i) h).1
    show prL bs s e i * 32 + dgL bs s e i < 32 ^ (i + 1)
    rw [Nat.pow_succ]
    omega
theorem lstM_b {v : Nat} : ∀ j, j ≤ 24 → lstM v j = 38 ∨ (0 ≤ lstM v j ∧ lstM v j < j) := by
  intro j
  induction j with
  | zero => intro _; exact Or.inl rfl
  | succ j ih =>
    intro h
    simp only [lstM]
    split
    · exact Or.inr ⟨by omega, by omega⟩
    · rcases ih (by omega) with z | z
      · exact Or.inl z
      · exact Or.inr ⟨z.1, by omega⟩
theorem nvC_b {bs : BF} {s : Nat} {m : Nat} (h : ∀ q, s ≤ q → q < s + m → 48 ≤ bs q ∧ bs q ≤ 57) : ∀ i, i ≤ m → 0 ≤ nvC bs s i ∧ nvC bs s i ≤ 1000000 := by
  intro i
  induction i with
  | zero => intro _; exact ⟨Int.le_refl _, by show (0 : Int) ≤ 1000000; decide⟩
  | succ i ih =>
    intro hi
    have := ih (by omega)
    have := h (s + i) (by omega) (by omega)
    simp only [nvC]
    omega
theorem tok_b {bs : BF} {L p : Nat} (hp : p ≤ L) : p ≤ tS (tok bs L p) ∧ tS (tok bs L p) ≤ L ∧ tS (tok bs L p) ≤ tN (tok bs L p) ∧ tN (tok bs L p) ≤ L ∧ (0 ≤ tK (tok bs L p) ∧ tK (tok bs L p) ≤ 40) ∧ (tK (tok bs L p) ≠ 39 → tS (tok bs L p) < tN (tok bs L p)) ∧ (0 ≤ tV (tok bs L p) ∧ tV (tok bs L p) < 2147483648) := by
  unfold tok
  have h0 := skF_b (bs := bs) (L := L) (L - p) p (by omega)
  generalize skF bs L (L - p) p = s at h0
  unfold tokA
  split
  · exact ⟨h0.1, h0.2, Nat.le_refl _, h0.2, ⟨(by decide : (0 : Int) ≤ 39), (by decide : (39 : Int) ≤ 40)⟩, fun z => absurd rfl z, (by decide : (0 : Int) ≤ 0), (by decide : (0 : Int) < 2147483648)⟩
  · rename_i c1
    split
    · rename_i c2
      have h1 := spF_b (lo := 97) (hi := 122) (bs := bs) (L := L) (L - s) s (by omega)
      have h2 : s < spF 97 122 bs L (L - s) s := by
        rcases Nat.lt_or_ge s (spF 97 122 bs L (L - s) s) with z | z
        · exact z
        · have e : spF 97 122 bs L (L - s) s = s := by omega
          have h9 := h1.2.2.2
          rw [e] at h9
          exact absurd ⟨by omega, c2⟩ h9
      have h3 := prL_b (e := spF 97 122 bs L (L - s) s) h1.2.2.1 6
      refine ⟨h0.1, h0.2, h1.1, h1.2.1, ?_, fun _ => h2, ?_⟩
      · show 0 ≤ (if _ then (40 : Int) else _) ∧ (if _ then (40 : Int) else _) ≤ 40
        split
        · exact ⟨by decide, by decide⟩
        · rcases lstM_b (v := prL bs s (spF 97 122 bs L (L - s) s) 6) 24 (by decide) with z | z
          · rw [z]; exact ⟨by decide, by decide⟩
          · exact ⟨z.1, by omega⟩
      · show 0 ≤ ((prL bs s (spF 97 122 bs L (L - s) s) 6 : Nat) : Int) ∧ ((prL bs s (spF 97 122 bs L (L - s) s) 6 : Nat) : Int) < 2147483648
        have : (32 : Nat) ^ 6 = 1073741824 := by decide
        omega
    · split
      · rename_i c3
        have h1 := spF_b (lo := 48) (hi := 57) (bs := bs) (L := L) (L - s) s (by omega)
        have h2 : s < spF 48 57 bs L (L - s) s := by
          rcases Nat.lt_or_ge s (spF 48 57 bs L (L - s) s) with z | z
          · exact z
          · have e : spF 48 57 bs L (L - s) s = s := by omega
            have h9 := h1.2.2.2
            rw [e] at h9
            exact absurd ⟨by omega, c3⟩ h9
        have h3 := nvC_b (bs := bs) (s := s) (m := spF 48 57 bs L (L - s) s - s) (fun q a1 a2 => h1.2.2.1 q a1 (by omega)) _ (Nat.le_refl _)
        exact ⟨h0.1, h0.2, h1.1, h1.2.1, ⟨(by decide : (0 : Int) ≤ 37), (by decide : (37 : Int) ≤ 40)⟩, fun _ => h2, h3.1, by show nvC _ _ _ < _; omega⟩
      · unfold sgT
        split
        · exact ⟨h0.1, h0.2, by show s ≤ s + 2; omega, by show s + 2 ≤ L; omega, ⟨(by decide : (0 : Int) ≤ 34), (by decide : (34 : Int) ≤ 40)⟩, fun _ => by show s < s + 2; omega, (by decide : (0 : Int) ≤ 0), (by decide : (0 : Int) < 2147483648)⟩
        · split
          · exact ⟨h0.1, h0.2, by show s ≤ s + 2; omega, by show s + 2 ≤ L; omega, ⟨(by decide : (0 : Int) ≤ 35), (by decide : (35 : Int) ≤ 40)⟩, fun _ => by show s < s + 2; omega, (by decide : (0 : Int) ≤ 0), (by decide : (0 : Int) < 2147483648)⟩
          · split
            · exact ⟨h0.1, h0.2, by show s ≤ s + 2; omega, by show s + 2 ≤ L; omega, ⟨(by decide : (0 : Int) ≤ 36), (by decide : (36 : Int) ≤ 40)⟩, fun _ => by show s < s + 2; omega, (by decide : (0 : Int) ≤ 0), (by decide : (0 : Int) < 2147483648)⟩
            · refine ⟨h0.1, h0.2, by show s ≤ s + 1; omega, by show s + 1 ≤ L; omega, ?_, fun _ => by show s < s + 1; omega, (by decide : (0 : Int) ≤ 0), (by decide : (0 : Int) < 2147483648)⟩
              show 0 ≤ (if sgF (bs s : Int) 10 0 < 0 then (40 : Int) else 24 + sgF (bs s : Int) 10 0) ∧ (if sgF (bs s : Int) 10 0 < 0 then (40 : Int) else 24 + sgF (bs s : Int) 10 0) ≤ 40
              rcases sgF_b (c := (bs s : Int)) 10 0 (by decide) with z | z
              · rw [z]; exact ⟨by decide, by decide⟩
              · rw [if_neg (by omega)]; omega
/-- the tape as it lies in the class -/
def TPc (bs : BF) (L : Nat) (M : Mem) : Prop := M 2 3 = (L : Int) ∧ L ≤ 700 ∧ (∀ i, i < L → M 3 i = (bs i : Int) ∧ bs i < 256) ∧ ∀ w, w < 24 → M 4 w = (wcN w : Int)
def TC (t : Tk) (M : Mem) : Prop := M 2 5 = tK t ∧ M 2 7 = tV t ∧ M 2 6 = (tS t : Int) ∧ M 2 4 = (tN t : Int)
/-- only the token changes -/
def FrTk (M M' : Mem) : Prop := (∀ a, a ≠ 2 → M' a = M a) ∧ ∀ k, k < 4 → M' 2 k = M 2 k
theorem FrTk.rf (M : Mem) : FrTk M M := ⟨fun _ _ => rfl, fun _ _ => rfl⟩
theorem FrTk.tr {M M1 M2 : Mem} (h1 : FrTk M M1) (h2 : FrTk M1 M2) : FrTk M M2 := ⟨fun a a1 => (h2.1 a a1).trans (h1.1 a a1), fun k k1 => (h2.2 k k1).trans (h1.2 k k1)⟩
theorem FrTk.u (M : Mem) {k : Nat} (v : Int) (h : 4 ≤ k) : FrTk M (upM M 2 k v) := ⟨fun a a1 => upM_ne _ _ _ a1, fun q q1 => by rw [upM_self, va_up_neq _ _ (by omega)]⟩
theorem TPc.fr {bs : BF} {L : Nat} {M M' : Mem} (h : TPc bs L M) (hF : FrTk M M') : TPc bs L M' := by
  unfold TPc
  rw [hF.2 3 (by decide), hF.1 3 (by decide), hF.1 4 (by decide)]
  exact h
section TOKC
variable {E : Scr} {bs : BF} {L : Nat}
theorem c_between {f : Int → Mem → Prop} {M : Mem} {p lo hi : Nat} (hT : TPc bs L M) (h4 : M 2 4 = (p : Int)) (hlo : lo < 256) (hhi : hi < 256) (H1 : p < L → lo ≤ bs p → bs p ≤ hi → f 1 M) (H0 : ¬ (p < L ∧ lo ≤ bs p ∧ bs p ≤ hi) → f 0 M) : CI E mX8_between [pR 2, pI (lo : Int), pI (hi : Int)] M f := by
  obtain ⟨t1, t2, t3, t4⟩ := hT
  apply vX8_between_0
  rw [h4, t1, Int.toNat_natCast]
  by_cases c : p < L
  · rw [(t3 p c).1]
    have := (t3 p c).2
    exact fun _ _ => ⟨fun z => H0 (by omega), fun _ _ => ⟨fun z => H0 (by omega), fun _ _ => ⟨⟨by omega, by omega⟩, fun _ => ⟨⟨by omega, by omega⟩, fun z => H0 (by omega), fun z1 _ => ⟨⟨by omega, by omega⟩, fun _ => ⟨⟨by omega, by omega⟩, fun z => H0 (by omega), fun z2 => H1 c (by omega) (by omega)⟩⟩⟩⟩⟩⟩
  · exact fun _ _ => ⟨fun z => H0 (by omega), fun z => absurd z (by omega)⟩
theorem or_pr {a b k : Nat} (hb : b < 2 ^ k) : a * 2 ^ k ||| b = a * 2 ^ k + b := by
  rw [Nat.mul_comm]
  exact (Nat.two_pow_add_eq_or_of_lt hb a).symm
theorem c_letterBits {f : Int → Mem → Prop} {M : Mem} {c i : Nat} (hc : 97 ≤ c ∧ c ≤ 122) (hi : i < 1000) (H : f (if i < 6 then (((c - 96) * 2 ^ (5 * (5 - i)) : Nat) : Int) else 0) M) : CI E mX8_letterBits [pI (c : Int), pI (i : Int)] M f := by
  refine vX8_letterBits_0 _ _ ⟨⟨by omega, by omega⟩, fun z => ?_, fun z => ?_⟩
  · rw [if_neg (by omega)] at H; exact H
  · rw [if_pos (by omega)] at H
    have hk : 5 * (5 - i) ≤ 25 := by omega
    have h1 : 2 ^ (5 * (5 - i)) ≤ 2 ^ 25 := Nat.pow_le_pow_right (by decide) hk
    have h2 : (c - 96) * 2 ^ (5 * (5 - i)) ≤ 26 * 2 ^ 25 := Nat.mul_le_mul (by omega) h1
    rw [show (c : Int) - 97 + 1 = ((c - 96 : Nat) : Int) by omega, show (5 : Int) * (5 - (i : Int)) = ((5 * (5 - i) : Nat) : Int) by omega, bShl_nat (by omega) (by omega)]
    exact H
theorem c_readWord {f : Mem → Prop} {M : Mem} {s : Nat} (hT : TPc bs L M) (hs : s < L) (h4 : M 2 4 = (s : Int)) (h6 : M 2 6 = (s : Int)) (h7 : M 2 7 = 0) (H : ∀ M', FrTk M M' → TC (if spF 97 122 bs L (L - s) s - s > 6 then 40 else lstM (prL bs s (spF 97 122 bs L (L - s) s) 6) 24, (prL bs s (spF 97 122 bs L (L - s) s) 6 : Nat), s, spF 97 122 bs L (L - s) s) M' → f M') : CV E mX8_readWord [pR 2] M f := by
  have hL := hT.2.1
  have hsp := spF_b (lo := 97) (hi := 122) (bs := bs) (L := L) (L - s) s (by omega)
  generalize he : spF 97 122 bs L (L - s) s = e at H hsp
  have hdg : ∀ i, dgL bs s e i ≤ 26 := fun i => (dgL_b hsp.2.2.1).1
  have hpb : ∀ i, prL bs s e i < 32 ^ i := prL_b hsp.2.2.1
  have words : ∀ (M1 : Mem), FrTk M M1 → M1 2 7 = ((prL bs s e 6 : Nat) : Int) → M1 2 6 = (s : Int) → M1 2 4 = (e : Int) → e - s ≤ 6 → ∀ (j k : Nat) (M2 : Mem), k + j = 24 → (∀ a, a ≠ 2 → M2 a = M1 a) → (∀ q, q ≠ 5 → M2 2 q = M1 2 q) → M2 2 5 = lstM (prL bs s e 6) k → KW E mX8_readWord (qV f) M2 94 [(0, pR 2), (1, pI (k : Int))] [] := by
    intro M1 hF1 e7 e6 e4 hle j
    induction j with
    | zero =>
      intro k M2 hk g1 g2 g3
      have : k = 24 := by omega
      subst this
      refine vX8_readWord_94 _ ⟨⟨by omega, by omega⟩, fun _ => H M2 (hF1.tr ⟨g1, fun q hq => g2 q (by omega)⟩) ⟨?_, ?_, ?_, ?_⟩, fun z => absurd z (by omega)⟩
      · rw [g3]; show _ = (if e - s > 6 then (40 : Int) else _); rw [if_neg (by omega)]
      · rw [g2 7 (by decide), e7]
      · rw [g2 6 (by decide), e6]
      · rw [g2 4 (by decide), e4]
    | succ j ih =>
      intro k M2 hk g1 g2 g3
      have hw := hT.2.2.2 k (by omega)
      apply vX8_readWord_94
      rw [Int.toNat_natCast, g1 4 (by decide), hF1.1 4 (by decide), hw, g2 7 (by decide), e7]
      refine ⟨⟨by omega, by omega⟩, fun z => absurd z (by omega), fun _ => ⟨⟨by omega, by omega⟩, fun _ _ => ⟨fun c => ?_, fun c => ⟨⟨by omega, by omega⟩, ?_⟩⟩⟩⟩
      · refine ih (k + 1) M2 (by omega) g1 g2 ?_
        simp only [lstM]
        rw [if_neg (by omega)]; exact g3
      · refine ih (k + 1) _ (by omega) (fun a a1 => by rw [upM_ne _ _ _ a1]; exact g1 a a1) (fun q hq => by rw [upM_self, va_up_neq _ _ hq]; exact g2 q hq) ?_
        rw [upM_self, va_up_self]
        simp only [lstM]
        rw [if_pos (by omega)]
  have fin : ∀ (M1 : Mem), FrTk M M1 → M1 2 6 = (s : Int) → M1 2 4 = (e : Int) → M1 2 7 = ((prL bs s e 6 : Nat) : Int) → (iR ((e : Int) - (s : Int))) ∧ ((((e : Int) - (s : Int)) ≤ 6 → (KW E mX8_readWord (qV f) (upM M1 2 5 38) 94 [(0, pR 2), (1, pI 0)] [])) ∧ (((e : Int) - (s : Int)) > 6 → f (upM M1 2 5 40))) := by
    intro M1 hF1 e6 e4 e7
    refine ⟨⟨by omega, by omega⟩, fun c => ?_, fun c => ?_⟩
    · exact words M1 hF1 e7 e6 e4 (by omega) 24 0 _ (by omega) (fun a a1 => upM_ne _ _ _ a1) (fun q hq => by rw [upM_self, va_up_neq _ _ hq]) rfl
    · refine H _ (hF1.tr (FrTk.u M1 40 (by decide))) ⟨?_, e7, e6, e4⟩
      show (40 : Int) = (if e - s > 6 then (40 : Int) else _)
      rw [if_pos (by omega)]
  have loop : ∀ (j p : Nat) (M1 : Mem), p + j = L → s ≤ p → spF 97 122 bs L j p = e → FrTk M M1 → M1 2 6 = (s : Int) → M1 2 4 = (p : Int) → M1 2 7 = ((prL bs s e (min (p - s) 6) * 2 ^ (5 * (6 - min (p - s) 6)) : Nat) : Int) → KW E mX8_readWord (qV f) M1 0 [(0, pR 2)] [] := by
    have last : ∀ (p : Nat), s ≤ p → p = e → prL bs s e (min (p - s) 6) * 2 ^ (5 * (6 - min (p - s) 6)) = prL bs s e 6 := by
      intro p h1 h2
      subst h2
      have aux : ∀ d i, i + d = 6 → p - s ≤ i → prL bs s p i * 2 ^ (5 * (6 - i)) = prL bs s p 6 := by
        intro d
        induction d with
        | zero => intro i hi _; have : i = 6 := by omega
                  subst this; simp
        | succ d ih =>
          intro i hi hge
          rw [← ih (i + 1) (by omega) (by omega)]
          show _ = (prL bs s p i * 32 + dgL bs s p i) * 2 ^ (5 * (6 - (i + 1)))
          have : dgL bs s p i = 0 := by unfold dgL; rw [if_neg (by omega)]
          rw [this, Nat.add_zero, Nat.mul_assoc]
          congr 1
          rw [show 5 * (6 - i) = 5 + 5 * (6 - (i + 1)) by omega, Nat.pow_add]
      by_cases c : p - s ≤ 6
      · rw [Nat.min_eq_left c]; exact aux (6 - (p - s)) (p - s) (by omega) (Nat.le_refl _)
      · rw [Nat.min_eq_right (by omega)]; simp
    intro j
    induction j with
    | zero =>
      intro p M1 hp hsp2 hsp3 hF h6' h4' h7'
      have hT1 := hT.fr hF
      have e1 : p = e := hsp3
      rw [last p hsp2 e1] at h7'
      apply vX8_readWord_0
      rw [h4', hT1.1, h6', e1]
      have := fin M1 hF h6' (by rw [h4', e1]) h7'
      exact fun _ _ => ⟨fun _ _ _ => this, fun z => absurd z (by omega)⟩
    | succ j ih =>
      intro p M1 hp hsp2 hsp3 hF h6' h4' h7'
      have hT1 := hT.fr hF
      simp only [spF] at hsp3
      apply vX8_readWord_0
      rw [h4', hT1.1, h6']
      refine fun _ _ => ⟨fun z => absurd z (by omega), fun _ => c_between (lo := 97) (hi := 122) hT1 h4' (by decide) (by decide) (fun c1 c2 c3 => ?_) (fun c => ?_)⟩
      · rw [if_pos ⟨c1, c2, c3⟩] at hsp3
        rw [h4', h6', Int.toNat_natCast, (hT1.2.2.1 p c1).1, show (p : Int) - (s : Int) = ((p - s : Nat) : Int) by omega]
        refine ⟨⟨by decide, by decide⟩, fun z => absurd z (by decide), fun _ _ _ => ⟨⟨by omega, by omega⟩, fun _ _ _ => c_letterBits ⟨c2, c3⟩ (by omega) ?_⟩⟩
        rw [h4', h7']
        refine fun _ => ⟨⟨by omega, by omega⟩, ?_⟩
        have hpe : p < e := by have := spF_b (lo := 97) (hi := 122) (bs := bs) (L := L) j (p + 1) (by omega); rw [hsp3] at this; omega
        refine ih (p + 1) _ (by omega) (by omega) hsp3 ((hF.tr (FrTk.u _ _ (by decide))).tr (FrTk.u _ _ (by decide))) h6' rfl ?_
        show bOr _ _ = _
        by_cases c6 : p - s < 6
        · have e1 : min (p - s) 6 = p - s := by omega
          have e2 : min (p + 1 - s) 6 = p - s + 1 := by omega
          rw [e1, e2, if_pos c6]
          generalize hi : p - s = i at c6
          have hdi : dgL bs s e i = bs p - 96 := by unfold dgL; rw [if_pos (by omega), show s + i = p by omega]
          have hd26 := hdg i
          have hpi := hpb i
          have h1 : (bs p - 96) * 2 ^ (5 * (5 - i)) < 2 ^ (5 * (6 - i)) := by
            rw [show 5 * (6 - i) = 5 + 5 * (5 - i) by omega, Nat.pow_add]
            exact Nat.mul_lt_mul_of_pos_right (by omega) (Nat.two_pow_pos _)
          have h2 : prL bs s e i * 2 ^ (5 * (6 - i)) < 2 ^ 30 := by
            have : (32 : Nat) ^ i * 2 ^ (5 * (6 - i)) = 2 ^ 30 := by
              rw [show (32 : Nat) = 2 ^ 5 by rfl, ← Nat.pow_mul, ← Nat.pow_add]
              congr 1; omega
            rw [← this]
            exact Nat.mul_lt_mul_of_pos_right hpi (Nat.two_pow_pos _)
          have h3 : 2 ^ (5 * (6 - i)) ≤ 2 ^ 30 := Nat.pow_le_pow_right (by decide) (by omega)
          rw [bOr_nat (by omega) (by omega), or_pr h1]
          congr 1
          show _ = (prL bs s e i * 32 + dgL bs s e i) * 2 ^ (5 * (6 - (i + 1)))
          rw [hdi, Nat.add_mul, Nat.mul_assoc, show 6 - (i + 1) = 5 - i by omega, show 5 * (6 - i) = 5 + 5 * (5 - i) by omega, Nat.pow_add]
        · rw [if_neg c6, show min (p - s) 6 = 6 by omega, show min (p + 1 - s) 6 = 6 by omega]
          have hp6 := hpb 6
          have : (32 : Nat) ^ 6 = 1073741824 := by decide
          have e0 : prL bs s e 6 * 2 ^ (5 * (6 - 6)) = prL bs s e 6 := by simp
          rw [e0]
          have := bOr_nat (a := prL bs s e 6) (b := 0) (by omega) (by decide)
          rw [Nat.or_zero] at this
          exact this
      · rw [if_neg c] at hsp3
        rw [last p hsp2 hsp3] at h7'
        rw [h4', h6', hsp3]
        have := fin M1 hF h6' (by rw [h4', hsp3]) h7'
        exact ⟨⟨by decide, by decide⟩, fun _ _ _ => this, fun z => absurd rfl z⟩
  refine vX8_readWord_in (loop (L - s) s M (by omega) (Nat.le_refl _) he (FrTk.rf M) h6 h4 ?_)
  rw [h7, Nat.sub_self]
  show (0 : Int) = ((prL bs s e (min 0 6) * _ : Nat) : Int)
  rw [show min 0 6 = 0 by omega]
  show (0 : Int) = ((0 * _ : Nat) : Int)
  rw [Nat.zero_mul]; rfl
theorem c_readNumber {f : Mem → Prop} {M : Mem} {s : Nat} (hT : TPc bs L M) (hs : s < L) (h4 : M 2 4 = (s : Int)) (h6 : M 2 6 = (s : Int)) (h7 : M 2 7 = 0) (H : ∀ M', FrTk M M' → TC (37, nvC bs s (spF 48 57 bs L (L - s) s - s), s, spF 48 57 bs L (L - s) s) M' → f M') : CV E mX8_readNumber [pR 2] M f := by
  have hL := hT.2.1
  have hsp := spF_b (lo := 48) (hi := 57) (bs := bs) (L := L) (L - s) s (by omega)
  generalize he : spF 48 57 bs L (L - s) s = e at H hsp
  have hnb := nvC_b (bs := bs) (s := s) (m := e - s) (fun q a1 a2 => hsp.2.2.1 q a1 (by omega))
  have loop : ∀ (j p : Nat) (M1 : Mem), p + j = L → s ≤ p → spF 48 57 bs L j p = e → FrTk M M1 → M1 2 6 = (s : Int) → M1 2 4 = (p : Int) → M1 2 5 = 37 → M1 2 7 = nvC bs s (p - s) → KW E mX8_readNumber (qV f) M1 6 [(0, pR 2)] [] := by
    intro j
    induction j with
    | zero =>
      intro p M1 hp hsp2 hsp3 hF h6' h4' h5' h7'
      have hT1 := hT.fr hF
      have e1 : p = e := hsp3
      subst e1
      apply vX8_readNumber_6
      rw [h4', hT1.1]
      exact fun _ _ => ⟨fun _ => H M1 hF ⟨h5', h7', h6', h4'⟩, fun z => absurd z (by omega)⟩
    | succ j ih =>
      intro p M1 hp hsp2 hsp3 hF h6' h4' h5' h7'
      have hT1 := hT.fr hF
      simp only [spF] at hsp3
      apply vX8_readNumber_6
      rw [h4', hT1.1]
      refine fun _ _ => ⟨fun z => absurd z (by omega), fun _ => c_between (lo := 48) (hi := 57) hT1 h4' (by decide) (by decide) (fun c1 c2 c3 => ?_) (fun c => ?_)⟩
      · rw [if_pos ⟨c1, c2, c3⟩] at hsp3
        have hpe : p < e := by have := spF_b (lo := 48) (hi := 57) (bs := bs) (L := L) j (p + 1) (by omega); rw [hsp3] at this; omega
        have hn := hnb (p - s) (by omega)
        rw [h4', h7', Int.toNat_natCast, (hT1.2.2.1 p c1).1]
        refine ⟨⟨by decide, by decide⟩, fun z => absurd z (by decide), fun _ _ _ => ⟨⟨by omega, by omega⟩, fun _ => ⟨⟨by omega, by omega⟩, fun _ => ⟨⟨by omega, by omega⟩, ?_⟩⟩⟩⟩
        refine ih (p + 1) _ (by omega) (by omega) hsp3 ((hF.tr (FrTk.u _ _ (by decide))).tr (FrTk.u _ _ (by decide))) h6' rfl h5' ?_
        rw [show p + 1 - s = (p - s) + 1 by omega]
        show _ = min 1000000 (nvC bs s (p - s) * 10 + (bs (s + (p - s)) : Int) - 48)
        rw [show s + (p - s) = p by omega]
        rfl
      · rw [if_neg c] at hsp3
        subst hsp3
        exact ⟨⟨by decide, by decide⟩, fun _ => H M1 hF ⟨h5', h7', h6', h4'⟩, fun z => absurd rfl z⟩
  refine vX8_readNumber_0 (loop (L - s) s _ (by omega) (Nat.le_refl _) he (FrTk.u M _ (by decide)) h6 h4 rfl ?_)
  rw [Nat.sub_self]
  exact h7
end TOKC
