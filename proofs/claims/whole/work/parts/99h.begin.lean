/-! the beginning, on both sides -/
def d0 (s : PSt) : DS := (0, sU s, 0, 0, 0, sSe s, fun _ => 0)
def y0 (s : PSt) : YS := (d0 s, (0, fun _ => dUe (d0 s)), false, d0 s)
def n0 : NS := (0, -1, fun _ => 0, fun _ => 0, fun _ => 0)
theorem wf_d0 {L : Nat} {s : PSt} (hI : PI L s) : wfD (sN s) (d0 s) := by
  obtain ⟨-, ⟨hn, hu⟩, -, -, hrs, -⟩ := hI
  have h1 := hrs.2.2.1
  have h2 := hrs.2.2.2
  exact ⟨hu, Nat.two_pow_pos _, ⟨Int.le_refl _, (by decide : (0 : Int) ≤ 99999)⟩, ⟨Int.le_refl _, (by decide : (0 : Int) ≤ 10000)⟩, ⟨h1, by show sSe s < 2147483648; omega⟩, fun i _ => ⟨Int.le_refl _, (by decide : (0 : Int) ≤ 999)⟩⟩
theorem mod_next (x i : Nat) : x % 2 ^ i ||| bt x i * 2 ^ i = x % 2 ^ (i + 1) := by
  apply Nat.eq_of_testBit_eq
  intro q
  rw [Nat.testBit_or, Nat.testBit_mod_two_pow, Nat.testBit_mod_two_pow]
  have hb : (bt x i * 2 ^ i).testBit q = (decide (q = i) && x.testBit q) := by
    rw [bt_tb]
    cases h : x.testBit i
    · rw [if_neg (by decide), Nat.zero_mul, Nat.zero_testBit]
      by_cases e : q = i
      · rw [e, h]; simp
      · simp [e]
    · rw [if_pos rfl, Nat.one_mul, Nat.testBit_two_pow]
      by_cases e : q = i
      · rw [e, h]; simp
      · have : ¬ i = q := fun z => e z.symm
        simp [e, this]
  rw [hb]
  by_cases c : q < i
  · have c2 : q < i + 1 := by omega
    have c3 : ¬ q = i := by omega
    simp [c, c2, c3]
  · by_cases e : q = i
    · subst e; simp
    · have c2 : ¬ q < i + 1 := by omega
      simp [c, c2, e]
def FrBg (M M' : Mem) : Prop := (∀ a, a ≠ 98 → ¬ (125 ≤ a ∧ a ≤ 130) → M' a = M a) ∧ ∀ k, ¬ (59 ≤ k ∧ k ≤ 65) → ¬ (76 ≤ k ∧ k ≤ 82) → M' 98 k = M 98 k
section BEGIN
variable {E : Scr} {f : Mem → Prop} {L : Nat} {s : PSt}
theorem c_beginM {M0 : Mem} (hI : PI L s) (h12 : M0 98 12 = (sN s : Int)) (h104 : ∀ l, l < sN s → M0 104 l = ((bt (sU s) l : Nat) : Int)) (h102 : M0 102 1 = sSe s) (H : ∀ M', FrBg M0 M' → YM (y0 s) M' → NM n0 M' → OpM oPl M' → f M') : CV E mX11_begin [pR 98] M0 f := by
  obtain ⟨-, ⟨hn, hu⟩, -, -, hrs, -⟩ := id hI
  have hse := hrs.2.2
  apply vX11_begin_0
  have l2 : ∀ (j i : Nat) (M : Mem), i + j = 8 → (∀ a, a ≠ 125 → a ≠ 130 → M a = M0 a) → M 125 0 = (sU s : Int) → (∀ q, q < i → M 130 q = 0) → KW E mX11_begin (qV f) M 42 [(0, pR 98), (1, pI (i : Int))] [] := by
    intro j
    induction j with
    | zero =>
      intro i M hij hF h125 h130
      apply vX11_begin_42
      have e102 : M 102 1 = sSe s := by rw [hF 102 (by decide) (by decide)]; exact h102
      rw [e102]
      refine ⟨⟨by omega, by omega⟩, fun _ _ => ?_, fun z => absurd z (by omega)⟩
      refine c_plainTried (fun M1 a1 a2 a3 => ?_)
      generalize hM2 : upM (upM (upM (upM M1 98 76 0) 98 77 (-1)) 98 80 0) 98 82 0 = M2
      have c2 : ∀ a, a ≠ 98 → M2 a = M1 a := fun a ha => by rw [← hM2, upM_ne _ _ _ ha, upM_ne _ _ _ ha, upM_ne _ _ _ ha, upM_ne _ _ _ ha]
      have q2 : ∀ k, ¬ (76 ≤ k ∧ k ≤ 82) → M2 98 k = M1 98 k := fun k hk => by rw [← hM2, upM_self, va_up_neq _ _ (by omega), upM_self, va_up_neq _ _ (by omega), upM_self, va_up_neq _ _ (by omega), upM_self, va_up_neq _ _ (by omega)]
      have c1 : ∀ a, a ≠ 98 → ¬ (126 ≤ a ∧ a ≤ 129) → M1 a = M a := fun a x1 x2 => by rw [a1 a x1, upM_ne _ _ _ x1, upM_ne _ _ _ (by omega), upM_ne _ _ _ (by omega), upM_ne _ _ _ (by omega), upM_ne _ _ _ (by omega)]
      have z1 : M1 126 0 = 0 ∧ M1 127 0 = 0 ∧ M1 128 0 = 0 ∧ M1 129 0 = 0 := by rw [a1 126 (by decide), a1 127 (by decide), a1 128 (by decide), a1 129 (by decide)]; exact ⟨rfl, rfl, rfl, rfl⟩
      have h59 : M1 98 59 = sSe s := by rw [a2 59 (by decide)]; rfl
      refine H M2 ⟨fun a x1 x2 => by rw [c2 a x1, c1 a x1 (by omega), hF a (by omega) (by omega)], fun k k1 k2 => ?_⟩ ⟨⟨?_, ?_, ?_, ?_, ?_, ?_, fun i hi => ?_⟩, ⟨Nat.zero_le _, by rw [← hM2]; rfl, fun i hi => absurd hi (Nat.not_lt_zero _)⟩, by rw [← hM2]; rfl, fun z => absurd (show false = true from z) (by decide), ?_⟩ ⟨by rw [← hM2]; rfl, by rw [← hM2]; rfl, fun i hi => absurd hi (Nat.not_lt_zero _)⟩ ?_
      · rw [q2 k k2, a2 k (by omega), upM_self, va_up_neq _ _ (by omega), upM_ne _ _ _ (by decide), upM_ne _ _ _ (by decide), upM_ne _ _ _ (by decide), upM_ne _ _ _ (by decide), hF 98 (by decide) (by decide)]
      · rw [c2 129 (by decide)]; exact z1.2.2.2
      · rw [c2 125 (by decide), c1 125 (by decide) (by decide)]; exact h125
      · rw [c2 126 (by decide)]; exact z1.1
      · rw [c2 127 (by decide)]; exact z1.2.1
      · rw [c2 128 (by decide)]; exact z1.2.2.1
      · rw [q2 59 (by decide)]; exact h59
      · rw [c2 130 (by decide), c1 130 (by decide) (by decide), Nat.mul_zero, Nat.zero_add]; exact h130 i (by omega)
      · rw [q2 62 (by decide)]; exact a3.2.2.1
      · unfold OpM
        rw [q2 60 (by decide), q2 61 (by decide), q2 62 (by decide), q2 63 (by decide), q2 64 (by decide), q2 65 (by decide)]
        exact a3
    | succ j ih =>
      intro i M hij hF h125 h130
      apply vX11_begin_42
      rw [Int.toNat_natCast, show (i : Int) + 1 = ((i + 1 : Nat) : Int) by omega]
      refine ⟨⟨by omega, by omega⟩, fun z => absurd z (by omega), fun _ => ⟨⟨by omega, by omega⟩, ih (i + 1) _ (by omega) (fun a x1 x2 => by rw [upM_ne _ _ _ x2, hF a x1 x2]) (by rw [upM_ne _ _ _ (by decide)]; exact h125) (fun q hq => ?_)⟩⟩
      rw [upM_self]
      by_cases e : q = i
      · rw [e, va_up_self]
      · rw [va_up_neq _ _ e]; exact h130 q (by omega)
  have l1 : ∀ (j i : Nat) (M : Mem), i + j = sN s → (∀ a, a ≠ 125 → M a = M0 a) → M 125 0 = ((sU s % 2 ^ i : Nat) : Int) → KW E mX11_begin (qV f) M 9 [(0, pR 98), (1, pI (i : Int))] [] := by
    intro j
    induction j with
    | zero =>
      intro i M hij hF h125
      apply vX11_begin_9
      rw [hF 98 (by decide), h12]
      refine fun _ => ⟨⟨by omega, by omega⟩, fun _ => l2 8 0 M (by omega) (fun a x1 _ => hF a x1) ?_ (fun q hq => absurd hq (Nat.not_lt_zero _)), fun z => absurd z (by omega)⟩
      rw [h125, Nat.mod_eq_of_lt (by have : i = sN s := by omega
                                     rw [this]; exact hu)]
    | succ j ih =>
      intro i M hij hF h125
      apply vX11_begin_9
      have hbt := bt_lt (sU s) i
      have hp : 2 ^ i ≤ 2 ^ 7 := Nat.pow_le_pow_right (by decide) (by omega)
      have hm : sU s % 2 ^ i < 2 ^ i := Nat.mod_lt _ (Nat.two_pow_pos _)
      have hmul : bt (sU s) i * 2 ^ i ≤ 1 * 2 ^ i := Nat.mul_le_mul_right _ (by omega)
      rw [hF 98 (by decide), h12, Int.toNat_natCast, hF 104 (by decide), h104 i (by omega), h125, bShl_nat (by omega) (by omega), bOr_nat (by omega) (by omega), mod_next, show (i : Int) + 1 = ((i + 1 : Nat) : Int) by omega]
      refine fun _ => ⟨⟨by omega, by omega⟩, fun z => absurd z (by omega), fun _ _ => ⟨⟨by omega, by omega⟩, fun _ => ih (i + 1) _ (by omega) (fun a x1 => by rw [upM_ne _ _ _ x1, hF a x1]) (by rw [upM_self, va_up_self])⟩⟩
  exact l1 (sN s) 0 _ (by omega) (fun a x1 => upM_ne _ _ _ x1) (by rw [upM_self, va_up_self, Nat.pow_zero, Nat.mod_one]; rfl)
theorem c_beginC {M : Mem} (h2 : M 21 2 = (sU s : Int)) (h16 : M 21 16 = sSe s) (H : ∀ M', (∀ a, a ≠ 36 → a ≠ 37 → M' a = M a) → vC 36 (d0 s) M' → f M') : CV E mX7_begin [pR 36, pR 21] M f := by
  apply vX7_begin_0
  rw [h2, h16]
  intro _ _
  refine c_fill (aa := 37) (nn := 8) rfl (by decide) ⟨by decide, by decide⟩ (fun M1 a1 a2 => H M1 (fun a x1 x2 => by rw [a1 a x2, upM_ne _ _ _ x1, upM_ne _ _ _ x1, upM_ne _ _ _ x1, upM_ne _ _ _ x1, upM_ne _ _ _ x1, upM_ne _ _ _ x1]) ?_)
  unfold vC
  rw [a1 36 (by decide)]
  exact ⟨rfl, rfl, rfl, rfl, rfl, rfl, fun i hi => a2 i hi⟩
end BEGIN
