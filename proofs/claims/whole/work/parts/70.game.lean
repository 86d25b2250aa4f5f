/-! game on both sides -/
def gP (mv : Nat → Nat) (w : Nat → Bool) (row l : Nat) : Bool := (mv row).testBit l && !row.testBit l && !w (row ||| 2 ^ l)
def gT (mv : Nat → Nat) (n : Nat) : Nat → (Nat → Bool)
  | 0 => fun _ => false
  | j + 1 => upN (gT mv n j) (2 ^ n - 1 - j) (decide (fsF (gP mv (gT mv n j) (2 ^ n - 1 - j)) n 0 ≠ -2))
def gaL (n : Nat) (may : Nat → Nat) (d : DS) : Int := fsF (gP (mvF may (dSe d)) (gT (mvF may (dSe d)) n (2 ^ n)) (dRo d)) n 0
def gamY (n : Nat) (may : Nat → Nat) (x : Int) (d : DS) : Int := if x = 0 then (if gaL n may d = -2 then 1 else 0) else if x = 1 then gaL n may d else -1
theorem gT_st {mv : Nat → Nat} {n j : Nat} : ∀ (i r : Nat), j + i ≤ 2 ^ n → 2 ^ n - j ≤ r → r < 2 ^ n → gT mv n (j + i) r = gT mv n j r := by
  intro i
  induction i with
  | zero => intro r _ _ _; rfl
  | succ i ih =>
    intro r h1 h2 h3
    show upN (gT mv n (j + i)) (2 ^ n - 1 - (j + i)) _ r = _
    rw [upN_ne _ _ (by omega)]
    exact ih r (by omega) h2 h3
theorem fsF_cases {p : Nat → Bool} : ∀ (j l : Nat), fsF p j l = -2 ∨ ∃ q : Nat, l ≤ q ∧ q < l + j ∧ fsF p j l = (q : Int) := by
  intro j
  induction j with
  | zero => intro l; exact Or.inl rfl
  | succ j ih =>
    intro l
    simp only [fsF]
    by_cases c : p l = true
    · rw [if_pos c]; exact Or.inr ⟨l, Nat.le_refl _, by omega, rfl⟩
    · rw [if_neg c]
      rcases ih (l + 1) with z | ⟨q, q1, q2, q3⟩
      · exact Or.inl z
      · exact Or.inr ⟨q, by omega, by omega, q3⟩
theorem or_tb_eq {row l : Nat} : row ||| 2 ^ l = row ↔ row.testBit l = true := by
  constructor
  · intro h
    have := congrArg (fun z => z.testBit l) h
    simp only [Nat.testBit_or, Nat.testBit_two_pow_self, Bool.or_true] at this
    exact this.symm
  · intro h
    apply Nat.eq_of_testBit_eq
    intro i
    rw [Nat.testBit_or, Nat.testBit_two_pow]
    by_cases e : l = i
    · subst e; rw [h]; rfl
    · simp [e]
theorem or_gt {row l : Nat} (h : row.testBit l = false) : row < row ||| 2 ^ l := by
  have h1 : row ≤ row ||| 2 ^ l := Nat.left_le_or
  have h2 : row ||| 2 ^ l ≠ row := fun z => by rw [or_tb_eq.mp z] at h; exact absurd h (by decide)
  omega
theorem gP_ext {mv : Nat → Nat} {w1 w2 : Nat → Bool} {n row l : Nat} (hr : row < 2 ^ n) (hl : l < n) (h : ∀ r, row < r → r < 2 ^ n → w1 r = w2 r) : gP mv w1 row l = gP mv w2 row l := by
  unfold gP
  cases c : row.testBit l
  · rw [h _ (or_gt c) (or_lt hr hl)]
  · simp
section GAME
variable {E : Scr} {law : Lw} {may : Nat → Nat} {rust : Int} {n : Nat} {y : YS}
theorem c_winningLatch {f : Int → Mem → Prop} {M : Mem} {mv : Nat → Nat} {now : Nat} (hn : n ≤ 8) (hnow : now < 2 ^ n) (hG : GC n mv (-1) 0 0 M) (H : ∀ M', FrQ M M' → f (fsF (gP mv (gT mv n (2 ^ n)) now) n 0) M') : CI E mX4_winningLatch [pR 86, pI (now : Int)] M f := by
  have hp := pw8 hn
  have gcf : ∀ M1 : Mem, (∀ a, a ≠ 90 → M1 a = M a) → GC n mv (-1) 0 0 M1 := fun M1 e => by
    unfold GC at hG ⊢
    rw [e 86 (by decide), e 87 (by decide)]
    exact hG
  have inner : ∀ (row j : Nat) (M1 : Mem), row + j + 1 = 2 ^ n → (∀ a, a ≠ 90 → M1 a = M a) → (∀ r, row < r → r < 2 ^ n → M1 90 r = bI (gT mv n j r)) → (∀ (M2 : Mem), (∀ a, a ≠ 90 → M2 a = M a) → (∀ r, row ≤ r → r < 2 ^ n → M2 90 r = bI (gT mv n (j + 1) r)) → KW E mX4_winningLatch (qI f) M2 20 [(0, pR 86), (1, pI (now : Int)), (2, pI (fsF (gP mv (gT mv n j) row) n 0)), (3, pI ((row : Int) + (-1)))] []) → ∀ l, l ≤ n → KW E mX4_winningLatch (qI f) M1 36 [(0, pR 86), (1, pI (now : Int)), (2, pI (fsF (gP mv (gT mv n j) row) (n - l) l)), (3, pI (row : Int)), (4, pI ((l : Int) - 1))] [] := by
    intro row j M1 hrj hK hM HK l
    have hG1 := gcf M1 hK
    have hrow : row < 2 ^ n := by omega
    induction l with
    | zero =>
      intro _
      have hv : fsF (gP mv (gT mv n j) row) (n - 0) 0 = fsF (gP mv (gT mv n j) row) n 0 := rfl
      rw [hv]
      have fin : ∀ v : Int, v = bI (decide (fsF (gP mv (gT mv n j) row) n 0 ≠ -2)) → KW E mX4_winningLatch (qI f) (upM M1 90 row v) 20 [(0, pR 86), (1, pI (now : Int)), (2, pI (fsF (gP mv (gT mv n j) row) n 0)), (3, pI ((row : Int) + (-1)))] [] := by
        intro v hv2
        refine HK _ (fun a a1 => by rw [upM_ne _ _ _ a1]; exact hK a a1) (fun r r1 r2 => ?_)
        rw [upM_self]
        show _ = bI (upN (gT mv n j) (2 ^ n - 1 - j) (decide (fsF (gP mv (gT mv n j) (2 ^ n - 1 - j)) n 0 ≠ -2)) r)
        rw [show 2 ^ n - 1 - j = row by omega]
        by_cases e : r = row
        · rw [e, va_up_self, upN_self]; exact hv2
        · rw [va_up_neq _ _ e, upN_ne _ _ e]; exact hM r (by omega) r2
      have hrg : iR (fsF (gP mv (gT mv n j) row) n 0) := by
        rcases fsF_cases (p := gP mv (gT mv n j) row) n 0 with z | ⟨q, q1, q2, q3⟩
        · rw [z]; exact ⟨by decide, by decide⟩
        · rw [q3]; exact ⟨by omega, by omega⟩
      refine vX4_winningLatch_36 _ _ _ _ ⟨⟨by decide, by decide⟩, fun _ => ⟨hrg, fun c => ⟨⟨by omega, by omega⟩, ?_⟩, fun c => ⟨⟨by omega, by omega⟩, ?_⟩⟩, fun z => absurd z (by decide)⟩
      · rw [Int.toNat_natCast]
        exact fin 1 (by rw [decide_eq_true c]; rfl)
      · rw [Int.toNat_natCast]
        exact fin 0 (by rw [decide_eq_false (fun z => z c)]; rfl)
    | succ l ih =>
      intro hl
      have hpl : 2 ^ l < 2147483648 := pw31 (by omega)
      have hor := or_lt hrow (show l < n by omega)
      have e1 : ((l + 1 : Nat) : Int) - 1 = (l : Int) := by omega
      have e2 : (l : Int) + (-1) = (l : Int) - 1 := by omega
      have II := ih (by omega)
      rw [show n - l = (n - (l + 1)) + 1 by omega] at II
      simp only [fsF] at II
      have no : ¬ gP mv (gT mv n j) row l = true → KW E mX4_winningLatch (qI f) M1 36 [(0, pR 86), (1, pI (now : Int)), (2, pI (fsF (gP mv (gT mv n j) row) (n - (l + 1)) (l + 1))), (3, pI (row : Int)), (4, pI ((l : Int) - 1))] [] := by
        intro z
        rw [if_neg z] at II
        exact II
      apply vX4_winningLatch_36
      rw [e1, e2, bOne_nat (by omega), bOr_nat (by omega) (by omega)]
      refine ⟨⟨by omega, by omega⟩, fun z => absurd z (by omega), fun _ => ⟨⟨by omega, by omega⟩, fun c => ?_, fun c => ?_⟩⟩
      · have ht : row.testBit l = true := or_tb_eq.mp (by omega)
        exact no (by unfold gP; rw [ht]; simp)
      · have ht : row.testBit l = false := by
          cases z : row.testBit l
          · rfl
          · exact absurd (by rw [or_tb_eq.mpr z]) c
        refine c_isMovable hn hrow (by omega) hG1 ?_
        cases hm : (mv row).testBit l
        · exact ⟨⟨by decide, by decide⟩, fun _ => no (by unfold gP; rw [hm]; simp), fun z => absurd rfl z⟩
        · refine ⟨⟨by decide, by decide⟩, fun z => absurd z (by decide), fun _ => c_hasP hn hor hG1.2.1 ⟨⟨by decide, by decide⟩, fun z => absurd z (by decide), fun _ => ?_⟩⟩
          rw [Int.toNat_natCast, hM _ (or_gt ht) hor]
          refine ⟨⟨by omega, by omega⟩, fun _ => ?_⟩
          cases hw : gT mv n j (row ||| 2 ^ l)
          · refine ⟨fun z => absurd rfl z, fun _ => ?_⟩
            rw [if_pos (by unfold gP; rw [hm, ht, hw]; rfl)] at II
            exact II
          · exact ⟨fun _ => no (by unfold gP; rw [hw]; simp), fun z => absurd z (by decide)⟩
  have outer : ∀ (i j : Nat) (x2 : Int) (M1 : Mem), now + i + j = 2 ^ n → (∀ a, a ≠ 90 → M1 a = M a) → (∀ r, now + i ≤ r → r < 2 ^ n → M1 90 r = bI (gT mv n j r)) → (i = 0 → x2 = fsF (gP mv (gT mv n (2 ^ n - 1 - now)) now) n 0) → KW E mX4_winningLatch (qI f) M1 20 [(0, pR 86), (1, pI (now : Int)), (2, pI x2), (3, pI ((now : Int) + i - 1))] [] := by
    intro i
    induction i with
    | zero =>
      intro j x2 M1 hij hK hM hx
      refine vX4_winningLatch_20 _ _ _ ⟨⟨by omega, by omega⟩, ⟨by omega, by omega⟩, fun _ => ?_, fun z => absurd z (by omega)⟩
      rw [hx rfl]
      have e : fsF (gP mv (gT mv n (2 ^ n)) now) n 0 = fsF (gP mv (gT mv n (2 ^ n - 1 - now)) now) n 0 := by
        refine fsF_ext n 0 (fun q _ hq => gP_ext hnow (by omega) (fun r r1 r2 => ?_))
        have := gT_st (mv := mv) (n := n) (j := 2 ^ n - 1 - now) (now + 1) r (by omega) (by omega) r2
        rw [show 2 ^ n - 1 - now + (now + 1) = 2 ^ n by omega] at this
        exact this
      rw [← e]
      exact H M1 (fun a a1 => hK a (by omega))
    | succ i ih =>
      intro j x2 M1 hij hK hM hx
      have hG1 := gcf M1 hK
      have e0 : (now : Int) + ((i + 1 : Nat) : Int) - 1 = ((now + i : Nat) : Int) := by omega
      apply vX4_winningLatch_20
      rw [hG1.1, e0]
      refine ⟨⟨by omega, by omega⟩, ⟨by omega, by omega⟩, fun z => absurd z (by omega), fun _ _ => ?_⟩
      have := inner (now + i) j M1 (by omega) hK (fun r r1 r2 => hM r (by omega) r2) (fun M2 a1 a2 => ?_) n (Nat.le_refl _)
      · rw [Nat.sub_self] at this
        exact this
      · have e3 : ((now + i : Nat) : Int) + (-1) = (now : Int) + (i : Int) - 1 := by omega
        rw [e3]
        refine ih (j + 1) _ M2 (by omega) a1 a2 (fun z => ?_)
        subst z
        rw [show 2 ^ n - 1 - now = j by omega]
        rfl
  apply vX4_winningLatch_0
  refine c_hasP hn hnow hG.2.1 ⟨⟨by decide, by decide⟩, fun _ => ?_, fun z => absurd z (by decide)⟩
  rw [hG.2.1]
  intro _
  have := outer (2 ^ n - now) 0 (-2) M (by omega) (fun _ _ => rfl) (fun r r1 r2 => by omega) (fun z => by omega)
  rw [show (now : Int) + ((2 ^ n - now : Nat) : Int) - 1 = ((2 ^ n : Nat) : Int) - 1 by omega] at this
  exact this
theorem c_gameC {f : Int → Mem → Prop} {M : Mem} {x : Int} (hx : iR x) (hw : wfY n y) (hD : CD n may law rust M) (hy : YC y M) (H : ∀ M', FrQ M M' → f (gamY n may x y.1) M') : CI E mX10_game [pR 0, pI x] M f := by
  have hn := hD.2.1
  have hp := pw8 hn
  have h1 := hw.1.1.1
  have h2 := hw.1.1.2.1
  unfold gamY at H
  have hrg : iR (gaL n may y.1) := by
    rcases fsF_cases (p := gP (mvF may (dSe y.1)) (gT (mvF may (dSe y.1)) n (2 ^ n)) (dRo y.1)) n 0 with z | ⟨q, q1, q2, q3⟩
    · unfold gaL; rw [z]; exact ⟨by decide, by decide⟩
    · unfold gaL; rw [q3]; exact ⟨by omega, by omega⟩
  have go : x = 0 ∨ x = 1 → KW E mX10_game (qI f) M 11 [(0, pR 0), (1, pI x)] [] := by
    intro c
    apply vX10_game_11
    rw [hy.1.2.2.1]
    refine fun _ => c_layP (by omega) hD (fun M1 b1 b2 => ?_)
    rw [b1 36 (by decide), hy.1.2.1]
    refine fun _ => c_winningLatch hn h1 b2 (fun M2 d1 => ?_)
    have HH := H M2 (b1.tr d1)
    show iR x ∧ (x ≠ 1 → iR (gaL n may y.1) ∧ (gaL n may y.1 ≠ -2 → f 0 M2) ∧ (gaL n may y.1 = -2 → f 1 M2)) ∧ (x = 1 → f (gaL n may y.1) M2)
    refine ⟨hx, fun c2 => ⟨hrg, fun c3 => ?_, fun c3 => ?_⟩, fun c2 => ?_⟩
    · rw [if_pos (by omega), if_neg c3] at HH; exact HH
    · rw [if_pos (by omega), if_pos c3] at HH; exact HH
    · rw [if_neg (by omega), if_pos c2] at HH; exact HH
  refine vX10_game_0 _ ⟨hx, fun c => go (Or.inl c), fun c => ⟨hx, fun c2 => go (Or.inr c2), fun c2 => ?_⟩⟩
  rw [if_neg c, if_neg c2] at H
  exact H M (FrQ.rf M)
theorem c_winsBy {f : Int → Mem → Prop} {M : Mem} {d : DS} {w : Nat → Bool} {row : Nat} (hn : n ≤ 8) (hr : row < 2 ^ n) (hse : dSe d < 2 ^ n) (hG : GM n may M) (h126 : M 126 0 = (dSe d : Int)) (hW : ∀ r, row < r → r < 2 ^ n → M 137 r = bI (w r)) (H : f (if fsF (gP (mvF may (dSe d)) w row) n 0 = -2 then -1 else fsF (gP (mvF may (dSe d)) w row) n 0) M) : CI E mX11_winsBy [pR 98, pI (row : Int)] M f := by
  have hp := pw8 hn
  have hm := hG.2 row hr
  have hle := andN_le (may row) (dSe d)
  have hle2 := andN_le (andN (may row) (dSe d)) row
  apply vX11_winsBy_0
  rw [Int.toNat_natCast, hm.1, h126, bAndN_nat (by omega) (by omega), bAndN_nat (by omega) (by omega)]
  refine ⟨⟨by omega, by omega⟩, fun _ _ => ?_⟩
  have loop : ∀ (j l : Nat), l + j = n → f (if fsF (gP (mvF may (dSe d)) w row) j l = -2 then -1 else fsF (gP (mvF may (dSe d)) w row) j l) M → KW E mX11_winsBy (qI f) M 22 [(0, pR 98), (1, pI (row : Int)), (2, pI ((andN (andN (may row) (dSe d)) row : Nat) : Int)), (3, pI (l : Int))] [] := by
    intro j
    induction j with
    | zero =>
      intro l hl hf
      apply vX11_winsBy_22
      rw [hG.1]
      exact fun _ => ⟨⟨by omega, by omega⟩, fun _ => hf, fun z => absurd z (by omega)⟩
    | succ j ih =>
      intro l hl hf
      have hor := or_lt hr (show l < n by omega)
      have e : (andN (andN (may row) (dSe d)) row).testBit l = ((mvF may (dSe d) row).testBit l && !row.testBit l) := andN_tb _ _ _
      apply vX11_winsBy_22
      rw [hG.1, bOne_nat (by omega), bOr_nat (by omega) (pw31 (by omega))]
      refine fun _ => ⟨⟨by omega, by omega⟩, fun z => absurd z (by omega), fun _ => c_isOf (by omega) (by omega) ?_⟩
      rw [bt_tb, e]
      by_cases c : ((mvF may (dSe d) row).testBit l && !row.testBit l) = true
      · rw [if_pos c]
        have ht : row.testBit l = false := by
          cases z : row.testBit l
          · rfl
          · rw [z] at c; simp at c
        refine ⟨⟨by decide, by decide⟩, fun z => absurd z (by decide), fun _ => ⟨⟨by omega, by omega⟩, fun _ => ?_⟩⟩
        rw [Int.toNat_natCast, hW _ (or_gt ht) hor]
        cases hw2 : w (row ||| 2 ^ l)
        · have g : gP (mvF may (dSe d)) w row l = true := by unfold gP; rw [c, hw2]; rfl
          have es : fsF (gP (mvF may (dSe d)) w row) (j + 1) l = (l : Int) := by simp only [fsF]; rw [if_pos g]
          rw [es, if_neg (by omega)] at hf
          exact ⟨fun z => absurd rfl z, fun _ => hf⟩
        · have g : ¬ gP (mvF may (dSe d)) w row l = true := by unfold gP; rw [hw2]; simp
          have es : fsF (gP (mvF may (dSe d)) w row) (j + 1) l = fsF (gP (mvF may (dSe d)) w row) j (l + 1) := by simp only [fsF]; rw [if_neg g]
          rw [es] at hf
          exact ⟨fun _ => ih (l + 1) (by omega) hf, fun z => absurd z (by decide)⟩
      · rw [if_neg c]
        have g : ¬ gP (mvF may (dSe d)) w row l = true := fun z => c (by unfold gP at z; simp at z ⊢; exact z.1)
        have es : fsF (gP (mvF may (dSe d)) w row) (j + 1) l = fsF (gP (mvF may (dSe d)) w row) j (l + 1) := by simp only [fsF]; rw [if_neg g]
        rw [es] at hf
        exact ⟨⟨by decide, by decide⟩, fun _ => ih (l + 1) (by omega) hf, fun z => absurd rfl z⟩
  exact loop n 0 (by omega) H
theorem c_gameM {f : Int → Mem → Prop} {M : Mem} {x : Int} (hx : iR x) (hw : wfY n y) (hD : MD n may law rust M) (hy : YM y M) (H : ∀ M', FrN M M' → f (gamY n may x y.1) M') : CI E mX11_game [pR 98, pI x] M f := by
  have hn := hD.2.1
  have hp := pw8 hn
  have hF0 := FrN.th M 0
  have h1 := hw.1.1.1
  have h2 := hw.1.1.2.1
  unfold gamY at H
  refine vX11_game_0 _ (c_isIn hx ⟨by decide, by decide⟩ ⟨by decide, by decide⟩ (fun c => ⟨⟨by decide, by decide⟩, fun _ => ?_, fun z => absurd z (by decide)⟩) (fun c => ⟨⟨by decide, by decide⟩, fun z => absurd rfl z, fun _ => ?_⟩))
  · have loop : ∀ (i j : Nat) (M1 : Mem), i + j = 2 ^ n → FrN M M1 → (∀ r, i ≤ r → r < 2 ^ n → M1 137 r = bI (gT (mvF may (dSe y.1)) n j r)) → KW E mX11_game (qI f) M1 25 [(0, pR 98), (1, pI x), (2, pI ((i : Int) - 1))] [] := by
      intro i
      induction i with
      | zero =>
        intro j M1 hij hF hM
        have hy1 := hy.fN hF
        have : j = 2 ^ n := by omega
        subst this
        apply vX11_game_25
        rw [hy1.1.2.1]
        refine ⟨⟨by decide, by decide⟩, fun _ _ => c_winsBy (d := y.1) hn h1 h2 (hD.gm.fN hF) hy1.1.2.2.1 (fun r r1 r2 => hM r (by omega) r2) ?_, fun z => absurd z (by decide)⟩
        have HH := H M1 hF
        show iR x ∧ (x ≠ 0 → iR (if gaL n may y.1 = -2 then -1 else gaL n may y.1) ∧ ((if gaL n may y.1 = -2 then -1 else gaL n may y.1) ≥ 0 → f (if gaL n may y.1 = -2 then -1 else gaL n may y.1) M1) ∧ ((if gaL n may y.1 = -2 then -1 else gaL n may y.1) < 0 → f (-2) M1)) ∧ (x = 0 → iR (if gaL n may y.1 = -2 then -1 else gaL n may y.1) ∧ ((if gaL n may y.1 = -2 then -1 else gaL n may y.1) ≥ 0 → f 0 M1) ∧ ((if gaL n may y.1 = -2 then -1 else gaL n may y.1) < 0 → f 1 M1))
        have hg : gaL n may y.1 = -2 ∨ ∃ q : Nat, q < n ∧ gaL n may y.1 = (q : Int) := by
          rcases fsF_cases (p := gP (mvF may (dSe y.1)) (gT (mvF may (dSe y.1)) n (2 ^ n)) (dRo y.1)) n 0 with z | ⟨q, q1, q2, q3⟩
          · exact Or.inl z
          · exact Or.inr ⟨q, by omega, q3⟩
        rcases hg with g | ⟨q, q1, g⟩
        · rw [g] at HH ⊢
          rw [if_pos rfl] at HH ⊢
          refine ⟨hx, fun c2 => ⟨⟨by decide, by decide⟩, fun z => absurd z (by decide), fun _ => ?_⟩, fun c2 => ⟨⟨by decide, by decide⟩, fun z => absurd z (by decide), fun _ => ?_⟩⟩
          · rw [if_neg c2, if_pos (by omega)] at HH; exact HH
          · rw [if_pos c2] at HH; exact HH
        · rw [g] at HH ⊢
          rw [if_neg (show ¬ ((q : Int) = -2) by omega)] at HH ⊢
          refine ⟨hx, fun c2 => ⟨⟨by omega, by omega⟩, fun _ => ?_, fun z => absurd z (by omega)⟩, fun c2 => ⟨⟨by omega, by omega⟩, fun _ => ?_, fun z => absurd z (by omega)⟩⟩
          · rw [if_neg c2, if_pos (by omega)] at HH; exact HH
          · rw [if_pos c2] at HH; exact HH
      | succ i ih =>
        intro j M1 hij hF hM
        have hy1 := hy.fN hF
        have e1 : ((i + 1 : Nat) : Int) - 1 = (i : Int) := by omega
        have e2 : (i : Int) + (-1) = (i : Int) - 1 := by omega
        apply vX11_game_25
        rw [e1, e2, Int.toNat_natCast]
        refine ⟨⟨by omega, by omega⟩, fun z => absurd z (by omega), fun _ => c_winsBy (d := y.1) (w := gT (mvF may (dSe y.1)) n j) hn (by omega) h2 (hD.gm.fN hF) hy1.1.2.2.1 (fun r r1 r2 => hM r (by omega) r2) ?_⟩
        have up : ∀ v : Int, v = bI (decide (fsF (gP (mvF may (dSe y.1)) (gT (mvF may (dSe y.1)) n j) i) n 0 ≠ -2)) → KW E mX11_game (qI f) (upM M1 137 i v) 25 [(0, pR 98), (1, pI x), (2, pI ((i : Int) - 1))] [] := by
          intro v hv
          refine ih (j + 1) _ (by omega) (hF.tr ⟨fun a a1 a2 => upM_ne _ _ _ (by omega), fun q _ _ => by rw [upM_ne _ _ _ (by decide)]⟩) (fun r r1 r2 => ?_)
          rw [upM_self]
          show _ = bI (upN (gT (mvF may (dSe y.1)) n j) (2 ^ n - 1 - j) (decide (fsF (gP (mvF may (dSe y.1)) (gT (mvF may (dSe y.1)) n j) (2 ^ n - 1 - j)) n 0 ≠ -2)) r)
          rw [show 2 ^ n - 1 - j = i by omega]
          by_cases e : r = i
          · rw [e, va_up_self, upN_self]; exact hv
          · rw [va_up_neq _ _ e, upN_ne _ _ e]; exact hM r (by omega) r2
        rcases fsF_cases (p := gP (mvF may (dSe y.1)) (gT (mvF may (dSe y.1)) n j) i) n 0 with z | ⟨q, q1, q2, z⟩
        · rw [if_pos z]
          exact ⟨⟨by decide, by decide⟩, fun _ => ⟨⟨by omega, by omega⟩, up 0 (by rw [z]; rfl)⟩, fun q => absurd q (by decide)⟩
        · have hne : fsF (gP (mvF may (dSe y.1)) (gT (mvF may (dSe y.1)) n j) i) n 0 ≠ -2 := by omega
          rw [if_neg hne, z]
          exact ⟨⟨by omega, by omega⟩, fun q => absurd q (by omega), fun _ => ⟨⟨by omega, by omega⟩, up 1 (by rw [decide_eq_true hne]; rfl)⟩⟩
    rw [(hD.gm.fN hF0).1, bOne_nat (by omega)]
    exact fun _ => loop (2 ^ n) 0 _ (by omega) hF0 (fun r r1 r2 => by omega)
  · rw [if_neg (by omega), if_neg (by omega)] at H
    exact H _ hF0
end GAME
