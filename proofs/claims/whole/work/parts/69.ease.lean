/-! ease on both sides -/
def okS (n : Nat) (may : Nat → Nat) (d : DS) (t S : Nat) : Bool := decide (bF (bfs (-1) (canG may (dSe d) S) n (dRo d)) t ≠ -1)
def easF (ok : Nat → Bool) : Nat → Nat → Int → Int
  | 0, _, best => best
  | j + 1, S, best => if 0 ≤ best ∧ pop S ≥ pop best.toNat then easF ok j (S + 1) best else easF ok j (S + 1) (if ok S = true then (S : Int) else best)
def easY (n : Nat) (may : Nat → Nat) (x : Int) (d : DS) : Int := if 0 ≤ x ∧ x < ((2 ^ n : Nat) : Int) then easF (okS n may d x.toNat) (2 ^ n) 0 (-2) else -1
def EB (ok : Nat → Bool) (N : Nat) (v : Int) : Prop := (v = -2 ∧ ∀ S, S < N → ok S = false) ∨ ∃ S0 : Nat, v = (S0 : Int) ∧ S0 < N ∧ ok S0 = true ∧ ∀ S, S < N → ok S = true → pop S0 < pop S ∨ (pop S0 = pop S ∧ S0 ≤ S)
theorem EB.uniq {ok : Nat → Bool} {N : Nat} {v w : Int} (h1 : EB ok N v) (h2 : EB ok N w) : v = w := by
  rcases h1 with ⟨a1, a2⟩ | ⟨A, a1, a2, a3, a4⟩
  · rcases h2 with ⟨b1, b2⟩ | ⟨B, b1, b2, b3, b4⟩
    · rw [a1, b1]
    · have := a2 B b2; rw [this] at b3; exact absurd b3 (by decide)
  · rcases h2 with ⟨b1, b2⟩ | ⟨B, b1, b2, b3, b4⟩
    · have := b2 A a2; rw [this] at a3; exact absurd a3 (by decide)
    · have c1 := a4 B b2 b3
      have c2 := b4 A a2 a3
      rw [a1, b1]
      omega
theorem easF_EB {ok : Nat → Bool} : ∀ (j S : Nat) (best : Int), EB ok S best → EB ok (S + j) (easF ok j S best) := by
  intro j
  induction j with
  | zero => intro S best h; exact h
  | succ j ih =>
    intro S best h
    simp only [easF]
    rw [show S + (j + 1) = S + 1 + j by omega]
    by_cases c : 0 ≤ best ∧ pop S ≥ pop best.toNat
    · rw [if_pos c]
      refine ih (S + 1) best ?_
      rcases h with ⟨a1, _⟩ | ⟨A, a1, a2, a3, a4⟩
      · omega
      · refine Or.inr ⟨A, a1, by omega, a3, fun S2 h2 h3 => ?_⟩
        by_cases e : S2 = S
        · rw [a1, Int.toNat_natCast] at c
          rw [e]; omega
        · exact a4 S2 (by omega) h3
    · rw [if_neg c]
      refine ih (S + 1) _ ?_
      by_cases o : ok S = true
      · rw [if_pos o]
        refine Or.inr ⟨S, rfl, by omega, o, fun S2 h2 h3 => ?_⟩
        by_cases e : S2 = S
        · rw [e]; exact Or.inr ⟨rfl, Nat.le_refl _⟩
        · rcases h with ⟨a1, a2⟩ | ⟨A, a1, a2, a3, a4⟩
          · have := a2 S2 (by omega); rw [this] at h3; exact absurd h3 (by decide)
          · rw [a1, Int.toNat_natCast] at c
            have := a4 S2 (by omega) h3
            omega
      · rw [if_neg o]
        have o' : ok S = false := by
          cases z : ok S
          · rfl
          · exact absurd z o
        rcases h with ⟨a1, a2⟩ | ⟨A, a1, a2, a3, a4⟩
        · refine Or.inl ⟨a1, fun S2 h2 => ?_⟩
          by_cases e : S2 = S
          · rw [e]; exact o'
          · exact a2 S2 (by omega)
        · refine Or.inr ⟨A, a1, by omega, a3, fun S2 h2 h3 => ?_⟩
          by_cases e : S2 = S
          · rw [e, o'] at h3; exact absurd h3 (by decide)
          · exact a4 S2 (by omega) h3
theorem popN_sub {x z : Nat} (h : ∀ i, x.testBit i = true → z.testBit i = true) : ∀ m, popN m x ≤ popN m z ∧ (popN m x = popN m z → ∀ i, i < m → x.testBit i = z.testBit i) := by
  intro m
  induction m with
  | zero => exact ⟨Nat.le_refl _, fun _ i hi => absurd hi (by omega)⟩
  | succ m ih =>
    have hm := h m
    simp only [popN, bt_tb]
    obtain ⟨i1, i2⟩ := ih
    cases hx : x.testBit m <;> cases hz : z.testBit m
    · refine ⟨by simp; omega, fun e i hi => ?_⟩
      by_cases c : i = m
      · rw [c, hx, hz]
      · exact i2 (by simpa using e) i (by omega)
    · refine ⟨by simp; omega, fun e i hi => ?_⟩
      simp at e
      omega
    · rw [hx, hz] at hm
      exact absurd (hm rfl) (by decide)
    · refine ⟨by simp; omega, fun e i hi => ?_⟩
      by_cases c : i = m
      · rw [c, hx, hz]
      · exact i2 (by simpa using e) i (by omega)
theorem tb_ge {x n i : Nat} (h : x < 2 ^ n) (hi : n ≤ i) : x.testBit i = false := Nat.testBit_lt_two_pow (Nat.lt_of_lt_of_le h (Nat.pow_le_pow_right (by decide) hi))
def redS (lean se S : Nat) : Nat := andN (S &&& lean) se
theorem redS_tb (lean se S i : Nat) : (redS lean se S).testBit i = (S.testBit i && lean.testBit i && !se.testBit i) := by
  unfold redS
  rw [andN_tb, Nat.testBit_and]
theorem redS_le (lean se S : Nat) : redS lean se S ≤ S := Nat.le_trans (andN_le _ _) Nat.and_le_left
theorem red_pop {lean se S n : Nat} (hn : n ≤ 17) (hS : S < 2 ^ n) : pop (redS lean se S) ≤ pop S ∧ (pop (redS lean se S) = pop S → redS lean se S = S) := by
  have h := popN_sub (x := redS lean se S) (z := S) (fun i hi => by rw [redS_tb] at hi; simp at hi; exact hi.1.1) 17
  refine ⟨h.1, fun e => ?_⟩
  apply Nat.eq_of_testBit_eq
  intro i
  by_cases c : i < 17
  · exact h.2 e i c
  · have := redS_le lean se S
    rw [tb_ge (x := S) hS (by omega), tb_ge (x := redS lean se S) (n := n) (by omega) (by omega)]
def LnO (n : Nat) (may : Nat → Nat) (lean : Nat) : Prop := lean < 2 ^ n ∧ ∀ l, l < n → lean.testBit l = false → ∀ r, r < 2 ^ n → (may r).testBit l = true
theorem ok_red {n : Nat} {may : Nat → Nat} {lean : Nat} {d : DS} {t S : Nat} (hl : LnO n may lean) (hs : dRo d < 2 ^ n) : okS n may d t (redS lean (dSe d) S) = okS n may d t S := by
  unfold okS
  rw [bfs_ext (can2 := canG may (dSe d) S) hs (fun r hr q hq => ?_)]
  unfold canG
  simp only [andN_tb, Nat.testBit_or, redS_tb]
  cases h : lean.testBit q
  · rw [hl.2 q hq h r hr]; simp
  · cases (may r).testBit q <;> cases (dSe d).testBit q <;> cases S.testBit q <;> rfl
theorem ok_seal {n : Nat} {may : Nat → Nat} {d : DS} {t S q : Nat} (hn : n ≤ 8) (hs : dRo d < 2 ^ n) (hok : okS n may d t S = true) (hq : (dSe d).testBit q = true) : t.testBit q = (dRo d).testBit q := by
  have aux : ∀ k r, Wk (-1) (canG may (dSe d) S) n (dRo d) k r → r.testBit q = (dRo d).testBit q := by
    intro k
    induction k with
    | zero => intro r h; have h' : r = dRo d := h
              rw [h']
    | succ k ih =>
      intro r h
      obtain ⟨p, l, h1, h2, h3, h4, h5⟩ := h
      have h6 := ih p h2
      rw [h4, Nat.testBit_xor, Nat.testBit_two_pow, h6]
      have : l ≠ q := by
        intro e
        unfold canG at h3
        rw [andN_tb, e, hq] at h3
        simp at h3
      simp [this]
  have h0 := of_decide_eq_true hok
  have hb : BI n (bfs (-1) (canG may (dSe d) S) n (dRo d)) := BI.fs hs
  have h1 := (hb.had h0).2.1
  exact aux _ t (far_wk (nev := -1) hn hs (bF (bfs (-1) (canG may (dSe d) S) n (dRo d)) t).toNat t (by omega))
section EASE
variable {E : Scr} {law : Lw} {may : Nat → Nat} {rust : Int} {n lean : Nat} {y : YS}
theorem good_iff {lean se S : Nat} : andN S lean ||| (S &&& se) = 0 ↔ redS lean se S = S := by
  constructor
  · intro h
    apply Nat.eq_of_testBit_eq
    intro i
    have := congrArg (fun z => z.testBit i) h
    simp only [Nat.testBit_or, andN_tb, Nat.testBit_and, Nat.zero_testBit] at this
    rw [redS_tb]
    cases hS : S.testBit i
    · rfl
    · rw [hS] at this
      cases hl : lean.testBit i <;> cases he : se.testBit i <;> simp [hl, he] at this ⊢
  · intro h
    apply Nat.eq_of_testBit_eq
    intro i
    have := congrArg (fun z => z.testBit i) h
    simp only [redS_tb] at this
    simp only [Nat.testBit_or, andN_tb, Nat.testBit_and, Nat.zero_testBit]
    cases hS : S.testBit i
    · rfl
    · rw [hS] at this
      cases hl : lean.testBit i <;> cases he : se.testBit i <;> simp [hl, he] at this ⊢
theorem canG_eas {se r q S : Nat} (h : redS lean se S = S) : (canG (mvF may se) se S r).testBit q = (canG may se S r).testBit q := by
  have := congrArg (fun z => z.testBit q) h
  simp only [redS_tb] at this
  unfold canG mvF
  simp only [andN_tb, Nat.testBit_or]
  cases h1 : (may r).testBit q <;> cases h2 : se.testBit q <;> cases h3 : S.testBit q <;> simp_all
theorem c_easeC {f : Int → Mem → Prop} {M : Mem} {x : Int} (hx : iR x) (hw : wfY n y) (hD : CD n may law rust M) (hL : LnO n may lean) (h5 : M 21 5 = (lean : Int)) (hy : YC y M) (H : ∀ M', FrQ M M' → f (easY n may x y.1) M') : CI E mX10_ease [pR 0, pI x] M f := by
  have hn := hD.2.1
  have hp := pw8 hn
  have h1 := hw.1.1.1
  have h2 := hw.1.1.2.1
  have hl1 := hL.1
  unfold easY at H
  refine vX10_ease_0 _ (c_hasRow hx hD.1 hn (fun r er hr => ⟨⟨by decide, by decide⟩, fun _ => ?_, fun z => absurd z (by decide)⟩) (fun z => ⟨⟨by decide, by decide⟩, fun z => absurd rfl z, fun _ => ?_⟩))
  · subst er
    rw [if_pos ⟨by omega, by omega⟩, Int.toNat_natCast] at H
    have hx2 : r ^^^ dRo y.1 < 2 ^ n := Nat.xor_lt_two_pow hr h1
    have hEB : EB (okS n may y.1 r) (2 ^ n) (easF (okS n may y.1 r) (2 ^ n) 0 (-2)) := by
      have := easF_EB (ok := okS n may y.1 r) (2 ^ n) 0 (-2) (Or.inl ⟨rfl, fun S h => absurd h (by omega)⟩)
      rw [Nat.zero_add] at this
      exact this
    rw [hy.1.2.1, hy.1.2.2.1, bXor_nat (by omega) (by omega), bAnd_nat (by omega) (by omega)]
    refine fun _ _ => ⟨fun c => fun _ => ?_, fun c => ?_⟩
    · refine c_layP (by omega) hD (fun M1 b1 b2 => ?_)
      rw [b1 36 (by decide), b1 21 (by decide), hy.1.2.1, hy.1.2.2.1, h5]
      refine fun _ _ _ => vX4_eased_0 _ _ _ _ ?_
      have fin : ∀ S0 M', S0 < 2 ^ n → FrQ M M' → okS n may y.1 r S0 = true → (∀ S, S < 2 ^ n → redS lean (dSe y.1) S = S → okS n may y.1 r S = true → pop S0 < pop S ∨ (pop S0 = pop S ∧ S0 ≤ S)) → f (S0 : Int) M' := by
        intro S0 M' a1 a2 a3 a4
        have e : easF (okS n may y.1 r) (2 ^ n) 0 (-2) = (S0 : Int) := by
          refine EB.uniq hEB (Or.inr ⟨S0, rfl, a1, a3, fun S b1 b2 => ?_⟩)
          have r1 := red_pop (lean := lean) (se := dSe y.1) (n := n) (by omega) b1
          have r2 := redS_le lean (dSe y.1) S
          have r3 : redS lean (dSe y.1) (redS lean (dSe y.1) S) = redS lean (dSe y.1) S := by
            apply Nat.eq_of_testBit_eq
            intro i
            simp only [redS_tb]
            cases S.testBit i <;> cases lean.testBit i <;> cases (dSe y.1).testBit i <;> rfl
          have r4 := a4 (redS lean (dSe y.1) S) (by omega) r3 (by rw [ok_red hL h1]; exact b2)
          by_cases e2 : pop (redS lean (dSe y.1) S) = pop S
          · rw [r1.2 e2] at r4; exact r4
          · omega
        rw [← e]
        exact H M' a2
      have inner : ∀ (sz : Nat), sz ≤ n → (∀ S, S < 2 ^ n → redS lean (dSe y.1) S = S → okS n may y.1 r S = true → sz ≤ pop S) → (∀ M', FrQ M M' → (∃ s2 e2, GC n (mvF may (dSe y.1)) (-1) s2 e2 M') → (∀ S, S < 2 ^ n → redS lean (dSe y.1) S = S → okS n may y.1 r S = true → sz + 1 ≤ pop S) → KW E mX4_eased (qI f) M' 3 [(0, pR 86), (1, pI (dRo y.1 : Int)), (2, pI (r : Int)), (3, pI (dSe y.1 : Int)), (4, pI (lean : Int)), (5, pI ((sz : Int) + 1))] []) → ∀ (j k s2 e2 : Nat) (M3 : Mem), k + j = 2 ^ n → FrQ M M3 → GC n (mvF may (dSe y.1)) (-1) s2 e2 M3 → (∀ S, S < k → redS lean (dSe y.1) S = S → okS n may y.1 r S = true → sz + 1 ≤ pop S) → KW E mX4_eased (qI f) M3 15 [(0, pR 86), (1, pI (dRo y.1 : Int)), (2, pI (r : Int)), (3, pI (dSe y.1 : Int)), (4, pI (lean : Int)), (5, pI (sz : Int)), (6, pI (k : Int))] [] := by
        intro sz hsz hlow HK j
        induction j with
        | zero =>
          intro k s2 e2 M3 hk hF hG hdone
          apply vX4_eased_15
          rw [hG.2.1]
          exact fun _ => ⟨⟨by omega, by omega⟩, fun _ => HK M3 hF ⟨s2, e2, hG⟩ (fun S hS => hdone S (by omega)), fun z => absurd z (by omega)⟩
        | succ j ih =>
          intro k s2 e2 M3 hk hF hG hdone
          have nxt : ¬ (redS lean (dSe y.1) k = k ∧ okS n may y.1 r k = true ∧ pop k = sz) → ∀ S, S < k + 1 → redS lean (dSe y.1) S = S → okS n may y.1 r S = true → sz + 1 ≤ pop S := by
            intro z S hS g1 g2
            by_cases e : S = k
            · rw [e] at g1 g2 ⊢
              have := hlow k (by omega) g1 g2
              by_cases e3 : pop k = sz
              · exact absurd ⟨g1, g2, e3⟩ z
              · omega
            · exact hdone S (by omega) g1 g2
          have hle1 := andN_le k lean
          have hle2 : k &&& dSe y.1 ≤ k := Nat.and_le_left
          apply vX4_eased_15
          rw [hG.2.1, bAndN_nat (by omega) (by omega), bAnd_nat (by omega) (by omega), bOr_nat (by omega) (by omega)]
          refine fun _ => ⟨⟨by omega, by omega⟩, fun z => absurd z (by omega), fun _ => ⟨fun g => ?_, fun g => ?_⟩⟩
          · exact ih (k + 1) s2 e2 M3 (by omega) hF hG (nxt (fun z => g (by rw [good_iff.mpr z.1]; rfl)))
          · have hgood : redS lean (dSe y.1) k = k := good_iff.mp (by omega)
            have hpk : pop k ≤ 17 := popN_le 17 k
            refine c_bitCount (by omega) ⟨⟨by omega, by omega⟩, ⟨by omega, by omega⟩, fun g2 => ?_, fun g2 => ?_⟩
            · exact ih (k + 1) s2 e2 M3 (by omega) hF hG (nxt (fun z => g2 (by rw [z.2.2])))
            · refine c_bar (s2 := dSe y.1) (e2 := k) ⟨by decide, by decide⟩ (by omega) (by omega) hG (fun M4 g3 g4 g5 => ?_)
              refine c_spread hn (by omega) (by omega) h1 g5 (fun M5 k1 k2 k3 => ?_)
              rw [bfs_ext (can2 := canG may (dSe y.1) k) h1 (fun r _ q _ => canG_eas hgood)] at k3
              have hF5 : FrQ M M5 := (hF.tr (fun a a1 => g3 a (by omega))).tr k1.toQ
              have hG5 := g5.fr k1
              refine c_isHad hn hr hG5.2.1 k3 (fun c6 => ?_) (fun c6 => ?_)
              · refine ⟨⟨by decide, by decide⟩, fun z => absurd z (by decide), fun _ => fin k M5 (by omega) hF5 (decide_eq_true c6) (fun S a1 a2 a3 => ?_)⟩
                have q1 := hlow S a1 a2 a3
                rcases Nat.lt_or_ge S k with c7 | c7
                · have := hdone S c7 a2 a3; omega
                · omega
              · refine ⟨⟨by decide, by decide⟩, fun _ => ih (k + 1) _ _ M5 (by omega) hF5 hG5 (nxt (fun z => ?_)), fun z => absurd rfl z⟩
                exact (of_decide_eq_true z.2.1) c6
      have outer : ∀ (j sz s2 e2 : Nat) (M3 : Mem), sz + j = n + 1 → FrQ M M3 → GC n (mvF may (dSe y.1)) (-1) s2 e2 M3 → (∀ S, S < 2 ^ n → redS lean (dSe y.1) S = S → okS n may y.1 r S = true → sz ≤ pop S) → KW E mX4_eased (qI f) M3 3 [(0, pR 86), (1, pI (dRo y.1 : Int)), (2, pI (r : Int)), (3, pI (dSe y.1 : Int)), (4, pI (lean : Int)), (5, pI (sz : Int))] [] := by
        intro j
        induction j with
        | zero =>
          intro sz s2 e2 M3 hsz hF hG hlow
          apply vX4_eased_3
          rw [hG.1]
          refine fun _ => ⟨⟨by omega, by omega⟩, fun _ => ?_, fun z => absurd z (by omega)⟩
          have e : easF (okS n may y.1 r) (2 ^ n) 0 (-2) = -2 := by
            refine EB.uniq hEB (Or.inl ⟨rfl, fun S hS => ?_⟩)
            cases z : okS n may y.1 r S
            · rfl
            · have r2 := redS_le lean (dSe y.1) S
              have r3 : redS lean (dSe y.1) (redS lean (dSe y.1) S) = redS lean (dSe y.1) S := by
                apply Nat.eq_of_testBit_eq
                intro i
                simp only [redS_tb]
                cases S.testBit i <;> cases lean.testBit i <;> cases (dSe y.1).testBit i <;> rfl
              have r4 := hlow (redS lean (dSe y.1) S) (by omega) r3 (by rw [ok_red hL h1]; exact z)
              have r5 : pop (redS lean (dSe y.1) S) ≤ n := by
                have q1 := popN_ext (m := n) (x := redS lean (dSe y.1) S) (by omega) (17 - n)
                rw [show n + (17 - n) = 17 by omega] at q1
                have q2 := popN_le n (redS lean (dSe y.1) S)
                show popN 17 _ ≤ n
                omega
              omega
          rw [e] at H
          exact H M3 hF
        | succ j ih =>
          intro sz s2 e2 M3 hsz hF hG hlow
          apply vX4_eased_3
          rw [hG.1]
          refine fun _ => ⟨⟨by omega, by omega⟩, fun z => absurd z (by omega), fun _ => ?_⟩
          exact inner sz (by omega) hlow (fun M' a1 ⟨s3, e3, a2⟩ a3 => ih (sz + 1) s3 e3 M' (by omega) a1 a2 a3) (2 ^ n) 0 s2 e2 M3 (Nat.zero_add _) hF hG (fun S hS => absurd hS (by omega))
      exact outer (n + 1) 0 0 0 M1 (Nat.zero_add _) b1 b2 (fun S _ _ _ => Nat.zero_le _)
    · have e : easF (okS n may y.1 r) (2 ^ n) 0 (-2) = -2 := by
        refine EB.uniq hEB (Or.inl ⟨rfl, fun S hS => ?_⟩)
        cases z : okS n may y.1 r S
        · rfl
        · exfalso
          apply c
          have : (r ^^^ dRo y.1) &&& dSe y.1 = 0 := by
            apply Nat.eq_of_testBit_eq
            intro i
            rw [Nat.testBit_and, Nat.testBit_xor, Nat.zero_testBit]
            cases hq : (dSe y.1).testBit i
            · simp
            · rw [ok_seal hn h1 z hq]; simp
          rw [this]; rfl
      rw [e] at H
      exact H M (FrQ.rf M)
  · rw [if_neg z] at H
    exact H M (FrQ.rf M)
theorem c_easeM {f : Int → Mem → Prop} {M : Mem} {x : Int} (hx : iR x) (hw : wfY n y) (hD : MD n may law rust M) (hy : YM y M) (H : ∀ M', FrN M M' → f (easY n may x y.1) M') : CI E mX11_ease [pR 98, pI x] M f := by
  have hn := hD.2.1
  have hp := pw8 hn
  have hF0 := FrN.th M 0
  have h1 := hw.1.1.1
  have h2 := hw.1.1.2.1
  unfold easY at H
  refine vX11_ease_0 _ (c_isRow hx (hD.gm.fN hF0).1 hn (fun r er hr => ⟨⟨by decide, by decide⟩, fun _ => ?_, fun z => absurd z (by decide)⟩) (fun z => ⟨⟨by decide, by decide⟩, fun z => absurd rfl z, fun _ => ?_⟩))
  · subst er
    rw [if_pos ⟨by omega, by omega⟩, Int.toNat_natCast] at H
    have loop : ∀ (j k : Nat) (best : Int) (M3 : Mem), k + j = 2 ^ n → -2 ≤ best ∧ best < k → FrN M M3 → (∀ M', FrN M M' → f (easF (okS n may y.1 r) j k best) M') → KW E mX11_ease (qI f) M3 20 [(0, pR 98), (1, pI (r : Int)), (2, pI best), (3, pI (k : Int))] [] := by
      intro j
      induction j with
      | zero =>
        intro k best M3 hk hbst hF HH
        apply vX11_ease_20
        rw [(hD.gm.fN hF).1, bOne_nat (by omega)]
        exact fun _ => ⟨⟨by omega, by omega⟩, fun _ => HH M3 hF, fun z => absurd z (by omega)⟩
      | succ j ih =>
        intro k best M3 hk hbst hF HH
        simp only [easF] at HH
        have hy3 := hy.fN hF
        have try1 : ¬ (0 ≤ best ∧ pop k ≥ pop best.toNat) → KW E mX11_ease (qI f) M3 48 [(0, pR 98), (1, pI (r : Int)), (2, pI best), (3, pI (k : Int))] [] := by
          intro c
          rw [if_neg c] at HH
          apply vX11_ease_48
          rw [hy3.1.2.1, hy3.1.2.2.1]
          refine fun _ _ => c_layFar (loose := k) hn (by omega) (by omega) ⟨by decide, by decide⟩ h1 (hD.gm.fN hF) (fun M4 g1 g3 => ⟨⟨by omega, by omega⟩, ?_⟩)
          have hb4 : BI n (bfs (-1) (canG may (dSe y.1) k) n (dRo y.1)) := BI.fs h1
          rw [Int.toNat_natCast, g3.1 r (by omega)]
          refine fun _ => ⟨fun c2 => ?_, fun c2 => ?_⟩
          · rw [if_neg (fun z => by
              have z1 := of_decide_eq_true z
              have := (hb4.had z1).2.1; omega)] at HH
            exact ih (k + 1) best M4 (by omega) ⟨by omega, by omega⟩ (hF.tr g1.toN) HH
          · have o : okS n may y.1 r k = true := decide_eq_true (by omega)
            rw [if_pos o] at HH
            exact ih (k + 1) _ M4 (by omega) ⟨by omega, by omega⟩ (hF.tr g1.toN) HH
        apply vX11_ease_20
        rw [(hD.gm.fN hF).1, bOne_nat (by omega)]
        refine fun _ => ⟨⟨by omega, by omega⟩, fun z => absurd z (by omega), fun _ => ⟨⟨by omega, by omega⟩, fun c => try1 (fun z => by omega), fun c => ?_⟩⟩
        obtain ⟨B, hB⟩ : ∃ B : Nat, best = (B : Int) := ⟨best.toNat, by omega⟩
        subst hB
        have p1 : pop k ≤ 17 := popN_le 17 k
        have p2 : pop B ≤ 17 := popN_le 17 B
        refine c_manyOf (by omega) (c_manyOf (by omega) ⟨⟨by omega, by omega⟩, ⟨by omega, by omega⟩, fun c2 => try1 (fun z => by rw [Int.toNat_natCast] at z; omega), fun c2 => ?_⟩)
        rw [if_pos ⟨c, by rw [Int.toNat_natCast]; omega⟩] at HH
        exact ih (k + 1) _ M3 (by omega) ⟨by omega, by omega⟩ hF HH
    exact loop (2 ^ n) 0 (-2) _ (Nat.zero_add _) ⟨by decide, by decide⟩ hF0 H
  · rw [if_neg z] at H
    exact H _ hF0
end EASE
