/-! feed and count on both sides -/
theorem bAnd_255 (x : Int) : 0 ≤ bAnd x 255 ∧ bAnd x 255 < 256 := by
  unfold bAnd
  have h1 : (Int32.ofInt x &&& Int32.ofInt 255).toBitVec.toNat ≤ 255 := by
    rw [Int32.toBitVec_and, BitVec.toNat_and]
    exact Nat.and_le_right
  have h2 : (Int32.ofInt x &&& Int32.ofInt 255).toInt = ((Int32.ofInt x &&& Int32.ofInt 255).toBitVec.toNat : Int) := by
    show BitVec.toInt _ = _
    rw [BitVec.toInt_eq_toNat_of_lt (by omega)]
  omega
def fdB (x : Int) (q : Nat) : Int := bAnd (bShr x (24 - 8 * (q : Int))) 255
theorem fdB_r (x : Int) (q : Nat) : 0 ≤ fdB x q ∧ fdB x q < 256 := bAnd_255 _
def fdW (a b c d e : Int) (k : Nat) : Int := if k < 4 then a else if k < 8 then b else if k < 12 then c else if k < 16 then d else e
def fdD (a b c d e : Int) (k : Nat) : Int := fdB (fdW a b c d e k) (k % 4)
def fdZ (z : ZT) (a b c d e : Int) : ZT := (fun i => if i < z.2.1 then z.1 i else (fdD a b c d e (i - z.2.1)).toNat, z.2.1 + 20, z.2.2)
section FEED
variable {E : Scr}
/-- the tape in the class: its bytes, its length, nothing else -/
def FrTp (M M' : Mem) : Prop := (∀ a, a ≠ 2 → a ≠ 3 → M' a = M a) ∧ ∀ k, k ≠ 2 → M' 2 k = M 2 k
theorem FrTp.tr {M M1 M2 : Mem} (h1 : FrTp M M1) (h2 : FrTp M1 M2) : FrTp M M2 := ⟨fun a a1 a2 => (h2.1 a a1 a2).trans (h1.1 a a1 a2), fun k k1 => (h2.2 k k1).trans (h1.2 k k1)⟩
theorem c_addT {f : Mem → Prop} {M0 : Mem} {x : Int} {sz : Nat} (h22 : M0 2 2 = (sz : Int)) (hsz : sz + 4 ≤ 700) (H : ∀ M', FrTp M0 M' → M' 2 2 = ((sz + 4 : Nat) : Int) → (∀ i, ¬ (sz ≤ i ∧ i < sz + 4) → M' 3 i = M0 3 i) → (∀ q, q < 4 → M' 3 (sz + q) = fdB x q) → f M') : CV E mX8_add [pR 2, pI x] M0 f := by
  apply vX8_add_0
  have key : ∀ (j q : Nat) (M : Mem), q + j = 4 → FrTp M0 M → M 2 2 = ((sz + q : Nat) : Int) → (∀ i, ¬ (sz ≤ i ∧ i < sz + q) → M 3 i = M0 3 i) → (∀ p, p < q → M 3 (sz + p) = fdB x p) → KW E mX8_add (qV f) M 3 [(0, pR 2), (1, pI x), (2, pI (24 - 8 * (q : Int)))] [] := by
    intro j
    induction j with
    | zero =>
      intro q M hq hF h2 h3 h4
      have : q = 4 := by omega
      subst this
      apply vX8_add_3
      exact ⟨⟨by omega, by omega⟩, fun _ => H M hF h2 h3 h4, fun c => absurd c (by omega)⟩
    | succ j ih =>
      intro q M hq hF h2 h3 h4
      apply vX8_add_3
      rw [h2, Int.toNat_natCast]
      refine ⟨⟨by omega, by omega⟩, fun c => absurd c (by omega), fun _ _ => ⟨fun c => absurd c (by omega), fun _ _ => ⟨⟨by omega, by omega⟩, fun _ => ⟨⟨by omega, by omega⟩, ?_⟩⟩⟩⟩
      rw [show (24 - 8 * (q : Int) + -8) = 24 - 8 * ((q + 1 : Nat) : Int) by omega]
      refine ih (q + 1) _ (by omega) (hF.tr ⟨fun a a1 a2 => by rw [upM_ne _ _ _ a1, upM_ne _ _ _ a2], fun k k1 => by rw [upM_self, va_up_neq _ _ k1, upM_ne _ _ _ (by decide)]⟩) ?_ (fun i hi => ?_) (fun p hp => ?_)
      · rw [upM_self, va_up_self]; omega
      · rw [upM_ne _ _ _ (by decide), upM_self, va_up_neq _ _ (by omega)]; exact h3 i (by omega)
      · rw [upM_ne _ _ _ (by decide), upM_self]
        by_cases e : p = q
        · subst e; rw [va_up_self]; rfl
        · rw [va_up_neq _ _ (by omega)]; exact h4 p (by omega)
  exact key 4 0 M0 (by omega) ⟨fun _ _ _ => rfl, fun _ _ => rfl⟩ h22 (fun _ _ => rfl) (fun p hp => absurd hp (Nat.not_lt_zero _))
theorem c_feedC {f : Int → Mem → Prop} {M : Mem} {a b c d e : Int} {sz : Nat} (h22 : M 2 2 = (sz : Int)) (hsz : sz ≤ 700) (H0 : 680 < sz → f (-1) M) (H : sz ≤ 680 → ∀ M', FrTp M M' → M' 2 2 = ((sz + 20 : Nat) : Int) → (∀ i, i < sz → M' 3 i = M 3 i) → (∀ k, k < 20 → M' 3 (sz + k) = fdD a b c d e k) → f ((sz + 20 : Nat) : Int) M') : CI E mX10_feed [pR 0, pI a, pI b, pI c, pI d, pI e] M f := by
  apply vX10_feed_0
  rw [h22]
  refine fun _ => ⟨⟨by omega, by omega⟩, fun hc => ?_, fun hc => H0 (by omega)⟩
  refine c_addT h22 (by omega) (fun M1 f1 g1 k1 b1 => c_addT g1 (by omega) (fun M2 f2 g2 k2 b2 => c_addT g2 (by omega) (fun M3 f3 g3 k3 b3 => c_addT g3 (by omega) (fun M4 f4 g4 k4 b4 => c_addT g4 (by omega) (fun M5 f5 g5 k5 b5 => ?_)))))
  rw [g5]
  refine fun _ => H (by omega) M5 (((((f1.tr f2).tr f3).tr f4)).tr f5) g5 (fun i hi => ?_) (fun k hk => ?_)
  · rw [k5 i (by omega), k4 i (by omega), k3 i (by omega), k2 i (by omega), k1 i (by omega)]
  · unfold fdD fdW
    by_cases c1 : k < 4
    · rw [if_pos c1, k5 _ (by omega), k4 _ (by omega), k3 _ (by omega), k2 _ (by omega), b1 k c1, Nat.mod_eq_of_lt c1]
    · rw [if_neg c1]
      by_cases c2 : k < 8
      · rw [if_pos c2, k5 _ (by omega), k4 _ (by omega), k3 _ (by omega), show sz + k = sz + 4 + (k - 4) by omega, b2 (k - 4) (by omega), show k % 4 = k - 4 by omega]
      · rw [if_neg c2]
        by_cases c3 : k < 12
        · rw [if_pos c3, k5 _ (by omega), k4 _ (by omega), show sz + k = sz + 4 + 4 + (k - 8) by omega, b3 (k - 8) (by omega), show k % 4 = k - 8 by omega]
        · rw [if_neg c3]
          by_cases c4 : k < 16
          · rw [if_pos c4, k5 _ (by omega), show sz + k = sz + 4 + 4 + 4 + (k - 12) by omega, b4 (k - 12) (by omega), show k % 4 = k - 12 by omega]
          · rw [if_neg c4, show sz + k = sz + 4 + 4 + 4 + 4 + (k - 16) by omega, b5 (k - 16) (by omega), show k % 4 = k - 16 by omega]
theorem c_feedM {f : Int → Mem → Prop} {M0 : Mem} {a b c d e : Int} {sz : Nat} (h1 : M0 98 1 = (sz : Int)) (hsz : sz ≤ 700) (H0 : 680 < sz → f (-1) (upM M0 98 2 0)) (H : sz ≤ 680 → ∀ M', (∀ q, q ≠ 98 → q ≠ 99 → M' q = M0 q) → (∀ k, k ≠ 1 → k ≠ 2 → M' 98 k = M0 98 k) → M' 98 1 = ((sz + 20 : Nat) : Int) → (∀ i, i < sz → M' 99 i = M0 99 i) → (∀ k, k < 20 → M' 99 (sz + k) = fdD a b c d e k) → f ((sz + 20 : Nat) : Int) M') : CI E mX11_feed [pR 98, pI a, pI b, pI c, pI d, pI e] M0 f := by
  apply vX11_feed_0
  rw [h1]
  refine fun _ => ⟨⟨by omega, by omega⟩, fun hc => ?_, fun hc => H0 (by omega)⟩
  have key : ∀ (j k : Nat) (M : Mem), k + j = 20 → (∀ q, q ≠ 98 → q ≠ 99 → M q = M0 q) → (∀ k, k ≠ 1 → k ≠ 2 → M 98 k = M0 98 k) → M 98 1 = (sz : Int) → (∀ i, i < sz → M 99 i = M0 99 i) → (∀ i, i < k → M 99 (sz + i) = fdD a b c d e i) → KW E mX11_feed (qI f) M 23 [(0, pR 98), (1, pI a), (2, pI b), (3, pI c), (4, pI d), (5, pI e), (6, pI (k : Int))] [] := by
    intro j
    induction j with
    | zero =>
      intro k M hk m1 m2 m3 m4 m5
      have : k = 20 := by omega
      subst this
      apply vX11_feed_23
      rw [m3]
      refine ⟨⟨by omega, by omega⟩, fun _ _ => ⟨⟨by omega, by omega⟩, fun _ => ?_⟩, fun q => absurd q (by omega)⟩
      rw [show (sz : Int) + 20 = ((sz + 20 : Nat) : Int) by omega]
      refine H (by omega) _ (fun q q1 q2 => by rw [upM_ne _ _ _ q1]; exact m1 q q1 q2) (fun k k1 k2 => by rw [upM_self, va_up_neq _ _ k1]; exact m2 k k1 k2) (by rw [upM_self, va_up_self]) (fun i hi => by rw [upM_ne _ _ _ (by decide)]; exact m4 i hi) (fun i hi => by rw [upM_ne _ _ _ (by decide)]; exact m5 i hi)
    | succ j ih =>
      intro k M hk m1 m2 m3 m4 m5
      have fin : ∀ s0 : Int, s0 = fdW a b c d e k → KW E mX11_feed (qI f) M 76 [(0, pR 98), (1, pI a), (2, pI b), (3, pI c), (4, pI d), (5, pI e), (6, pI (k : Int))] [pI s0] := by
        intro s0 hs
        apply vX11_feed_76
        have ht : Int.tmod (k : Int) 4 = ((k % 4 : Nat) : Int) := by rw [Int.tmod_eq_emod_of_nonneg (by omega)]; omega
        rw [m3, ht, show ((sz : Int) + (k : Int)).toNat = sz + k by omega, show (k : Int) + 1 = ((k + 1 : Nat) : Int) by omega]
        refine fun _ => ⟨⟨by omega, by omega⟩, ⟨by omega, by omega⟩, ih (k + 1) _ (by omega) (fun q q1 q2 => by rw [upM_ne _ _ _ q2]; exact m1 q q1 q2) (fun k k1 k2 => by rw [upM_ne _ _ _ (by decide)]; exact m2 k k1 k2) (by rw [upM_ne _ _ _ (by decide)]; exact m3) (fun i hi => by rw [upM_self, va_up_neq _ _ (by omega)]; exact m4 i hi) (fun i hi => ?_)⟩
        rw [upM_self]
        by_cases e9 : i = k
        · subst e9; rw [va_up_self, hs]; rfl
        · rw [va_up_neq _ _ (by omega)]; exact m5 i (by omega)
      apply vX11_feed_23
      refine ⟨⟨by omega, by omega⟩, fun q => absurd q (by omega), fun _ => ⟨⟨by omega, by omega⟩, fun q1 => ⟨⟨by omega, by omega⟩, fun q2 => ⟨⟨by omega, by omega⟩, fun q3 => ⟨⟨by omega, by omega⟩, fun q4 => fin _ ?_, fun q4 => fin _ ?_⟩, fun q3 => fin _ ?_⟩, fun q2 => fin _ ?_⟩, fun q1 => fin _ ?_⟩⟩
      · unfold fdW; rw [if_neg (by omega), if_neg (by omega), if_neg (by omega), if_neg (by omega)]
      · unfold fdW; rw [if_neg (by omega), if_neg (by omega), if_neg (by omega), if_pos (by omega)]
      · unfold fdW; rw [if_neg (by omega), if_neg (by omega), if_pos (by omega)]
      · unfold fdW; rw [if_neg (by omega), if_pos (by omega)]
      · unfold fdW; rw [if_pos (by omega)]
  exact key 20 0 _ (by omega) (fun q q1 q2 => upM_ne _ _ _ q1) (fun k k1 k2 => by rw [upM_self, va_up_neq _ _ k2]) (by rw [upM_self, va_up_neq _ _ (by decide)]; exact h1) (fun i hi => by rw [upM_ne _ _ _ (by decide)]) (fun i hi => absurd hi (Nat.not_lt_zero _))
variable {z : ZT} {s : PSt} {y : YS} {no : NS}
theorem b_feed {M : Mem} {P : Mem → Prop} {a b c d e : Int} (h : Inv z s y no M) (H : ∀ z' M', Inv z' s y no M' → P M') : Bo E mX10_feed mX11_feed [pI a, pI b, pI c, pI d, pI e] M P := by
  obtain ⟨⟨t1, t2, t3⟩, tr⟩ := id h.2.1.1
  obtain ⟨⟨u1, u2, u3⟩, ur⟩ := id h.2.2.1
  obtain ⟨hz1, hz2⟩ := h.1.1
  refine c_feedC t1 hz1 (fun c1 => ?_) (fun c1 M1 f1 g1 k1 b1 => ?_)
  · exact c_feedM u1 hz1 (fun _ => ⟨rfl, H _ _ h.u2⟩) (fun c2 => absurd c2 (by omega))
  · have hr : Rf z s y no M1 := Inv.cls h.2.2 (fun q hq => f1.1 q (by omega) (by omega))
    refine c_feedM hr.1.1.1 hz1 (fun c2 => absurd c1 (by omega)) (fun _ M2 m1 m2 m3 m4 m5 => ⟨rfl, H (fdZ z a b c d e) M2 ⟨⟨⟨?_, fun i hi => ?_⟩, h.1.2⟩, ⟨⟨⟨?_, fun i hi => ?_, fun w hw => ?_⟩, ?_⟩, ?_, ?_⟩, ⟨⟨?_, fun i hi => ?_, fun i hi => ?_⟩, ?_⟩, ?_, ?_⟩⟩)
    · show z.2.1 + 20 ≤ 700; omega
    · show (if i < z.2.1 then z.1 i else (fdD a b c d e (i - z.2.1)).toNat) < 256
      by_cases c2 : i < z.2.1
      · rw [if_pos c2]; exact hz2 i c2
      · rw [if_neg c2]; have := fdB_r (fdW a b c d e (i - z.2.1)) ((i - z.2.1) % 4); unfold fdD; omega
    · rw [m1 2 (by decide) (by decide)]; exact g1
    · rw [m1 3 (by decide) (by decide)]
      show M1 3 i = ((if i < z.2.1 then z.1 i else (fdD a b c d e (i - z.2.1)).toNat : Nat) : Int)
      by_cases c2 : i < z.2.1
      · rw [if_pos c2, k1 i c2]; exact t2 i c2
      · have h20 : i < z.2.1 + 20 := hi
        have := b1 (i - z.2.1) (by omega)
        rw [show z.2.1 + (i - z.2.1) = i by omega] at this
        have h9 := fdB_r (fdW a b c d e (i - z.2.1)) ((i - z.2.1) % 4)
        rw [if_neg c2, this]; unfold fdD; omega
    · rw [m1 4 (by decide) (by decide), f1.1 4 (by decide) (by decide)]; exact t3 w hw
    · have hh : ∀ q, q ≠ 2 → q ≠ 3 → q < 98 → M2 q = M q := fun q q1 q2 q3 => by rw [m1 q (by omega) (by omega), f1.1 q q1 q2]
      unfold CD PC LwC at tr ⊢
      rw [hh 1 (by decide) (by decide) (by decide), hh 21 (by decide) (by decide) (by decide), hh 22 (by decide) (by decide) (by decide), hh 26 (by decide) (by decide) (by decide), hh 27 (by decide) (by decide) (by decide), hh 28 (by decide) (by decide) (by decide), hh 29 (by decide) (by decide) (by decide), hh 30 (by decide) (by decide) (by decide), hh 31 (by decide) (by decide) (by decide), hh 32 (by decide) (by decide) (by decide), hh 33 (by decide) (by decide) (by decide)]
      exact tr
    · exact h.2.1.2.1.of (fun q hq => by rw [m1 q (by omega) (by omega), f1.1 q (by omega) (by omega)])
    · exact h.2.1.2.2.of (fun q q1 q2 => by rw [m1 q (by omega) (by omega), f1.1 q (by omega) (by omega)])
    · exact m3
    · show M2 99 i = ((if i < z.2.1 then z.1 i else (fdD a b c d e (i - z.2.1)).toNat : Nat) : Int)
      by_cases c2 : i < z.2.1
      · rw [if_pos c2, m4 i c2]; exact hr.1.1.2.1 i c2
      · have h20 : i < z.2.1 + 20 := hi
        have := m5 (i - z.2.1) (by omega)
        rw [show z.2.1 + (i - z.2.1) = i by omega] at this
        have h9 := fdB_r (fdW a b c d e (i - z.2.1)) ((i - z.2.1) % 4)
        rw [if_neg c2, this]; unfold fdD; omega
    · rw [m1 100 (by decide) (by decide)]; exact hr.1.1.2.2 i hi
    · have hu := hr.1.2
      unfold MD PM LwM at hu ⊢
      rw [m1 102 (by decide) (by decide), m1 103 (by decide) (by decide), m1 105 (by decide) (by decide), m1 107 (by decide) (by decide), m1 108 (by decide) (by decide), m1 109 (by decide) (by decide), m1 113 (by decide) (by decide), m1 114 (by decide) (by decide), m1 115 (by decide) (by decide), m1 116 (by decide) (by decide), m1 117 (by decide) (by decide), m1 118 (by decide) (by decide), m1 123 (by decide) (by decide), m2 4 (by decide) (by decide), m2 5 (by decide) (by decide), m2 12 (by decide) (by decide), m2 13 (by decide) (by decide), m2 14 (by decide) (by decide), m2 15 (by decide) (by decide)]
      exact hu
    · exact hr.2.1.ofK (fun q hq => m1 q (by omega) (by omega)) (fun k hk => m2 k (by omega) (by omega))
    · exact hr.2.2.of (m1 140 (by decide) (by decide)) (m2 76 (by decide) (by decide)) (m2 77 (by decide) (by decide))
def cntY (s : PSt) (y : YS) (no : NS) (x : Int) : Int :=
  if x = 0 then (sN s : Int) else if x = 1 then ((sLf s).length : Int) else if x = 2 then ((sPu s).length : Int) else if x = 3 then (sC s : Int) else if x = 4 then dMi y.1 else if x = 5 then ((pop (dRo y.1) : Nat) : Int) else if x = 6 then ((pop (dSe y.1) : Nat) : Int) else if x = 7 then dEf y.1 else if x = 8 then dVa y.1 else if x = 9 then sumW (dWo y.1) 8 else if x = 10 then (nSz no : Int) else if x = 11 then (nCt no : Int) else if x = 12 then (y.2.1.1 : Int) else -1
theorem cntY_out {x : Int} (h : x < 0 ∨ 12 < x) : cntY s y no x = -1 := by
  unfold cntY
  rw [if_neg (by omega), if_neg (by omega), if_neg (by omega), if_neg (by omega), if_neg (by omega), if_neg (by omega), if_neg (by omega), if_neg (by omega), if_neg (by omega), if_neg (by omega), if_neg (by omega), if_neg (by omega), if_neg (by omega)]
theorem c_cnt83 {f : Int → Mem → Prop} {M : Mem} {n ln : Nat} (hn8 : n ≤ 8) (hn : M 98 12 = (n : Int)) (h105 : ∀ l, l < n → if ln.testBit l = true then 0 ≤ M 105 l else M 105 l = -1) (H : f (cbN ln n : Int) M) : ∀ (j k : Nat), k + j = n → KW E mX11_count (qI f) M 83 [(0, pR 98), (2, pI (cbN ln k : Int)), (3, pI (k : Int))] [] := by
  intro j
  induction j with
  | zero =>
    intro k hk
    have : k = n := by omega
    subst this
    apply vX11_count_83
    rw [hn]
    exact fun _ => ⟨⟨by omega, by omega⟩, fun _ => H, fun c => absurd c (by omega)⟩
  | succ j ih =>
    intro k hk
    apply vX11_count_83
    have h9 := h105 k (by omega)
    rw [hn, Int.toNat_natCast, show (k : Int) + 1 = ((k + 1 : Nat) : Int) by omega]
    refine fun _ => ⟨⟨by omega, by omega⟩, fun c => absurd c (by omega), fun _ => ⟨⟨by omega, by omega⟩, fun _ => ⟨fun c => ?_, fun c => ?_⟩⟩⟩
    · have e : cbN ln (k + 1) = cbN ln k := by
        show cbN ln k + (if ln.testBit k = true then 1 else 0) = cbN ln k
        by_cases b : ln.testBit k = true
        · rw [if_pos b] at h9; exact absurd c (by omega)
        · rw [if_neg b]; rfl
      have := ih (k + 1) (by omega)
      rw [e] at this
      rw [Int.add_zero]; exact this
    · have e : cbN ln (k + 1) = cbN ln k + 1 := by
        show cbN ln k + (if ln.testBit k = true then 1 else 0) = cbN ln k + 1
        by_cases b : ln.testBit k = true
        · rw [if_pos b]
        · rw [if_neg b] at h9; exact absurd c (by omega)
      have := ih (k + 1) (by omega)
      rw [e] at this
      exact this
theorem b_count {M : Mem} {P : Mem → Prop} {x : Int} (hx : iR x) (h : Inv z s y no M) (H : ∀ M', Inv z s y no M' → P M') : Bo E mX10_count mX11_count [pI x] M P := by
  obtain ⟨L, hI⟩ := h.1.2.1
  have hn : sN s ≤ 8 := hI.2.1.1
  have hpw : 2 ^ sN s ≤ 256 := pw8' hn
  have hd := h.1.hw.1.1
  refine bo_obs (r := cntY s y no x) h H (fun f F => ?_) (fun M1 f R F => ?_)
  · have F0 := F M (KpC.rf M)
    obtain ⟨⟨-, -, -⟩, -, cd, pc, -, -, c7, c8⟩ := id h.2.1.1
    obtain ⟨v0, v1, v2, v3, v4, v5, v6⟩ := h.hYC.1
    apply vX10_count_0
    refine ⟨hx, fun e _ => ?_, fun e _ => ?_, fun e _ => ?_, fun e _ => ?_, fun e _ => ?_, fun e _ => ?_, fun e _ => ?_, fun e _ => ?_, fun e _ => ?_, fun e => ?_, fun e _ => ?_, fun e => ?_, fun e _ => ?_, fun e => ?_⟩
    · subst e; rw [cd.1]; exact F0
    · subst e; rw [c7]; exact F0
    · subst e; rw [pc.1]; exact F0
    · subst e; rw [c8]; exact F0
    · subst e; rw [v0]; exact F0
    · subst e; rw [v1]; exact c_bitCount (by have := hd.1; omega) F0
    · subst e; rw [v2]; exact c_bitCount (by have := hd.2.1; omega) F0
    · subst e; rw [v3]; exact F0
    · subst e; rw [v4]; exact F0
    · subst e; exact c_wornInAll h.hYC.1 F0
    · subst e; rw [h.hNC.1]; exact F0
    · subst e; exact c_counted h.1.hn h.hNC F0
    · subst e; rw [h.hYC.2.1.2.choose_spec.2.2.1]; exact F0
    · rw [cntY_out e] at F0; exact F0
  · have F0 := F _ (KpR.u2 R)
    have R2 := (KpR.u2 R).1
    have k2 : ∀ k, k ≠ 2 → upM M1 98 2 0 98 k = M1 98 k := fun k hk => by rw [upM_self, va_up_neq _ _ hk]
    obtain ⟨v0, v1, v2, v3, v4, v5, v6⟩ := R.hYM.1
    apply vX11_count_0
    refine ⟨hx, fun e _ => ?_, fun e => ?_, fun e _ => ?_, fun e _ => ?_, fun e _ => ?_, fun e _ => ?_, fun e _ => ?_, fun e _ => ?_, fun e _ => ?_, fun e => ?_, fun e _ => ?_, fun e => ?_, fun e _ => ?_, fun e => ?_⟩
    · subst e; rw [R.hMD.1]; exact F0
    · subst e
      refine c_cnt83 (n := sN s) (ln := sLn s) hn R2.hMD.1 R2.1.2.2.2.2.2.1 ?_ (sN s) 0 (by omega)
      rw [← hI.2.2.1.2.2.2]; exact F0
    · subst e; rw [R.hPM.1]; exact F0
    · subst e; rw [R.1.2.2.2.2.2.2]; exact F0
    · subst e; rw [v0]; exact F0
    · subst e; rw [v1]; exact c_manyOf (by have := hd.1; omega) F0
    · subst e; rw [v2]; exact c_manyOf (by have := hd.2.1; omega) F0
    · subst e; rw [v3]; exact F0
    · subst e; rw [v4]; exact F0
    · subst e
      refine c_worn169 (n := sN s) (d := y.1) hn R2.hMD.1 R2.hYM.1 ?_ (sN s) 0 (by omega)
      rw [wornX hn h.1.hw.1]; exact F0
    · subst e; rw [R.hNM.1]; exact F0
    · subst e; exact c_knownBy h.1.hn R2.hNM F0
    · subst e; rw [R.hYM.2.1.2.1]; exact F0
    · rw [cntY_out e] at F0; exact F0
end FEED
