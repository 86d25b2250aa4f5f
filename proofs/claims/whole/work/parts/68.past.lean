/-! past on both sides -/
def cutP (nt : Nat → BS) (b : BS) (t k : Nat) : Bool := decide (1 ≤ bF b k ∧ bF b k < bF b t ∧ bF (nt k) t = -1)
def pstF (nt : Nat → BS) (b : BS) (t : Nat) : Nat → (Nat → Int)
  | 0 => fun _ => -1
  | N + 1 => if cutP nt b t N = true then upN (pstF nt b t N) (bF b N).toNat (N : Int) else pstF nt b t N
def scF (g : Nat → Int) (x : Int) : Nat → Nat → Int → Int
  | 0, _, _ => -2
  | j + 1, k, m => if 0 ≤ g k then (if m = x then g k else scF g x j (k + 1) (m + 1)) else scF g x j (k + 1) m
def nevB (n : Nat) (may : Nat → Nat) (d : DS) (k : Nat) : BS := bfs (k : Int) (canG may (dSe d) 0) n (dRo d)
def pasY (n : Nat) (may : Nat → Nat) (x k : Int) (d : DS) : Int := if 0 ≤ x ∧ x < ((2 ^ n : Nat) : Int) ∧ 0 ≤ k ∧ x ≠ (dRo d : Int) then (if bF (nowB n may d) x.toNat = -1 then -1 else scF (pstF (nevB n may d) (nowB n may d) x.toNat 256) k 256 0 0) else -1
theorem pst_at {nt : Nat → BS} {b : BS} {t : Nat} : ∀ (N d : Nat), (pstF nt b t N d = -1 ∧ ∀ k, k < N → cutP nt b t k = true → bF b k ≠ (d : Int)) ∨ ∃ k, k < N ∧ cutP nt b t k = true ∧ bF b k = (d : Int) ∧ pstF nt b t N d = (k : Int) := by
  intro N
  induction N with
  | zero => intro d; exact Or.inl ⟨rfl, fun k hk => absurd hk (by omega)⟩
  | succ N ih =>
    intro d
    simp only [pstF]
    by_cases c : cutP nt b t N = true
    · rw [if_pos c]
      have c1 := (of_decide_eq_true c).1
      by_cases e : d = (bF b N).toNat
      · rw [e, upN_self]
        exact Or.inr ⟨N, by omega, c, by omega, rfl⟩
      · rw [upN_ne _ _ e]
        rcases ih d with ⟨z1, z2⟩ | ⟨k, k1, k2, k3, k4⟩
        · refine Or.inl ⟨z1, fun k hk hc => ?_⟩
          by_cases e2 : k = N
          · rw [e2]; omega
          · exact z2 k (by omega) hc
        · exact Or.inr ⟨k, by omega, k2, k3, k4⟩
    · rw [if_neg c]
      rcases ih d with ⟨z1, z2⟩ | ⟨k, k1, k2, k3, k4⟩
      · refine Or.inl ⟨z1, fun k hk hc => ?_⟩
        by_cases e2 : k = N
        · rw [e2] at hc; exact absurd hc c
        · exact z2 k (by omega) hc
      · exact Or.inr ⟨k, by omega, k2, k3, k4⟩
theorem scF_none {g : Nat → Int} {x : Int} : ∀ (j k : Nat) (m : Int), (∀ q, k ≤ q → q < k + j → g q < 0) → scF g x j k m = -2 := by
  intro j
  induction j with
  | zero => intro k m _; rfl
  | succ j ih =>
    intro k m h
    simp only [scF]
    have := h k (by omega) (by omega)
    rw [if_neg (by omega)]
    exact ih (k + 1) m (fun q a1 a2 => h q (by omega) (by omega))
/-- rows one behind another, each nearer by one -/
def Pth (can : Nat → Nat) (n : Nat) (b : BS) (t i m : Nat) (P : Nat → Nat) : Prop := P m = t ∧ (∀ d, i < d → d ≤ m → bF b (P d) = (d : Int)) ∧ ∀ d, i < d → d < m → ∃ l, l < n ∧ (can (P d)).testBit l = true ∧ P (d + 1) = P d ^^^ 2 ^ l
section PASTP
variable {n : Nat} {can : Nat → Nat} {s : Nat}
theorem pth_wk (hn : n ≤ 8) (hs : s < 2 ^ n) {t m k : Nat} {P : Nat → Nat} (hP : Pth can n (bfs (-1) can n s) t 0 m P) (hk : ∀ d, 0 < d → d ≤ m → P d ≠ k) : ∀ d, 0 < d → d ≤ m → Wk (k : Int) can n s d (P d) := by
  intro d
  induction d with
  | zero => intro h; omega
  | succ d ih =>
    intro _ hd
    by_cases h0 : d = 0
    · subst h0
      have h1 := hP.2.1 1 (by omega) hd
      have h2 := far_wk (nev := -1) (can := can) hn hs 1 (P 1) h1
      obtain ⟨p, q, q1, q2, q3, q4, q5⟩ := h2
      have q2' : p = s := q2
      subst q2'
      exact ⟨p, q, q1, rfl, q3, q4, fun z => hk 1 (by omega) hd (Int.ofNat.inj z)⟩
    · obtain ⟨l, l1, l2, l3⟩ := hP.2.2 d (by omega) (by omega)
      exact ⟨P d, l, l1, ih (by omega) (by omega), l2, l3, fun z => hk (d + 1) (by omega) hd (by omega)⟩
theorem pth_cut (hn : n ≤ 8) (hs : s < 2 ^ n) {t m k d : Nat} {P : Nat → Nat} (hP : Pth can n (bfs (-1) can n s) t 0 m P) (hm : 0 < m) (hkd : bF (bfs (-1) can n s) k = (d : Int)) (hd : 0 < d ∧ d < m) (hc : bF (bfs (k : Int) can n s) t = -1) : k = P d := by
  by_cases e : k = P d
  · exact e
  · have h := pth_wk hn hs (k := k) hP (fun d2 a1 a2 z => by
      have := hP.2.1 d2 a1 a2
      rw [z, hkd] at this
      have e2 : d2 = d := by omega
      rw [e2] at z
      exact e z.symm) m hm (Nat.le_refl _)
    rw [hP.1] at h
    exact absurd hc (wk_far hn hs _ _ h).1
end PASTP
section PAST
variable {E : Scr} {law : Lw} {may : Nat → Nat} {rust : Int} {n : Nat} {y : YS}
theorem c_oneBefore {f : Int → Mem → Prop} {M : Mem} {can mv : Nat → Nat} {s r : Nat} (hn : n ≤ 8) (hs : s < 2 ^ n) (hr : r < 2 ^ n) (hcan : ∀ r q, (mv r).testBit q = (can r).testBit q) (hG : GC n mv (-1) 0 0 M) (hB : BC (bfs (-1) can n s) M) (hpos : 0 < bF (bfs (-1) can n s) r) (H : ∀ p l : Nat, p < 2 ^ n → l < n → (can p).testBit l = true → r = p ^^^ 2 ^ l → bF (bfs (-1) can n s) p = bF (bfs (-1) can n s) r - 1 → f (p : Int) M) : CI E mX4_oneBefore [pR 86, pI (r : Int)] M f := by
  have hp := pw8 hn
  have hb : BI n (bfs (-1) can n s) := BI.fs hs
  obtain ⟨p0, q0, q1, q2, q3, q4, q5, q6⟩ : ∃ p q, q < n ∧ bF (bfs (-1) can n s) p ≠ -1 ∧ (can p).testBit q = true ∧ r = p ^^^ 2 ^ q ∧ (r : Int) ≠ -1 ∧ bF (bfs (-1) can n s) r = bF (bfs (-1) can n s) p + 1 := by
    rcases (BT.fs (nev := -1) (can := can) hn hs).2.2.2.1 r (by omega) with z | z
    · have := z.2; omega
    · exact z
  have loop : ∀ (j l : Nat), l + j = n → l ≤ q0 → KW E mX4_oneBefore (qI f) M 2 [(0, pR 86), (1, pI (r : Int)), (2, pI (l : Int))] [] := by
    intro j
    induction j with
    | zero => intro l h1 h2; omega
    | succ j ih =>
      intro l h1 h2
      have hx := xor_lt (l := l) hr (by omega)
      apply vX4_oneBefore_2
      rw [hG.1, bOne_nat (by omega), bXor_nat (by omega) (pw31 (by omega))]
      refine fun _ => ⟨⟨by omega, by omega⟩, fun z => absurd z (by omega), fun _ => c_leadsOn hn hx (by omega) hb hG hB (fun c1 c2 c3 => ?_) (fun c => ?_)⟩
      · rw [xor_back] at c3
        exact ⟨⟨by decide, by decide⟩, fun z => absurd z (by decide), fun _ => H _ l hx (by omega) (by rw [← hcan]; exact c1) (by rw [xor_back]) (by omega)⟩
      · refine ⟨⟨by decide, by decide⟩, fun _ => ih (l + 1) (by omega) ?_, fun z => absurd rfl z⟩
        by_cases e : l = q0
        · exfalso
          apply c
          have e2 : r ^^^ 2 ^ l = p0 := by rw [e, q4, xor_back]
          rw [e2, hcan, e]
          refine ⟨q3, q2, ?_⟩
          rw [← q4]
          exact q6
        · omega
  exact vX4_oneBefore_0 _ (loop n 0 (by omega) (by omega))
theorem canG_nev {se r q : Nat} : (canG (mvF may se) 0 0 r).testBit q = (canG may se 0 r).testBit q := canG_mv
theorem c_narrow68 {f : Int → Mem → Prop} {P : Nat → Nat} {m t : Nat} {x : Int} (hn : n ≤ 8) (hw : wfY n y) (ht : t < 2 ^ n) (hm : 0 < m) (hmb : m ≤ 256) (hx : 0 ≤ x ∧ x < 2147483648) (hP : Pth (canG may (dSe y.1) 0) n (nowB n may y.1) t 0 m P) : ∀ (j i : Nat) (left : Int) (nev : Int) (M : Mem), i + j + 1 = m → 0 ≤ left ∧ left ≤ x → GC n (mvF may (dSe y.1)) nev 0 0 M → (∀ d, 0 < d → d < m → M 90 (d - 1) = (P d : Int)) → (∀ M', FrQ M M' → f (scF (pstF (nevB n may y.1) (nowB n may y.1) t 256) x (255 - i) (i + 1) (x - left)) M') → KW E mX4_narrow (qI f) M 73 [(0, pR 86), (1, pI (dRo y.1 : Int)), (2, pI (t : Int)), (4, pI ((m : Int) - 1)), (6, pI left), (7, pI (i : Int))] [] := by
  have hp := pw8 hn
  have h1 := hw.1.1.1
  have hb : BI n (nowB n may y.1) := BI.fs h1
  have hfm : bF (nowB n may y.1) t = (m : Int) := by have := hP.2.1 m hm (Nat.le_refl _); rw [hP.1] at this; exact this
  have hm2 : m < 2 ^ n + 1 := by have := hb.had (r := t) (by rw [hfm]; omega); have := hb.cnt; omega
  intro j
  induction j with
  | zero =>
    intro i left nev M hi hl hG hM H
    have e : scF (pstF (nevB n may y.1) (nowB n may y.1) t 256) x (255 - i) (i + 1) (x - left) = -2 := by
      refine scF_none _ _ _ (fun q a1 a2 => ?_)
      rcases pst_at (nt := nevB n may y.1) (b := nowB n may y.1) (t := t) 256 q with ⟨z, _⟩ | ⟨k, k1, k2, k3, k4⟩
      · rw [z]; decide
      · have := (of_decide_eq_true k2).2.1; omega
    rw [e] at H
    exact vX4_narrow_73 _ _ _ _ _ ⟨⟨by omega, by omega⟩, ⟨by omega, by omega⟩, fun _ => H M (FrQ.rf M), fun z => absurd z (by omega)⟩
  | succ j ih =>
    intro i left nev M hi hl hG hM H
    have hPi := hP.2.1 (i + 1) (by omega) (by omega)
    have hPl : P (i + 1) < 2 ^ n := (hb.had (r := P (i + 1)) (by rw [hPi]; omega)).1
    have hMi := hM (i + 1) (by omega) (by omega)
    rw [Nat.add_sub_cancel] at hMi
    rw [show 255 - i = (255 - (i + 1)) + 1 by omega] at H
    simp only [scF] at H
    apply vX4_narrow_73
    rw [Int.toNat_natCast, hMi]
    refine ⟨⟨by omega, by omega⟩, ⟨by omega, by omega⟩, fun z => absurd z (by omega), fun _ => ⟨⟨by omega, by omega⟩, fun _ => ?_⟩⟩
    refine c_bar (s2 := 0) (e2 := 0) ⟨by omega, by omega⟩ (by decide) (by decide) hG (fun M1 g1 g2 g3 => ?_)
    refine c_spread hn (by decide) (by decide) h1 g3 (fun M2 k1 k2 k3 => ?_)
    rw [bfs_ext (can2 := canG may (dSe y.1) 0) h1 (fun r _ q _ => canG_nev)] at k3
    have k3' : BC (nevB n may y.1 (P (i + 1))) M2 := k3
    have hF2 : FrQ M M2 := (show FrQ M M1 from fun a a1 => g1 a (by omega)).tr k1.toQ
    have hG2 := g3.fr k1
    have hM2 : ∀ d, 0 < d → d < m → M2 90 (d - 1) = (P d : Int) := fun d a1 a2 => by rw [k1.1 90 (by decide) (by decide) (by decide), g1 90 (by decide)]; exact hM d a1 a2
    refine c_isHad hn ht hG2.2.1 k3' (fun c => ?_) (fun c => ?_)
    · have e : ¬ 0 ≤ pstF (nevB n may y.1) (nowB n may y.1) t 256 (i + 1) := by
        rcases pst_at (nt := nevB n may y.1) (b := nowB n may y.1) (t := t) 256 (i + 1) with ⟨z, _⟩ | ⟨k, q1, q2, q3, q4⟩
        · rw [z]; decide
        · have q5 := (of_decide_eq_true q2).2.2
          have q6 : k = P (i + 1) := pth_cut hn h1 hP hm q3 ⟨by omega, by omega⟩ q5
          rw [q6] at q5
          exact absurd q5 c
      rw [if_neg e] at H
      exact ⟨⟨by decide, by decide⟩, fun _ => ih (i + 1) left _ M2 (by omega) hl hG2 hM2 (fun M' a1 => H M' (hF2.tr a1)), fun z => absurd z (by decide)⟩
    · have e : pstF (nevB n may y.1) (nowB n may y.1) t 256 (i + 1) = (P (i + 1) : Int) := by
        rcases pst_at (nt := nevB n may y.1) (b := nowB n may y.1) (t := t) 256 (i + 1) with ⟨_, z⟩ | ⟨k, q1, q2, q3, q4⟩
        · exact absurd hPi (z (P (i + 1)) (by omega) (decide_eq_true ⟨by omega, by omega, c⟩))
        · have q5 := (of_decide_eq_true q2).2.2
          have q6 : k = P (i + 1) := pth_cut hn h1 hP hm q3 ⟨by omega, by omega⟩ q5
          rw [q4, q6]
      rw [e, if_pos (by omega)] at H
      refine ⟨⟨by decide, by decide⟩, fun z => absurd rfl z, fun _ => ⟨⟨by omega, by omega⟩, fun c2 => ?_, fun c2 => ⟨⟨by omega, by omega⟩, fun _ => ?_⟩⟩⟩
      · rw [if_neg (by omega)] at H
        refine ih (i + 1) (left + -1) _ M2 (by omega) ⟨by omega, by omega⟩ hG2 hM2 (fun M' a1 => ?_)
        rw [show x - (left + -1) = x - left + 1 by omega]
        exact H M' (hF2.tr a1)
      · rw [if_pos (by omega)] at H
        have := hM2 (i + 1) (by omega) (by omega)
        rw [Nat.add_sub_cancel] at this
        rw [this]
        exact H M2 hF2
theorem c_narrow32 {f : Int → Mem → Prop} {m t : Nat} {x : Int} (hn : n ≤ 8) (hw : wfY n y) (ht : t < 2 ^ n) (hm : 0 < m) (hx : 0 ≤ x ∧ x < 2147483648) (hfm : bF (nowB n may y.1) t = (m : Int)) : ∀ (i : Nat) (P : Nat → Nat) (M : Mem), i + 1 ≤ m → Pth (canG may (dSe y.1) 0) n (nowB n may y.1) t i m P → P (i + 1) < 2 ^ n → GC n (mvF may (dSe y.1)) (-1) 0 0 M → BC (nowB n may y.1) M → (∀ d, i < d → d < m → M 90 (d - 1) = (P d : Int)) → (∀ M', FrQ M M' → f (scF (pstF (nevB n may y.1) (nowB n may y.1) t 256) x 256 0 0) M') → KW E mX4_narrow (qI f) M 37 [(0, pR 86), (1, pI (dRo y.1 : Int)), (2, pI (t : Int)), (3, pI x), (4, pI ((m : Int) - 1)), (5, pI (P (i + 1) : Int)), (6, pI (i : Int))] [] := by
  have hp := pw8 hn
  have h1 := hw.1.1.1
  have hb : BI n (nowB n may y.1) := BI.fs h1
  have hm2 : m < 2 ^ n + 1 := by have := hb.had (r := t) (by rw [hfm]; omega); have := hb.cnt; omega
  intro i
  induction i with
  | zero =>
    intro P M hi hP hl hG hB hM H
    refine vX4_narrow_37 _ _ _ _ _ _ ⟨⟨by decide, by decide⟩, fun _ => ?_, fun z => absurd z (by decide)⟩
    have e : scF (pstF (nevB n may y.1) (nowB n may y.1) t 256) x 256 0 0 = scF (pstF (nevB n may y.1) (nowB n may y.1) t 256) x 255 1 0 := by
      have : ¬ 0 ≤ pstF (nevB n may y.1) (nowB n may y.1) t 256 0 := by
        rcases pst_at (nt := nevB n may y.1) (b := nowB n may y.1) (t := t) 256 0 with ⟨z, _⟩ | ⟨k, q1, q2, q3, q4⟩
        · rw [z]; decide
        · have := (of_decide_eq_true q2).1; omega
      show (if 0 ≤ pstF (nevB n may y.1) (nowB n may y.1) t 256 0 then _ else scF (pstF (nevB n may y.1) (nowB n may y.1) t 256) x 255 1 0) = _
      rw [if_neg this]
    rw [e] at H
    refine c_narrow68 hn hw ht hm (by omega) hx hP (m - 1) 0 x (-1) M (by omega) ⟨by omega, by omega⟩ hG hM (fun M' a1 => ?_)
    rw [Int.sub_self]
    exact H M' a1
  | succ i ih =>
    intro P M hi hP hl hG hB hM H
    have hPi := hP.2.1 (i + 2) (by omega) (by omega)
    refine vX4_narrow_37 _ _ _ _ _ _ ⟨⟨by omega, by omega⟩, fun z => absurd z (by omega), fun _ => ?_⟩
    refine c_oneBefore (can := canG may (dSe y.1) 0) (s := dRo y.1) hn h1 hl (fun _ _ => canG_mv0) hG hB (by rw [show i + 1 + 1 = i + 2 by omega]; have : bF (bfs (-1) (canG may (dSe y.1) 0) n (dRo y.1)) (P (i + 2)) = ((i + 2 : Nat) : Int) := hPi; omega) (fun p l p1 p2 p3 p4 p5 => ?_)
    have p5' : bF (nowB n may y.1) p = bF (nowB n may y.1) (P (i + 2)) - 1 := p5
    rw [hPi] at p5'
    rw [show (((i + 1 : Nat) : Int) - 1).toNat = i by omega, show ((i + 1 : Nat) : Int) + (-1) = (i : Int) by omega]
    refine ⟨⟨by omega, by omega⟩, ⟨by omega, by omega⟩, ?_⟩
    have keep : ∀ a, a ≠ 90 → upM M 90 i (p : Int) a = M a := fun a a1 => upM_ne _ _ _ a1
    have eP : upN P (i + 1) p (i + 1) = p := upN_self _ _ _
    have := ih (upN P (i + 1) p) (upM M 90 i (p : Int)) (by omega) ⟨by rw [upN_ne _ _ (by omega)]; exact hP.1, fun d a1 a2 => ?_, fun d a1 a2 => ?_⟩ (by rw [eP]; exact p1) ?_ ?_ (fun d a1 a2 => ?_) (fun M' a1 => H M' ((show FrQ M (upM M 90 i (p : Int)) from fun a a2 => keep a (by omega)).tr a1))
    · rw [eP] at this
      exact this
    · by_cases e : d = i + 1
      · rw [e, eP, p5']; omega
      · rw [upN_ne _ _ e]; exact hP.2.1 d (by omega) a2
    · by_cases e : d = i + 1
      · rw [e, eP, upN_ne _ _ (by omega)]
        exact ⟨l, p2, p3, p4⟩
      · rw [upN_ne _ _ e, upN_ne _ _ (by omega)]; exact hP.2.2 d (by omega) a2
    · unfold GC at hG ⊢
      rw [keep 86 (by decide), keep 87 (by decide)]
      exact hG
    · unfold BC at hB ⊢
      rw [keep 86 (by decide), keep 88 (by decide), keep 89 (by decide)]
      exact hB
    · rw [upM_self]
      by_cases e : d = i + 1
      · rw [e, Nat.add_sub_cancel, va_up_self, eP]
      · rw [va_up_neq _ _ (by omega), upN_ne _ _ e]; exact hM d (by omega) a2
theorem c_pastC {f : Int → Mem → Prop} {M : Mem} {x k : Int} (hx : iR x) (hk : iR k) (hw : wfY n y) (hD : CD n may law rust M) (hy : YC y M) (H : ∀ M', FrQ M M' → f (pasY n may x k y.1) M') : CI E mX10_past [pR 0, pI x, pI k] M f := by
  have hn := hD.2.1
  have hp := pw8 hn
  have h1 := hw.1.1.1
  have h2 := hw.1.1.2.1
  unfold pasY at H
  refine vX10_past_0 _ _ (c_hasRow hx hD.1 hn (fun r er hr => ⟨⟨by decide, by decide⟩, fun z => absurd z (by decide), fun _ => ⟨hk, fun c => ?_, fun c => ?_⟩⟩) (fun z => ⟨⟨by decide, by decide⟩, fun _ => ?_, fun z => absurd rfl z⟩))
  · rw [if_neg (fun z => by omega)] at H
    exact H M (FrQ.rf M)
  · subst er
    rw [hy.1.2.1, hy.1.2.2.1]
    refine fun _ => ⟨⟨by omega, by omega⟩, fun c2 => fun _ => ?_, fun c2 => ?_⟩
    · rw [if_pos ⟨by omega, by omega, by omega, c2⟩, Int.toNat_natCast] at H
      refine c_layP (by omega) hD (fun M1 b1 b2 => ?_)
      rw [b1 36 (by decide), hy.1.2.1]
      refine fun _ => vX4_narrow_0 _ _ _ (c_spread hn (by decide) (by decide) h1 b2 (fun M2 d1 d2 d3 => ?_))
      rw [bfs_ext (can2 := canG may (dSe y.1) 0) h1 (fun r _ q _ => canG_mv)] at d3
      have d3' : BC (nowB n may y.1) M2 := d3
      have hG2 := b2.fr d1
      have hF2 := b1.tr d1.toQ
      have hb : BI n (nowB n may y.1) := BI.fs h1
      refine c_isHad hn hr hG2.2.1 d3' (fun c3 => ?_) (fun c3 => ⟨⟨by decide, by decide⟩, fun z => absurd rfl z, fun _ => ?_⟩)
      · rw [if_neg c3] at H
        have hh := hb.had c3
        have hc := hb.cnt
        have hpos : bF (nowB n may y.1) r ≠ 0 := fun z => by
          have : r = dRo y.1 := far_wk (nev := -1) (can := canG may (dSe y.1) 0) hn h1 0 r z
          exact c2 (by rw [this])
        obtain ⟨m, hm⟩ : ∃ m : Nat, bF (nowB n may y.1) r = (m : Int) := ⟨(bF (nowB n may y.1) r).toNat, by omega⟩
        refine ⟨⟨by decide, by decide⟩, fun _ => c_stepsTo hn hr hG2.2.1 d3' (fun _ => ⟨⟨by omega, by omega⟩, ?_⟩), fun z => absurd z (by decide)⟩
        rw [hm]
        obtain ⟨i, hi⟩ : ∃ i, m = i + 1 := ⟨m - 1, by omega⟩
        subst hi
        have := c_narrow32 (E := E) (f := f) (x := k) (may := may) hn hw hr (by omega) ⟨c, hk.2⟩ hm i (fun _ => r) M2 (Nat.le_refl _) ⟨rfl, fun d a1 a2 => by rw [hm]; omega, fun d a1 a2 => by omega⟩ hr hG2 d3' (fun d a1 a2 => by omega) (fun M' a1 => H M' (hF2.tr a1))
        rw [show ((i + 1 : Nat) : Int) - 1 = (i : Int) by omega] at this
        rw [show ((i + 1 : Nat) : Int) - 1 = (i : Int) by omega, show min (i : Int) 256 = (i : Int) by omega]
        exact this
      · rw [if_pos c3] at H
        exact H M2 hF2
    · rw [if_neg (fun z => z.2.2.2 c2)] at H
      exact H M (FrQ.rf M)
  · rw [if_neg (fun q => z ⟨q.1, q.2.1⟩)] at H
    exact H M (FrQ.rf M)
theorem c_pastM {f : Int → Mem → Prop} {M : Mem} {x k : Int} (hx : iR x) (hk : iR k) (hw : wfY n y) (hD : MD n may law rust M) (hy : YM y M) (H : ∀ M', FrN M M' → f (pasY n may x k y.1) M') : CI E mX11_past [pR 98, pI x, pI k] M f := by
  have hn := hD.2.1
  have hp := pw8 hn
  have hF0 := FrN.th M 0
  have h1 := hw.1.1.1
  have h2 := hw.1.1.2.1
  have hb : BI n (nowB n may y.1) := BI.fs h1
  have hc := hb.cnt
  unfold pasY at H
  refine vX11_past_0 _ _ (c_isRow hx (hD.gm.fN hF0).1 hn (fun r er hr => ⟨⟨by decide, by decide⟩, fun z => absurd z (by decide), fun _ => ⟨hk, fun c => ?_, fun c => ?_⟩⟩) (fun z => ⟨⟨by decide, by decide⟩, fun _ => ?_, fun z => absurd rfl z⟩))
  · rw [if_neg (fun z => by omega)] at H
    exact H _ hF0
  · subst er
    rw [(hy.fN hF0).1.2.1]
    refine fun _ => ⟨⟨by omega, by omega⟩, fun c2 => ?_, fun c2 => ?_⟩
    · rw [if_pos ⟨by omega, by omega, by omega, c2⟩, Int.toNat_natCast] at H
      refine c_layNow hn hw (hD.gm.fN hF0) (hy.fN hF0) (fun M1 b1 b4 => ⟨⟨by omega, by omega⟩, ?_⟩)
      rw [Int.toNat_natCast, b4.1 r (by omega)]
      refine fun _ => ⟨fun c3 => ⟨⟨by omega, by omega⟩, fun _ => ?_⟩, fun c3 => ?_⟩
      · have hne : bF (nowB n may y.1) r ≠ -1 := by omega
        have hh := hb.had hne
        rw [if_neg hne] at H
        have last : ∀ (j i : Nat) (mm : Int) (M3 : Mem), i + j = 256 → 0 ≤ mm ∧ mm ≤ i → FrN M M3 → (∀ d, d < 256 → M3 136 d = pstF (nevB n may y.1) (nowB n may y.1) r 256 d) → (∀ M', FrN M M' → f (scF (pstF (nevB n may y.1) (nowB n may y.1) r 256) k j i mm) M') → KW E mX11_past (qI f) M3 180 [(0, pR 98), (2, pI k), (4, pI mm), (5, pI (i : Int))] [] := by
          intro j
          induction j with
          | zero =>
            intro i mm M3 hi hmm hF hM HH
            exact vX11_past_180 _ _ _ ⟨⟨by omega, by omega⟩, fun _ => HH M3 hF, fun z => absurd z (by omega)⟩
          | succ j ih =>
            intro i mm M3 hi hmm hF hM HH
            simp only [scF] at HH
            apply vX11_past_180
            rw [Int.toNat_natCast, hM i (by omega)]
            refine ⟨⟨by omega, by omega⟩, fun z => absurd z (by omega), fun _ => ⟨⟨by omega, by omega⟩, fun _ => ⟨fun c4 => ⟨⟨by omega, by omega⟩, hk, fun c5 => ?_, fun c5 => ⟨⟨by omega, by omega⟩, fun _ => ?_⟩⟩, fun c4 => ?_⟩⟩⟩
            · rw [if_pos c4, if_neg c5] at HH
              exact ih (i + 1) (mm + 1) M3 (by omega) ⟨by omega, by omega⟩ hF hM HH
            · rw [if_pos c4, if_pos c5] at HH
              exact HH M3 hF
            · rw [if_neg (by omega)] at HH
              exact ih (i + 1) mm M3 (by omega) ⟨by omega, by omega⟩ hF hM HH
        have up : ∀ (M3 : Mem) (a q : Nat) (v : Int), a = 134 ∨ a = 136 → FrN M M3 → FrN M (upM M3 a q v) := fun M3 a q v ha h => h.tr ⟨fun c a1 a2 => upM_ne _ _ _ (by omega), fun q _ _ => by rw [upM_ne _ _ _ (by omega)]⟩
        have mid : ∀ (j i : Nat) (M3 : Mem), i + j = 256 → FrN M M3 → (∀ d, d < 256 → M3 134 d = bF (nowB n may y.1) d) → (∀ d, d < 256 → M3 136 d = pstF (nevB n may y.1) (nowB n may y.1) r i d) → KW E mX11_past (qI f) M3 93 [(0, pR 98), (1, pI (r : Int)), (2, pI k), (3, pI (bF (nowB n may y.1) r)), (4, pI (i : Int))] [] := by
          intro j
          induction j with
          | zero =>
            intro i M3 hi hF h134 hM
            have : i = 256 := by omega
            subst this
            exact vX11_past_93 _ _ _ _ ⟨⟨by omega, by omega⟩, fun _ => last 256 0 0 M3 (by omega) ⟨by decide, by decide⟩ hF hM H, fun z => absurd z (by omega)⟩
          | succ j ih =>
            intro i M3 hi hF h134 hM
            have skip : ¬ cutP (nevB n may y.1) (nowB n may y.1) r i = true → ∀ M4, FrN M M4 → (∀ d, d < 256 → M4 134 d = bF (nowB n may y.1) d) → M4 136 = M3 136 → KW E mX11_past (qI f) M4 93 [(0, pR 98), (1, pI (r : Int)), (2, pI k), (3, pI (bF (nowB n may y.1) r)), (4, pI ((i : Int) + 1))] [] := by
              intro z M4 hF4 h4 e4
              refine ih (i + 1) M4 (by omega) hF4 h4 (fun d hd => ?_)
              simp only [pstF]
              rw [if_neg z, e4]
              exact hM d hd
            have hy3 := hy.fN hF
            apply vX11_past_93
            rw [Int.toNat_natCast, Int.toNat_natCast, h134 i (by omega), hy3.1.2.1, hy3.1.2.2.1]
            refine ⟨⟨by omega, by omega⟩, fun z => absurd z (by omega), fun _ => ⟨⟨by omega, by omega⟩, fun _ => ⟨fun c4 => ?_, fun c4 => ⟨⟨by omega, by omega⟩, fun _ => ⟨⟨by omega, by omega⟩, fun c5 => fun _ _ => ?_, fun c5 => ?_⟩⟩⟩⟩⟩
            · exact skip (fun z => by have := (of_decide_eq_true z).1; omega) M3 hF h134 rfl
            · refine c_layFar (loose := 0) hn (by omega) (by decide) ⟨by omega, by omega⟩ h1 (hD.gm.fN hF) (fun M4 g1 g3 => ?_)
              have g3' : BR (nevB n may y.1 i) (wfs (i : Int) (canG may (dSe y.1) 0) n (dRo y.1)) M4 := g3
              have hF4 := hF.tr g1.toN
              have e134 : M4 134 = M3 134 := g1.1 134 (by decide) (by decide) (by decide) (by decide)
              have e136 : M4 136 = M3 136 := g1.1 136 (by decide) (by decide) (by decide) (by decide)
              have hb4 : BI n (nevB n may y.1 i) := BI.fs h1
              have hi2 := hb.had (r := i) (by omega)
              rw [g3'.1 r (by omega), e134, h134 i (by omega)]
              refine ⟨⟨by omega, by omega⟩, fun _ => ⟨fun c6 => ?_, fun c6 => ⟨⟨by omega, by omega⟩, fun _ => ⟨⟨by omega, by omega⟩, ⟨by omega, by omega⟩, ?_⟩⟩⟩⟩
              · exact skip (fun z => by have := (of_decide_eq_true z).2.2; omega) M4 hF4 (by rw [e134]; exact h134) e136
              · have hcut : cutP (nevB n may y.1) (nowB n may y.1) r i = true := decide_eq_true ⟨by omega, by omega, by
                  by_cases z : bF (nevB n may y.1 i) r = -1
                  · exact z
                  · have := (hb4.had z).2.1; omega⟩
                refine ih (i + 1) _ (by omega) (up _ _ _ _ (Or.inr rfl) hF4) (fun d hd => by rw [upM_ne _ _ _ (by decide), e134]; exact h134 d hd) (fun d hd => ?_)
                simp only [pstF]
                rw [if_pos hcut, upM_self]
                by_cases e : d = (bF (nowB n may y.1) i).toNat
                · rw [e, va_up_self, upN_self]
                · rw [va_up_neq _ _ e, upN_ne _ _ e, e136]; exact hM d hd
            · exact skip (fun z => by have := (of_decide_eq_true z).2.1; omega) M3 hF h134 rfl
        have ini : ∀ (j i : Nat) (M3 : Mem), i + j = 256 → FrN M M3 → (∀ d, d < 256 → M3 131 d = bF (nowB n may y.1) d) → (∀ d, d < i → M3 134 d = bF (nowB n may y.1) d) → (∀ d, d < i → M3 136 d = -1) → KW E mX11_past (qI f) M3 54 [(0, pR 98), (1, pI (r : Int)), (2, pI k), (3, pI (bF (nowB n may y.1) r)), (4, pI (i : Int))] [] := by
          intro j
          induction j with
          | zero =>
            intro i M3 hi hF h131 h134 hM
            exact vX11_past_54 _ _ _ _ ⟨⟨by omega, by omega⟩, fun _ => mid 256 0 M3 (by omega) hF (fun d hd => h134 d (by omega)) (fun d hd => hM d (by omega)), fun z => absurd z (by omega)⟩
          | succ j ih =>
            intro i M3 hi hF h131 h134 hM
            apply vX11_past_54
            rw [Int.toNat_natCast, h131 i (by omega)]
            refine ⟨⟨by omega, by omega⟩, fun z => absurd z (by omega), fun _ => ⟨⟨by omega, by omega⟩, fun _ => ⟨⟨by omega, by omega⟩, ⟨by omega, by omega⟩, ?_⟩⟩⟩
            refine ih (i + 1) _ (by omega) (up _ _ _ _ (Or.inr rfl) (up _ _ _ _ (Or.inl rfl) hF)) (fun d hd => h131 d hd) (fun d hd => ?_) (fun d hd => ?_)
            · rw [upM_ne _ _ _ (by decide), upM_self]
              by_cases e : d = i
              · rw [e, va_up_self]
              · rw [va_up_neq _ _ e]; exact h134 d (by omega)
            · rw [upM_self]
              by_cases e : d = i
              · rw [e, va_up_self]
              · rw [va_up_neq _ _ e, upM_ne _ _ _ (by decide)]; exact hM d (by omega)
        exact ini 256 0 M1 (by omega) (hF0.tr b1) b4.1 (fun d hd => absurd hd (by omega)) (fun d hd => absurd hd (by omega))
      · have e : bF (nowB n may y.1) r = -1 := by
          by_cases z : bF (nowB n may y.1) r = -1
          · exact z
          · have := (hb.had z).2.1; omega
        rw [if_pos e] at H
        exact H M1 (hF0.tr b1)
    · rw [if_neg (fun z => z.2.2.2 c2)] at H
      exact H _ hF0
  · rw [if_neg (fun q => z ⟨q.1, q.2.1⟩)] at H
    exact H _ hF0
end PAST
