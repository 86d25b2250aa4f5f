/-! first on both sides -/
def SymC (n : Nat) (can : Nat → Nat) : Prop := ∀ r, r < 2 ^ n → ∀ q, q < n → (can r).testBit q = (can (r ^^^ 2 ^ q)).testBit q
theorem xor_back (r q : Nat) : r ^^^ 2 ^ q ^^^ 2 ^ q = r := by rw [Nat.xor_assoc, Nat.xor_self, Nat.xor_zero]
theorem canG_sym {n : Nat} {may : Nat → Nat} (h : SymC n may) (se lo : Nat) : SymC n (canG may se lo) := by
  intro r hr q hq
  unfold canG
  rw [andN_tb, andN_tb, Nat.testBit_or, Nat.testBit_or, h r hr q hq]
def Ld (can : Nat → Nat) (b : BS) (p l : Nat) : Prop := (can p).testBit l = true ∧ bF b p ≠ -1 ∧ bF b (p ^^^ 2 ^ l) = bF b p + 1
def Fq (can : Nat → Nat) (n s : Nat) (b : BS) (r q : Nat) : Prop := q < n ∧ (can s).testBit q = true ∧ ∃ k : Nat, bF b r = (k : Int) + 1 ∧ Wk (-1) can n (s ^^^ 2 ^ q) k r
def Sq (can : Nat → Nat) (n s : Nat) (b : BS) (r q i l : Nat) : Prop := i < bC b ∧ l < n ∧ Ld can b (bM b i) l ∧ r = bM b i ^^^ 2 ^ l ∧ ((bM b i = s ∧ q = l) ∨ (bM b i ≠ s ∧ Fq can n s b (bM b i) q))
section FIRSTP
variable {n : Nat} {can : Nat → Nat} {s : Nat}
theorem wk_cons {nev : Int} {q : Nat} (hq : q < n) (ht : (can s).testBit q = true) (hn : ((s ^^^ 2 ^ q : Nat) : Int) ≠ nev) : ∀ (k r : Nat), Wk nev can n (s ^^^ 2 ^ q) k r → Wk nev can n s (k + 1) r := by
  intro k
  induction k with
  | zero => intro r h; have h' : r = s ^^^ 2 ^ q := h
            exact ⟨s, q, hq, rfl, ht, h', by rw [h']; exact hn⟩
  | succ k ih => intro r h; obtain ⟨p, l, h1, h2, h3, h4, h5⟩ := h; exact ⟨p, l, h1, ih p h2, h3, h4, h5⟩
theorem wk_rev (hS : SymC n can) (hs : s < 2 ^ n) : ∀ (k r : Nat), Wk (-1) can n s k r → Wk (-1) can n r k s := by
  intro k
  induction k with
  | zero => intro r h; have h' : r = s := h
            exact h'.symm
  | succ k ih =>
    intro r h
    obtain ⟨p, l, h1, h2, h3, h4, h5⟩ := h
    have hp := wk_lt hs h2
    have h6 := ih p h2
    subst h4
    rw [hS p hp l h1] at h3
    refine wk_cons h1 h3 ?_ k s ?_
    · rw [xor_back]; omega
    · rw [xor_back]; exact h6
theorem far_sym (hn : n ≤ 8) (hS : SymC n can) (hs : s < 2 ^ n) {t : Nat} (ht : t < 2 ^ n) : bF (bfs (-1) can n s) t = bF (bfs (-1) can n t) s := by
  have aux : ∀ a c, a < 2 ^ n → c < 2 ^ n → bF (bfs (-1) can n a) c ≠ -1 → bF (bfs (-1) can n c) a ≠ -1 ∧ bF (bfs (-1) can n c) a ≤ bF (bfs (-1) can n a) c := by
    intro a c ha hc hne
    have hb : BI n (bfs (-1) can n a) := BI.fs ha
    have h0 := (hb.had hne).2.1
    have h1 := far_wk (nev := -1) (can := can) hn ha (bF (bfs (-1) can n a) c).toNat c (by omega)
    have h2 := wk_far (nev := -1) hn hc _ _ (wk_rev hS ha _ _ h1)
    exact ⟨h2.1, by omega⟩
  by_cases e : bF (bfs (-1) can n s) t = -1
  · by_cases e2 : bF (bfs (-1) can n t) s = -1
    · rw [e, e2]
    · exact absurd e (aux t s ht hs e2).1
  · have h1 := aux s t hs ht e
    have h2 := aux t s ht hs h1.1
    omega
theorem Sq_Fq (hn : n ≤ 8) (hs : s < 2 ^ n) {r q i l : Nat} (h : Sq can n s (bfs (-1) can n s) r q i l) : Fq can n s (bfs (-1) can n s) r q := by
  obtain ⟨h1, h2, ⟨h3, h4, h5⟩, h6, h7⟩ := h
  have hst := (BT.fs (nev := -1) (can := can) hn hs).2.2.2.2
  subst h6
  rcases h7 with ⟨z1, z2⟩ | ⟨z1, z2, z3, k, z4, z5⟩
  · subst z2
    rw [z1] at h3 h5 ⊢
    rw [hst] at h5
    exact ⟨h2, h3, 0, h5, rfl⟩
  · exact ⟨z2, z3, k + 1, by rw [h5, z4]; omega, _, l, h2, z5, h3, rfl, by omega⟩
theorem Fq_Sq (hn : n ≤ 8) (hs : s < 2 ^ n) {r q : Nat} (h : Fq can n s (bfs (-1) can n s) r q) : ∃ i l, Sq can n s (bfs (-1) can n s) r q i l := by
  obtain ⟨h1, h2, k, h3, h4⟩ := h
  have hb : BI n (bfs (-1) can n s) := BI.fs hs
  have hst := (BT.fs (nev := -1) (can := can) hn hs).2.2.2.2
  cases k with
  | zero =>
    have h4' : r = s ^^^ 2 ^ q := h4
    obtain ⟨i, hi, e⟩ := hb.2.2.2.2 s (by rw [hst]; decide)
    subst h4'
    exact ⟨i, q, hi, h1, ⟨by rw [e]; exact h2, by rw [e, hst]; decide, by rw [e, hst, h3]; rfl⟩, by rw [e], Or.inl ⟨e, rfl⟩⟩
  | succ k =>
    obtain ⟨p, l, p1, p2, p3, p4, p5⟩ := h4
    have p6 := wk_far (nev := -1) hn hs _ _ (wk_cons h1 h2 (by omega) k p p2)
    have p7 := bfs_closed (nev := -1) hn hs p6.1 p1 p3 (by omega)
    rw [← p4] at p7
    have p8 : bF (bfs (-1) can n s) p = (k : Int) + 1 := by omega
    obtain ⟨i, hi, e⟩ := hb.2.2.2.2 p p6.1
    refine ⟨i, l, hi, p1, ⟨by rw [e]; exact p3, by rw [e]; exact p6.1, by rw [e, ← p4, h3, p8]; omega⟩, by rw [e]; exact p4, Or.inr ⟨?_, ?_⟩⟩
    · intro z
      rw [e] at z
      rw [z, hst] at p8
      omega
    · rw [e]
      exact ⟨h1, h2, k, p8, p2⟩
/-- what is marked when the k-th row is at its latch l -/
def MKI (can : Nat → Nat) (n s : Nat) (b : BS) (k l : Nat) (m : Nat → Nat) : Prop := ∀ r, r < 256 → m r < 2 ^ 8 ∧ ∀ q, (m r).testBit q = true ↔ ∃ i l2, (i < k ∨ (i = k ∧ l2 < l)) ∧ Sq can n s b r q i l2
theorem MKI.row (hn : n ≤ 8) (hs : s < 2 ^ n) {k l : Nat} {m : Nat → Nat} (h : MKI can n s (bfs (-1) can n s) k l m) (hk : k < bC (bfs (-1) can n s)) (q : Nat) : (m (bM (bfs (-1) can n s) k)).testBit q = true ↔ Fq can n s (bfs (-1) can n s) (bM (bfs (-1) can n s) k) q := by
  have hb : BI n (bfs (-1) can n s) := BI.fs hs
  have hp := pw8 hn
  have hm := hb.2.1 k hk
  rw [(h _ (by omega)).2 q]
  constructor
  · rintro ⟨i, l2, _, z⟩
    exact Sq_Fq hn hs z
  · intro z
    obtain ⟨i, l2, w⟩ := Fq_Sq hn hs z
    refine ⟨i, l2, Or.inl ?_, w⟩
    have w2 := w.2.2.1.2.2
    rw [← w.2.2.2.1] at w2
    rcases Nat.lt_or_ge i k with c | c
    · exact c
    · have := (BT.fs (nev := -1) (can := can) hn hs).1 k i c w.1
      omega
theorem Fq_iff (hn : n ≤ 8) (hS : SymC n can) (hs : s < 2 ^ n) {t q : Nat} (ht : t < 2 ^ n) (hq : q < n) (hpos : bF (bfs (-1) can n t) s > 0) : Fq can n s (bfs (-1) can n s) t q ↔ ((can s).testBit q = true ∧ bF (bfs (-1) can n t) (s ^^^ 2 ^ q) = bF (bfs (-1) can n t) s - 1) := by
  have hsy := far_sym (can := can) hn hS hs ht
  have hx := xor_lt hs hq
  constructor
  · rintro ⟨h1, h2, k, h3, h4⟩
    refine ⟨h2, ?_⟩
    have h5 := wk_far (nev := -1) hn ht _ _ (wk_rev hS hx _ _ h4)
    have h6 : (can (s ^^^ 2 ^ q)).testBit q = true := by rw [← hS s hs q hq]; exact h2
    have h7 := bfs_closed (nev := -1) hn ht h5.1 hq h6 (by omega)
    rw [xor_back] at h7
    omega
  · rintro ⟨h1, h2⟩
    refine ⟨hq, h1, (bF (bfs (-1) can n t) s - 1).toNat, by omega, ?_⟩
    exact wk_rev hS ht _ _ (far_wk (nev := -1) (can := can) hn ht _ _ (by omega))
end FIRSTP
def fsF (p : Nat → Bool) : Nat → Nat → Int
  | 0, _ => -2
  | j + 1, l => if p l = true then (l : Int) else fsF p j (l + 1)
theorem fsF_ext {p1 p2 : Nat → Bool} : ∀ (j l : Nat), (∀ q, l ≤ q → q < l + j → p1 q = p2 q) → fsF p1 j l = fsF p2 j l := by
  intro j
  induction j with
  | zero => intro l _; rfl
  | succ j ih => intro l h; simp only [fsF]; rw [h l (by omega) (by omega), ih (l + 1) (fun q a1 a2 => h q (by omega) (by omega))]
def firY (n : Nat) (may : Nat → Nat) (x : Int) (d : DS) : Int := if 0 ≤ x ∧ x < ((2 ^ n : Nat) : Int) then (if bF (fromB n may d x.toNat) (dRo d) > 0 then fsF (fun l => (canG may (dSe d) 0 (dRo d)).testBit l && decide (bF (fromB n may d x.toNat) (dRo d ^^^ 2 ^ l) = bF (fromB n may d x.toNat) (dRo d) - 1)) n 0 else -2) else -1
section FIRST
variable {E : Scr} {law : Lw} {may : Nat → Nat} {rust : Int} {n : Nat} {y : YS}
theorem canG_mv0 {se r q : Nat} : (mvF may se r).testBit q = (canG may se 0 r).testBit q := by
  unfold canG mvF
  simp only [andN_tb, Nat.testBit_or, Nat.zero_testBit, Bool.or_false]
theorem c_first122 {f : Int → Mem → Prop} {M : Mem} {m : Nat → Nat} {x : Nat} (hn : n ≤ 8) (hx : x < 256) (h6 : M 86 6 = (n : Int)) (hm : M 90 x = (m x : Int)) (hmb : m x < 256) : ∀ (j l : Nat), l + j = n → f (fsF (fun q => (m x).testBit q) j l) M → KW E mX4_firstTo (qI f) M 122 [(0, pR 86), (1, pI (x : Int)), (2, pI (l : Int))] [] := by
  intro j
  induction j with
  | zero =>
    intro l hl H
    apply vX4_firstTo_122
    rw [h6]
    exact fun _ => ⟨⟨by omega, by omega⟩, fun _ => H, fun z => absurd z (by omega)⟩
  | succ j ih =>
    intro l hl H
    simp only [fsF] at H
    apply vX4_firstTo_122
    rw [h6, Int.toNat_natCast, hm, bBit_nat (by omega) (by omega), bt_tb]
    refine fun _ => ⟨⟨by omega, by omega⟩, fun z => absurd z (by omega), fun _ => ⟨⟨by omega, by omega⟩, fun _ => ?_⟩⟩
    cases ht : (m x).testBit l
    · have hz : ¬ (m x).testBit l = true := by rw [ht]; decide
      rw [if_neg hz] at H
      exact ⟨fun _ => ih (l + 1) (by omega) H, fun z => absurd rfl z⟩
    · rw [if_pos ht] at H
      exact ⟨fun z => absurd z (by decide), fun _ => H⟩
theorem c_first54 {f : Int → Mem → Prop} {can mv : Nat → Nat} {s x k : Nat} (hn : n ≤ 8) (hs : s < 2 ^ n) (hcan : ∀ r q, (mv r).testBit q = (can r).testBit q) (hk : k < bC (bfs (-1) can n s)) : ∀ (j l : Nat) (m : Nat → Nat) (M : Mem), l + j = n → MKI can n s (bfs (-1) can n s) k l m → (∀ r, r < 256 → M 90 r = (m r : Int)) → GC n mv (-1) 0 0 M → M 86 8 = (s : Int) → BC (bfs (-1) can n s) M → (∀ (m' : Nat → Nat) (M' : Mem), (∀ a, a ≠ 90 → M' a = M a) → MKI can n s (bfs (-1) can n s) k n m' → (∀ r, r < 256 → M' 90 r = (m' r : Int)) → KW E mX4_firstTo (qI f) M' 29 [(0, pR 86), (1, pI (x : Int)), (2, pI ((k : Int) + 1))] []) → KW E mX4_firstTo (qI f) M 54 [(0, pR 86), (1, pI (x : Int)), (2, pI (k : Int)), (3, pI (bM (bfs (-1) can n s) k : Int)), (4, pI (l : Int))] [] := by
  have hp := pw8 hn
  have hb : BI n (bfs (-1) can n s) := BI.fs hs
  have hrow := hb.2.1 k hk
  intro j
  induction j with
  | zero =>
    intro l m M hl hI hM hG h8 hB H
    have : l = n := by omega
    subst this
    apply vX4_firstTo_54
    rw [hG.1]
    exact fun _ => ⟨⟨by omega, by omega⟩, fun _ => H m M (fun _ _ => rfl) hI hM, fun z => absurd z (by omega)⟩
  | succ j ih =>
    intro l m M hl hI hM hG h8 hB H
    have hln : l < n := by omega
    have hxl := xor_lt (l := l) hrow hln
    have hpl : 2 ^ l < 2 ^ 8 := Nat.pow_lt_pow_right (by decide) (by omega)
    have step : ∀ v : Nat, v < 2 ^ 8 → (∀ q, v.testBit q = true ↔ ((m (bM (bfs (-1) can n s) k ^^^ 2 ^ l)).testBit q = true ∨ ((bM (bfs (-1) can n s) k = s ∧ q = l) ∨ (bM (bfs (-1) can n s) k ≠ s ∧ Fq can n s (bfs (-1) can n s) (bM (bfs (-1) can n s) k) q)))) → Ld can (bfs (-1) can n s) (bM (bfs (-1) can n s) k) l → KW E mX4_firstTo (qI f) (upM M 90 (bM (bfs (-1) can n s) k ^^^ 2 ^ l) (v : Int)) 54 [(0, pR 86), (1, pI (x : Int)), (2, pI (k : Int)), (3, pI (bM (bfs (-1) can n s) k : Int)), (4, pI ((l : Int) + 1))] [] := by
      intro v hv hvq hLd
      have keep : ∀ a, a ≠ 90 → upM M 90 (bM (bfs (-1) can n s) k ^^^ 2 ^ l) (v : Int) a = M a := fun a a1 => upM_ne _ _ _ a1
      refine ih (l + 1) (upN m (bM (bfs (-1) can n s) k ^^^ 2 ^ l) v) _ (by omega) ?_ ?_ ?_ (by rw [keep 86 (by decide)]; exact h8) ?_ (fun m' M' a1 a2 a3 => H m' M' (fun a a4 => by rw [a1 a a4, keep a a4]) a2 a3)
      · intro r hr
        by_cases e : r = bM (bfs (-1) can n s) k ^^^ 2 ^ l
        · rw [e, upN_self]
          refine ⟨hv, fun q => ?_⟩
          rw [hvq q, (hI _ (show bM (bfs (-1) can n s) k ^^^ 2 ^ l < 256 by omega)).2 q]
          constructor
          · rintro (⟨i, l2, c, z⟩ | z)
            · exact ⟨i, l2, by omega, z⟩
            · exact ⟨k, l, by omega, hk, hln, hLd, rfl, z⟩
          · rintro ⟨i, l2, c, z⟩
            by_cases e2 : i = k ∧ l2 = l
            · obtain ⟨e3, e4⟩ := e2
              subst e3; subst e4
              exact Or.inr z.2.2.2.2
            · exact Or.inl ⟨i, l2, by omega, z⟩
        · rw [upN_ne _ _ e]
          refine ⟨(hI r hr).1, fun q => ?_⟩
          rw [(hI r hr).2 q]
          constructor
          · rintro ⟨i, l2, c, z⟩
            exact ⟨i, l2, by omega, z⟩
          · rintro ⟨i, l2, c, z⟩
            refine ⟨i, l2, ?_, z⟩
            by_cases e2 : i = k ∧ l2 = l
            · obtain ⟨e3, e4⟩ := e2
              subst e3; subst e4
              exact absurd z.2.2.2.1 e
            · omega
      · intro r hr
        rw [upM_self]
        by_cases e : r = bM (bfs (-1) can n s) k ^^^ 2 ^ l
        · rw [e, va_up_self, upN_self]
        · rw [va_up_neq _ _ e, upN_ne _ _ e]; exact hM r hr
      · unfold GC at hG ⊢
        rw [keep 86 (by decide), keep 87 (by decide)]
        exact hG
      · unfold BC at hB ⊢
        rw [keep 86 (by decide), keep 88 (by decide), keep 89 (by decide)]
        exact hB
    apply vX4_firstTo_54
    rw [hG.1]
    refine fun _ => ⟨⟨by omega, by omega⟩, fun z => absurd z (by omega), fun _ => c_leadsOn hn hrow hln hb hG hB (fun c1 c2 c3 => ?_) (fun c => ?_)⟩
    · have hLd : Ld can (bfs (-1) can n s) (bM (bfs (-1) can n s) k) l := ⟨by rw [← hcan]; exact c1, c2, c3⟩
      have m1 := (hI _ (show bM (bfs (-1) can n s) k ^^^ 2 ^ l < 256 by omega)).1
      have m2 := (hI _ (show bM (bfs (-1) can n s) k < 256 by omega)).1
      rw [bOne_nat (by omega), bXor_nat (by omega) (pw31 (by omega)), Int.toNat_natCast, Int.toNat_natCast, hM _ (show bM (bfs (-1) can n s) k ^^^ 2 ^ l < 256 by omega), hM _ (show bM (bfs (-1) can n s) k < 256 by omega), h8, bOr_nat (by omega) (by omega), bOr_nat (by omega) (by omega)]
      refine ⟨⟨by decide, by decide⟩, fun z => absurd z (by decide), fun _ => ⟨⟨by omega, by omega⟩, fun _ _ => ⟨⟨by omega, by omega⟩, fun c => ⟨⟨by omega, by omega⟩, fun _ => ⟨⟨by omega, by omega⟩, ?_⟩⟩, fun c => ⟨⟨by omega, by omega⟩, ?_⟩⟩⟩⟩
      · have cs : bM (bfs (-1) can n s) k ≠ s := fun z => c (by rw [z])
        refine step _ (Nat.or_lt_two_pow m1 m2) (fun q => ?_) hLd
        rw [Nat.testBit_or, Bool.or_eq_true, hI.row hn hs hk q]
        constructor
        · rintro (z | z)
          · exact Or.inl z
          · exact Or.inr (Or.inr ⟨cs, z⟩)
        · rintro (z | z | z)
          · exact Or.inl z
          · exact absurd z.1 cs
          · exact Or.inr z.2
      · have cs : bM (bfs (-1) can n s) k = s := by omega
        refine step _ (Nat.or_lt_two_pow m1 hpl) (fun q => ?_) hLd
        rw [Nat.testBit_or, Bool.or_eq_true, Nat.testBit_two_pow, decide_eq_true_eq]
        constructor
        · rintro (z | z)
          · exact Or.inl z
          · exact Or.inr (Or.inl ⟨cs, z.symm⟩)
        · rintro (z | z | z)
          · exact Or.inl z
          · exact Or.inr z.2.symm
          · exact absurd cs z.1
    · refine ⟨⟨by decide, by decide⟩, fun _ => ih (l + 1) m M (by omega) ?_ hM hG h8 hB H, fun z => absurd rfl z⟩
      intro r hr
      refine ⟨(hI r hr).1, fun q => ?_⟩
      rw [(hI r hr).2 q]
      constructor
      · rintro ⟨i, l2, c4, z⟩
        exact ⟨i, l2, by omega, z⟩
      · rintro ⟨i, l2, c4, z⟩
        refine ⟨i, l2, ?_, z⟩
        by_cases e2 : i = k ∧ l2 = l
        · obtain ⟨e3, e4⟩ := e2
          subst e3; subst e4
          exact absurd ⟨by rw [hcan]; exact z.2.2.1.1, z.2.2.1.2⟩ c
        · omega
theorem c_first29 {f : Int → Mem → Prop} {can mv : Nat → Nat} {s x : Nat} (hn : n ≤ 8) (hs : s < 2 ^ n) (hx : x < 2 ^ n) (hcan : ∀ r q, (mv r).testBit q = (can r).testBit q) : ∀ (j k : Nat) (m : Nat → Nat) (M : Mem), k + j = bC (bfs (-1) can n s) → MKI can n s (bfs (-1) can n s) k 0 m → (∀ r, r < 256 → M 90 r = (m r : Int)) → GC n mv (-1) 0 0 M → M 86 8 = (s : Int) → BC (bfs (-1) can n s) M → (∀ (m' : Nat → Nat) (M' : Mem), (∀ a, a ≠ 90 → M' a = M a) → (∀ q, (m' x).testBit q = true ↔ Fq can n s (bfs (-1) can n s) x q) → f (fsF (fun q => (m' x).testBit q) n 0) M') → KW E mX4_firstTo (qI f) M 29 [(0, pR 86), (1, pI (x : Int)), (2, pI (k : Int))] [] := by
  have hp := pw8 hn
  have hb : BI n (bfs (-1) can n s) := BI.fs hs
  have hc := hb.cnt
  intro j
  induction j with
  | zero =>
    intro k m M hk hI hM hG h8 hB H
    apply vX4_firstTo_29
    rw [hB.2.2]
    refine fun _ => ⟨⟨by omega, by omega⟩, fun _ => ?_, fun z => absurd z (by omega)⟩
    have hmx := hI x (by omega)
    refine c_first122 hn (by omega) hG.1 (hM x (by omega)) (by have := hmx.1; omega) n 0 (by omega) (H m M (fun _ _ => rfl) (fun q => ?_))
    rw [hmx.2 q]
    constructor
    · rintro ⟨i, l2, c, z⟩
      exact Sq_Fq hn hs z
    · intro z
      obtain ⟨i, l2, w⟩ := Fq_Sq hn hs z
      exact ⟨i, l2, Or.inl (by have := w.1; omega), w⟩
  | succ j ih =>
    intro k m M hk hI hM hG h8 hB H
    have hkc : k < bC (bfs (-1) can n s) := by omega
    apply vX4_firstTo_29
    rw [hB.2.2, Int.toNat_natCast, hB.2.1 k hkc]
    refine fun _ => ⟨⟨by omega, by omega⟩, fun z => absurd z (by omega), fun _ => ⟨⟨by omega, by omega⟩, fun z => absurd z (by omega), fun _ => ⟨⟨by omega, by omega⟩, fun _ => ?_⟩⟩⟩
    refine c_first54 hn hs hcan hkc n 0 m M (by omega) hI hM hG h8 hB (fun m' M' a1 a2 a3 => ?_)
    refine ih (k + 1) m' M' (by omega) (fun r hr => ⟨(a2 r hr).1, fun q => ?_⟩) a3 ?_ (by rw [a1 86 (by decide)]; exact h8) ?_ (fun m2 M2 d1 d2 => H m2 M2 (fun a a4 => by rw [d1 a a4, a1 a a4]) d2)
    · rw [(a2 r hr).2 q]
      constructor
      · rintro ⟨i, l2, c, z⟩
        exact ⟨i, l2, by omega, z⟩
      · rintro ⟨i, l2, c, z⟩
        exact ⟨i, l2, by have := z.2.1; omega, z⟩
    · unfold GC at hG ⊢
      rw [a1 86 (by decide), a1 87 (by decide)]
      exact hG
    · unfold BC at hB ⊢
      rw [a1 86 (by decide), a1 88 (by decide), a1 89 (by decide)]
      exact hB
theorem c_firstC {f : Int → Mem → Prop} {M : Mem} {x : Int} (hx : iR x) (hS : SymC n may) (hw : wfY n y) (hD : CD n may law rust M) (hy : YC y M) (H : ∀ M', FrQ M M' → f (firY n may x y.1) M') : CI E mX10_first [pR 0, pI x] M f := by
  have hn := hD.2.1
  have hp := pw8 hn
  have h1 := hw.1.1.1
  unfold firY at H
  refine vX10_first_0 _ (c_hasRow hx hD.1 hn (fun r er hr => ⟨⟨by decide, by decide⟩, fun _ => ?_, fun z => absurd z (by decide)⟩) (fun z => ⟨⟨by decide, by decide⟩, fun z => absurd rfl z, fun _ => ?_⟩))
  · subst er
    rw [if_pos ⟨by omega, by omega⟩, Int.toNat_natCast] at H
    have hSy := canG_sym hS (dSe y.1) 0
    have hsy : bF (nowB n may y.1) r = bF (fromB n may y.1 r) (dRo y.1) := far_sym hn hSy h1 hr
    have hb : BI n (nowB n may y.1) := BI.fs h1
    have hst : bF (nowB n may y.1) (dRo y.1) = 0 := (BT.fs (nev := -1) (can := canG may (dSe y.1) 0) hn h1).2.2.2.2
    refine c_lookAround hw hD hy (fun M1 b1 b2 b3 b4 => vX4_firstTo_0 _ (c_isHad hn hr b2.2.1 b4 (fun c => ⟨⟨by decide, by decide⟩, fun z => absurd z (by decide), fun _ => ?_⟩) (fun c => ⟨⟨by decide, by decide⟩, fun _ => ?_, fun z => absurd rfl z⟩)))
    · rw [b3]
      refine fun _ => ⟨⟨by omega, by omega⟩, fun c2 => ?_, fun c2 => ?_⟩
      · have hpos : bF (fromB n may y.1 r) (dRo y.1) > 0 := by
          have h0 := (hb.had c).2.1
          rw [← hsy]
          by_cases z : bF (nowB n may y.1) r = 0
          · have := far_wk (nev := -1) (can := canG may (dSe y.1) 0) hn h1 0 r z
            have h' : r = dRo y.1 := this
            exact absurd (by rw [h']) c2
          · omega
        rw [if_pos hpos] at H
        refine c_fill (nn := 256) rfl (by decide) ⟨by decide, by decide⟩ (fun M2 d1 d2 => ?_)
        refine c_first29 (can := canG may (dSe y.1) 0) (mv := mvF may (dSe y.1)) hn h1 hr (fun _ _ => canG_mv0) _ 0 (fun _ => 0) M2 (Nat.zero_add _) (fun r2 hr2 => ⟨(by decide : 0 < 2 ^ 8), fun q => ?_⟩) d2 ?_ (by rw [d1 86 (by decide)]; exact b3) ?_ (fun m' M' a1 a2 => ?_)
        · constructor
          · intro z; rw [Nat.zero_testBit] at z; exact absurd z (by decide)
          · rintro ⟨i, l2, c5, _⟩; omega
        · unfold GC at b2 ⊢
          rw [d1 86 (by decide), d1 87 (by decide)]
          exact b2
        · have b4' : BC (bfs (-1) (canG may (dSe y.1) 0) n (dRo y.1)) M1 := b4
          unfold BC at b4' ⊢
          rw [d1 86 (by decide), d1 88 (by decide), d1 89 (by decide)]
          exact b4'
        · have HH := H M' (fun a a5 => by rw [a1 a (by omega), d1 a (by omega)]; exact b1 a a5)
          have e : fsF (fun q => (m' r).testBit q) n 0 = fsF (fun l => (canG may (dSe y.1) 0 (dRo y.1)).testBit l && decide (bF (fromB n may y.1 r) (dRo y.1 ^^^ 2 ^ l) = bF (fromB n may y.1 r) (dRo y.1) - 1)) n 0 := by
            refine fsF_ext n 0 (fun q _ hq => ?_)
            rw [Bool.eq_iff_iff, a2 q, Fq_iff hn hSy h1 hr (by omega) hpos, Bool.and_eq_true, decide_eq_true_eq]
            exact Iff.rfl
          rw [e]
          exact HH
      · have : r = dRo y.1 := by omega
        rw [if_neg (by rw [← hsy, this, hst]; decide)] at H
        exact H M1 b1
    · rw [if_neg (by rw [← hsy, c]; decide)] at H
      exact H M1 b1
  · rw [if_neg z] at H
    exact H M (FrQ.rf M)
theorem c_firstM {f : Int → Mem → Prop} {M : Mem} {x : Int} (hx : iR x) (hw : wfY n y) (hD : MD n may law rust M) (hy : YM y M) (H : ∀ M', FrN M M' → f (firY n may x y.1) M') : CI E mX11_first [pR 98, pI x] M f := by
  have hn := hD.2.1
  have hp := pw8 hn
  have hF0 := FrN.th M 0
  have h1 := hw.1.1.1
  have h2 := hw.1.1.2.1
  unfold firY at H
  refine vX11_first_0 _ (c_isRow hx (hD.gm.fN hF0).1 hn (fun r er hr => ⟨⟨by decide, by decide⟩, fun _ => ?_, fun z => absurd z (by decide)⟩) (fun z => ⟨⟨by decide, by decide⟩, fun z => absurd rfl z, fun _ => ?_⟩))
  · subst er
    rw [if_pos ⟨by omega, by omega⟩, Int.toNat_natCast] at H
    rw [(hy.fN hF0).1.2.2.1]
    refine fun _ => c_layFar (loose := 0) hn (by omega) (by decide) ⟨by decide, by decide⟩ hr (hD.gm.fN hF0) (fun M1 b1 b4 => ?_)
    have b4' : BR (fromB n may y.1 r) (wfs (-1) (canG may (dSe y.1) 0) n r) M1 := b4
    have hF1 := hF0.tr b1.toN
    have hy1 := hy.fN hF1
    have hG1 := hD.gm.fN hF1
    have hm := hG1.2 (dRo y.1) h1
    have hb : BI n (fromB n may y.1 r) := BI.fs hr
    have hc := hb.cnt
    rw [hy1.1.2.1, hy1.1.2.2.1, Int.toNat_natCast, b4'.1 _ (by omega), hm.1, bAndN_nat (by omega) (by omega)]
    have hle := andN_le (may (dRo y.1)) (dSe y.1)
    have HH := H M1 hF1
    have hcb : ∀ l, (canG may (dSe y.1) 0 (dRo y.1)).testBit l = (andN (may (dRo y.1)) (dSe y.1)).testBit l := fun l => canG_mv0.symm
    have hrg : iR (bF (fromB n may y.1 r) (dRo y.1)) := by
      by_cases z : bF (fromB n may y.1 r) (dRo y.1) = -1
      · rw [z]; exact ⟨by decide, by decide⟩
      · have := hb.had z; exact ⟨by omega, by omega⟩
    have loop : ∀ (j l : Nat), l + j = n → f (if bF (fromB n may y.1 r) (dRo y.1) > 0 then fsF (fun l => (canG may (dSe y.1) 0 (dRo y.1)).testBit l && decide (bF (fromB n may y.1 r) (dRo y.1 ^^^ 2 ^ l) = bF (fromB n may y.1 r) (dRo y.1) - 1)) j l else -2) M1 → KW E mX11_first (qI f) M1 64 [(0, pR 98), (2, pI (bF (fromB n may y.1 r) (dRo y.1))), (3, pI ((andN (may (dRo y.1)) (dSe y.1) : Nat) : Int)), (4, pI (l : Int))] [] := by
      intro j
      induction j with
      | zero =>
        intro l hl hf
        apply vX11_first_64
        rw [hG1.1]
        refine fun _ => ⟨⟨by omega, by omega⟩, fun _ => ?_, fun z => absurd z (by omega)⟩
        have e : (if bF (fromB n may y.1 r) (dRo y.1) > 0 then fsF (fun l => (canG may (dSe y.1) 0 (dRo y.1)).testBit l && decide (bF (fromB n may y.1 r) (dRo y.1 ^^^ 2 ^ l) = bF (fromB n may y.1 r) (dRo y.1) - 1)) 0 l else -2) = -2 := by split <;> rfl
        rw [e] at hf
        exact hf
      | succ j ih =>
        intro l hl hf
        have hxl := xor_lt (l := l) h1 (by omega)
        apply vX11_first_64
        rw [hG1.1]
        refine fun _ => ⟨⟨by omega, by omega⟩, fun z => absurd z (by omega), fun _ => ⟨hrg, fun c => ?_, fun c => c_isOf (by omega) (by omega) ?_⟩⟩
        · rw [if_neg (by omega)] at hf
          exact hf
        · rw [bt_tb, ← hcb l]
          rw [if_pos c] at hf
          simp only [fsF] at hf
          cases ht : (canG may (dSe y.1) 0 (dRo y.1)).testBit l
          · rw [if_neg (fun z => by rw [ht, Bool.false_and] at z; exact absurd z (by decide))] at hf
            refine ⟨⟨by decide, by decide⟩, fun _ => ih (l + 1) (by omega) ?_, fun z => absurd rfl z⟩
            rw [if_pos c]
            exact hf
          · rw [hy1.1.2.1, bOne_nat (by omega), bXor_nat (by omega) (pw31 (by omega)), Int.toNat_natCast, b4'.1 _ (by omega)]
            refine ⟨⟨by decide, by decide⟩, fun z => absurd z (by decide), fun _ _ => ⟨⟨by omega, by omega⟩, fun _ => ⟨⟨by omega, by omega⟩, fun c2 => ih (l + 1) (by omega) ?_, fun c2 => ?_⟩⟩⟩
            · rw [if_pos c]
              rw [if_neg (fun z => by rw [ht, Bool.true_and] at z; exact c2 (of_decide_eq_true z))] at hf
              exact hf
            · rw [if_pos (by rw [ht, Bool.true_and]; exact decide_eq_true c2)] at hf
              exact hf
    refine fun _ => ⟨⟨by omega, by omega⟩, fun _ _ => ⟨⟨by omega, by omega⟩, fun _ _ => loop n 0 (by omega) HH⟩⟩
  · rw [if_neg z] at H
    exact H _ hF0
end FIRST
