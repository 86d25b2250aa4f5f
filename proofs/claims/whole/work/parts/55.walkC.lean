/-! the class's walk -/
theorem BI.row {n cr row : Nat} {nev : Int} : ∀ (j l : Nat) (b : BS), l + j ≤ n → BI n b → bF b row ≠ -1 → BI n (bRow nev cr row j l b) ∧ bF (bRow nev cr row j l b) row = bF b row := by
  intro j
  induction j with
  | zero => intro l b _ h _; exact ⟨h, rfl⟩
  | succ j ih =>
    intro l b hl h hr
    have h1 := h.vis (nev := nev) (cr := cr) (l := l) (by omega) hr
    have h2 := ih (l + 1) _ (by omega) h1.1 (by rw [h1.2]; exact hr)
    exact ⟨h2.1, h2.2.trans h1.2⟩
def BC (b : BS) (M : Mem) : Prop := (∀ r, r < 256 → M 88 r = bF b r) ∧ (∀ i, i < bC b → M 89 i = (bM b i : Int)) ∧ M 86 9 = (bC b : Int)
/-- the rows' graph as it lies in the class -/
def GC (n : Nat) (mv : Nat → Nat) (nev : Int) (still eased : Nat) (M : Mem) : Prop := M 86 6 = (n : Int) ∧ M 86 7 = ((2 ^ n : Nat) : Int) ∧ (∀ r, r < 2 ^ n → M 87 r = (mv r : Int) ∧ mv r < 256) ∧ M 86 10 = nev ∧ M 86 11 = (still : Int) ∧ M 86 12 = (eased : Int)
def canG (mv : Nat → Nat) (still eased : Nat) (r : Nat) : Nat := andN (mv r ||| eased) still
/-- all but the walk's rows stays -/
def FrB (M M' : Mem) : Prop := (∀ a, a ≠ 86 → a ≠ 88 → a ≠ 89 → M' a = M a) ∧ ∀ k, k ≠ 8 → k ≠ 9 → M' 86 k = M 86 k
theorem FrB.rf (M : Mem) : FrB M M := ⟨fun _ _ _ _ => rfl, fun _ _ _ => rfl⟩
theorem FrB.tr {M M1 M2 : Mem} (h1 : FrB M M1) (h2 : FrB M1 M2) : FrB M M2 := ⟨fun a a1 a2 a3 => (h2.1 a a1 a2 a3).trans (h1.1 a a1 a2 a3), fun k k1 k2 => (h2.2 k k1 k2).trans (h1.2 k k1 k2)⟩
theorem GC.fr {n : Nat} {mv : Nat → Nat} {nev : Int} {still eased : Nat} {M M' : Mem} (h : GC n mv nev still eased M) (hF : FrB M M') : GC n mv nev still eased M' := by
  unfold GC
  rw [hF.2 6 (by decide) (by decide), hF.2 7 (by decide) (by decide), hF.2 10 (by decide) (by decide), hF.2 11 (by decide) (by decide), hF.2 12 (by decide) (by decide), hF.1 87 (by decide) (by decide) (by decide)]
  exact h
section WALKC
variable {E : Scr} {n : Nat} {mv : Nat → Nat} {nev : Int} {still eased : Nat}
theorem c_hasP {f : Int → Mem → Prop} {M : Mem} {r : Nat} (hn : n ≤ 8) (hr : r < 2 ^ n) (h7 : M 86 7 = ((2 ^ n : Nat) : Int)) (H : f 1 M) : CI E mX4_has [pR 86, pI (r : Int)] M f := by
  have hp := pw8 hn
  apply vX4_has_0
  rw [h7]
  exact ⟨⟨by omega, by omega⟩, fun z => absurd z (by omega), fun _ _ => ⟨⟨by omega, by omega⟩, fun z => absurd z (by omega), fun _ => ⟨⟨by omega, by omega⟩, fun z => absurd z (by omega), fun _ => H⟩⟩⟩
theorem c_stepsTo {f : Int → Mem → Prop} {M : Mem} {b : BS} {r : Nat} (hn : n ≤ 8) (hr : r < 2 ^ n) (h7 : M 86 7 = ((2 ^ n : Nat) : Int)) (hB : BC b M) (H : iR (bF b r) → f (bF b r) M) : CI E mX4_stepsTo [pR 86, pI (r : Int)] M f := by
  have hp := pw8 hn
  refine vX4_stepsTo_0 _ (c_hasP hn hr h7 ⟨⟨by decide, by decide⟩, fun z => absurd z (by decide), fun _ => ⟨⟨by omega, by omega⟩, ?_⟩⟩)
  rw [Int.toNat_natCast, hB.1 r (by omega)]
  exact H
theorem c_finds {f : Mem → Prop} {M : Mem} {to : Nat} {fr : Int} {b : BS} (hn : n ≤ 8) (hto : to < 2 ^ n) (hfr : iR fr) (hb : BI n b) (hG : GC n mv nev still eased M) (hB : BC b M) (H : ∀ M', FrB M M' → M' 86 8 = M 86 8 → BC (if (to : Int) ≠ nev ∧ bF b to = -1 then bTk to fr b else b) M' → f M') : CV E mX4_finds [pR 86, pI (to : Int), pI fr] M f := by
  have hp := pw8 hn
  have hc := hb.cnt
  obtain ⟨b1, b2, b3⟩ := id hB
  apply vX4_finds_0
  rw [hG.2.2.2.1]
  refine fun _ => ⟨⟨by omega, by omega⟩, fun c => ?_, fun c => c_hasP hn hto hG.2.1 ?_⟩
  · rw [if_neg (fun z => z.1 c)] at H
    exact H M (FrB.rf M) rfl hB
  · rw [b3, Int.toNat_natCast, Int.toNat_natCast, b1 to (by omega)]
    refine ⟨⟨by decide, by decide⟩, fun z => absurd z (by decide), fun _ => ⟨⟨by omega, by omega⟩, fun _ => ⟨fun c2 => ?_, fun c2 _ => ⟨fun c3 => ?_, fun c3 => ⟨⟨by omega, by omega⟩, hfr, fun _ => ⟨⟨by omega, by omega⟩, ⟨by omega, by omega⟩, fun _ => ⟨⟨by omega, by omega⟩, ?_⟩⟩⟩⟩⟩⟩⟩
    · rw [if_neg (fun z => c2 z.2)] at H
      exact H M (FrB.rf M) rfl hB
    · have := hb.less hto c2
      omega
    · rw [if_pos ⟨c, c2⟩] at H
      refine H _ ⟨fun a a1 a2 a3 => by rw [upM_ne _ _ _ a1, upM_ne _ _ _ a3, upM_ne _ _ _ a2], fun k _ k2 => by rw [upM_self, va_up_neq _ _ k2, upM_ne _ _ _ (by decide), upM_ne _ _ _ (by decide)]⟩ rfl ⟨fun r hr => ?_, fun i hi => ?_, ?_⟩
      · rw [upM_ne _ _ _ (by decide), upM_ne _ _ _ (by decide), upM_self]
        show va_up (M 88) to fr r = upN (bF b) to fr r
        by_cases e : r = to
        · rw [e, va_up_self, upN_self]
        · rw [va_up_neq _ _ e, upN_ne _ _ e]; exact b1 r hr
      · have hi' : i < bC b + 1 := hi
        rw [upM_ne _ _ _ (by decide), upM_self]
        show va_up (upM M 88 to fr 89) (bC b) (to : Int) i = ((upN (bM b) (bC b) to i : Nat) : Int)
        by_cases e : i = bC b
        · rw [e, va_up_self, upN_self]
        · rw [va_up_neq _ _ e, upN_ne _ _ e, upM_ne _ _ _ (by decide)]; exact b2 i (by omega)
      · rw [upM_self, va_up_self]
        show (bC b : Int) + 1 = ((bC b + 1 : Nat) : Int)
        omega
theorem canG_lt {r : Nat} (hm : mv r < 256) (he : eased < 256) : canG mv still eased r < 256 := by
  have h1 : mv r ||| eased < 2 ^ 8 := Nat.or_lt_two_pow hm he
  have h2 := andN_le (mv r ||| eased) still
  unfold canG
  omega
theorem c_spread93 {f : Mem → Prop} {k row cr : Nat} (hn : n ≤ 8) (hcr : cr < 256) (hrow : row < 2 ^ n) : ∀ (j l : Nat) (b : BS) (M : Mem), l + j = n → BI n b → bF b row ≠ -1 → GC n mv nev still eased M → BC b M → (∀ M', FrB M M' → M' 86 8 = M 86 8 → BC (bRow nev cr row j l b) M' → KW E mX4_spread (qV f) M' 48 [(0, pR 86), (2, pI ((k : Int) + 1))] []) → KW E mX4_spread (qV f) M 93 [(0, pR 86), (2, pI (k : Int)), (3, pI (row : Int)), (4, pI (cr : Int)), (5, pI (l : Int))] [] := by
  have hp := pw8 hn
  intro j
  induction j with
  | zero =>
    intro l b M hl hb hr hG hB H
    apply vX4_spread_93
    rw [hG.1]
    exact fun _ => ⟨⟨by omega, by omega⟩, fun _ => H M (FrB.rf M) rfl hB, fun z => absurd z (by omega)⟩
  | succ j ih =>
    intro l b M hl hb hr hG hB H
    apply vX4_spread_93
    rw [hG.1, Int.toNat_natCast, hB.1 row (by omega), bBit_nat (by omega) (by omega), bOne_nat (by omega), bXor_nat (by omega) (pw31 (by omega)), bt_tb]
    have hh := hb.had hr
    have hc := hb.cnt
    have hv := hb.vis (nev := nev) (cr := cr) (l := l) (by omega) hr
    refine fun _ => ⟨⟨by omega, by omega⟩, fun z => absurd z (by omega), fun _ => ⟨fun c => ?_, fun c => ⟨⟨by omega, by omega⟩, fun _ => ?_⟩⟩⟩
    · have ht : ¬ cr.testBit l = true := fun z => by rw [if_pos z] at c; omega
      refine ih (l + 1) b M (by omega) hb hr hG hB (fun M' a1 a2 a3 => H M' a1 a2 ?_)
      simp only [bRow, bVis]
      rw [if_neg (fun z => ht z.1)]
      exact a3
    · have ht : cr.testBit l = true := by
        by_cases z : cr.testBit l = true
        · exact z
        · rw [if_neg z] at c; exact absurd rfl c
      refine c_finds hn (xor_lt hrow (by omega)) ⟨by omega, by omega⟩ hb hG hB (fun M1 d1 d2 d3 => ?_)
      have e : (if ((row ^^^ 2 ^ l : Nat) : Int) ≠ nev ∧ bF b (row ^^^ 2 ^ l) = -1 then bTk (row ^^^ 2 ^ l) (bF b row + 1) b else b) = bVis nev cr row l b := by
        unfold bVis
        by_cases z : ((row ^^^ 2 ^ l : Nat) : Int) ≠ nev ∧ bF b (row ^^^ 2 ^ l) = -1
        · rw [if_pos z, if_pos ⟨ht, z⟩]
        · rw [if_neg z, if_neg (fun q => z q.2)]
      rw [e] at d3
      exact ih (l + 1) _ M1 (by omega) hv.1 (by rw [hv.2]; exact hr) (hG.fr d1) d3 (fun M' a1 a2 a3 => H M' (d1.tr a1) (a2.trans d2) a3)
theorem c_spread48 {f : Mem → Prop} (hn : n ≤ 8) (hst : still < 2147483648) (he : eased < 256) : ∀ (j k : Nat) (b : BS) (M : Mem), k + j = 257 → BI n b → GC n mv nev still eased M → BC b M → (∀ M', FrB M M' → M' 86 8 = M 86 8 → BC (bGo nev (canG mv still eased) n j k b) M' → f M') → KW E mX4_spread (qV f) M 48 [(0, pR 86), (2, pI (k : Int))] [] := by
  have hp := pw8 hn
  intro j
  induction j with
  | zero =>
    intro k b M hk hb hG hB H
    have hc := hb.cnt
    apply vX4_spread_48
    rw [hB.2.2]
    exact fun _ => ⟨⟨by omega, by omega⟩, fun _ => H M (FrB.rf M) rfl hB, fun z => absurd z (by omega)⟩
  | succ j ih =>
    intro k b M hk hb hG hB H
    have hc := hb.cnt
    simp only [bGo] at H
    apply vX4_spread_48
    rw [hB.2.2]
    refine fun _ => ⟨⟨by omega, by omega⟩, fun z => ?_, fun z => ⟨⟨by omega, by omega⟩, fun z2 => absurd z2 (by omega), fun _ => ⟨⟨by omega, by omega⟩, ?_⟩⟩⟩
    · rw [if_neg (by omega)] at H
      exact H M (FrB.rf M) rfl hB
    · have hkc : k < bC b := by omega
      rw [if_pos hkc] at H
      have hm := hb.2.1 k hkc
      have hmv := hG.2.2.1 (bM b k) hm
      have hf := hb.2.2.2.1 k hkc
      rw [Int.toNat_natCast, hB.2.1 k hkc, Int.toNat_natCast, hmv.1, hG.2.2.2.2.1, hG.2.2.2.2.2]
      have hor : mv (bM b k) ||| eased < 2 ^ 8 := Nat.or_lt_two_pow hmv.2 he
      rw [bOr_nat (by omega) (by omega), bAndN_nat (by omega) hst]
      refine fun _ => ⟨⟨by omega, by omega⟩, fun _ _ _ => ?_⟩
      refine c_spread93 (cr := canG mv still eased (bM b k)) hn (canG_lt hmv.2 he) hm n 0 b M (by omega) hb (by omega) hG hB (fun M1 d1 d2 d3 => ?_)
      have hr := BI.row (nev := nev) (cr := canG mv still eased (bM b k)) (row := bM b k) n 0 b (by omega) hb (by omega)
      exact ih (k + 1) _ M1 (by omega) hr.1 (hG.fr d1) d3 (fun M' a1 a2 a3 => H M' (d1.tr a1) (a2.trans d2) a3)
theorem c_fill {f : Mem → Prop} {M : Mem} {aa nn : Nat} {v : Int} (hT : T0[aa]? = some (20, nn)) (hnn : nn < 1000) (hv : iR v) (H : ∀ M', (∀ a, a ≠ aa → M' a = M a) → (∀ i, i < nn → M' aa i = v) → f M') : CV E mJ7_fill_53178 [pR aa, pI v] M f := by
  have loop : ∀ (j k : Nat) (M1 : Mem), k + j = nn → (∀ a, a ≠ aa → M1 a = M a) → (∀ i, i < k → M1 aa i = v) → KW E mJ7_fill_53178 (qV f) M1 5 [(0, pR aa), (1, pI v), (2, pI (k : Int)), (3, pI (nn : Int))] [] := by
    intro j
    induction j with
    | zero =>
      intro k M1 hk e1 e2
      exact vJ7_fill_53178_5 _ _ _ hT ⟨⟨by omega, by omega⟩, ⟨by omega, by omega⟩, fun _ => H M1 e1 (fun i hi => e2 i (by omega)), fun z => absurd z (by omega)⟩
    | succ j ih =>
      intro k M1 hk e1 e2
      refine vJ7_fill_53178_5 _ _ _ hT ⟨⟨by omega, by omega⟩, ⟨by omega, by omega⟩, fun z => absurd z (by omega), fun _ => ⟨⟨by omega, by omega⟩, hv, ?_⟩⟩
      rw [Int.toNat_natCast]
      refine ih (k + 1) _ (by omega) (fun a a1 => by rw [upM_ne _ _ _ a1]; exact e1 a a1) (fun i hi => ?_)
      by_cases e : i = k
      · rw [e, upM_self, va_up_self]
      · rw [upM_self, va_up_neq _ _ e]; exact e2 i (by omega)
  exact vJ7_fill_53178_0 _ hT (loop nn 0 M (by omega) (fun _ _ => rfl) (fun i hi => by omega))
theorem c_spread {f : Mem → Prop} {M : Mem} {s : Nat} (hn : n ≤ 8) (hst : still < 2147483648) (he : eased < 256) (hs : s < 2 ^ n) (hG : GC n mv nev still eased M) (H : ∀ M', FrB M M' → M' 86 8 = (s : Int) → BC (bfs nev (canG mv still eased) n s) M' → f M') : CV E mX4_spread [pR 86, pI (s : Int)] M f := by
  have hp := pw8 hn
  refine vX4_spread_0 _ (c_fill (nn := 256) rfl (by decide) ⟨by decide, by decide⟩ (fun M1 b1 b2 => ?_))
  have hG1 : GC n mv nev still eased (upM M1 86 9 0) := by
    unfold GC
    rw [upM_self, va_up_neq _ _ (by decide), va_up_neq _ _ (by decide), va_up_neq _ _ (by decide), va_up_neq _ _ (by decide), va_up_neq _ _ (by decide), upM_ne _ _ _ (by decide), b1 86 (by decide), b1 87 (by decide)]
    exact hG
  refine c_hasP hn hs hG1.2.1 ⟨⟨by decide, by decide⟩, fun _ => ⟨⟨by omega, by omega⟩, ⟨by omega, by omega⟩, ⟨by omega, by omega⟩, ?_⟩, fun z => absurd z (by decide)⟩
  rw [Int.toNat_natCast]
  generalize hM2 : upM (upM (upM (upM (upM M1 86 9 0) 86 8 (s : Int)) 88 s 0) 89 0 (s : Int)) 86 9 1 = M2
  have hF2 : FrB M M2 := by
    refine ⟨fun a a1 a2 a3 => ?_, fun k k1 k2 => ?_⟩
    · rw [← hM2, upM_ne _ _ _ a1, upM_ne _ _ _ a3, upM_ne _ _ _ a2, upM_ne _ _ _ a1, upM_ne _ _ _ a1, b1 a a2]
    · rw [← hM2, upM_self, va_up_neq _ _ k2, upM_ne _ _ _ (by decide), upM_ne _ _ _ (by decide), upM_self, va_up_neq _ _ k1, upM_self, va_up_neq _ _ k2, b1 86 (by decide)]
  have hB2 : BC (bSt s) M2 := by
    refine ⟨fun r hr => ?_, fun i hi => ?_, by rw [← hM2]; rfl⟩
    · rw [← hM2, upM_ne _ _ _ (by decide), upM_ne _ _ _ (by decide), upM_self]
      show _ = (if r = s then (0 : Int) else -1)
      by_cases e : r = s
      · rw [if_pos e, e, va_up_self]
      · rw [if_neg e, va_up_neq _ _ e, upM_ne _ _ _ (by decide), upM_ne _ _ _ (by decide)]; exact b2 r hr
    · have hi' : i < 1 := hi
      have : i = 0 := by omega
      subst this
      rw [← hM2]; rfl
  refine c_spread48 hn hst he 257 0 (bSt s) M2 (by omega) (BI.st hs) (hG.fr hF2) hB2 (fun M' a1 a2 a3 => H M' (hF2.tr a1) ?_ a3)
  rw [a2, ← hM2]; rfl
end WALKC
