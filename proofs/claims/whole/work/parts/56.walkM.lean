/-! the reference's walk, with its ways -/
abbrev WF : Type := Nat → Int
def wVis (nev : Int) (cr row l : Nat) (b : BS) (w : WF) : WF :=
  if cr.testBit l = true ∧ ((row ^^^ 2 ^ l : Nat) : Int) ≠ nev then
    (if bF (bVis nev cr row l b) (row ^^^ 2 ^ l) = bF b row + 1 then
      upN w (row ^^^ 2 ^ l) (min ((if bF b (row ^^^ 2 ^ l) = -1 then 0 else w (row ^^^ 2 ^ l)) + w row) 1000000000)
    else w)
  else w
def wRow (nev : Int) (cr row : Nat) : Nat → Nat → BS → WF → WF
  | 0, _, _, w => w
  | j + 1, l, b, w => wRow nev cr row j (l + 1) (bVis nev cr row l b) (wVis nev cr row l b w)
def wGo (nev : Int) (can : Nat → Nat) (n : Nat) : Nat → Nat → BS → WF → WF
  | 0, _, _, w => w
  | j + 1, k, b, w => if k < bC b then wGo nev can n j (k + 1) (bRow nev (can (bM b k)) (bM b k) n 0 b) (wRow nev (can (bM b k)) (bM b k) n 0 b w) else w
def wfs (nev : Int) (can : Nat → Nat) (n s : Nat) : WF := wGo nev can n 257 0 (bSt s) (fun _ => 1)
def BR (b : BS) (w : WF) (M : Mem) : Prop := (∀ r, r < 256 → M 131 r = bF b r) ∧ (∀ i, i < bC b → M 133 i = (bM b i : Int)) ∧ M 98 69 = (bC b : Int) ∧ ∀ r, bF b r ≠ -1 → M 132 r = w r ∧ 0 ≤ w r ∧ w r ≤ 1000000000
/-- all but the walk's rows stays -/
def FrV (M M' : Mem) : Prop := (∀ a, a ≠ 98 → a ≠ 131 → a ≠ 132 → a ≠ 133 → M' a = M a) ∧ ∀ k, k ≠ 69 → M' 98 k = M 98 k
theorem FrV.rf (M : Mem) : FrV M M := ⟨fun _ _ _ _ _ => rfl, fun _ _ => rfl⟩
theorem FrV.tr {M M1 M2 : Mem} (h1 : FrV M M1) (h2 : FrV M1 M2) : FrV M M2 := ⟨fun a a1 a2 a3 a4 => (h2.1 a a1 a2 a3 a4).trans (h1.1 a a1 a2 a3 a4), fun k k1 => (h2.2 k k1).trans (h1.2 k k1)⟩
def GM (n : Nat) (may : Nat → Nat) (M : Mem) : Prop := M 98 12 = (n : Int) ∧ ∀ r, r < 2 ^ n → M 123 r = (may r : Int) ∧ may r < 256
theorem GM.fr {n : Nat} {may : Nat → Nat} {M M' : Mem} (h : GM n may M) (hF : FrV M M') : GM n may M' := by
  unfold GM
  rw [hF.2 12 (by decide), hF.1 123 (by decide) (by decide) (by decide) (by decide)]
  exact h
theorem BR.tk {n to : Nat} {fr : Int} {b : BS} {w : WF} {M : Mem} (hb : BI n b) (h : BR b w M) : BR (bTk to fr b) (upN w to 0) (upM (upM (upM (upM M 131 to fr) 132 to 0) 133 (bC b) (to : Int)) 98 69 ((bC b : Int) + 1)) := by
  obtain ⟨b1, b2, b3, b4⟩ := h
  refine ⟨fun r hr => ?_, fun i hi => ?_, ?_, fun r hr => ?_⟩
  · show va_up (M 131) to fr r = upN (bF b) to fr r
    by_cases e : r = to
    · rw [e, va_up_self, upN_self]
    · rw [va_up_neq _ _ e, upN_ne _ _ e]; exact b1 r hr
  · have hi' : i < bC b + 1 := hi
    show va_up (M 133) (bC b) (to : Int) i = ((upN (bM b) (bC b) to i : Nat) : Int)
    by_cases e : i = bC b
    · rw [e, va_up_self, upN_self]
    · rw [va_up_neq _ _ e, upN_ne _ _ e]; exact b2 i (by omega)
  · show (bC b : Int) + 1 = ((bC b + 1 : Nat) : Int)
    omega
  · have hr' : upN (bF b) to fr r ≠ -1 := hr
    show va_up (M 132) to 0 r = upN w to 0 r ∧ 0 ≤ upN w to 0 r ∧ upN w to 0 r ≤ 1000000000
    by_cases e : r = to
    · rw [e, va_up_self, upN_self]; exact ⟨rfl, by decide, by decide⟩
    · rw [upN_ne _ _ e] at hr'
      rw [va_up_neq _ _ e, upN_ne _ _ e]; exact b4 r hr'
theorem upN_up {g : Nat → Int} {k : Nat} {v v2 : Int} : upN (upN g k v) k v2 = upN g k v2 := funext fun i => by
  by_cases e : i = k
  · rw [e, upN_self, upN_self]
  · rw [upN_ne _ _ e, upN_ne _ _ e, upN_ne _ _ e]
section WALKM
variable {E : Scr} {n : Nat} {may : Nat → Nat} {nev : Int} {stuck loose : Nat}
theorem c_far183 {f : Mem → Prop} {M : Mem} {k row cr l to : Nat} {b : BS} {w : WF} (hn : n ≤ 8) (hb : BI n b) (hrow : bF b row ≠ -1) (hto : bF b to ≠ -1) (hne : row ≠ to) (hB : BR b w M)
    (H : ∀ M', FrV M M' → BR b (if bF b to = bF b row + 1 then upN w to (min (w to + w row) 1000000000) else w) M' → KW E mX11_layFar (qV f) M' 91 [(0, pR 98), (2, pI nev), (3, pI (stuck : Int)), (4, pI (loose : Int)), (5, pI (k : Int)), (6, pI (row : Int)), (7, pI (cr : Int)), (8, pI ((l : Int) + 1))] []) :
    KW E mX11_layFar (qV f) M 183 [(0, pR 98), (2, pI nev), (3, pI (stuck : Int)), (4, pI (loose : Int)), (5, pI (k : Int)), (6, pI (row : Int)), (7, pI (cr : Int)), (8, pI (l : Int)), (9, pI (to : Int))] [] := by
  have hp := pw8 hn
  have h1 := hb.had hrow
  have h2 := hb.had hto
  have hc := hb.cnt
  obtain ⟨b1, b2, b3, b4⟩ := id hB
  have w1 := b4 row hrow
  have w2 := b4 to hto
  have up : ∀ v : Int, 0 ≤ v ∧ v ≤ 1000000000 → FrV M (upM M 132 to v) ∧ BR b (upN w to v) (upM M 132 to v) := by
    intro v hv
    refine ⟨⟨fun a _ _ a3 _ => upM_ne _ _ _ a3, fun k _ => by rw [upM_ne _ _ _ (by decide)]⟩, b1, b2, b3, fun r hr => ?_⟩
    show va_up (M 132) to v r = upN w to v r ∧ _
    by_cases e : r = to
    · rw [e, va_up_self, upN_self]; exact ⟨rfl, hv⟩
    · rw [va_up_neq _ _ e, upN_ne _ _ e]; exact b4 r hr
  apply vX11_layFar_183
  rw [Int.toNat_natCast, Int.toNat_natCast, b1 to (by omega), b1 row (by omega), w1.1, w2.1]
  refine ⟨⟨by omega, by omega⟩, fun _ => ⟨⟨by omega, by omega⟩, fun _ => ⟨⟨by omega, by omega⟩, fun c => ?_, fun c => ⟨⟨by omega, by omega⟩, fun _ => ⟨⟨by omega, by omega⟩, fun _ => ⟨⟨by omega, by omega⟩, fun c2 => ⟨⟨by omega, by omega⟩, ?_⟩, fun c2 => ⟨⟨by omega, by omega⟩, fun _ => ⟨⟨by omega, by omega⟩, fun _ => ⟨⟨by omega, by omega⟩, ⟨by omega, by omega⟩, ?_⟩⟩⟩⟩⟩⟩⟩⟩⟩
  · rw [if_neg c] at H
    exact H M (FrV.rf M) hB
  · rw [if_pos c, show min (w to + w row) 1000000000 = 1000000000 by omega] at H
    exact H _ (up _ ⟨by decide, by decide⟩).1 (up _ ⟨by decide, by decide⟩).2
  · rw [if_pos c, show min (w to + w row) 1000000000 = w to + w row by omega] at H
    exact H _ (up _ ⟨by omega, by omega⟩).1 (up _ ⟨by omega, by omega⟩).2
theorem xor_ne {row l : Nat} : row ≠ row ^^^ 2 ^ l := by
  intro e
  have := congrArg (fun z => z.testBit l) e
  simp [Nat.testBit_xor, Nat.testBit_two_pow_self] at this
theorem c_far91 {f : Mem → Prop} {k row cr : Nat} (hn : n ≤ 8) (hcr : cr < 256) (hnev : iR nev) : ∀ (j l : Nat) (b : BS) (w : WF) (M : Mem), l + j = n → BI n b → bF b row ≠ -1 → GM n may M → BR b w M → (∀ M', FrV M M' → BR (bRow nev cr row j l b) (wRow nev cr row j l b w) M' → KW E mX11_layFar (qV f) M' 54 [(0, pR 98), (2, pI nev), (3, pI (stuck : Int)), (4, pI (loose : Int)), (5, pI ((k : Int) + 1))] []) →
    KW E mX11_layFar (qV f) M 91 [(0, pR 98), (2, pI nev), (3, pI (stuck : Int)), (4, pI (loose : Int)), (5, pI (k : Int)), (6, pI (row : Int)), (7, pI (cr : Int)), (8, pI (l : Int))] [] := by
  have hp := pw8 hn
  intro j
  induction j with
  | zero =>
    intro l b w M hl hb hr hG hB H
    apply vX11_layFar_91
    rw [hG.1]
    exact fun _ => ⟨⟨by omega, by omega⟩, fun _ => H M (FrV.rf M) hB, fun z => absurd z (by omega)⟩
  | succ j ih =>
    intro l b w M hl hb hr hG hB H
    have hh := hb.had hr
    have hc := hb.cnt
    have hv := hb.vis (nev := nev) (cr := cr) (l := l) (by omega) hr
    have hxl := xor_lt (l := l) hh.1 (by omega)
    have skip : ¬ (cr.testBit l = true ∧ ((row ^^^ 2 ^ l : Nat) : Int) ≠ nev) → KW E mX11_layFar (qV f) M 91 [(0, pR 98), (2, pI nev), (3, pI (stuck : Int)), (4, pI (loose : Int)), (5, pI (k : Int)), (6, pI (row : Int)), (7, pI (cr : Int)), (8, pI ((l : Int) + 1))] [] := by
      intro z
      have e1 : bVis nev cr row l b = b := by unfold bVis; rw [if_neg (fun q => z ⟨q.1, q.2.1⟩)]
      have e2 : wVis nev cr row l b w = w := by unfold wVis; rw [if_neg z]
      refine ih (l + 1) b w M (by omega) hb hr hG hB (fun M' a1 a2 => H M' a1 ?_)
      simp only [bRow, wRow]
      rw [e1, e2]
      exact a2
    apply vX11_layFar_91
    rw [hG.1, bOne_nat (by omega), bXor_nat (by omega) (pw31 (by omega))]
    refine fun _ => ⟨⟨by omega, by omega⟩, fun z => absurd z (by omega), fun _ => c_isOf (by omega) (by omega) ?_⟩
    rw [bt_tb]
    by_cases ht : cr.testBit l = true
    · rw [if_pos ht]
      rw [Int.toNat_natCast, Int.toNat_natCast, hB.1 _ (show row ^^^ 2 ^ l < 256 by omega), hB.1 row (by omega), hB.2.2.1]
      refine ⟨⟨by decide, by decide⟩, fun z => absurd z (by decide), fun _ => ⟨hnev, fun c => ⟨⟨by omega, by omega⟩, fun _ => ⟨fun c2 => ?_, fun c2 => ⟨⟨by omega, by omega⟩, fun _ => ⟨⟨by omega, by omega⟩, ⟨by omega, by omega⟩, ⟨by omega, by omega⟩, fun _ => ⟨⟨by omega, ?_⟩, fun _ => ⟨⟨by omega, by omega⟩, ?_⟩⟩⟩⟩⟩⟩, fun c => skip (fun z => z.2 c)⟩⟩
      · have hto : bF b (row ^^^ 2 ^ l) ≠ -1 := by omega
        have e1 : bVis nev cr row l b = b := by unfold bVis; rw [if_neg (fun q => hto q.2.2)]
        refine c_far183 hn hb hr hto xor_ne hB (fun M1 d1 d2 => ?_)
        refine ih (l + 1) _ _ M1 (by omega) hb hr (hG.fr d1) d2 (fun M' a1 a2 => H M' (d1.tr a1) ?_)
        simp only [bRow, wRow, wVis]
        rw [e1, if_pos ⟨ht, c⟩, if_neg hto]
        exact a2
      · have hm1 : bF b (row ^^^ 2 ^ l) = -1 := by
          by_cases z : bF b (row ^^^ 2 ^ l) = -1
          · exact z
          · have := (hb.had z).2.1; omega
        have := hb.less hxl hm1
        omega
      · have hm1 : bF b (row ^^^ 2 ^ l) = -1 := by
          by_cases z : bF b (row ^^^ 2 ^ l) = -1
          · exact z
          · have := (hb.had z).2.1; omega
        have e1 : bVis nev cr row l b = bTk (row ^^^ 2 ^ l) (bF b row + 1) b := by unfold bVis; rw [if_pos ⟨ht, c, hm1⟩]
        rw [Int.toNat_natCast]
        have hB2 := BR.tk (to := row ^^^ 2 ^ l) (fr := bF b row + 1) hb hB
        have hF2 : FrV M (upM (upM (upM (upM M 131 (row ^^^ 2 ^ l) (bF b row + 1)) 132 (row ^^^ 2 ^ l) 0) 133 (bC b) ((row ^^^ 2 ^ l : Nat) : Int)) 98 69 ((bC b : Int) + 1)) := ⟨fun a a1 a2 a3 a4 => by rw [upM_ne _ _ _ a1, upM_ne _ _ _ a4, upM_ne _ _ _ a3, upM_ne _ _ _ a2], fun q hq => by rw [upM_self, va_up_neq _ _ hq, upM_ne _ _ _ (by decide), upM_ne _ _ _ (by decide), upM_ne _ _ _ (by decide)]⟩
        rw [e1] at hv
        have hrow2 : bF (bTk (row ^^^ 2 ^ l) (bF b row + 1) b) row = bF b row := hv.2
        have hto2 : bF (bTk (row ^^^ 2 ^ l) (bF b row + 1) b) (row ^^^ 2 ^ l) = bF b row + 1 := upN_self _ _ _
        refine c_far183 hn hv.1 (by rw [hrow2]; exact hr) (by rw [hto2]; omega) xor_ne hB2 (fun M1 d1 d2 => ?_)
        refine ih (l + 1) _ _ M1 (by omega) hv.1 (by rw [hrow2]; exact hr) ((hG.fr hF2).fr d1) d2 (fun M' a1 a2 => H M' ((hF2.tr d1).tr a1) ?_)
        simp only [bRow, wRow, wVis]
        rw [e1, if_pos ⟨ht, c⟩, hto2, if_pos rfl, if_pos hm1]
        rw [hrow2, hto2, if_pos rfl, upN_self, upN_ne _ _ xor_ne, upN_up] at a2
        exact a2
    · rw [if_neg ht]
      exact ⟨⟨by decide, by decide⟩, fun _ => skip (fun z => ht z.1), fun z => absurd rfl z⟩
end WALKM
