/-! ask of the class; notes of the reference -/
section NOTESM
variable {E : Scr} {law : Lw} {may : Nat → Nat} {rust : Int} {n : Nat} {s : NS}
theorem yes_n {ft row : Nat} (hn : n ≤ 8) (hf : ft < 2 ^ (2 * n + 1)) : yesN ft row = cnF (fun le => ft.testBit le && letB le row) (2 * n + 1) := by
  have h := cnF_ext (p := fun le => ft.testBit le && letB le row) (a := 2 * n + 1) (fun i hi => by show (ft.testBit i && _) = false; rw [tb_ge hf hi]; rfl) (17 - (2 * n + 1))
  rw [show 2 * n + 1 + (17 - (2 * n + 1)) = 17 by omega] at h
  exact h
theorem wor_b {ft row : Nat} : 0 ≤ worN ft row ∧ worN ft row ≤ (pop ft : Int) := by
  have := yes_b (ft := ft) (row := row)
  unfold worN
  omega
theorem c_askC {f : Int → Mem → Prop} {M : Mem} {x w : Int} (hx : iR x) (hw2 : iR w) (hw : wfNo n s) (hD : CD n may law rust M) (hN : NC s M) (H : ∀ M', FrO M M' → NC s M' → f (askY n x w s) M') : CI E mX10_ask [pR 0, pI x, pI w] M f := by
  have hn := hD.2.1
  have hp := pw8 hn
  unfold askY at H
  refine vX10_ask_0 _ _ (c_has (Or.inr rfl) hx hD.1 hn (fun l el hl => ⟨⟨by decide, by decide⟩, fun z => absurd z (by decide), fun _ => ⟨hw2, fun c => ?_, fun c => ⟨hw2, fun c2 => ?_, fun c2 => ?_⟩⟩⟩) (fun z => ⟨⟨by decide, by decide⟩, fun _ => ?_, fun z => absurd rfl z⟩))
  · rw [if_neg (by omega)] at H; exact H M (FrO.rf M) hN
  · subst el
    rw [if_pos ⟨⟨by omega, by omega⟩, by omega, by omega⟩, Int.toNat_natCast] at H
    rw [hD.1]
    have hft := nFit_b (s := s) (l := l) hn
    refine fun _ => vX3_bestAsked_0 _ _ _ (c_fitting hl hn hw hN (fun M1 b1 b2 => c_bitCount hft.2 ?_))
    have HH := H M1 b1 b2
    have hpf : pop (nFit n s l) ≤ 17 := popN_le 17 _
    generalize nFit n s l = ft at HH hft hpf
    have inner : ∀ (x6 : Int) (x7 r : Nat), r < 2 ^ n → (0 ≤ x6 ∧ x6 ≤ 18) → (worN ft r ≥ x6 → KW E mX3_bestAsked (qI f) M1 27 [(2, pI (n : Int)), (3, pI w), (4, pI (ft : Int)), (5, pI (pop ft : Int)), (6, pI x6), (7, pI (x7 : Int)), (8, pI ((r : Int) + 1))] []) → (worN ft r < x6 → KW E mX3_bestAsked (qI f) M1 27 [(2, pI (n : Int)), (3, pI w), (4, pI (ft : Int)), (5, pI (pop ft : Int)), (6, pI (worN ft r)), (7, pI (r : Int)), (8, pI ((r : Int) + 1))] []) → ∀ (j le : Nat), le + j = 2 * n + 1 → KW E mX3_bestAsked (qI f) M1 41 [(2, pI (n : Int)), (3, pI w), (4, pI (ft : Int)), (5, pI (pop ft : Int)), (6, pI x6), (7, pI (x7 : Int)), (8, pI (r : Int)), (9, pI (cnF (fun le => ft.testBit le && letB le r) le : Int)), (10, pI (le : Int))] [] := by
      intro x6 x7 r hr h6 H1 H2 j
      induction j with
      | zero =>
        intro le hj
        have : le = 2 * n + 1 := by omega
        subst this
        rw [← yes_n hn hft.1]
        have hy := yes_b (ft := ft) (row := r)
        have ew : max (yesN ft r : Int) ((pop ft : Int) - (yesN ft r : Int)) = worN ft r := rfl
        apply vX3_bestAsked_41
        rw [ew]
        exact ⟨⟨by omega, by omega⟩, ⟨by omega, by omega⟩, fun _ => ⟨⟨by omega, by omega⟩, ⟨by omega, by omega⟩, ⟨by omega, by omega⟩, H1, H2⟩, fun z => absurd z (by omega)⟩
      | succ j ih =>
        intro le hj
        have nx := ih (le + 1) (by omega)
        have e1 : cnF (fun le => ft.testBit le && letB le r) (le + 1) = cnF (fun le => ft.testBit le && letB le r) le + if (ft.testBit le && letB le r) = true then 1 else 0 := rfl
        rw [e1] at nx
        apply vX3_bestAsked_41
        rw [bBit_nat (by omega) (by omega), bt_tb]
        refine ⟨⟨by omega, by omega⟩, ⟨by omega, by omega⟩, fun z => absurd z (by omega), fun _ => ?_⟩
        cases ht : ft.testBit le
        · rw [ht, Bool.false_and, if_neg (by decide)] at nx
          exact ⟨fun _ => nx, fun z => absurd rfl z⟩
        · refine ⟨fun z => absurd z (by decide), fun _ => c_lets (by omega) (by omega) ?_⟩
          cases hb : letB le r
          · rw [ht, hb, Bool.true_and, if_neg (by decide)] at nx
            exact ⟨⟨by decide, by decide⟩, fun _ => nx, fun z => absurd rfl z⟩
          · rw [ht, hb, Bool.true_and, if_pos rfl] at nx
            exact ⟨⟨by decide, by decide⟩, fun z => absurd z (by decide), fun _ => nx⟩
    have outer : ∀ (j r : Nat) (v : Nat × Int), r + j = 2 ^ n → (0 < r → 0 ≤ v.2) → (-1 ≤ v.2 ∧ v.2 ≤ 17) → f (if w = 0 then ((akF ft j r v).1 : Int) else (akF ft j r v).2) M1 → KW E mX3_bestAsked (qI f) M1 27 [(2, pI (n : Int)), (3, pI w), (4, pI (ft : Int)), (5, pI (pop ft : Int)), (6, pI (if v.2 < 0 then (pop ft : Int) + 1 else v.2)), (7, pI (v.1 : Int)), (8, pI (r : Int))] [] := by
      intro j
      induction j with
      | zero =>
        intro r v hj h0 hv hf
        have hpos := Nat.two_pow_pos n
        apply vX3_bestAsked_27
        rw [bOne_nat (by omega), if_neg (by have := h0 (by omega); omega)]
        refine ⟨⟨by omega, by omega⟩, fun _ => ⟨hw2, fun c3 => ?_, fun c3 => ?_⟩, fun z => absurd z (by omega)⟩
        · rw [if_neg c3] at hf; exact hf
        · rw [if_pos c3] at hf; exact hf
      | succ j ih =>
        intro r v hj h0 hv hf
        have wb := wor_b (ft := ft) (row := r)
        simp only [akF] at hf
        apply vX3_bestAsked_27
        rw [bOne_nat (by omega)]
        refine ⟨⟨by omega, by omega⟩, fun z => absurd z (by omega), fun _ => ?_⟩
        refine inner _ v.1 r (by omega) (by split <;> omega) (fun c3 => ?_) (fun c3 => ?_) (2 * n + 1) 0 (Nat.zero_add _)
        · have hc : ¬ (v.2 < 0 ∨ worN ft r < v.2) := by
            rintro (z | z)
            · rw [if_pos z] at c3; omega
            · rw [if_neg (by omega)] at c3; omega
          rw [if_neg hc] at hf
          exact ih (r + 1) v (by omega) (fun _ => by omega) hv hf
        · have hc : v.2 < 0 ∨ worN ft r < v.2 := by
            by_cases z : v.2 < 0
            · exact Or.inl z
            · rw [if_neg z] at c3; exact Or.inr c3
          rw [if_pos hc] at hf
          have := ih (r + 1) (r, worN ft r) (by omega) (fun _ => wb.1) ⟨by show -1 ≤ worN ft r; omega, by show worN ft r ≤ 17; omega⟩ hf
          rw [if_neg (by show ¬ worN ft r < 0; omega)] at this
          exact this
    have := outer (2 ^ n) 0 (0, -1) (Nat.zero_add _) (fun z => absurd z (by omega)) ⟨by decide, by decide⟩ HH
    exact this
  · rw [if_neg (by omega)] at H; exact H M (FrO.rf M) hN
  · rw [if_neg (fun q => z q.1)] at H; exact H M (FrO.rf M) hN
theorem c_notes1 {f : Int → Mem → Prop} {M : Mem} {a b c a1 b1 : Int} (ha : iR a1) (hb : iR b1) (hc : iR c) (h1 : a1 = if a = -1 then -1 else b) (h2 : b1 = if a = -1 then b else a) (hw : wfNo n s) (hN : NM s M) (H : ∀ M', FrJ M M' → NM (nAdd a b c s).2 M' → f (nAdd a b c s).1 M') : CI E mX11_notes1 [pR 98, pI a1, pI b1, pI c] M f := by
  have h3 := hw.1
  unfold nAdd at H
  apply vX11_notes1_0
  rw [hN.1]
  refine fun _ => ⟨fun c1 => ?_, fun c1 => ?_⟩
  · rw [if_neg (by omega)] at H
    refine fun _ => ⟨⟨by omega, by omega⟩, ha, ⟨by omega, by omega⟩, hb, ⟨by omega, by omega⟩, hc, fun _ => ⟨⟨by omega, by omega⟩, fun _ => ?_⟩⟩
    rw [show (3 * (nSz s : Int)).toNat = 3 * nSz s by omega, show (3 * (nSz s : Int) + 1).toNat = 3 * nSz s + 1 by omega, show (3 * (nSz s : Int) + 2).toNat = 3 * nSz s + 2 by omega, show (nSz s : Int) + 1 - 1 = (nSz s : Int) by omega]
    refine H _ ⟨fun q q1 q2 q3 => by rw [upM_ne _ _ _ q1, upM_ne _ _ _ q2, upM_ne _ _ _ q2, upM_ne _ _ _ q2], fun k k1 k2 k3 => by rw [upM_self, va_up_neq _ _ k2, upM_ne _ _ _ (by decide), upM_ne _ _ _ (by decide), upM_ne _ _ _ (by decide)]⟩ ⟨rfl, hN.2.1, fun i hi => ?_⟩
    have hi' : i < nSz s + 1 := hi
    rw [upM_ne _ _ _ (by decide), upM_self, upM_self, upM_self]
    show va_up (va_up (va_up (M 140) (3 * nSz s) a1) (3 * nSz s + 1) b1) (3 * nSz s + 2) c (3 * i) = (if upN (nLa s) (nSz s) a i = -1 then -1 else upN (nSu s) (nSz s) b i) ∧ va_up (va_up (va_up (M 140) (3 * nSz s) a1) (3 * nSz s + 1) b1) (3 * nSz s + 2) c (3 * i + 1) = (if upN (nLa s) (nSz s) a i = -1 then upN (nSu s) (nSz s) b i else upN (nLa s) (nSz s) a i) ∧ va_up (va_up (va_up (M 140) (3 * nSz s) a1) (3 * nSz s + 1) b1) (3 * nSz s + 2) c (3 * i + 2) = upN (nCo s) (nSz s) c i
    by_cases e : i = nSz s
    · rw [e, upN_self, upN_self, upN_self, va_up_self, va_up_neq _ _ (by omega), va_up_neq _ _ (by omega), va_up_self, va_up_neq _ _ (by omega), va_up_self]
      exact ⟨h1, h2, rfl⟩
    · rw [upN_ne _ _ e, upN_ne _ _ e, upN_ne _ _ e, va_up_neq _ _ (by omega), va_up_neq _ _ (by omega), va_up_neq _ _ (by omega), va_up_neq _ _ (by omega), va_up_neq _ _ (by omega), va_up_neq _ _ (by omega), va_up_neq _ _ (by omega), va_up_neq _ _ (by omega), va_up_neq _ _ (by omega)]
      exact hN.2.2 i (by omega)
  · rw [if_pos (by omega)] at H
    exact H M (FrJ.rf M) hN
theorem c_noteM {f : Int → Mem → Prop} {M : Mem} {x l c : Int} (hx : iR x) (hl : iR l) (hc : zR c) (hw : wfNo n s) (hD : MD n may law rust M) (hN : NM s M) (H : ∀ M', FrJ M M' → NM (notY n x l c s).2 M' → f (notY n x l c s).1 M') : CI E mX11_note [pR 98, pI x, pI l, pI c] M f := by
  have hn := hD.2.1
  have hF0 := FrJ.th M 0
  unfold notY at H
  refine vX11_note_0 _ _ _ (c_isRow hx (n := n) (by rw [hF0.2 12 (by decide) (by decide) (by decide)]; exact hD.1) hn (fun r er hr => ⟨⟨by decide, by decide⟩, fun z => absurd z (by decide), fun _ => c_isLatch hl (n := n) (by rw [hF0.2 12 (by decide) (by decide) (by decide)]; exact hD.1) (fun q eq hq => ⟨⟨by decide, by decide⟩, fun z => absurd z (by decide), fun _ => ⟨z2i hc, fun c1 => ?_, fun c1 => ?_⟩⟩) (fun z => ⟨⟨by decide, by decide⟩, fun _ => ?_, fun z => absurd rfl z⟩)⟩) (fun z => ⟨⟨by decide, by decide⟩, fun _ => ?_, fun z => absurd rfl z⟩))
  · rw [if_pos (by omega)] at H
    subst c1
    exact c_notes1 (a := l) (b := x) hx hl ⟨by decide, by decide⟩ (by rw [if_neg (by omega)]) (by rw [if_neg (by omega)]) hw (hN.th 0) (fun M' a1 a2 => H M' (hF0.tr a1) a2)
  · rw [if_pos (by omega)] at H
    have : c = 1 := by rcases hc with z | z
                       · exact absurd z c1
                       · exact z
    subst this
    exact c_notes1 (a := l) (b := x) hx hl ⟨by decide, by decide⟩ (by rw [if_neg (by omega)]) (by rw [if_neg (by omega)]) hw (hN.th 0) (fun M' a1 a2 => H M' (hF0.tr a1) a2)
  · rw [if_neg (fun q => z q.2)] at H
    exact H _ hF0 (hN.th 0)
  · rw [if_neg (fun q => z q.1)] at H
    exact H _ hF0 (hN.th 0)
theorem c_strikeM {f : Int → Mem → Prop} {M : Mem} {x : Int} (hx : iR x) (hw : wfNo n s) (hN : NM s M) (H : ∀ M', FrJ M M' → NM (strY x s).2 M' → f (strY x s).1 M') : CI E mX11_strike [pR 98, pI x] M f := by
  have hF0 := FrJ.th M 0
  unfold strY at H
  apply vX11_strike_0
  rw [hN.1]
  refine ⟨hx, fun c => ?_, fun c => fun _ => ⟨hx, fun c2 => ?_, fun c2 => ?_⟩⟩
  · rw [if_neg (by omega)] at H; exact H _ hF0 (hN.th 0)
  · rw [if_pos (by omega)] at H
    exact c_notes1 (a := -1) (b := x) ⟨by decide, by decide⟩ hx ⟨by decide, by decide⟩ (by rw [if_pos rfl]) (by rw [if_pos rfl]) hw (hN.th 0) (fun M' a1 a2 => H M' (hF0.tr a1) a2)
  · rw [if_neg (by omega)] at H; exact H _ hF0 (hN.th 0)
theorem c_knownM {f : Int → Mem → Prop} {M : Mem} {x : Int} (hx : iR x) (hw : wfNo n s) (hN : NM s M) (H : ∀ M', FrJ M M' → NM (knoY x s).2 M' → f (knoY x s).1 M') : CI E mX11_known [pR 98, pI x] M f := by
  have hF0 := FrJ.th M 0
  have h1 := hw.1
  unfold knoY at H
  apply vX11_known_0
  rw [hN.1]
  refine fun _ => c_isIn hx ⟨by decide, by decide⟩ ⟨by omega, by omega⟩ (fun c => ⟨⟨by decide, by decide⟩, fun _ => ⟨hx, ?_⟩, fun z => absurd z (by decide)⟩) (fun c => ⟨⟨by decide, by decide⟩, fun z => absurd rfl z, fun _ => ?_⟩)
  · rw [if_pos (by omega)] at H
    exact H _ (hF0.tr ⟨fun q q1 _ _ => upM_ne _ _ _ q1, fun k _ _ k3 => by rw [upM_self, va_up_neq _ _ k3]⟩) ⟨hN.1, rfl, hN.2.2⟩
  · rw [if_neg (by omega)] at H; exact H _ hF0 (hN.th 0)
theorem c_knownBy {f : Int → Mem → Prop} {M : Mem} (hw : wfNo n s) (hN : NM s M) (H : f (nCt s : Int) M) : CI E mX11_knownBy [pR 98] M f := by
  have h2 := hw.2.1
  unfold nCt at H
  apply vX11_knownBy_0
  rw [hN.1, hN.2.1]
  refine fun _ => ⟨fun c => fun _ => ?_, fun c => fun _ => ?_⟩
  · rw [if_neg (by omega), show (((nKb s).toNat : Nat) : Int) = nKb s by omega] at H
    exact H
  · rw [if_pos (by omega)] at H
    exact H
theorem c_isBy {f : Int → Mem → Prop} {M : Mem} {le row : Nat} (hle : le ≤ 17) (hr : row < 2147483648) (H : f (bI (letB le row)) M) : CI E mX11_isBy [pI (le : Int), pI (row : Int)] M f := by
  refine vX11_isBy_0 _ _ ⟨⟨by omega, by omega⟩, fun c => ?_, fun c => ⟨⟨by omega, by omega⟩, ?_⟩⟩
  · have : letB le row = true := by
      unfold letB
      rw [decide_eq_true (show le = 0 by omega), Bool.true_or]
    rw [this] at H; exact H
  · have e1 : Int.tdiv ((le : Int) - 1) 2 = (((le - 1) / 2 : Nat) : Int) := by rw [show (le : Int) - 1 = ((le - 1 : Nat) : Int) by omega]; rfl
    have e2 : Int.tmod (le : Int) 2 = ((le % 2 : Nat) : Int) := rfl
    rw [e1, e2]
    have hlt := bt_lt row ((le - 1) / 2)
    have yes : bt row ((le - 1) / 2) = le % 2 → f 1 M := by
      intro z
      have : letB le row = true := by
        unfold letB
        rw [decide_eq_true z, Bool.or_true]
      rw [this] at H; exact H
    have no : bt row ((le - 1) / 2) ≠ le % 2 → f 0 M := by
      intro z
      have : letB le row = false := by
        unfold letB
        rw [decide_eq_false (by omega), decide_eq_false z]; rfl
      rw [this] at H; exact H
    refine c_isOf hr (by omega) ⟨⟨by omega, by omega⟩, ⟨by omega, by omega⟩, fun c2 => ⟨⟨by omega, by omega⟩, fun c3 => no (by omega), fun c3 => yes (by omega)⟩, fun c2 => ⟨⟨by omega, by omega⟩, fun c3 => no (by omega), fun c3 => yes (by omega)⟩⟩
theorem c_fitsOf {f : Int → Mem → Prop} {M : Mem} {l : Nat} (hln : l < n) (hn : n ≤ 8) (hw : wfNo n s) (h12 : M 98 12 = (n : Int)) (hN : NM s M) (H : ∀ M', FrJ M M' → NM s M' → f (nFit n s l : Int) M') : CI E mX11_fitsOf [pR 98, pI (l : Int)] M f := by
  have hp := pw8 hn
  have hc := nCt_b hw
  have h1 := hw.1
  have nmf : ∀ M1 : Mem, (∀ a, a ≠ 141 → M1 a = M a) → NM s M1 := fun M1 e => by
    unfold NM
    rw [e 98 (by decide), e 140 (by decide)]
    exact hN
  have lst : ∀ M1 : Mem, (∀ a, a ≠ 141 → M1 a = M a) → (∀ i, i < nCt s → M1 141 i = bI (!nSt s i)) → ∀ (j le t : Nat), le + j = 2 * n + 1 → t < 2 ^ le → nFit n s l = ftF (ftP s l) j le t → KW E mX11_fitsOf (qI f) M1 80 [(0, pR 98), (1, pI (l : Int)), (2, pI (t : Int)), (3, pI (le : Int))] [] := by
    intro M1 e1 e2
    have hN1 := nmf M1 e1
    have HH := H M1 ⟨fun a _ _ a3 => e1 a a3, fun k _ _ _ => by rw [e1 98 (by decide)]⟩ hN1
    intro j
    induction j with
    | zero =>
      intro le t hj ht e
      have e' : nFit n s l = t := e
      rw [e'] at HH
      apply vX11_fitsOf_80
      rw [e1 98 (by decide), h12]
      exact fun _ => ⟨⟨by omega, by omega⟩, ⟨by omega, by omega⟩, fun _ => HH, fun z => absurd z (by omega)⟩
    | succ j ih =>
      intro le t hj ht e
      have hpl : 2 ^ le < 2 ^ (le + 1) := Nat.pow_lt_pow_right (by decide) (by omega)
      have hpl2 : 2 ^ (le + 1) ≤ 2 ^ 17 := Nat.pow_le_pow_right (by decide) (by omega)
      simp only [ftF] at e
      have inn : ¬ (0 < le ∧ (le - 1) / 2 = l) → ∀ (j2 k : Nat), k + j2 = nCt s → KW E mX11_fitsOf (qI f) M1 112 [(0, pR 98), (1, pI (l : Int)), (2, pI (t : Int)), (3, pI (le : Int)), (4, pI (bI (agP s (nSt s) l le k))), (5, pI (k : Int))] [] := by
        intro hz j2
        have ep : ftP s l le = agP s (nSt s) l le (nCt s) := by unfold ftP; rw [decide_eq_false hz]; rfl
        induction j2 with
        | zero =>
          intro k hk
          have : k = nCt s := by omega
          subst this
          refine vX11_fitsOf_112 _ _ _ _ _ (c_knownBy hw hN1 ⟨⟨by omega, by omega⟩, ⟨by omega, by omega⟩, fun _ => ?_, fun z => absurd z (by omega)⟩)
          rw [bOne_nat (by omega), bOr_nat (by omega) (by omega), show bOr (t : Int) 0 = (t : Int) by have := bOr_nat (a := t) (b := 0) (by omega) (by decide); rw [Nat.or_zero] at this; exact this]
          cases ha : agP s (nSt s) l le (nCt s)
          · rw [ep, ha, if_neg (by decide)] at e
            exact ⟨⟨by decide, by decide⟩, fun _ => ih (le + 1) t (by omega) (by omega) e, fun z => absurd rfl z⟩
          · rw [ep, ha, if_pos rfl] at e
            exact ⟨⟨by decide, by decide⟩, fun z => absurd z (by decide), fun _ => ih (le + 1) _ (by omega) (Nat.or_lt_two_pow (by omega) hpl) e⟩
        | succ j2 ih2 =>
          intro k hk
          have hNk := hN1.2.2 k (by omega)
          have hwi := hw.2.2 k (by omega)
          have nx := ih2 (k + 1) (by omega)
          have ea : agP s (nSt s) l le (k + 1) = (agP s (nSt s) l le k && okN s (nSt s) l le k) := rfl
          rw [ea] at nx
          have same : okN s (nSt s) l le k = true → KW E mX11_fitsOf (qI f) M1 112 [(0, pR 98), (1, pI (l : Int)), (2, pI (t : Int)), (3, pI (le : Int)), (4, pI (bI (agP s (nSt s) l le k))), (5, pI ((k : Int) + 1))] [] := by
            intro z
            rw [z, Bool.and_true] at nx
            exact nx
          refine vX11_fitsOf_112 _ _ _ _ _ (c_knownBy hw hN1 ?_)
          rw [Int.toNat_natCast, show (3 * (k : Int)).toNat = 3 * k by omega, show (3 * (k : Int) + 1).toNat = 3 * k + 1 by omega, show (3 * (k : Int) + 2).toNat = 3 * k + 2 by omega, e2 k (by omega), hNk.1, hNk.2.1]
          have hrg : iR (bI (agP s (nSt s) l le k)) := by cases agP s (nSt s) l le k <;> exact ⟨by decide, by decide⟩
          refine ⟨⟨by omega, by omega⟩, ⟨by omega, by omega⟩, fun z => absurd z (by omega), fun _ => ⟨⟨by omega, by omega⟩, fun _ => ⟨fun c => ?_, fun c => ⟨⟨by omega, by omega⟩, fun _ => ⟨fun c2 => ?_, fun c2 => ⟨⟨by omega, by omega⟩, fun _ => ⟨⟨by omega, by omega⟩, fun c3 => ⟨hrg, fun c4 => ?_, fun c4 => ⟨⟨by omega, by omega⟩, fun _ => ?_⟩⟩, fun c3 => ?_⟩⟩⟩⟩⟩⟩⟩
          · have hs : nSt s k = true := by
              cases z : nSt s k
              · rw [z] at c; exact absurd c (by decide)
              · rfl
            exact same (by unfold okN; rw [hs]; simp)
          · have hla : nLa s k = -1 := by
              by_cases z : nLa s k = -1
              · exact z
              · rw [if_neg z] at c2; omega
            exact same (by unfold okN; rw [decide_eq_false (by omega)]; rfl)
          · have ha : agP s (nSt s) l le k = false := by
              cases z : agP s (nSt s) l le k
              · rfl
              · rw [z] at c4; exact absurd c4 (by decide)
            rw [ha, Bool.false_and] at nx
            exact nx
          · have ha : agP s (nSt s) l le k = true := by
              cases z : agP s (nSt s) l le k
              · rw [z] at c4; exact absurd rfl c4
              · rfl
            have hla : nLa s k ≠ -1 := fun z => by rw [if_pos z] at c2; omega
            rw [if_neg hla] at c3 ⊢
            have hs : nSt s k = false := by
              cases z : nSt s k
              · rfl
              · rw [z] at c; exact absurd rfl c
            rw [ha, Bool.true_and] at nx
            obtain ⟨row, er⟩ : ∃ row : Nat, nSu s k = (row : Int) := ⟨(nSu s k).toNat, by omega⟩
            rw [er]
            refine c_isBy (by omega) (by omega) ⟨⟨by omega, by omega⟩, ?_⟩
            rw [hNk.2.2]
            have eo : okN s (nSt s) l le k = decide (bI (letB le row) = nCo s k) := by unfold okN; rw [er, Int.toNat_natCast, decide_eq_true c3, hs]; simp
            rw [eo] at nx
            have hrg2 : iR (bI (letB le row)) := by cases letB le row <;> exact ⟨by decide, by decide⟩
            have hco : nCo s k = 0 ∨ nCo s k = 1 := by
              rcases hwi with z | z
              · exact absurd z.1 hla
              · exact z.2.2.2.2
            have hlb : bI (letB le row) = 0 ∨ bI (letB le row) = 1 := by cases letB le row <;> simp [bI]
            refine fun _ => ⟨fun c5 => ⟨hrg2, fun c6 => ?_, fun c6 => ?_⟩, fun c5 => ⟨hrg2, fun c6 => ?_, fun c6 => ?_⟩⟩
            · rw [decide_eq_false (by omega)] at nx; exact nx
            · rw [decide_eq_true (by omega)] at nx; exact nx
            · rw [decide_eq_false (by omega)] at nx; exact nx
            · rw [decide_eq_true (by omega)] at nx; exact nx
          · have hla : nLa s k ≠ -1 := fun z => by rw [if_pos z] at c2; omega
            rw [if_neg hla] at c3
            exact same (by unfold okN; rw [decide_eq_false c3]; rfl)
      have own : (le : Int) ≤ 0 ∨ Int.tdiv ((le : Int) - 1) 2 ≠ (l : Int) → KW E mX11_fitsOf (qI f) M1 112 [(0, pR 98), (1, pI (l : Int)), (2, pI (t : Int)), (3, pI (le : Int)), (4, pI 1), (5, pI 0)] [] := by
        intro z
        have hz : ¬ (0 < le ∧ (le - 1) / 2 = l) := by
          rintro ⟨z1, z2⟩
          have e1 : Int.tdiv ((le : Int) - 1) 2 = (((le - 1) / 2 : Nat) : Int) := by rw [show (le : Int) - 1 = ((le - 1 : Nat) : Int) by omega]; rfl
          rw [e1] at z
          omega
        exact inn hz _ 0 (Nat.zero_add _)
      have e1' : 0 < le → Int.tdiv ((le : Int) - 1) 2 = (((le - 1) / 2 : Nat) : Int) := fun z => by rw [show (le : Int) - 1 = ((le - 1 : Nat) : Int) by omega]; rfl
      apply vX11_fitsOf_80
      rw [e1 98 (by decide), h12]
      refine fun _ => ⟨⟨by omega, by omega⟩, ⟨by omega, by omega⟩, fun z => absurd z (by omega), fun _ => ⟨⟨by omega, by omega⟩, fun c => own (Or.inl c), fun c => ⟨⟨by omega, by omega⟩, ?_, ⟨by omega, by omega⟩, fun c2 => own (Or.inr c2), fun c2 => ?_⟩⟩⟩
      · rw [e1' (by omega)]; exact ⟨by omega, by omega⟩
      · rw [e1' (by omega)] at c2
        have ep : ftP s l le = false := by unfold ftP; rw [decide_eq_true ⟨by omega, by omega⟩]; rfl
        rw [ep, if_neg (by decide)] at e
        exact ih (le + 1) t (by omega) (by omega) e
  have loop2 : ∀ (i : Nat) (h : Nat → Bool) (M1 : Mem), i ≤ nCt s → (∀ a, a ≠ 141 → M1 a = M a) → (∀ q, q < nCt s → M1 141 q = bI (!h q)) → stF s i h = nSt s → KW E mX11_fitsOf (qI f) M1 30 [(0, pR 98), (1, pI (l : Int)), (2, pI ((i : Int) - 1))] [] := by
    intro i
    induction i with
    | zero =>
      intro h M1 hi e1 e2 e3
      have e3' : h = nSt s := e3
      exact vX11_fitsOf_30 _ _ ⟨⟨by decide, by decide⟩, fun _ => lst M1 e1 (by rw [← e3']; exact e2) (2 * n + 1) 0 0 (Nat.zero_add _) (by decide) rfl, fun z => absurd z (by decide)⟩
    | succ i ih =>
      intro h M1 hi e1 e2 e3
      have hNi := (nmf M1 e1).2.2 i (by omega)
      have hwi := hw.2.2 i (by omega)
      simp only [stF] at e3
      apply vX11_fitsOf_30
      rw [show ((i + 1 : Nat) : Int) - 1 = (i : Int) by omega, Int.toNat_natCast, show (i : Int) + (-1) = (i : Int) - 1 by omega, show (3 * (i : Int)).toNat = 3 * i by omega, show (3 * (i : Int) + 1).toNat = 3 * i + 1 by omega, e2 i (by omega), hNi.1, hNi.2.1]
      refine ⟨⟨by omega, by omega⟩, fun z => absurd z (by omega), fun _ => ⟨⟨by omega, by omega⟩, fun _ => ⟨fun c => ?_, fun c => ⟨⟨by omega, by omega⟩, fun _ => ⟨fun c2 => ?_, fun c2 => ⟨⟨by omega, by omega⟩, fun _ => ?_⟩⟩⟩⟩⟩⟩
      · have hz : h i = true := by
          cases z : h i
          · rw [z] at c; exact absurd c (by decide)
          · rfl
        rw [if_neg (fun z => by rw [hz] at z; exact absurd z.2 (by decide))] at e3
        exact ih h M1 (by omega) e1 e2 e3
      · have hla : nLa s i ≠ -1 := fun z => by rw [if_pos z] at c2; omega
        rw [if_neg (fun z => hla z.1)] at e3
        exact ih h M1 (by omega) e1 e2 e3
      · have hla : nLa s i = -1 := by
          by_cases z : nLa s i = -1
          · exact z
          · rw [if_neg z] at c2; omega
        have hz : h i = false := by
          cases z : h i
          · rfl
          · rw [z] at c; exact absurd rfl c
        rw [if_pos ⟨hla, hz⟩] at e3
        rw [if_pos hla]
        refine ⟨⟨by omega, by omega⟩, ?_⟩
        refine ih _ _ (by omega) (fun a a1 => by rw [upM_ne _ _ _ a1]; exact e1 a a1) (fun q hq => ?_) e3
        rw [upM_self]
        by_cases e : q = (nSu s i).toNat
        · rw [e, va_up_self, upN_self]; rfl
        · rw [va_up_neq _ _ e, upN_ne _ _ e]; exact e2 q hq
  have loop : ∀ (j k : Nat) (M1 : Mem), k + j = nCt s → (∀ a, a ≠ 141 → M1 a = M a) → (∀ q, q < k → M1 141 q = 1) → KW E mX11_fitsOf (qI f) M1 2 [(0, pR 98), (1, pI (l : Int)), (2, pI (k : Int))] [] := by
    intro j
    induction j with
    | zero =>
      intro k M1 hk e1 e2
      have hN1 := nmf M1 e1
      refine vX11_fitsOf_2 _ _ (c_knownBy hw hN1 ⟨⟨by omega, by omega⟩, ⟨by omega, by omega⟩, fun _ => c_knownBy hw hN1 ?_, fun z => absurd z (by omega)⟩)
      exact loop2 _ (fun _ => false) M1 (Nat.le_refl _) e1 (fun q hq => e2 q (by omega)) rfl
    | succ j ih =>
      intro k M1 hk e1 e2
      have hN1 := nmf M1 e1
      refine vX11_fitsOf_2 _ _ (c_knownBy hw hN1 ⟨⟨by omega, by omega⟩, ⟨by omega, by omega⟩, fun z => absurd z (by omega), fun _ => ⟨⟨by omega, by omega⟩, ?_⟩⟩)
      rw [Int.toNat_natCast]
      refine ih (k + 1) _ (by omega) (fun a a1 => by rw [upM_ne _ _ _ a1]; exact e1 a a1) (fun q hq => ?_)
      rw [upM_self]
      by_cases e : q = k
      · rw [e, va_up_self]
      · rw [va_up_neq _ _ e]; exact e2 q (by omega)
  exact vX11_fitsOf_0 _ (loop _ 0 M (Nat.zero_add _) (fun _ _ => rfl) (fun q hq => absurd hq (by omega)))
theorem c_fitsM {f : Int → Mem → Prop} {M : Mem} {x : Int} (hx : iR x) (hw : wfNo n s) (hD : MD n may law rust M) (hN : NM s M) (H : ∀ M', FrJ M M' → NM s M' → f (fitY n x s) M') : CI E mX11_fits [pR 98, pI x] M f := by
  have hn := hD.2.1
  have hF0 := FrJ.th M 0
  have h12 : upM M 98 2 0 98 12 = (n : Int) := hD.1
  unfold fitY at H
  refine vX11_fits_0 _ (c_isLatch hx h12 (fun l el hl => ⟨⟨by decide, by decide⟩, fun z => absurd z (by decide), fun _ => ?_⟩) (fun z => ⟨⟨by decide, by decide⟩, fun _ => ?_, fun z => absurd rfl z⟩))
  · subst el
    rw [if_pos ⟨by omega, by omega⟩, Int.toNat_natCast] at H
    exact c_fitsOf hl hn hw h12 (hN.th 0) (fun M' a1 a2 => H M' (hF0.tr a1) a2)
  · rw [if_neg z] at H; exact H _ hF0 (hN.th 0)
theorem c_askM {f : Int → Mem → Prop} {M : Mem} {x w : Int} (hx : iR x) (hw2 : iR w) (hw : wfNo n s) (hD : MD n may law rust M) (hN : NM s M) (H : ∀ M', FrJ M M' → NM s M' → f (askY n x w s) M') : CI E mX11_ask [pR 98, pI x, pI w] M f := by
  have hn := hD.2.1
  have hp := pw8 hn
  have hF0 := FrJ.th M 0
  have h12 : upM M 98 2 0 98 12 = (n : Int) := hD.1
  unfold askY at H
  refine vX11_ask_0 _ _ (c_isLatch hx h12 (fun l el hl => ⟨⟨by decide, by decide⟩, fun z => absurd z (by decide), fun _ => c_isIn hw2 ⟨by decide, by decide⟩ ⟨by decide, by decide⟩ (fun c => ⟨⟨by decide, by decide⟩, fun _ => ?_, fun z => absurd z (by decide)⟩) (fun c => ⟨⟨by decide, by decide⟩, fun z => absurd rfl z, fun _ => ?_⟩)⟩) (fun z => ⟨⟨by decide, by decide⟩, fun _ => ?_, fun z => absurd rfl z⟩))
  · subst el
    rw [if_pos ⟨⟨by omega, by omega⟩, by omega, by omega⟩, Int.toNat_natCast] at H
    have hft := nFit_b (s := s) (l := l) hn
    refine c_fitsOf hl hn hw h12 (hN.th 0) (fun M1 b1 b2 => ?_)
    have HH := H M1 (hF0.tr b1) b2
    have h12' : M1 98 12 = (n : Int) := by rw [b1.2 12 (by decide) (by decide) (by decide)]; exact h12
    have hpf : pop (nFit n s l) ≤ 17 := popN_le 17 _
    generalize nFit n s l = ft at HH hft hpf
    have inner : ∀ (v : Nat × Int) (r : Nat), r < 2 ^ n → (-1 ≤ v.2 ∧ v.2 ≤ 17) → (v.2 < 0 ∨ worN ft r < v.2 → KW E mX11_ask (qI f) M1 39 [(0, pR 98), (2, pI w), (3, pI (ft : Int)), (4, pI (r : Int)), (5, pI (worN ft r)), (6, pI ((r : Int) + 1))] []) → (¬ (v.2 < 0 ∨ worN ft r < v.2) → KW E mX11_ask (qI f) M1 39 [(0, pR 98), (2, pI w), (3, pI (ft : Int)), (4, pI (v.1 : Int)), (5, pI v.2), (6, pI ((r : Int) + 1))] []) → ∀ (j le : Nat), le + j = 17 → KW E mX11_ask (qI f) M1 56 [(0, pR 98), (2, pI w), (3, pI (ft : Int)), (4, pI (v.1 : Int)), (5, pI v.2), (6, pI (r : Int)), (7, pI (cnF (fun le => ft.testBit le && letB le r) le : Int)), (8, pI (le : Int))] [] := by
      intro v r hr hv H1 H2 j
      induction j with
      | zero =>
        intro le hj
        have : le = 17 := by omega
        subst this
        have hy := yes_b (ft := ft) (row := r)
        have wb := wor_b (ft := ft) (row := r)
        have fin : KW E mX11_ask (qI f) M1 121 [(0, pR 98), (2, pI w), (3, pI (ft : Int)), (4, pI (v.1 : Int)), (5, pI v.2), (6, pI (r : Int))] [pI (worN ft r)] := vX11_ask_121 _ _ _ _ _ _ ⟨⟨by omega, by omega⟩, fun c2 => H1 (Or.inl c2), fun c2 => ⟨⟨by omega, by omega⟩, ⟨by omega, by omega⟩, fun c3 => H1 (Or.inr c3), fun c3 => H2 (by omega)⟩⟩
        have ew : worN ft r = max (yesN ft r : Int) ((pop ft : Int) - (yesN ft r : Int)) := rfl
        have ey : cnF (fun le => ft.testBit le && letB le r) 17 = yesN ft r := rfl
        rw [ey]
        refine vX11_ask_56 _ _ _ _ _ _ _ ⟨⟨by decide, by decide⟩, fun _ => c_manyOf (by omega) ⟨⟨by omega, by omega⟩, ⟨by omega, by omega⟩, fun c2 => ?_, fun c2 => ?_⟩, fun z => absurd z (by decide)⟩
        · rw [ew, Int.max_eq_right c2] at fin
          exact fin
        · rw [ew, Int.max_eq_left (by omega)] at fin
          exact fin
      | succ j ih =>
        intro le hj
        have nx := ih (le + 1) (by omega)
        have e1 : cnF (fun le => ft.testBit le && letB le r) (le + 1) = cnF (fun le => ft.testBit le && letB le r) le + if (ft.testBit le && letB le r) = true then 1 else 0 := rfl
        rw [e1] at nx
        refine vX11_ask_56 _ _ _ _ _ _ _ ⟨⟨by omega, by omega⟩, fun z => absurd z (by omega), fun _ => c_isOf (by omega) (by omega) ?_⟩
        rw [bt_tb, Int.add_zero]
        cases ht : ft.testBit le
        · rw [ht, Bool.false_and, if_neg (by decide)] at nx
          exact ⟨⟨by decide, by decide⟩, fun _ => nx, fun z => absurd rfl z⟩
        · refine ⟨⟨by decide, by decide⟩, fun z => absurd z (by decide), fun _ => c_isBy (by omega) (by omega) ?_⟩
          cases hb : letB le r
          · rw [ht, hb, Bool.true_and, if_neg (by decide)] at nx
            exact ⟨⟨by decide, by decide⟩, fun _ => nx, fun z => absurd rfl z⟩
          · rw [ht, hb, Bool.true_and, if_pos rfl] at nx
            exact ⟨⟨by decide, by decide⟩, fun z => absurd z (by decide), fun _ => nx⟩
    have outer : ∀ (j r : Nat) (v : Nat × Int), r + j = 2 ^ n → (-1 ≤ v.2 ∧ v.2 ≤ 17) → f (if w = 0 then ((akF ft j r v).1 : Int) else (akF ft j r v).2) M1 → KW E mX11_ask (qI f) M1 39 [(0, pR 98), (2, pI w), (3, pI (ft : Int)), (4, pI (v.1 : Int)), (5, pI v.2), (6, pI (r : Int))] [] := by
      intro j
      induction j with
      | zero =>
        intro r v hj hv hf
        apply vX11_ask_39
        rw [h12', bOne_nat (by omega)]
        refine fun _ => ⟨⟨by omega, by omega⟩, fun _ => ⟨hw2, fun c3 => ?_, fun c3 => ?_⟩, fun z => absurd z (by omega)⟩
        · rw [if_neg c3] at hf; exact hf
        · rw [if_pos c3] at hf; exact hf
      | succ j ih =>
        intro r v hj hv hf
        have wb := wor_b (ft := ft) (row := r)
        simp only [akF] at hf
        apply vX11_ask_39
        rw [h12', bOne_nat (by omega)]
        refine fun _ => ⟨⟨by omega, by omega⟩, fun z => absurd z (by omega), fun _ => ?_⟩
        refine inner v r (by omega) hv (fun c3 => ?_) (fun c3 => ?_) 17 0 (Nat.zero_add _)
        · rw [if_pos c3] at hf
          exact ih (r + 1) (r, worN ft r) (by omega) ⟨by show -1 ≤ worN ft r; omega, by show worN ft r ≤ 17; omega⟩ hf
        · rw [if_neg c3] at hf
          exact ih (r + 1) v (by omega) hv hf
    exact outer (2 ^ n) 0 (0, -1) (Nat.zero_add _) ⟨by decide, by decide⟩ HH
  · rw [if_neg (by omega)] at H; exact H _ hF0 (hN.th 0)
  · rw [if_neg (fun q => z q.1)] at H; exact H _ hF0 (hN.th 0)
end NOTESM
