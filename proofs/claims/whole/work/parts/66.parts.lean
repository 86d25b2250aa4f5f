/-! parts, ways on both sides -/
def mkF (b : BS) : Nat → Nat → (Nat → Int) → (Nat → Int)
  | 0, _, h => h
  | j + 1, k, h => mkF b j (k + 1) (upN h (bM b k) 1)
def prF (n : Nat) (may : Nat → Nat) (d : DS) : Nat → Nat → (Nat → Int) → Nat → Nat
  | 0, _, _, t => t
  | j + 1, r, h, t => if h r = 0 then prF n may d j (r + 1) (mkF (fromB n may d r) (bC (fromB n may d r)) 0 h) (t + 1) else prF n may d j (r + 1) h t
def parY (n : Nat) (may : Nat → Nat) (d : DS) : Int := (prF n may d (2 ^ n) 0 (fun _ => 0) 0 : Nat)
section PARTSC
variable {E : Scr} {law : Lw} {may : Nat → Nat} {rust : Int} {n : Nat} {y : YS}
theorem c_markFound {f : Mem → Prop} {M : Mem} {b : BS} {h : Nat → Int} (hn : n ≤ 8) (hb : BI n b) (hB : BC b M) (hh : ∀ r, r < 256 → M 90 r = h r) (H : ∀ M', (∀ a, a ≠ 90 → M' a = M a) → (∀ r, r < 256 → M' 90 r = mkF b (bC b) 0 h r) → f M') : CV E mX4_markFound [pR 86] M f := by
  have hp := pw8 hn
  have hc := hb.cnt
  have loop : ∀ (j k : Nat) (g : Nat → Int) (M1 : Mem), k + j = bC b → (∀ a, a ≠ 90 → M1 a = M a) → (∀ r, r < 256 → M1 90 r = g r) → mkF b (bC b) 0 h = mkF b j k g → KW E mX4_markFound (qV f) M1 2 [(0, pR 86), (1, pI (k : Int))] [] := by
    intro j
    induction j with
    | zero =>
      intro k g M1 hk e1 e2 e3
      apply vX4_markFound_2
      rw [e1 86 (by decide), hB.2.2]
      exact fun _ => ⟨⟨by omega, by omega⟩, fun _ => H M1 e1 (by rw [e3]; exact e2), fun z => absurd z (by omega)⟩
    | succ j ih =>
      intro k g M1 hk e1 e2 e3
      have hkc : k < bC b := by omega
      have hm := hb.2.1 k hkc
      apply vX4_markFound_2
      rw [e1 86 (by decide), hB.2.2, e1 89 (by decide), Int.toNat_natCast, hB.2.1 k hkc, Int.toNat_natCast]
      refine fun _ => ⟨⟨by omega, by omega⟩, fun z => absurd z (by omega), fun _ => ⟨⟨by omega, by omega⟩, fun z => absurd z (by omega), fun _ => ⟨⟨by omega, by omega⟩, fun _ => ⟨⟨by omega, by omega⟩, ?_⟩⟩⟩⟩
      refine ih (k + 1) (upN g (bM b k) 1) _ (by omega) (fun a a1 => by rw [upM_ne _ _ _ a1]; exact e1 a a1) (fun r hr => ?_) e3
      by_cases e : r = bM b k
      · rw [e, upM_self, va_up_self, upN_self]
      · rw [upM_self, va_up_neq _ _ e, upN_ne _ _ e]; exact e2 r hr
  exact vX4_markFound_0 (loop _ 0 h M (Nat.zero_add _) (fun _ _ => rfl) hh rfl)
theorem prF_le (d : DS) : ∀ (j r : Nat) (h : Nat → Int) (t : Nat), prF n may d j r h t ≤ t + j := by
  intro j
  induction j with
  | zero => intro r h t; exact Nat.le_refl _
  | succ j ih =>
    intro r h t
    simp only [prF]
    split
    · have := ih (r + 1) (mkF (fromB n may d r) (bC (fromB n may d r)) 0 h) (t + 1); omega
    · have := ih (r + 1) h t; omega
theorem c_partsC {f : Int → Mem → Prop} {M : Mem} (hw : wfY n y) (hD : CD n may law rust M) (hy : YC y M) (H : ∀ M', FrQ M M' → f (parY n may y.1) M') : CI E mX10_parts [pR 0] M f := by
  have hn := hD.2.1
  have hp := pw8 hn
  have h2 := hw.1.1.2.1
  apply vX10_parts_0
  rw [hy.1.2.2.1]
  refine fun _ => c_layP (by omega) hD (fun M1 b1 b2 => vX4_partsInAll_0 (c_fill (nn := 256) rfl (by decide) ⟨by decide, by decide⟩ (fun M2 d1 d2 => ?_)))
  have loop : ∀ (j k t : Nat) (h : Nat → Int) (M3 : Mem), k + j = 2 ^ n → t ≤ k → FrQ M M3 → GC n (mvF may (dSe y.1)) (-1) 0 0 M3 → (∀ r, r < 256 → M3 90 r = h r) → prF n may y.1 (2 ^ n) 0 (fun _ => 0) 0 = prF n may y.1 j k h t → KW E mX4_partsInAll (qI f) M3 12 [(0, pR 86), (1, pI (t : Int)), (2, pI (k : Int))] [] := by
    intro j
    induction j with
    | zero =>
      intro k t h M3 hk ht hF hG hM e
      apply vX4_partsInAll_12
      rw [hG.2.1]
      have HH := H M3 hF
      unfold parY at HH
      rw [e] at HH
      exact fun _ => ⟨⟨by omega, by omega⟩, fun _ => HH, fun z => absurd z (by omega)⟩
    | succ j ih =>
      intro k t h M3 hk ht hF hG hM e
      have hk2 : k < 2 ^ n := by omega
      simp only [prF] at e
      apply vX4_partsInAll_12
      rw [hG.2.1, Int.toNat_natCast, hM k (by omega)]
      refine fun _ => ⟨⟨by omega, by omega⟩, fun z => absurd z (by omega), fun _ => ⟨⟨by omega, by omega⟩, fun _ => ⟨fun c => ?_, fun c => ?_⟩⟩⟩
      · rw [if_neg c] at e
        exact ih (k + 1) t h M3 (by omega) (by omega) hF hG hM e
      · rw [if_pos c] at e
        refine c_spread hn (by decide) (by decide) hk2 hG (fun M4 g1 g2 g3 => ?_)
        rw [bfs_ext (can2 := canG may (dSe y.1) 0) hk2 (fun r _ q _ => canG_mv)] at g3
        have g3' : BC (fromB n may y.1 k) M4 := g3
        refine c_markFound hn (BI.fs hk2) g3' (h := h) (fun r hr => by rw [g1.1 90 (by decide) (by decide) (by decide)]; exact hM r hr) (fun M5 k1 k2 => ?_)
        refine ih (k + 1) (t + 1) _ M5 (by omega) (by omega) ((hF.tr g1.toQ).tr (fun a a1 => k1 a (by omega))) ?_ k2 e
        have hG4 := hG.fr g1
        unfold GC at hG4 ⊢
        rw [k1 86 (by decide), k1 87 (by decide)]
        exact hG4
  refine loop (2 ^ n) 0 0 (fun _ => 0) M2 (by omega) (Nat.le_refl _) (b1.tr (fun a a1 => d1 a (by omega))) ?_ d2 rfl
  unfold GC at b2 ⊢
  rw [d1 86 (by decide), d1 87 (by decide)]
  exact b2
theorem c_partsM {f : Int → Mem → Prop} {M : Mem} (hw : wfY n y) (hD : MD n may law rust M) (hy : YM y M) (H : ∀ M', FrN M M' → f (parY n may y.1) M') : CI E mX11_parts [pR 98] M f := by
  have hn := hD.2.1
  have hp := pw8 hn
  have hF0 := FrN.th M 0
  have h2 := hw.1.1.2.1
  have up : ∀ (M1 : Mem) (k : Nat) (v : Int), FrN M M1 → FrN M (upM M1 135 k v) := fun M1 k v h => h.tr ⟨fun a a1 a2 => upM_ne _ _ _ (by omega), fun q _ _ => by rw [upM_ne _ _ _ (by decide)]⟩
  have loop : ∀ (j k t : Nat) (h : Nat → Int) (M3 : Mem), k + j = 2 ^ n → t ≤ k → FrN M M3 → (∀ r, r < 256 → M3 135 r = h r) → prF n may y.1 (2 ^ n) 0 (fun _ => 0) 0 = prF n may y.1 j k h t → KW E mX11_parts (qI f) M3 31 [(0, pR 98), (1, pI (t : Int)), (2, pI (k : Int))] [] := by
    intro j
    induction j with
    | zero =>
      intro k t h M3 hk ht hF hM e
      apply vX11_parts_31
      rw [(hD.gm.fN hF).1, bOne_nat (by omega)]
      have HH := H M3 hF
      unfold parY at HH
      rw [e] at HH
      exact fun _ => ⟨⟨by omega, by omega⟩, fun _ => HH, fun z => absurd z (by omega)⟩
    | succ j ih =>
      intro k t h M3 hk ht hF hM e
      have hk2 : k < 2 ^ n := by omega
      simp only [prF] at e
      apply vX11_parts_31
      rw [(hD.gm.fN hF).1, bOne_nat (by omega), Int.toNat_natCast, hM k (by omega), (hy.fN hF).1.2.2.1]
      refine fun _ => ⟨⟨by omega, by omega⟩, fun z => absurd z (by omega), fun _ => ⟨⟨by omega, by omega⟩, fun _ => ⟨fun c => fun _ => ?_, fun c => ?_⟩⟩⟩
      · rw [if_pos c] at e
        refine c_layFar (loose := 0) hn (by omega) (by decide) ⟨by decide, by decide⟩ hk2 (hD.gm.fN hF) (fun M4 g1 g3 => ?_)
        have g3' : BR (fromB n may y.1 k) (wfs (-1) (canG may (dSe y.1) 0) n k) M4 := g3
        have hb : BI n (fromB n may y.1 k) := BI.fs hk2
        have hc := hb.cnt
        have loop2 : ∀ (j2 i : Nat) (g : Nat → Int) (M5 : Mem), i + j2 = bC (fromB n may y.1 k) → FrN M M5 → (∀ a, a ≠ 135 → M5 a = M4 a) → (∀ r, r < 256 → M5 135 r = g r) → mkF (fromB n may y.1 k) (bC (fromB n may y.1 k)) 0 h = mkF (fromB n may y.1 k) j2 i g → KW E mX11_parts (qI f) M5 71 [(0, pR 98), (1, pI ((t + 1 : Nat) : Int)), (2, pI (k : Int)), (3, pI (i : Int))] [] := by
          intro j2
          induction j2 with
          | zero =>
            intro i g M5 hi hF5 e1 e2 e3
            apply vX11_parts_71
            rw [e1 98 (by decide), g3'.2.2.1]
            refine fun _ => ⟨⟨by omega, by omega⟩, fun _ => ?_, fun z => absurd z (by omega)⟩
            exact ih (k + 1) (t + 1) g M5 (by omega) (by omega) hF5 e2 (by rw [e, e3]; rfl)
          | succ j2 ih2 =>
            intro i g M5 hi hF5 e1 e2 e3
            have hic : i < bC (fromB n may y.1 k) := by omega
            have hm := hb.2.1 i hic
            apply vX11_parts_71
            rw [e1 98 (by decide), g3'.2.2.1, e1 133 (by decide), Int.toNat_natCast, g3'.2.1 i hic, Int.toNat_natCast]
            refine fun _ => ⟨⟨by omega, by omega⟩, fun z => absurd z (by omega), fun _ => ⟨⟨by omega, by omega⟩, fun _ => ⟨⟨by omega, by omega⟩, ?_⟩⟩⟩
            refine ih2 (i + 1) (upN g (bM (fromB n may y.1 k) i) 1) _ (by omega) (up _ _ _ hF5) (fun a a1 => by rw [upM_ne _ _ _ a1]; exact e1 a a1) (fun r hr => ?_) e3
            by_cases e4 : r = bM (fromB n may y.1 k) i
            · rw [e4, upM_self, va_up_self, upN_self]
            · rw [upM_self, va_up_neq _ _ e4, upN_ne _ _ e4]; exact e2 r hr
        exact loop2 _ 0 h M4 (Nat.zero_add _) (hF.tr g1.toN) (fun _ _ => rfl) (fun r hr => by rw [g1.1 135 (by decide) (by decide) (by decide) (by decide)]; exact hM r hr) rfl
      · rw [if_neg c] at e
        exact ih (k + 1) t h M3 (by omega) (by omega) hF hM e
  have loop0 : ∀ (j k : Nat) (M3 : Mem), k + j = 256 → FrN M M3 → (∀ r, r < k → M3 135 r = 0) → KW E mX11_parts (qI f) M3 7 [(0, pR 98), (1, pI (k : Int))] [] := by
    intro j
    induction j with
    | zero =>
      intro k M3 hk hF hM
      exact vX11_parts_7 _ ⟨⟨by omega, by omega⟩, fun _ => loop (2 ^ n) 0 0 (fun _ => 0) M3 (by omega) (Nat.le_refl _) hF (fun r hr => hM r (by omega)) rfl, fun z => absurd z (by omega)⟩
    | succ j ih =>
      intro k M3 hk hF hM
      refine vX11_parts_7 _ ⟨⟨by omega, by omega⟩, fun z => absurd z (by omega), fun _ => ⟨⟨by omega, by omega⟩, ?_⟩⟩
      rw [Int.toNat_natCast]
      refine ih (k + 1) _ (by omega) (up _ _ _ hF) (fun r hr => ?_)
      by_cases e : r = k
      · rw [e, upM_self, va_up_self]
      · rw [upM_self, va_up_neq _ _ e]; exact hM r (by omega)
  exact vX11_parts_0 (loop0 256 0 _ (by omega) hF0 (fun r hr => absurd hr (by omega)))
end PARTSC
def wayY (n : Nat) (may : Nat → Nat) (x : Int) (d : DS) : Int := if 0 ≤ x ∧ x < ((2 ^ n : Nat) : Int) then (if bF (nowB n may d) x.toNat = -1 then 0 else wfs (-1) (canG may (dSe d) 0) n (dRo d) x.toNat) else -1
def SC (b : BS) (w : WF) (M : Mem) : Prop := ∀ r, r < 256 → M 91 r = if bF b r = -1 then 0 else w r
def WB (b : BS) (w : WF) : Prop := ∀ r, bF b r ≠ -1 → 0 ≤ w r ∧ w r ≤ 1000000000
section WAYS
variable {E : Scr} {law : Lw} {may : Nat → Nat} {rust : Int} {n : Nat} {y : YS}
theorem c_fillL {f : Mem → Prop} {M : Mem} {aa nn : Nat} {v : Int} (hT : T0[aa]? = some (21, nn)) (hnn : nn < 1000) (hv : lR v) (H : ∀ M', (∀ a, a ≠ aa → M' a = M a) → (∀ i, i < nn → M' aa i = v) → f M') : CV E mJ7_fill_d0a16 [pR aa, pL v] M f := by
  have loop : ∀ (j k : Nat) (M1 : Mem), k + j = nn → (∀ a, a ≠ aa → M1 a = M a) → (∀ i, i < k → M1 aa i = v) → KW E mJ7_fill_d0a16 (qV f) M1 6 [(0, pR aa), (1, pL v), (3, pI (k : Int)), (4, pI (nn : Int))] [] := by
    intro j
    induction j with
    | zero =>
      intro k M1 hk e1 e2
      exact vJ7_fill_d0a16_6 _ _ _ hT ⟨⟨by omega, by omega⟩, ⟨by omega, by omega⟩, fun _ => H M1 e1 (fun i hi => e2 i (by omega)), fun z => absurd z (by omega)⟩
    | succ j ih =>
      intro k M1 hk e1 e2
      refine vJ7_fill_d0a16_6 _ _ _ hT ⟨⟨by omega, by omega⟩, ⟨by omega, by omega⟩, fun z => absurd z (by omega), fun _ => ⟨⟨by omega, by omega⟩, hv, ?_⟩⟩
      rw [Int.toNat_natCast]
      refine ih (k + 1) _ (by omega) (fun a a1 => by rw [upM_ne _ _ _ a1]; exact e1 a a1) (fun i hi => ?_)
      by_cases e : i = k
      · rw [e, upM_self, va_up_self]
      · rw [upM_self, va_up_neq _ _ e]; exact e2 i (by omega)
  exact vJ7_fill_d0a16_0 _ hT (loop nn 0 M (by omega) (fun _ _ => rfl) (fun i hi => by omega))
theorem c_leadsOn {f : Int → Mem → Prop} {M : Mem} {mv : Nat → Nat} {nev : Int} {s0 e0 r l : Nat} {b : BS} (hn : n ≤ 8) (hr : r < 2 ^ n) (hl : l < n) (hb : BI n b) (hG : GC n mv nev s0 e0 M) (hB : BC b M) (H1 : (mv r).testBit l = true → bF b r ≠ -1 → bF b (r ^^^ 2 ^ l) = bF b r + 1 → f 1 M) (H0 : ¬ ((mv r).testBit l = true ∧ bF b r ≠ -1 ∧ bF b (r ^^^ 2 ^ l) = bF b r + 1) → f 0 M) : CI E mX4_leadsOn [pR 86, pI (r : Int), pI (l : Int)] M f := by
  have hp := pw8 hn
  have hx := xor_lt hr hl
  refine vX4_leadsOn_0 _ _ (c_isMovable hn hr hl hG ?_)
  cases ht : (mv r).testBit l
  · exact ⟨⟨by decide, by decide⟩, fun _ => H0 (fun z => by rw [ht] at z; exact absurd z.1 (by decide)), fun z => absurd rfl z⟩
  · refine ⟨⟨by decide, by decide⟩, fun z => absurd z (by decide), fun _ => c_isHad hn hr hG.2.1 hB (fun c => ?_) (fun c => ?_)⟩
    · refine ⟨⟨by decide, by decide⟩, fun z => absurd z (by decide), fun _ => ?_⟩
      rw [bOne_nat (by omega), bXor_nat (by omega) (pw31 (by omega))]
      have hh := hb.had c
      have hc := hb.cnt
      exact c_stepsTo hn hx hG.2.1 hB (fun h9 => c_stepsTo hn hr hG.2.1 hB (fun _ => ⟨h9, ⟨by omega, by omega⟩, fun z => H0 (fun q => z q.2.2), fun z => H1 ht c z⟩))
    · exact ⟨⟨by decide, by decide⟩, fun _ => H0 (fun q => q.2.1 c), fun z => absurd rfl z⟩
theorem c_ways55 {f : Int → Mem → Prop} {can mv : Nat → Nat} {bfin : BS} {x k row : Nat} (hn : n ≤ 8) (hcan : ∀ q, q < n → (can row).testBit q = (mv row).testBit q) (hrow : row < 2 ^ n) (hbf : BI n bfin) : ∀ (j l : Nat) (b : BS) (w : WF) (M : Mem), l + j = n → BI n b → bF b row ≠ -1 → Ext (bRow (-1) (can row) row j l b) bfin → WB b w → SC b w M → GC n mv (-1) 0 0 M → BC bfin M → (∀ M', (∀ a, a ≠ 91 → M' a = M a) → WB (bRow (-1) (can row) row j l b) (wRow (-1) (can row) row j l b w) → SC (bRow (-1) (can row) row j l b) (wRow (-1) (can row) row j l b w) M' → KW E mX4_waysTo (qI f) M' 41 [(0, pR 86), (1, pI (x : Int)), (2, pI ((k : Int) + 1))] []) → KW E mX4_waysTo (qI f) M 66 [(0, pR 86), (1, pI (x : Int)), (2, pI (k : Int)), (3, pI (row : Int)), (4, pI (l : Int))] [] := by
  have hp := pw8 hn
  intro j
  induction j with
  | zero =>
    intro l b w M hl hb hr hE hW hS hG hB H
    apply vX4_waysTo_66
    rw [hG.1]
    exact fun _ => ⟨⟨by omega, by omega⟩, fun _ => H M (fun _ _ => rfl) hW hS, fun z => absurd z (by omega)⟩
  | succ j ih =>
    intro l b w M hl hb hr hE hW hS hG hB H
    have hln : l < n := by omega
    have hxl := xor_lt (l := l) hrow hln
    have hv := hb.vis (nev := -1) (cr := can row) (l := l) hln hr
    have hE1 : Ext b (bVis (-1) (can row) row l b) := bVis_ext
    have hE2 : Ext (bVis (-1) (can row) row l b) bfin := (bRow_extb (nev := -1) (cr := can row) (row := row) j (l + 1) (bVis (-1) (can row) row l b)).tr hE
    have hrf : bF bfin row = bF b row := (hE1.tr hE2).1 row hr
    simp only [bRow, wRow] at H hE
    apply vX4_waysTo_66
    rw [hG.1]
    refine fun _ => ⟨⟨by omega, by omega⟩, fun z => absurd z (by omega), fun _ => c_leadsOn hn hrow hln hbf hG hB (fun c1 c2 c3 => ?_) (fun c => ?_)⟩
    · have ht : (can row).testBit l = true := by rw [hcan l hln]; exact c1
      have hne : ((row ^^^ 2 ^ l : Nat) : Int) ≠ -1 := by omega
      have hto : bF (bVis (-1) (can row) row l b) (row ^^^ 2 ^ l) ≠ -1 := by
        unfold bVis
        by_cases z : bF b (row ^^^ 2 ^ l) = -1
        · rw [if_pos ⟨ht, hne, z⟩]
          show upN (bF b) _ _ _ ≠ -1
          rw [upN_self]
          have := (hb.had hr).2.1; omega
        · rw [if_neg (fun q => z q.2.2)]; exact z
      have hto2 := hE2.1 _ hto
      have ew : wVis (-1) (can row) row l b w = upN w (row ^^^ 2 ^ l) (min ((if bF b (row ^^^ 2 ^ l) = -1 then 0 else w (row ^^^ 2 ^ l)) + w row) 1000000000) := by
        unfold wVis
        rw [if_pos ⟨ht, hne⟩, if_pos (by rw [← hto2, c3, hrf])]
      rw [bOne_nat (by omega), bXor_nat (by omega) (pw31 (by omega)), Int.toNat_natCast, Int.toNat_natCast, hS _ (show row ^^^ 2 ^ l < 256 by omega), hS row (by omega), if_neg hr]
      have w1 := hW row hr
      have w2 : 0 ≤ (if bF b (row ^^^ 2 ^ l) = -1 then 0 else w (row ^^^ 2 ^ l)) ∧ (if bF b (row ^^^ 2 ^ l) = -1 then 0 else w (row ^^^ 2 ^ l)) ≤ 1000000000 := by
        by_cases z : bF b (row ^^^ 2 ^ l) = -1
        · rw [if_pos z]; exact ⟨by decide, by decide⟩
        · rw [if_neg z]; exact hW _ z
      have oth : ∀ r, r ≠ row ^^^ 2 ^ l → bF (bVis (-1) (can row) row l b) r = bF b r := by
        intro r hr2
        unfold bVis
        split
        · show upN (bF b) _ _ r = _
          rw [upN_ne _ _ hr2]
        · rfl
      generalize hv0 : (if bF b (row ^^^ 2 ^ l) = -1 then 0 else w (row ^^^ 2 ^ l)) = v0 at w2 ew
      refine ⟨⟨by decide, by decide⟩, fun z => absurd z (by decide), fun _ => ⟨⟨by omega, by omega⟩, fun _ => ⟨⟨by omega, by omega⟩, fun _ => ⟨⟨by omega, by omega⟩, ⟨by omega, by omega⟩, ?_⟩⟩⟩⟩
      have keep : ∀ a, a ≠ 91 → upM M 91 (row ^^^ 2 ^ l) (min 1000000000 (v0 + w row)) a = M a := fun a a1 => upM_ne _ _ _ a1
      refine ih (l + 1) _ (wVis (-1) (can row) row l b w) _ (by omega) hv.1 (by rw [hv.2]; exact hr) hE ?_ ?_ ?_ ?_ (fun M' a1 a2 a3 => H M' (fun a a4 => by rw [a1 a a4, keep a a4]) a2 a3)
      · intro r hr2
        rw [ew]
        by_cases e : r = row ^^^ 2 ^ l
        · rw [e, upN_self]; omega
        · rw [upN_ne _ _ e]; rw [oth r e] at hr2; exact hW r hr2
      · intro r hr2
        rw [upM_self, ew]
        by_cases e : r = row ^^^ 2 ^ l
        · rw [e, va_up_self, if_neg hto, upN_self]; omega
        · rw [va_up_neq _ _ e, upN_ne _ _ e, oth r e]; exact hS r hr2
      · unfold GC at hG ⊢
        rw [keep 86 (by decide), keep 87 (by decide)]
        exact hG
      · unfold BC at hB ⊢
        rw [keep 86 (by decide), keep 88 (by decide), keep 89 (by decide)]
        exact hB
    · have hb2 : bVis (-1) (can row) row l b = b ∧ wVis (-1) (can row) row l b w = w := by
        by_cases ht : (can row).testBit l = true
        · have hne : ((row ^^^ 2 ^ l : Nat) : Int) ≠ -1 := by omega
          have hnt : ¬ bF bfin (row ^^^ 2 ^ l) = bF bfin row + 1 := fun z => c ⟨by rw [← hcan l hln]; exact ht, by rw [hrf]; exact hr, z⟩
          have hz : bF b (row ^^^ 2 ^ l) ≠ -1 := by
            intro z
            apply hnt
            have e1 : bVis (-1) (can row) row l b = bTk (row ^^^ 2 ^ l) (bF b row + 1) b := by unfold bVis; rw [if_pos ⟨ht, hne, z⟩]
            have e2 : bF (bVis (-1) (can row) row l b) (row ^^^ 2 ^ l) = bF b row + 1 := by
              rw [e1]; exact upN_self _ _ _
            rw [hE2.1 _ (by rw [e2]; have := (hb.had hr).2.1; omega), e2, hrf]
          have e1 : bVis (-1) (can row) row l b = b := by unfold bVis; rw [if_neg (fun q => hz q.2.2)]
          refine ⟨e1, ?_⟩
          unfold wVis
          rw [if_pos ⟨ht, hne⟩, e1, if_neg (fun z => hnt (by rw [(hE1.tr hE2).1 _ hz, z, hrf]))]
        · exact ⟨by unfold bVis; rw [if_neg (fun q => ht q.1)], by unfold wVis; rw [if_neg (fun q => ht q.1)]⟩
      rw [hb2.1, hb2.2] at H
      rw [hb2.1] at hE
      exact ⟨⟨by decide, by decide⟩, fun _ => ih (l + 1) b w M (by omega) hb hr hE hW hS hG hB H, fun z => absurd rfl z⟩
theorem c_ways30 {f : Int → Mem → Prop} {can mv : Nat → Nat} {bfin : BS} {x : Nat} (hn : n ≤ 8) (hx : x < 2 ^ n) (hcan : ∀ r, r < 2 ^ n → ∀ q, q < n → (can r).testBit q = (mv r).testBit q) (hbf : BI n bfin) : ∀ (j k : Nat) (b : BS) (w : WF) (M : Mem), k + j = 257 → BI n b → bGo (-1) can n j k b = bfin → WB b w → SC b w M → GC n mv (-1) 0 0 M → BC bfin M → (∀ M', (∀ a, a ≠ 91 → M' a = M a) → f (if bF bfin x = -1 then 0 else wGo (-1) can n j k b w x) M') → KW E mX4_waysTo (qI f) M 41 [(0, pR 86), (1, pI (x : Int)), (2, pI (k : Int))] [] := by
  have hp := pw8 hn
  have hc := hbf.cnt
  intro j
  induction j with
  | zero =>
    intro k b w M hk hb he hW hS hG hB H
    have he' : b = bfin := he
    apply vX4_waysTo_41
    rw [hB.2.2, Int.toNat_natCast, hS x (by omega), he']
    exact fun _ => ⟨⟨by omega, by omega⟩, fun _ => ⟨⟨by omega, by omega⟩, fun _ => H M (fun _ _ => rfl)⟩, fun z => absurd z (by omega)⟩
  | succ j ih =>
    intro k b w M hk hb he hW hS hG hB H
    simp only [bGo] at he
    simp only [wGo] at H
    apply vX4_waysTo_41
    by_cases hkc : k < bC b
    · rw [if_pos hkc] at he H
      have hm := hb.2.1 k hkc
      have hf := hb.2.2.2.1 k hkc
      have hrow := BI.row (nev := -1) (cr := can (bM b k)) (row := bM b k) n 0 b (by omega) hb (by omega)
      have hE : Ext (bRow (-1) (can (bM b k)) (bM b k) n 0 b) bfin := by
        have := bGo_extb (nev := -1) (can := can) (n := n) j (k + 1) (bRow (-1) (can (bM b k)) (bM b k) n 0 b)
        rw [he] at this
        exact this
      have hE0 : Ext b bfin := (bRow_extb n 0 b).tr hE
      have hkf : k < bC bfin := by have := hE0.2.2; omega
      rw [hB.2.2, Int.toNat_natCast, Int.toNat_natCast, hB.2.1 k hkf, hE0.2.1 k hkc]
      refine fun _ => ⟨⟨by omega, by omega⟩, fun z => absurd z (by omega), fun _ => ⟨⟨by omega, by omega⟩, fun z => absurd z (by omega), fun _ => ⟨⟨by omega, by omega⟩, fun _ => ?_⟩⟩⟩
      refine c_ways55 (can := can) (mv := mv) hn (hcan _ hm) hm hbf n 0 b w M (by omega) hb (by omega) hE hW hS hG hB (fun M1 a1 a2 a3 => ?_)
      refine ih (k + 1) _ _ M1 (by omega) hrow.1 he a2 a3 ?_ ?_ (fun M' d1 => H M' (fun a a4 => by rw [d1 a a4, a1 a a4]))
      · unfold GC at hG ⊢
        rw [a1 86 (by decide), a1 87 (by decide)]
        exact hG
      · unfold BC at hB ⊢
        rw [a1 86 (by decide), a1 88 (by decide), a1 89 (by decide)]
        exact hB
    · rw [if_neg hkc] at he H
      subst he
      rw [hB.2.2, Int.toNat_natCast, hS x (by omega)]
      exact fun _ => ⟨⟨by omega, by omega⟩, fun _ => ⟨⟨by omega, by omega⟩, fun _ => H M (fun _ _ => rfl)⟩, fun z => absurd z (by omega)⟩
theorem c_waysC {f : Int → Mem → Prop} {M : Mem} {x : Int} (hx : iR x) (hw : wfY n y) (hD : CD n may law rust M) (hy : YC y M) (H : ∀ M', FrQ M M' → f (wayY n may x y.1) M') : CI E mX10_ways [pR 0, pI x] M f := by
  have hn := hD.2.1
  have hp := pw8 hn
  have h1 := hw.1.1.1
  unfold wayY at H
  refine vX10_ways_0 _ (c_hasRow hx hD.1 hn (fun r er hr => ⟨⟨by decide, by decide⟩, fun _ => ?_, fun z => absurd z (by decide)⟩) (fun z => ⟨⟨by decide, by decide⟩, fun z => absurd rfl z, fun _ => ?_⟩))
  · subst er
    rw [if_pos ⟨by omega, by omega⟩, Int.toNat_natCast] at H
    refine c_lookAround hw hD hy (fun M1 b1 b2 b3 b4 => vX4_waysTo_0 _ (c_isHad hn hr b2.2.1 b4 (fun c => ⟨⟨by decide, by decide⟩, fun z => absurd z (by decide), fun _ => ?_⟩) (fun c => ⟨⟨by decide, by decide⟩, fun _ => ?_, fun z => absurd rfl z⟩)))
    · rw [b3]
      refine fun _ => c_hasP hn h1 b2.2.1 ⟨⟨by decide, by decide⟩, fun _ => ?_, fun z => absurd z (by decide)⟩
      refine c_fillL (nn := 256) rfl (by decide) ⟨by decide, by decide⟩ (fun M2 d1 d2 => ?_)
      rw [d1 86 (by decide), b3, Int.toNat_natCast]
      refine fun _ => ⟨⟨by omega, by omega⟩, ?_⟩
      have hb : BI n (nowB n may y.1) := BI.fs h1
      have keep : ∀ a, a ≠ 91 → upM M2 91 (dRo y.1) 1 a = M1 a := fun a a1 => by rw [upM_ne _ _ _ a1, d1 a a1]
      refine c_ways30 (can := canG may (dSe y.1) 0) (mv := mvF may (dSe y.1)) hn hr (fun r _ q _ => ?_) hb 257 0 (bSt (dRo y.1)) (fun _ => 1) _ (by omega) (BI.st h1) rfl (fun r _ => ⟨(by decide : (0 : Int) ≤ 1), (by decide : (1 : Int) ≤ 1000000000)⟩) (fun r hr2 => ?_) ?_ ?_ (fun M' a1 => H M' (fun a a2 => by rw [a1 a (by omega), keep a (by omega)]; exact b1 a a2))
      · unfold canG mvF
        simp only [andN_tb, Nat.testBit_or, Nat.zero_testBit, Bool.or_false]
      · rw [upM_self]
        show va_up (M2 91) (dRo y.1) 1 r = if (if r = dRo y.1 then (0 : Int) else -1) = -1 then 0 else 1
        by_cases e : r = dRo y.1
        · rw [e, va_up_self, if_pos rfl]; rfl
        · rw [va_up_neq _ _ e, if_neg e]; exact d2 r hr2
      · unfold GC at b2 ⊢
        rw [keep 86 (by decide), keep 87 (by decide)]
        exact b2
      · unfold BC at b4 ⊢
        rw [keep 86 (by decide), keep 88 (by decide), keep 89 (by decide)]
        exact b4
    · rw [if_pos c] at H
      exact H M1 b1
  · rw [if_neg z] at H
    exact H M (FrQ.rf M)
theorem c_waysM {f : Int → Mem → Prop} {M : Mem} {x : Int} (hx : iR x) (hw : wfY n y) (hD : MD n may law rust M) (hy : YM y M) (H : ∀ M', FrN M M' → f (wayY n may x y.1) M') : CI E mX11_ways [pR 98, pI x] M f := by
  have hn := hD.2.1
  have hp := pw8 hn
  have hF0 := FrN.th M 0
  unfold wayY at H
  refine vX11_ways_0 _ (c_isRow hx (hD.gm.fN hF0).1 hn (fun r er hr => ⟨⟨by decide, by decide⟩, fun _ => ?_, fun z => absurd z (by decide)⟩) (fun z => ⟨⟨by decide, by decide⟩, fun z => absurd rfl z, fun _ => ?_⟩))
  · subst er
    rw [if_pos ⟨by omega, by omega⟩, Int.toNat_natCast] at H
    refine c_layNow hn hw (hD.gm.fN hF0) (hy.fN hF0) (fun M1 b1 b2 => ⟨⟨by omega, by omega⟩, ?_⟩)
    rw [Int.toNat_natCast, b2.1 r (by omega)]
    have HH := H M1 (hF0.tr b1)
    have hb : BI n (nowB n may y.1) := BI.fs hw.1.1.1
    refine fun _ => ⟨fun c => ⟨⟨by omega, by omega⟩, fun _ => ?_⟩, fun c => ?_⟩
    · have hne : bF (nowB n may y.1) r ≠ -1 := by omega
      rw [if_neg hne] at HH
      rw [(b2.2.2.2 r hne).1]
      exact HH
    · by_cases e : bF (nowB n may y.1) r = -1
      · rwa [if_pos e] at HH
      · have := (hb.had e).2.1; omega
  · rw [if_neg z] at H
    exact H _ hF0
end WAYS
