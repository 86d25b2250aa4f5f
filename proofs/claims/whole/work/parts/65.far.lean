/-! farthest, wide, parts on both sides -/
def lastF (b : BS) : Int := bF b (bM b (bC b - 1))
def farM (n : Nat) (may : Nat → Nat) (d : DS) : Nat := lmx (bF (nowB n may d)) (2 ^ n)
def frtY (n : Nat) (may : Nat → Nat) (x : Int) (d : DS) : Int := if x = 0 then bF (nowB n may d) (farM n may d) else if x = 1 then (farM n may d : Int) else -1
def fromB (n : Nat) (may : Nat → Nat) (d : DS) (r : Nat) : BS := bfs (-1) (canG may (dSe d) 0) n r
def widY (n : Nat) (may : Nat → Nat) (d : DS) : Int := mxw (fun r => decide (bF (nowB n may d) r ≠ -1)) (fun r => lastF (fromB n may d r)) 256
section FARC
variable {E : Scr} {law : Lw} {may : Nat → Nat} {rust : Int} {n : Nat} {y : YS}
theorem lmx_last {can : Nat → Nat} {s : Nat} {nev : Int} (hn : n ≤ 8) (hs : s < 2 ^ n) : bF (bfs nev can n s) (lmx (bF (bfs nev can n s)) (2 ^ n)) = lastF (bfs nev can n s) := by
  have hb : BI n (bfs nev can n s) := BI.fs hs
  have h0 := hb.1
  have h1 := bfs_last (nev := nev) (can := can) hn hs (lmx (bF (bfs nev can n s)) (2 ^ n))
  have h2 := (lmx_ok (bF (bfs nev can n s)) (2 ^ n) (Nat.two_pow_pos n)).2.1 (bM (bfs nev can n s) (bC (bfs nev can n s) - 1)) (hb.2.1 _ (by omega))
  unfold lastF
  omega
theorem bfs_start {can : Nat → Nat} {s : Nat} {nev : Int} (hn : n ≤ 8) (hs : s < 2 ^ n) (r : Nat) (hr : r < s) : bF (bfs nev can n s) r ≠ bF (bfs nev can n s) s := by
  have h1 := wk_far (nev := nev) (can := can) hn hs 0 s rfl
  have hb : BI n (bfs nev can n s) := BI.fs hs
  have h2 := hb.had h1.1
  intro z
  have h3 : r = s := far_wk (nev := nev) (can := can) hn hs 0 r (by omega)
  omega
theorem c_farthestRow {f : Int → Mem → Prop} {M : Mem} {b : BS} {s : Nat} (hn : n ≤ 8) (hs : s < 2 ^ n) (hst : ∀ r, r < s → bF b r ≠ bF b s) (h7 : M 86 7 = ((2 ^ n : Nat) : Int)) (h8 : M 86 8 = (s : Int)) (hB : BC b M) (H : f ((lmx (bF b) (2 ^ n) : Nat) : Int) M) : CI E mX4_farthestRow [pR 86] M f := by
  have hp := pw8 hn
  have loop : ∀ (j k m : Nat), k + j = 2 ^ n → m < 2 ^ n → (m = s ∨ m < k) → (∀ r, r < k → bF b r ≤ bF b m) → (∀ r, r < k → r < m → bF b r < bF b m) → KW E mX4_farthestRow (qI f) M 7 [(0, pR 86), (1, pI (m : Int)), (2, pI (k : Int))] [] := by
    intro j
    induction j with
    | zero =>
      intro k m hk hm h0 h1 h2
      apply vX4_farthestRow_7
      rw [h7]
      have e : m = lmx (bF b) (2 ^ n) := lmx_uniq hm (fun r hr => h1 r (by omega)) (fun r hr => h2 r (by omega) hr)
      rw [← e] at H
      exact fun _ => ⟨⟨by omega, by omega⟩, fun _ => H, fun z => absurd z (by omega)⟩
    | succ j ih =>
      intro k m hk hm h0 h1 h2
      apply vX4_farthestRow_7
      rw [h7]
      refine fun _ => ⟨⟨by omega, by omega⟩, fun z => absurd z (by omega), fun _ => c_stepsTo hn (show k < 2 ^ n by omega) h7 hB (fun g1 => c_stepsTo hn hm h7 hB (fun g2 => ⟨g1, g2, fun c => ?_, fun c => ?_⟩))⟩
      · refine ih (k + 1) m (by omega) hm (by omega) (fun r hr => ?_) (fun r hr hm2 => ?_)
        · by_cases e : r = k
          · rw [e]; exact c
          · exact h1 r (by omega)
        · by_cases e : r = k
          · rcases h0 with z | z
            · have := hst r (by omega)
              rw [← z] at this
              rw [e] at this ⊢
              omega
            · omega
          · exact h2 r (by omega) hm2
      · refine ih (k + 1) k (by omega) (by omega) (by omega) (fun r hr => ?_) (fun r hr hm2 => ?_)
        · by_cases e : r = k
          · rw [e]; exact Int.le_refl _
          · have := h1 r (by omega); omega
        · have := h1 r (by omega); omega
  apply vX4_farthestRow_0
  rw [h8]
  exact fun _ => loop (2 ^ n) 0 s (by omega) hs (Or.inl rfl) (fun r hr => absurd hr (by omega)) (fun r hr => absurd hr (by omega))
theorem c_farthestC {f : Int → Mem → Prop} {M : Mem} {x : Int} (hx : iR x) (hw : wfY n y) (hD : CD n may law rust M) (hy : YC y M) (H : ∀ M', FrQ M M' → f (frtY n may x y.1) M') : CI E mX10_farthest [pR 0, pI x] M f := by
  have hn := hD.2.1
  have hp := pw8 hn
  have h1 := hw.1.1.1
  have hl := (lmx_ok (bF (nowB n may y.1)) (2 ^ n) (Nat.two_pow_pos n)).1
  unfold frtY farM at H
  refine vX10_farthest_0 _ ⟨hx, fun c => ?_, fun c => ⟨hx, fun c2 => ?_, fun c2 => ?_⟩⟩
  · rw [if_pos c] at H
    refine c_lookAround hw hD hy (fun M1 b1 b2 b3 b4 => c_farthestRow (b := nowB n may y.1) hn h1 (bfs_start hn h1) b2.2.1 b3 b4 ⟨hx, fun z => absurd c z, fun _ => c_stepsTo hn hl b2.2.1 b4 (fun _ => H M1 b1)⟩)
  · rw [if_neg c, if_pos c2] at H
    refine c_lookAround hw hD hy (fun M1 b1 b2 b3 b4 => c_farthestRow (b := nowB n may y.1) hn h1 (bfs_start hn h1) b2.2.1 b3 b4 ⟨hx, fun _ => H M1 b1, fun z => absurd z c⟩)
  · rw [if_neg c, if_neg c2] at H
    exact H M (FrQ.rf M)
theorem lastN {b : BS} (hb : BI n b) : ((bC b : Int) - 1).toNat = bC b - 1 := by have := hb.1; omega
theorem c_farthestM {f : Int → Mem → Prop} {M : Mem} {x : Int} (hx : iR x) (hw : wfY n y) (hD : MD n may law rust M) (hy : YM y M) (H : ∀ M', FrN M M' → f (frtY n may x y.1) M') : CI E mX11_farthest [pR 98, pI x] M f := by
  have hn := hD.2.1
  have hp := pw8 hn
  have hF0 := FrN.th M 0
  have h1 := hw.1.1.1
  have hm := lmx_ok (bF (nowB n may y.1)) (2 ^ n) (Nat.two_pow_pos n)
  have hl : bF (nowB n may y.1) (lmx (bF (nowB n may y.1)) (2 ^ n)) = lastF (nowB n may y.1) := lmx_last hn h1
  unfold frtY farM at H
  refine vX11_farthest_0 _ (c_isIn hx ⟨by decide, by decide⟩ ⟨by decide, by decide⟩ (fun c => ⟨⟨by decide, by decide⟩, fun _ => ?_, fun z => absurd z (by decide)⟩) (fun c => ⟨⟨by decide, by decide⟩, fun z => absurd rfl z, fun _ => ?_⟩))
  · refine c_layNow hn hw (hD.gm.fN hF0) (hy.fN hF0) (fun M1 b1 b4 => ?_)
    have hb : BI n (nowB n may y.1) := BI.fs h1
    have hc := hb.cnt
    have hc1 := hb.1
    have hml := hb.2.1 (bC (nowB n may y.1) - 1) (by omega)
    rw [b4.2.2.1, lastN hb, b4.2.1 _ (by omega), Int.toNat_natCast, b4.1 _ (by omega)]
    have loop : ∀ (j k : Nat), k + j = lmx (bF (nowB n may y.1)) (2 ^ n) → KW E mX11_farthest (qI f) M1 39 [(0, pR 98), (1, pI x), (2, pI (bF (nowB n may y.1) (bM (nowB n may y.1) (bC (nowB n may y.1) - 1)))), (3, pI (k : Int))] [] := by
      intro j
      induction j with
      | zero =>
        intro k hk
        apply vX11_farthest_39
        rw [Int.toNat_natCast, b4.1 k (by omega)]
        have e : k = lmx (bF (nowB n may y.1)) (2 ^ n) := by omega
        have HH := H M1 (hF0.tr b1)
        refine ⟨⟨by omega, by omega⟩, fun _ => ⟨?_, fun _ => ⟨hx, fun c2 => ?_, fun c2 => ?_⟩, fun z => ?_⟩⟩
        · have := hb.2.2.2.1 (bC (nowB n may y.1) - 1) (by omega); exact ⟨by omega, by omega⟩
        · rw [if_neg c2, if_pos (by omega)] at HH; rw [e]; exact HH
        · rw [if_pos c2, hl] at HH; exact HH
        · rw [e, hl] at z; exact absurd rfl z
      | succ j ih =>
        intro k hk
        apply vX11_farthest_39
        rw [Int.toNat_natCast, b4.1 k (by omega)]
        have c3 := hm.2.2 k (by omega)
        rw [hl] at c3
        refine ⟨⟨by omega, by omega⟩, fun _ => ⟨?_, fun z => ?_, fun _ => ih (k + 1) (by omega)⟩⟩
        · have := hb.2.2.2.1 (bC (nowB n may y.1) - 1) (by omega); exact ⟨by omega, by omega⟩
        · unfold lastF at c3; omega
    exact fun _ => ⟨⟨by omega, by omega⟩, fun _ => ⟨⟨by omega, by omega⟩, fun _ => loop _ 0 (Nat.zero_add _)⟩⟩
  · rw [if_neg (by omega), if_neg (by omega)] at H
    exact H _ hF0
theorem c_wideC {f : Int → Mem → Prop} {M : Mem} (hw : wfY n y) (hD : CD n may law rust M) (hy : YC y M) (H : ∀ M', FrQ M M' → f (widY n may y.1) M') : CI E mX10_wide [pR 0] M f := by
  have hn := hD.2.1
  have hp := pw8 hn
  have h1 := hw.1.1.1
  have h2 := hw.1.1.2.1
  apply vX10_wide_0
  rw [hy.1.2.2.1]
  refine fun _ => c_layP (by omega) hD (fun M1 b1 b2 => ?_)
  rw [b1 36 (by decide), hy.1.2.1]
  refine fun _ => vX4_width_0 _ (c_spread hn (by decide) (by decide) h1 b2 (fun M2 d1 d2 d3 => ?_))
  rw [bfs_ext (can2 := canG may (dSe y.1) 0) h1 (fun r _ q _ => canG_mv)] at d3
  have d3' : BC (nowB n may y.1) M2 := d3
  have hb : BI n (nowB n may y.1) := BI.fs h1
  have hc := hb.cnt
  rw [d3'.2.2]
  intro _
  have loop : ∀ (j k : Nat) (v : Int) (M3 : Mem), k + j = bC (nowB n may y.1) → FrQ M M3 → GC n (mvF may (dSe y.1)) (-1) 0 0 M3 → (∀ i, i < bC (nowB n may y.1) → M3 90 i = (bM (nowB n may y.1) i : Int)) → 0 ≤ v ∧ v ≤ 256 → (∀ i, i < k → lastF (fromB n may y.1 (bM (nowB n may y.1) i)) ≤ v) → (v = 0 ∨ ∃ i, i < k ∧ lastF (fromB n may y.1 (bM (nowB n may y.1) i)) = v) → KW E mX4_width (qI f) M3 31 [(0, pR 86), (2, pI (bC (nowB n may y.1) : Int)), (3, pI v), (4, pI (k : Int))] [] := by
    intro j
    induction j with
    | zero =>
      intro k v M3 hk hF hG hM hv hle hex
      apply vX4_width_31
      have e : v = widY n may y.1 := by
        refine mxw_uniq hv.1 (fun r hr hp2 => ?_) ?_
        · obtain ⟨i, hi, e⟩ := hb.2.2.2.2 r (of_decide_eq_true hp2)
          rw [← e]
          exact hle i (by omega)
        · rcases hex with z | ⟨i, i1, i2⟩
          · exact Or.inl z
          · have a1 := hb.2.1 i (by omega)
            have a2 := hb.2.2.2.1 i (by omega)
            exact Or.inr ⟨bM (nowB n may y.1) i, by omega, decide_eq_true (by omega), i2⟩
      rw [← e] at H
      exact ⟨⟨by omega, by omega⟩, ⟨by omega, by omega⟩, fun _ => H M3 hF, fun z => absurd z (by omega)⟩
    | succ j ih =>
      intro k v M3 hk hF hG hM hv hle hex
      have hkc : k < bC (nowB n may y.1) := by omega
      have hm := hb.2.1 k hkc
      apply vX4_width_31
      rw [Int.toNat_natCast, hM k hkc]
      refine ⟨⟨by omega, by omega⟩, ⟨by omega, by omega⟩, fun z => absurd z (by omega), fun _ => ⟨⟨by omega, by omega⟩, fun z => absurd z (by omega), fun _ => ⟨⟨by omega, by omega⟩, fun _ => ?_⟩⟩⟩
      refine c_spread hn (by decide) (by decide) hm hG (fun M4 g1 g2 g3 => ?_)
      rw [bfs_ext (can2 := canG may (dSe y.1) 0) hm (fun r _ q _ => canG_mv)] at g3
      have g3' : BC (fromB n may y.1 (bM (nowB n may y.1) k)) M4 := g3
      have hb4 : BI n (fromB n may y.1 (bM (nowB n may y.1) k)) := BI.fs hm
      have hc4 := hb4.cnt
      have hl4 := (lmx_ok (bF (fromB n may y.1 (bM (nowB n may y.1) k))) (2 ^ n) (Nat.two_pow_pos n)).1
      have hG4 := hG.fr g1
      refine c_farthestRow (b := fromB n may y.1 (bM (nowB n may y.1) k)) hn hm (bfs_start hn hm) hG4.2.1 g2 g3' (c_stepsTo hn hl4 hG4.2.1 g3' (fun _ => ?_))
      have el : bF (fromB n may y.1 (bM (nowB n may y.1) k)) (lmx (bF (fromB n may y.1 (bM (nowB n may y.1) k))) (2 ^ n)) = lastF (fromB n may y.1 (bM (nowB n may y.1) k)) := lmx_last hn hm
      have hlast := hb4.2.2.2.1 (bC (fromB n may y.1 (bM (nowB n may y.1) k)) - 1) (by have := hb4.1; omega)
      have hlast2 : 0 ≤ lastF (fromB n may y.1 (bM (nowB n may y.1) k)) ∧ lastF (fromB n may y.1 (bM (nowB n may y.1) k)) ≤ 256 := by unfold lastF; omega
      rw [el]
      refine ⟨⟨by omega, by omega⟩, ⟨by omega, by omega⟩, ih (k + 1) _ M4 (by omega) (hF.tr g1.toQ) hG4 (fun i hi => by rw [g1.1 90 (by decide) (by decide) (by decide)]; exact hM i hi) ⟨by omega, by omega⟩ (fun i hi => ?_) ?_⟩
      · by_cases e : i = k
        · rw [e]; omega
        · have := hle i (by omega); omega
      · by_cases c : v ≥ lastF (fromB n may y.1 (bM (nowB n may y.1) k))
        · rw [show max v (lastF (fromB n may y.1 (bM (nowB n may y.1) k))) = v by omega]
          rcases hex with z | ⟨i, i1, i2⟩
          · exact Or.inl z
          · exact Or.inr ⟨i, by omega, i2⟩
        · exact Or.inr ⟨k, by omega, by omega⟩
  refine loop _ 0 0 _ (Nat.zero_add _) ((b1.tr d1.toQ).tr (fun a a1 => cpM_ne _ (by omega))) ?_ (fun i hi => ?_) ⟨by decide, by decide⟩ (fun i hi => absurd hi (by omega)) (Or.inl rfl)
  · have := b2.fr d1
    unfold GC at this ⊢
    rw [cpM_ne _ (by decide), cpM_ne _ (by decide)]
    exact this
  · rw [cpM_self]
    have : va_cpy (M2 89) (M2 90) 0 0 256 i = M2 89 i := by
      simp only [va_cpy]
      rw [if_pos ⟨by omega, by omega⟩, show 0 + (i - 0) = i by omega]
    rw [this]
    exact d3'.2.1 i hi
theorem c_wideM {f : Int → Mem → Prop} {M : Mem} (hw : wfY n y) (hD : MD n may law rust M) (hy : YM y M) (H : ∀ M', FrN M M' → f (widY n may y.1) M') : CI E mX11_wide [pR 98] M f := by
  have hn := hD.2.1
  have hp := pw8 hn
  have hF0 := FrN.th M 0
  have h1 := hw.1.1.1
  have h2 := hw.1.1.2.1
  refine vX11_wide_0 (c_layNow hn hw (hD.gm.fN hF0) (hy.fN hF0) (fun M1 b1 b4 => ?_))
  have hb : BI n (nowB n may y.1) := BI.fs h1
  have hc := hb.cnt
  have loop2 : ∀ (j k : Nat) (M3 : Mem), k + j = 256 → FrN M M3 → (∀ r, r < 256 → M3 134 r = bF (nowB n may y.1) r) → (0 ≤ mxw (fun r => decide (bF (nowB n may y.1) r ≠ -1)) (fun r => lastF (fromB n may y.1 r)) k ∧ mxw (fun r => decide (bF (nowB n may y.1) r ≠ -1)) (fun r => lastF (fromB n may y.1 r)) k ≤ 256) → KW E mX11_wide (qI f) M3 40 [(0, pR 98), (1, pI (mxw (fun r => decide (bF (nowB n may y.1) r ≠ -1)) (fun r => lastF (fromB n may y.1 r)) k)), (2, pI (k : Int))] [] := by
    intro j
    induction j with
    | zero =>
      intro k M3 hk hF hM hv
      have : k = 256 := by omega
      subst this
      exact vX11_wide_40 _ _ ⟨⟨by omega, by omega⟩, fun _ => H M3 hF, fun z => absurd z (by omega)⟩
    | succ j ih =>
      intro k M3 hk hF hM hv
      apply vX11_wide_40
      rw [Int.toNat_natCast, hM k (by omega), (hy.fN hF).1.2.2.1]
      refine ⟨⟨by omega, by omega⟩, fun z => absurd z (by omega), fun _ => ⟨⟨by omega, by omega⟩, fun _ => ⟨fun c => ?_, fun c => ?_⟩⟩⟩
      · have hne : bF (nowB n may y.1) k ≠ -1 := by omega
        have hk2 := (hb.had hne).1
        intro _
        refine c_layFar (loose := 0) hn (by omega) (by decide) ⟨by decide, by decide⟩ hk2 (hD.gm.fN hF) (fun M4 g1 g3 => ?_)
        have g3' : BR (fromB n may y.1 k) (wfs (-1) (canG may (dSe y.1) 0) n k) M4 := g3
        have hb4 : BI n (fromB n may y.1 k) := BI.fs hk2
        have hc4 := hb4.cnt
        have hc41 := hb4.1
        have hml := hb4.2.1 (bC (fromB n may y.1 k) - 1) (by omega)
        have hlast := hb4.2.2.2.1 (bC (fromB n may y.1 k) - 1) (by omega)
        have hF4 := hF.tr g1.toN
        have hM4 : ∀ r, r < 256 → M4 134 r = bF (nowB n may y.1) r := fun r hr => by rw [g1.1 134 (by decide) (by decide) (by decide) (by decide)]; exact hM r hr
        have es : mxw (fun r => decide (bF (nowB n may y.1) r ≠ -1)) (fun r => lastF (fromB n may y.1 r)) (k + 1) = max (mxw (fun r => decide (bF (nowB n may y.1) r ≠ -1)) (fun r => lastF (fromB n may y.1 r)) k) (lastF (fromB n may y.1 k)) := by
          simp only [mxw]
          rw [if_pos (decide_eq_true hne)]
        have el : lastF (fromB n may y.1 k) = bF (fromB n may y.1 k) (bM (fromB n may y.1 k) (bC (fromB n may y.1 k) - 1)) := rfl
        have II := ih (k + 1) M4 (by omega) hF4 hM4 (by rw [es, el]; omega)
        rw [es, el] at II
        rw [g3'.2.2.1, lastN hb4, g3'.2.1 _ (by omega), Int.toNat_natCast, g3'.1 _ (by omega)]
        refine fun _ => ⟨⟨by omega, by omega⟩, fun _ => ⟨⟨by omega, by omega⟩, fun _ => ⟨⟨by omega, by omega⟩, fun c2 => ?_, fun c2 => fun _ => ⟨⟨by omega, by omega⟩, fun _ => ⟨⟨by omega, by omega⟩, fun _ => ?_⟩⟩⟩⟩⟩
        · rw [Int.max_eq_left c2] at II
          exact II
        · rw [Int.max_eq_right (by omega)] at II
          exact II
      · have hne : ¬ bF (nowB n may y.1) k ≠ -1 := fun z => by have := (hb.had z).2.1; omega
        have es : mxw (fun r => decide (bF (nowB n may y.1) r ≠ -1)) (fun r => lastF (fromB n may y.1 r)) (k + 1) = mxw (fun r => decide (bF (nowB n may y.1) r ≠ -1)) (fun r => lastF (fromB n may y.1 r)) k := by
          simp only [mxw]
          rw [if_neg (fun z => hne (of_decide_eq_true z))]
        have II := ih (k + 1) M3 (by omega) hF hM (by rw [es]; exact hv)
        rw [es] at II
        exact II
  have loop : ∀ (j k : Nat) (M3 : Mem), k + j = 256 → FrN M M3 → (∀ r, r < 256 → M3 131 r = bF (nowB n may y.1) r) → (∀ r, r < k → M3 134 r = bF (nowB n may y.1) r) → KW E mX11_wide (qI f) M3 11 [(0, pR 98), (1, pI (k : Int))] [] := by
    intro j
    induction j with
    | zero =>
      intro k M3 hk hF h131 hM
      exact vX11_wide_11 _ ⟨⟨by omega, by omega⟩, fun _ => loop2 256 0 M3 (by omega) hF (fun r hr => hM r (by omega)) ⟨Int.le_refl _, (by decide : (0 : Int) ≤ 256)⟩, fun z => absurd z (by omega)⟩
    | succ j ih =>
      intro k M3 hk hF h131 hM
      refine vX11_wide_11 _ ⟨⟨by omega, by omega⟩, fun z => absurd z (by omega), fun _ => ⟨⟨by omega, by omega⟩, fun _ => ⟨⟨by omega, by omega⟩, ?_⟩⟩⟩
      rw [Int.toNat_natCast, h131 k (by omega)]
      refine ih (k + 1) _ (by omega) (hF.tr ⟨fun a a1 a2 => upM_ne _ _ _ (by omega), fun q _ _ => by rw [upM_ne _ _ _ (by decide)]⟩) (fun r hr => by rw [upM_ne _ _ _ (by decide)]; exact h131 r hr) (fun r hr => ?_)
      by_cases e : r = k
      · rw [e, upM_self, va_up_self]
      · rw [upM_self, va_up_neq _ _ e]; exact hM r (by omega)
  exact loop 256 0 M1 (by omega) (hF0.tr b1) b4.1 (fun r hr => absurd hr (by omega))
end FARC
