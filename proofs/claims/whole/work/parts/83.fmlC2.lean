def FrG (M M' : Mem) : Prop := FrF M M' ∧ M' 1 9 = M 1 9 ∧ M' 1 10 = M 1 10
theorem FrG.rf (M : Mem) : FrG M M := ⟨FrF.rf M, rfl, rfl⟩
theorem FrG.tr {M M1 M2 : Mem} (h1 : FrG M M1) (h2 : FrG M1 M2) : FrG M M2 := ⟨h1.1.tr h2.1, h2.2.1.trans h1.2.1, h2.2.2.trans h1.2.2⟩
theorem FrTk.toG {M M' : Mem} (h : FrTk M M') : FrG M M' := ⟨h.toF, by rw [h.1 1 (by decide)], by rw [h.1 1 (by decide)]⟩
theorem FrG.u1 {M : Mem} {k : Nat} (v : Int) (h : k = 3 ∨ k = 4 ∨ k = 5 ∨ k = 6) : FrG M (upM M 1 k v) := ⟨FrF.u1 v (by omega), by rw [upM_self, va_up_neq _ _ (by omega)], by rw [upM_self, va_up_neq _ _ (by omega)]⟩
theorem PdC.of {pd : List Int} {M M' : Mem} (h : PdC pd M) (h3 : M' 1 3 = M 1 3) (h20 : M' 20 = M 20) : PdC pd M' := ⟨by rw [h3]; exact h.1, by rw [h20]; exact h.2⟩
theorem KA.of {al : KL} {M M' : Mem} (h : KA al M) (h15 : M' 15 = M 15) (h16 : M' 16 = M 16) (h17 : M' 17 = M 17) : KA al M' := by
  unfold KA
  rw [h15, h16, h17]
  exact h
theorem LtC.of {lt : Nat → Nat} {M M' : Mem} (h : LtC lt M) (h9 : M' 9 = M 9) : LtC lt M' := by
  unfold LtC
  rw [h9]
  exact h
theorem TC.of {t : Tk} {M M' : Mem} (h : TC t M) (h2 : M' 2 = M 2) : TC t M' := by
  unfold TC
  rw [h2]
  exact h
theorem pd_len : ∀ pd : List Int, pd.length = npL pd + prC pd := by
  intro pd
  induction pd with
  | nil => rfl
  | cons k p ih =>
    show p.length + 1 = (if k = 25 then 0 else 1) + npL p + ((if k = 25 then 1 else 0) + prC p)
    split <;> omega
section FMLC2
variable {E : Scr} {bs : BF} {L : Nat} {own : Int} {n : Nat} {nm : Nat → Int} {ln : Nat} {pre : KL}
theorem c_stepC {f : Int → Mem → Prop} {M : Mem} {s : FS} {tn : Nat} (hown : own = -1 ∨ (0 ≤ own ∧ own < n)) (hI : FI L own n ln pre.length s) (hT : TPc bs L M) (hN : NmC n nm ln M) (hF : FC pre s M) (htn : tn ≤ tS (fT s))
    (HE : ∀ w pl, stepF bs L own n nm ln s = Sum.inl (w, pl) → ∀ M', FrF M M' → M' 1 9 = w → M' 1 10 = (pl : Int) → f 0 M')
    (HD : ∀ s', stepF bs L own n nm ln s = Sum.inr (false, s') → ∀ M', FrG M M' → FC pre s' M' → f 1 M')
    (HC : ∀ s', stepF bs L own n nm ln s = Sum.inr (true, s') → ∀ (tn' : Nat) (M' : Mem), tn' ≤ tS (fT s') → FrG M M' → FC pre s' M' → KW E mX5_formula (qI f) M' 19 [(0, pR 1), (1, pI own), (2, pI (bI (fW s'))), (3, pI (tn' : Int))] []) :
    KW E mX5_formula (qI f) M 19 [(0, pR 1), (1, pI own), (2, pI (bI (fW s))), (3, pI (tn : Int))] [] := by
  have hn := hN.2.1
  have hL := hT.2.1
  obtain ⟨t, pd, op, cnt, u, lt, wt⟩ := s
  obtain ⟨h1, h2, h3, h4, h5, h6, h7, h8, h9⟩ := hI
  replace h1 : TkI L t := h1
  replace h2 : ∀ k, k ∈ pd → okPd (own < 0) k := h2
  replace h3 : prC pd = op := h3
  replace h4 : op ≤ 8 := h4
  replace h5 : pre.length + u.length + npL pd = cnt := h5
  replace h6 : cnt ≤ 64 := h6
  replace h7 : dpF 0 u = some (bnL pd + if wt = true then 0 else 1) := h7
  replace h8 : ∀ e, e ∈ u → okEl (own < 0) own n ln e := h8
  replace h9 : ∀ l, lt l < 2 ^ 8 := h9
  obtain ⟨g1, g2, g3, g4, g5, g6, g7⟩ := hF
  replace g1 : TC t M := g1
  replace g2 : PdC pd M := g2
  replace g3 : M 1 4 = (op : Int) := g3
  replace g4 : M 1 6 = (cnt : Int) := g4
  replace g5 : KA (pre ++ u) M := g5
  replace g6 : LtC lt M := g6
  replace htn : tn ≤ tS t := htn
  have hnx := tok_I (bs := bs) h1.2.2.1
  have hlen := pd_len pd
  have hkal : (pre ++ u).length = pre.length + u.length := List.length_append
  obtain ⟨t1, t2, t3, t4⟩ := id g1
  have hwr : ∀ b : Bool, iR (bI b) := fun b => by cases b <;> exact ⟨by decide, by decide⟩
  -- a token on, and around
  have adv : ∀ (s' : FS) (M1 : Mem), stepF bs L own n nm ln (t, pd, op, cnt, u, lt, wt) = Sum.inr (true, s') → fT s' = tok bs L (tN t) → tK t ≠ 39 → FrG M M1 → TC t M1 → PdC (fP s') M1 → M1 1 4 = (fO s' : Int) → M1 1 6 = (fC s' : Int) → KA (pre ++ fU s') M1 → LtC (fL s') M1 → M1 1 5 = -1 → KW E mX5_formula (qI f) M1 212 [(0, pR 1), (1, pI own), (2, pI (bI (fW s'))), (3, pI (tn : Int))] [] := by
    intro s' M1 es e2 e39 a1 a2 a3 a4 a5 a6 a7 a8
    refine vX5_formula_212 _ _ _ (c_advance (a1.1.tp hT) h1.2.2.1 a2.2.2.2 (fun M2 b1 b2 => ?_))
    have hlt := h1.2.2.2.2.1 e39
    refine HC s' es (tn + 1) M2 (by rw [e2]; have := hnx.2; omega) (a1.tr b1.toG) ⟨by rw [e2]; exact b2, a3.of (by rw [b1.1 1 (by decide)]) (b1.1 20 (by decide)), by rw [b1.1 1 (by decide)]; exact a4, by rw [b1.1 1 (by decide)]; exact a5, a6.of (b1.1 15 (by decide)) (b1.1 16 (by decide)) (b1.1 17 (by decide)), a7.of (b1.1 9 (by decide)), by rw [b1.1 1 (by decide)]; exact a8⟩
  cases wt with
  | true =>
    show KW E mX5_formula (qI f) M 19 [(0, pR 1), (1, pI own), (2, pI 1), (3, pI (tn : Int))] []
    -- what can stand where a side is wanted
    have cnts : ∀ (g : Int → Mem → Prop) (M1 : Mem), FrG M M1 → M1 1 6 = (cnt : Int) → M1 2 6 = (tS t : Int) → (cnt < 64 → g 1 (upM M1 1 6 ((cnt : Int) + 1))) → (64 ≤ cnt → ∀ M', FrF M M' → M' 1 9 = 2 → M' 1 10 = (tS t : Int) → g 0 M') → CI E mX5_counts [pR 1] M1 g := fun g M1 a1 a2 a3 a4 a5 => c_countsC a2 h6 a3 a4 (fun z M' b1 b2 b3 => a5 z M' (a1.1.tr b1) b2 b3)
    have notR : (KW E mX5_formula (qI f) M 125 [(0, pR 1), (1, pI own), (2, pI 1), (3, pI (tn : Int))] []) := by
      refine vX5_formula_125 _ _ _ ⟨⟨by decide, by decide⟩, fun _ => ?_, fun z => absurd z (by decide)⟩
      rw [t1]
      intro _
      constructor
      · -- (
        intro c25
        have base : stepF bs L own n nm ln (t, pd, op, cnt, u, lt, true) = (if 8 ≤ op then Sum.inl (2, tS t) else Sum.inr (true, (tok bs L (tN t), 25 :: pd, op + 1, cnt, u, lt, true))) := by
          unfold stepF
          rw [if_pos rfl]
          show (if tK t = 25 then _ else _) = _
          rw [if_pos c25]
        apply vX5_prefix_0
        rw [t1, g3]
        refine fun _ => ⟨fun z => absurd c25 z, fun _ _ => ⟨fun c8 => fun _ => ⟨⟨by omega, by omega⟩, ?_⟩, fun c8 => ?_⟩⟩
        · refine c_addPend (pd := pd) ⟨by decide, by decide⟩ (g2.of rfl rfl) (by omega) (fun M1 b1 b2 b3 b4 => ⟨⟨by decide, by decide⟩, fun _ => ?_, fun z => absurd z (by decide)⟩)
          rw [if_neg (by omega)] at base
          refine adv _ M1 base rfl (by omega) ((FrG.u1 _ (by omega)).tr ⟨b1, b3 9 (by decide), b3 10 (by decide)⟩) (g1.of (by rw [b2 2 (by decide) (by decide)]; rfl)) b4 ?_ ?_ ((g5.of rfl rfl rfl).of (b2 15 (by decide) (by decide)) (b2 16 (by decide) (by decide)) (b2 17 (by decide) (by decide))) ((g6.of rfl).of (b2 9 (by decide) (by decide))) ?_
          · rw [b3 4 (by decide)]; rfl
          · rw [b3 6 (by decide)]; exact g4
          · rw [b3 5 (by decide)]; exact g7
        · rw [if_pos (by omega)] at base
          exact c_failsC (by decide) t3 (fun M' a1 a2 a3 => ⟨Or.inl rfl, ⟨by decide, by decide⟩, fun z => absurd rfl z, fun _ => HE 2 (tS t) base M' a1 a2 a3⟩)
      · intro c25
        intro _
        constructor
        · intro c12
          refine ⟨?_, ?_⟩
          · rcases hown with z | z <;> exact ⟨by omega, by omega⟩
          constructor
          · -- a leaf of a leaning
            intro cown
            have co : ¬ own < 0 := by omega
            have base : stepF bs L own n nm ln (t, pd, op, cnt, u, lt, true) = (if 13 ≤ tK t ∧ tK t ≤ 16 then (if 64 ≤ cnt then Sum.inl (2, tS t) else askF bs L own n nm ln (t, pd, op, cnt, u, lt, true) (tok bs L (tN t))) else Sum.inl (1, tS t)) := by
              unfold stepF
              rw [if_pos rfl]
              show (if tK t = 25 then _ else if tK t = 12 then _ else _) = _
              rw [if_neg c25, if_neg c12, if_neg co]
            have bad : ¬ (13 ≤ tK t ∧ tK t ≤ 16) → CI E mX5_fails [pR 1, pI 1] M (fun r7 M8 => (zR r7) ∧ ((iR r7) ∧ ((r7 ≠ 0 → (KW E mX5_formula (qI f) M8 212 [(0, pR 1), (1, pI own), (2, pI 0), (3, pI (tn : Int))] [])) ∧ (r7 = 0 → f 0 M8)))) := by
              intro z
              rw [if_neg z] at base
              exact c_failsC (by decide) t3 (fun M' a1 a2 a3 => ⟨Or.inl rfl, ⟨by decide, by decide⟩, fun z => absurd rfl z, fun _ => HE 1 (tS t) base M' a1 a2 a3⟩)
            apply vX5_leanLeaf_0
            rw [t1]
            refine fun _ => ⟨fun c => bad (by omega), fun c => fun _ => ⟨fun c' => fun _ => ?_, fun c' => bad (by omega)⟩⟩
            rw [if_pos ⟨c, c'⟩] at base
            refine cnts _ _ (FrG.u1 _ (by omega)) g4 t3 (fun cc => ⟨Or.inr rfl, ⟨by decide, by decide⟩, fun _ => ?_, fun z => absurd z (by decide)⟩) (fun cc M' a1 a2 a3 => ⟨Or.inl rfl, ⟨by decide, by decide⟩, fun z => absurd rfl z, fun _ => ?_⟩)
            · rw [if_neg (by omega)] at base
              -- the token behind it
              generalize hM1 : upM (upM M 1 5 (tK t)) 1 6 ((cnt : Int) + 1) = M1
              have hG1 : FrG M M1 := by rw [← hM1]; exact (FrG.u1 _ (by omega)).tr (FrG.u1 _ (by omega))
              have hM1c : ∀ a, a ≠ 1 → M1 a = M a := fun a a1 => by rw [← hM1, upM_ne _ _ _ a1, upM_ne _ _ _ a1]
              refine vX5_formula_212 _ _ _ (c_advance (hG1.1.tp hT) h1.2.2.1 (by rw [hM1c 2 (by decide)]; exact t4) (fun M2 b1 b2 => ?_))
              have hlt := h1.2.2.2.2.1 (by omega)
              generalize ht2 : tok bs L (tN t) = t2 at b2 hnx base
              obtain ⟨k1, k2, k3, k4⟩ := id b2
              have hn2 := tok_I (bs := bs) hnx.1.2.2.1
              have h15 : M2 1 5 = tK t := by rw [b1.1 1 (by decide), ← hM1]; rfl
              have h16 : M2 1 6 = (cnt : Int) + 1 := by rw [b1.1 1 (by decide), ← hM1]; rfl
              have hG2 : FrG M M2 := hG1.tr b1.toG
              generalize hM3 : upM M2 1 5 (-1) = M3
              have hG3 : FrG M M3 := by rw [← hM3]; exact hG2.tr (FrG.u1 _ (by omega))
              have hM3c : ∀ a, a ≠ 1 → M3 a = M2 a := fun a a1 => by rw [← hM3, upM_ne _ _ _ a1]
              have hM3a : ∀ a, a ≠ 1 → a ≠ 2 → M3 a = M a := fun a a1 a2 => by rw [hM3c a a1, b1.1 a a2, hM1c a a1]
              have hM31 : ∀ q, q ≠ 5 → q ≠ 6 → M3 1 q = M 1 q := fun q q1 q2 => by rw [← hM3, upM_self, va_up_neq _ _ q1, b1.1 1 (by decide), ← hM1, upM_self, va_up_neq _ _ q2, upM_self, va_up_neq _ _ q1]
              have hT3 : TC t2 M3 := b2.of (by rw [hM3c 2 (by decide)])
              have hN3 : NmC n nm ln M3 := hG3.1.nm hN
              have k2r : iR (tV t2) := by have := hnx.1.2.2.2.2.2; exact ⟨by omega, by omega⟩
              -- its end
              have fin : ∀ (kk vv : Int) (lt' : Nat → Nat) (M4 : Mem), askF bs L own n nm ln (t, pd, op, cnt, u, lt, true) t2 = Sum.inr (true, (tok bs L (tN t2), pd, op, cnt + 1, u ++ [(kk, vv)], lt', false)) → tK t2 ≠ 39 → FrG M M4 → (∀ a, a ≠ 9 → M4 a = M3 a) → LtC lt' M4 → iR kk → iR vv → CV E mX2_add [pR 15, pI kk, pI vv] M4 (fun M7 => KW E mX5_formula (qI f) M7 212 [(0, pR 1), (1, pI own), (2, pI 0), (3, pI ((tn : Int) + 1))] []) := by
                intro kk vv lt' M4 ea e39 c1 c2 c3 c4 c5
                have hK4 : KA (pre ++ u) M4 := g5.of (by rw [c2 15 (by decide), hM3a 15 (by decide) (by decide)]) (by rw [c2 16 (by decide), hM3a 16 (by decide) (by decide)]) (by rw [c2 17 (by decide), hM3a 17 (by decide) (by decide)])
                refine c_addK c4 c5 hK4 (by omega) (fun M5 d1 d2 d3 => ?_)
                have hG5 : FrG M M5 := c1.tr ⟨d1, by rw [d2 1 (by decide) (by decide) (by decide)], by rw [d2 1 (by decide) (by decide) (by decide)]⟩
                have hc1 : M5 1 = M3 1 := by rw [d2 1 (by decide) (by decide) (by decide), c2 1 (by decide)]
                have hc2 : M5 2 = M3 2 := by rw [d2 2 (by decide) (by decide) (by decide), c2 2 (by decide)]
                refine vX5_formula_212 _ _ _ (c_advance (hG5.1.tp hT) hnx.1.2.2.1 (by rw [hc2]; exact hT3.2.2.2) (fun M6 e1 e2 => ?_))
                have hlt2 := hnx.1.2.2.2.2.1 e39
                rw [ea] at base
                have hnx2 := hnx.2
                have hn22 := hn2.2
                refine HC _ base (tn + 2) M6 (by show tn + 2 ≤ tS (tok bs L (tN t2)); omega) (hG5.tr e1.toG) ⟨e2, ?_, ?_, ?_, ?_, ?_, ?_⟩
                · refine g2.of ?_ ?_
                  · rw [e1.1 1 (by decide), hc1, hM31 3 (by decide) (by decide)]
                  · rw [e1.1 20 (by decide), d2 20 (by decide) (by decide) (by decide), c2 20 (by decide), hM3a 20 (by decide) (by decide)]
                · show M6 1 4 = (op : Int)
                  rw [e1.1 1 (by decide), hc1, hM31 4 (by decide) (by decide)]; exact g3
                · show M6 1 6 = ((cnt + 1 : Nat) : Int)
                  rw [e1.1 1 (by decide), hc1, ← hM3, upM_self, va_up_neq _ _ (by decide), h16]; omega
                · rw [List.append_assoc] at d3
                  exact d3.of (e1.1 15 (by decide)) (e1.1 16 (by decide)) (e1.1 17 (by decide))
                · exact c3.of (by rw [e1.1 9 (by decide), d2 9 (by decide) (by decide) (by decide)])
                · rw [e1.1 1 (by decide), hc1, ← hM3]; rfl
              have wrong : ∀ w : Int, askF bs L own n nm ln (t, pd, op, cnt, u, lt, true) t2 = Sum.inl (w, tS t2) → ∀ M4, FrF M3 M4 → M4 1 9 = w → M4 1 10 = (tS t2 : Int) → f 0 M4 := fun w ea M4 c1 c2 c3 => by
                rw [ea] at base
                exact HE w (tS t2) base M4 (hG3.1.tr c1) c2 c3
              have hnx2 := hnx.2
              have hnS := hnx.1.1
              refine vX5_formula_19 _ _ _ ⟨⟨by omega, by omega⟩, fun z => absurd z (by omega), fun _ => ?_⟩
              rw [h15]
              refine fun _ => ⟨fun z => absurd z (by omega), fun _ => vX5_asks_0 _ ?_⟩
              rw [h15, hM3]
              refine fun _ => ⟨fun c15 => c_toldLatch hnx.1.2.2.2.2.2 hT3 hN3 (fun e1 e2 => ⟨⟨by decide, by decide⟩, fun _ => ?_, fun z => absurd z (by decide)⟩) (fun w hw M4 c1 c2 c3 => ⟨⟨by decide, by decide⟩, fun z => absurd rfl z, fun _ => ⟨⟨by decide, by decide⟩, fun z => absurd rfl z, fun _ => ?_⟩⟩), fun c15 => c_numberTo (by decide) hT3 (fun e1 e2 => ⟨⟨by decide, by decide⟩, fun _ => ?_, fun z => absurd z (by decide)⟩) (fun w hw M4 c1 c2 c3 => ⟨⟨by decide, by decide⟩, fun z => absurd rfl z, fun _ => ⟨⟨by decide, by decide⟩, fun z => absurd rfl z, fun _ => ?_⟩⟩)⟩
              · -- a told latch
                rcases findN_c (nm := nm) (v := tV t2) n 0 with z | ⟨o, o1, o2, o3⟩
                · exact absurd z e2
                have ea0 : askF bs L own n nm ln (t, pd, op, cnt, u, lt, true) t2 = (if tK t = 16 then (if ln.testBit o = false then Sum.inl (4, tS t2) else if (lt o).testBit own.toNat = true then Sum.inl (5, tS t2) else Sum.inr (true, (tok bs L (tN t2), pd, op, cnt + 1, u ++ [(16, (o : Int))], upN lt own.toNat (lt own.toNat ||| lt o), false))) else if (o : Int) = own then Sum.inl (5, tS t2) else Sum.inr (true, (tok bs L (tN t2), pd, op, cnt + 1, u ++ [(tK t, (o : Int))], upN lt own.toNat (lt own.toNat ||| 2 ^ o), false))) := by
                  unfold askF
                  rw [if_neg (show ¬ tK (fT (t, pd, op, cnt, u, lt, true)) = 15 from c15), if_neg (fun z => z e1), o3, if_neg (by omega), Int.toNat_natCast]
                obtain ⟨ow, how⟩ : ∃ ow : Nat, own = (ow : Int) := ⟨own.toNat, by omega⟩
                refine vX5_asks_37 _ _ ⟨⟨by omega, by omega⟩, fun _ => ?_, fun z => absurd z c15⟩
                rw [hT3.2.1]
                refine fun _ => c_numberOf (Or.inl rfl) k2r hN3.1 hN3.2.1 hN3.2.2.1 ?_
                rw [o3]
                have hlo := h9 o
                have hLt3 : LtC lt M3 := g6.of (by rw [hM3a 9 (by decide) (by decide)])
                refine ⟨⟨by omega, by omega⟩, fun c16 => ?_, fun c16 => ?_⟩
                · rw [if_neg c16] at ea0
                  refine vX5_onOther_0 _ _ _ ⟨⟨by omega, by omega⟩, ⟨by omega, by omega⟩, fun d1 => ?_, fun d1 => ?_⟩
                  · rw [if_neg (by omega)] at ea0
                    have hpo : 2 ^ o < 2 ^ 8 := Nat.pow_lt_pow_right (by decide) (by omega)
                    rw [bOne_nat (by omega), how]
                    rw [how, Int.toNat_natCast] at ea0
                    refine c_addLeant (lt := lt) (by omega) (by omega) h9 hLt3 (fun M4 m1 m2 m3 => ?_)
                    rw [← how] at ea0 ⊢
                    refine CV_mono (fun M7 hz => ⟨Or.inr rfl, ⟨by decide, by decide⟩, fun _ => ?_, fun z => absurd z (by decide)⟩) (fin (tK t) (o : Int) _ M4 ea0 (by omega) (hG3.tr ⟨m1, by rw [m2 1 (by decide)], by rw [m2 1 (by decide)]⟩) m2 m3 ⟨by omega, by omega⟩ ⟨by omega, by omega⟩)
                    exact hz
                  · rw [if_pos (by omega)] at ea0
                    exact c_failsC (by decide) hT3.2.2.1 (fun M4 c1 c2 c3 => ⟨Or.inl rfl, ⟨Or.inl rfl, ⟨by decide, by decide⟩, fun z => absurd rfl z, fun _ => wrong 5 ea0 M4 c1 c2 c3⟩⟩)
                · rw [if_pos c16] at ea0
                  have hlnb := hN3.2.2.2.2
                  refine vX5_asOther_0 _ _ (vX1_doesLean_0 _ ⟨⟨by omega, by omega⟩, fun z => absurd z (by omega), fun _ => ⟨⟨by omega, by omega⟩, fun z => absurd z (by omega), fun _ => ?_⟩⟩)
                  rw [hN3.2.2.2.1, bBit_nat (by omega) (by omega), bt_tb]
                  intro _
                  cases hb : ln.testBit o
                  · rw [if_pos hb] at ea0
                    refine ⟨fun _ => ⟨⟨by decide, by decide⟩, fun z => absurd rfl z, fun _ => c_failsC (by decide) hT3.2.2.1 (fun M4 c1 c2 c3 => ⟨Or.inl rfl, ⟨Or.inl rfl, ⟨by decide, by decide⟩, fun z => absurd rfl z, fun _ => wrong 4 ea0 M4 c1 c2 c3⟩⟩)⟩, fun z => absurd rfl z⟩
                  · rw [if_neg (by rw [hb]; decide)] at ea0
                    refine ⟨fun z => absurd z (by decide), fun _ => ⟨⟨by decide, by decide⟩, fun _ => vX1_leantOn_0 _ ⟨⟨by omega, by omega⟩, fun z => absurd z (by omega), fun _ => ⟨⟨by omega, by omega⟩, fun z => absurd z (by omega), fun _ => ⟨⟨by omega, by omega⟩, ?_⟩⟩⟩, fun z => absurd z (by decide)⟩⟩
                    rw [Int.toNat_natCast, hLt3 o (by omega), how, bBit_nat (by omega) (by omega), bt_tb]
                    rw [how, Int.toNat_natCast] at ea0
                    intro _
                    cases hb2 : (lt o).testBit ow
                    · rw [if_neg (by rw [hb2]; decide)] at ea0
                      refine ⟨fun _ => c_addLeant (lt := lt) (by omega) (by omega) h9 hLt3 (fun M4 m1 m2 m3 => ?_), fun z => absurd rfl z⟩
                      rw [← how] at ea0 ⊢
                      refine CV_mono (fun M7 hz => ⟨Or.inr rfl, ⟨by decide, by decide⟩, fun _ => ?_, fun z => absurd z (by decide)⟩) (fin 16 (o : Int) _ M4 ea0 (by omega) (hG3.tr ⟨m1, by rw [m2 1 (by decide)], by rw [m2 1 (by decide)]⟩) m2 m3 ⟨by decide, by decide⟩ ⟨by omega, by omega⟩)
                      exact hz
                    · rw [if_pos hb2] at ea0
                      rw [← how] at ea0
                      exact ⟨fun z => absurd z (by decide), fun _ => c_failsC (by decide) hT3.2.2.1 (fun M4 c1 c2 c3 => ⟨Or.inl rfl, ⟨Or.inl rfl, ⟨by decide, by decide⟩, fun z => absurd rfl z, fun _ => wrong 5 ea0 M4 c1 c2 c3⟩⟩)⟩
              · have ea : askF bs L own n nm ln (t, pd, op, cnt, u, lt, true) t2 = Sum.inl (w, tS t2) := by
                  unfold askF
                  rw [if_neg (show ¬ tK (fT (t, pd, op, cnt, u, lt, true)) = 15 from c15)]
                  rcases hw with ⟨q1, q2⟩ | ⟨q1, q2, q3⟩
                  · rw [if_pos q1, q2]
                  · rw [if_neg (fun z => z q1), if_pos q2, q3]
                exact wrong w ea M4 c1 c2 c3
              · have ea : askF bs L own n nm ln (t, pd, op, cnt, u, lt, true) t2 = Sum.inr (true, (tok bs L (tN t2), pd, op, cnt + 1, u ++ [(15, tV t2)], lt, false)) := by
                  unfold askF
                  rw [if_pos (show tK (fT (t, pd, op, cnt, u, lt, true)) = 15 from c15), if_neg (fun z => z e1), if_neg (by omega)]
                refine vX5_asks_37 _ _ ⟨⟨by omega, by omega⟩, fun z => absurd c15 z, fun _ => ?_⟩
                rw [hT3.2.1]
                refine fun _ => CV_mono (fun M7 hz => ⟨⟨by decide, by decide⟩, fun _ => hz, fun z => absurd z (by decide)⟩) (fin 15 (tV t2) lt M3 ea (by omega) hG3 (fun _ _ => rfl) (g6.of (by rw [hM3a 9 (by decide) (by decide)])) ⟨by decide, by decide⟩ k2r)
              · have ea : askF bs L own n nm ln (t, pd, op, cnt, u, lt, true) t2 = Sum.inl (w, tS t2) := by
                  unfold askF
                  rw [if_pos (show tK (fT (t, pd, op, cnt, u, lt, true)) = 15 from c15)]
                  rcases hw with ⟨q1, q2⟩ | ⟨q1, q2, q3⟩
                  · rw [if_pos q1, q2]
                  · rw [if_neg (fun z => z q1), if_pos q2, q3]
                exact wrong w ea M4 c1 c2 c3
            · rw [if_pos cc] at base
              exact HE 2 (tS t) base M' a1 a2 a3
          · -- a leaf of a law
            intro cown
            have co : own < 0 := by omega
            have base : stepF bs L own n nm ln (t, pd, op, cnt, u, lt, true) = (if tK t = 37 ∨ (17 ≤ tK t ∧ tK t ≤ 23) then (if 64 ≤ cnt then Sum.inl (2, tS t) else if tK t = 37 ∧ tV t > 9999 then Sum.inl (2, tS t) else Sum.inr (true, (tok bs L (tN t), pd, op, cnt + 1, u ++ [(tK t, tV t)], lt, false))) else Sum.inl (1, tS t)) := by
              unfold stepF
              rw [if_pos rfl]
              show (if tK t = 25 then _ else if tK t = 12 then _ else _) = _
              rw [if_neg c25, if_neg c12, if_pos co]
            have bad : ¬ (tK t = 37 ∨ (17 ≤ tK t ∧ tK t ≤ 23)) → CI E mX5_fails [pR 1, pI 1] M (fun r7 M8 => (zR r7) ∧ ((iR r7) ∧ ((r7 ≠ 0 → (KW E mX5_formula (qI f) M8 212 [(0, pR 1), (1, pI own), (2, pI 0), (3, pI (tn : Int))] [])) ∧ (r7 = 0 → f 0 M8)))) := by
              intro z
              rw [if_neg z] at base
              exact c_failsC (by decide) t3 (fun M' a1 a2 a3 => ⟨Or.inl rfl, ⟨by decide, by decide⟩, fun z => absurd rfl z, fun _ => HE 1 (tS t) base M' a1 a2 a3⟩)
            have good : (tK t = 37 ∨ (17 ≤ tK t ∧ tK t ≤ 23)) → KW E mX5_lawLeaf (qI (fun r11 M12 => (iR r11) ∧ ((r11 ≠ 0 → (KW E mX5_formula (qI f) M12 212 [(0, pR 1), (1, pI own), (2, pI 0), (3, pI (tn : Int))] [])) ∧ (r11 = 0 → f 0 M12)))) M 42 [(0, pR 1)] [] := by
              intro z
              rw [if_pos z] at base
              refine vX5_lawLeaf_42 (cnts _ M (FrG.rf M) g4 t3 (fun cc => ⟨⟨by decide, by decide⟩, fun z => absurd z (by decide), fun _ => ?_⟩) (fun cc M' a1 a2 a3 => ⟨⟨by decide, by decide⟩, fun _ => ⟨⟨by decide, by decide⟩, fun z => absurd rfl z, fun _ => ?_⟩, fun z => absurd rfl z⟩))
              · rw [if_neg (by omega)] at base
                have hvr := h1.2.2.2.2.2
                have add : ¬ (tK t = 37 ∧ tV t > 9999) → CV E mX2_add [pR 15, pI (tK t), pI (tV t)] (upM M 1 6 ((cnt : Int) + 1)) (fun M8 => (iR 1) ∧ (((1 : Int) ≠ 0 → (KW E mX5_formula (qI f) M8 212 [(0, pR 1), (1, pI own), (2, pI 0), (3, pI (tn : Int))] [])) ∧ ((1 : Int) = 0 → f 0 M8))) := by
                  intro z2
                  rw [if_neg z2] at base
                  refine c_addK (al := pre ++ u) ⟨by omega, by omega⟩ ⟨by omega, by omega⟩ (g5.of rfl rfl rfl) (by omega) (fun M1 b1 b2 b3 => ⟨⟨by decide, by decide⟩, fun _ => ?_, fun z => absurd z (by decide)⟩)
                  rw [List.append_assoc] at b3
                  have hc1 : ∀ q, q ≠ 6 → M1 1 q = M 1 q := fun q hq => by rw [b2 1 (by decide) (by decide) (by decide), upM_self, va_up_neq _ _ hq]
                  refine adv _ M1 base rfl (by omega) ((FrG.u1 _ (by omega)).tr ⟨b1, by rw [b2 1 (by decide) (by decide) (by decide)], by rw [b2 1 (by decide) (by decide) (by decide)]⟩) (g1.of (by rw [b2 2 (by decide) (by decide) (by decide)]; rfl)) (g2.of (hc1 3 (by decide)) (by rw [b2 20 (by decide) (by decide) (by decide)]; rfl)) (by rw [hc1 4 (by decide)]; exact g3) ?_ b3 (g6.of (by rw [b2 9 (by decide) (by decide) (by decide)]; rfl)) (by rw [hc1 5 (by decide)]; exact g7)
                  rw [b2 1 (by decide) (by decide) (by decide)]; rfl
                rw [show upM M 1 6 ((cnt : Int) + 1) 2 5 = tK t from t1, show upM M 1 6 ((cnt : Int) + 1) 2 7 = tV t from t2]
                refine fun _ => ⟨fun d => fun _ _ => add (fun z => d z.1), fun d => c_numberTo (t := t) (by decide) (g1.of rfl) (fun e1 e2 => ⟨⟨by decide, by decide⟩, fun _ => ?_, fun z => absurd z (by decide)⟩) (fun w hw M4 c1 c2 c3 => ⟨⟨by decide, by decide⟩, fun z => absurd rfl z, fun _ => ⟨⟨by decide, by decide⟩, fun z => absurd rfl z, fun _ => ?_⟩⟩)⟩
                · rw [show upM M 1 6 ((cnt : Int) + 1) 2 5 = tK t from t1, show upM M 1 6 ((cnt : Int) + 1) 2 7 = tV t from t2]
                  exact fun _ _ => add (fun z => by omega)
                · have hw2 : w = 2 ∧ 9999 < tV t := by omega
                  rw [if_pos ⟨d, by omega⟩] at base
                  rw [hw2.1] at c2
                  exact HE 2 (tS t) base M4 ((FrF.u1 _ (by omega)).tr c1) c2 c3
              · rw [if_pos cc] at base
                exact HE 2 (tS t) base M' a1 a2 a3
            apply vX5_lawLeaf_0
            rw [t1]
            exact fun _ => ⟨fun c => good (Or.inl c), fun c => fun _ => ⟨fun c2 => bad (by omega), fun c2 => fun _ => ⟨fun c3 => good (Or.inr ⟨c2, c3⟩), fun c3 => bad (by omega)⟩⟩⟩
        · -- not
          intro c12
          have base : stepF bs L own n nm ln (t, pd, op, cnt, u, lt, true) = (if topR pd > 3 then Sum.inl (1, tS t) else if 64 ≤ cnt then Sum.inl (2, tS t) else Sum.inr (true, (tok bs L (tN t), 12 :: pd, op, cnt + 1, u, lt, true))) := by
            unfold stepF
            rw [if_pos rfl]
            show (if tK t = 25 then _ else if tK t = 12 then _ else _) = _
            rw [if_neg c25, if_pos c12]
          have go : ¬ topR pd > 3 → CI E mX5_counts [pR 1] M (fun r3 M4 => (iR r3) ∧ ((r3 ≠ 0 → (CV E mX5_addPending [pR 1, pI 12] M4 (fun M7 => (iR 1) ∧ (((1 : Int) ≠ 0 → (KW E mX5_formula (qI f) M7 212 [(0, pR 1), (1, pI own), (2, pI 1), (3, pI (tn : Int))] [])) ∧ ((1 : Int) = 0 → f 0 M7))))) ∧ (r3 = 0 → (iR 0) ∧ (((0 : Int) ≠ 0 → (KW E mX5_formula (qI f) M4 212 [(0, pR 1), (1, pI own), (2, pI 1), (3, pI (tn : Int))] [])) ∧ ((0 : Int) = 0 → f 0 M4))))) := by
            intro z
            rw [if_neg z] at base
            refine cnts _ M (FrG.rf M) g4 t3 (fun cc => ⟨⟨by decide, by decide⟩, fun _ => ?_, fun z => absurd z (by decide)⟩) (fun cc M' a1 a2 a3 => ⟨⟨by decide, by decide⟩, fun z => absurd rfl z, fun _ => ⟨⟨by decide, by decide⟩, fun z => absurd rfl z, fun _ => ?_⟩⟩)
            · rw [if_neg (by omega)] at base
              refine c_addPend (pd := pd) ⟨by decide, by decide⟩ (g2.of rfl rfl) (by omega) (fun M1 b1 b2 b3 b4 => ⟨⟨by decide, by decide⟩, fun _ => ?_, fun z => absurd z (by decide)⟩)
              refine adv _ M1 base rfl (by omega) ((FrG.u1 _ (by omega)).tr ⟨b1, b3 9 (by decide), b3 10 (by decide)⟩) (g1.of (by rw [b2 2 (by decide) (by decide)]; rfl)) b4 ?_ ?_ ((g5.of rfl rfl rfl).of (b2 15 (by decide) (by decide)) (b2 16 (by decide) (by decide)) (b2 17 (by decide) (by decide))) ((g6.of rfl).of (b2 9 (by decide) (by decide))) ?_
              · rw [b3 4 (by decide)]; exact g3
              · rw [b3 6 (by decide)]; rfl
              · rw [b3 5 (by decide)]; exact g7
            · rw [if_pos cc] at base
              exact HE 2 (tS t) base M' a1 a2 a3
          apply vX5_prefix_0
          rw [t1, g2.1]
          refine fun _ => ⟨fun _ _ => ⟨fun z => ?_, fun z => fun _ => ⟨⟨by omega, by omega⟩, fun _ => ?_⟩⟩, fun z => absurd z c25⟩
          · have : pd = [] := by
              cases pd with
              | nil => rfl
              | cons k p => rw [List.length_cons] at z; omega
            exact go (by rw [this]; decide)
          · cases pd with
            | nil => exact absurd z (by decide)
            | cons k p =>
              have htop : M 20 p.length = k := g2.2.top
              rw [show (((k :: p).length : Int) - 1).toNat = p.length by rw [List.length_cons]; omega, htop]
              have hkr := okPd_r (h2 k (List.mem_cons_self ..))
              have hrb := rk_b k
              refine c_rank ⟨by omega, by omega⟩ ⟨⟨by omega, by omega⟩, fun d => go (by show ¬ rk k > 3; omega), fun d => ?_⟩
              rw [if_pos (show topR (k :: p) > 3 from d)] at base
              exact c_failsC (by decide) t3 (fun M' a1 a2 a3 => ⟨Or.inl rfl, ⟨by decide, by decide⟩, fun z => absurd rfl z, fun _ => HE 1 (tS t) base M' a1 a2 a3⟩)
    refine vX5_formula_19 _ _ _ ⟨⟨by omega, by have := h1.1; omega⟩, fun z => absurd z (by have := h1.1; omega), fun _ => ?_⟩
    rw [g7]
    exact fun _ => ⟨fun _ => ⟨⟨by decide, by decide⟩, fun _ => vX5_formula_74 _ _ _ ⟨⟨by decide, by decide⟩, fun _ => notR, fun z => absurd z (by decide)⟩, fun z => absurd z (by decide)⟩, fun z => absurd rfl z⟩
  | false =>
    show KW E mX5_formula (qI f) M 19 [(0, pR 1), (1, pI own), (2, pI 0), (3, pI (tn : Int))] []
    have hd : dpF 0 u = some (bnL pd + 1) := h7
    have hup : (pre ++ u).length + npL pd ≤ 64 := by omega
    -- joining
    have jn : ¬ (tK t = 24 ∧ op = 0) → ¬ (tK t = 26 ∧ 0 < op) → KW E mX5_formula (qI f) M 125 [(0, pR 1), (1, pI own), (2, pI 0), (3, pI (tn : Int))] [] := by
      intro n24 n26
      have base : stepF bs L own n nm ln (t, pd, op, cnt, u, lt, false) = (if rk (tK t) = 0 ∨ tK t = 12 ∨ (0 ≤ own ∧ 4 ≤ rk (tK t)) then Sum.inl (1, tS t) else if rk (tK t) = 4 ∧ topR (stl (if rk (tK t) = 4 then 5 else rk (tK t)) pd u).1 = 4 then Sum.inl (1, tS t) else if 64 ≤ cnt then Sum.inl (2, tS t) else Sum.inr (true, (tok bs L (tN t), tK t :: (stl (if rk (tK t) = 4 then 5 else rk (tK t)) pd u).1, op, cnt + 1, (stl (if rk (tK t) = 4 then 5 else rk (tK t)) pd u).2, lt, true))) := by
        unfold stepF
        rw [if_neg (show ¬ (false = true) by decide)]
        show (if tK t = 24 ∧ op = 0 then _ else if tK t = 26 ∧ 0 < op then _ else _) = _
        rw [if_neg n24, if_neg n26]
      have hrb := rk_b (tK t)
      have hkr := h1.2.2.2.1
      have bad : (rk (tK t) = 0 ∨ tK t = 12 ∨ (0 ≤ own ∧ 4 ≤ rk (tK t))) → CI E mX5_fails [pR 1, pI 1] M (fun r7 M8 => (zR r7) ∧ ((iR r7) ∧ ((r7 ≠ 0 → (KW E mX5_formula (qI f) M8 212 [(0, pR 1), (1, pI own), (2, pI 1), (3, pI (tn : Int))] [])) ∧ (r7 = 0 → f 0 M8)))) := by
        intro z
        rw [if_pos z] at base
        exact c_failsC (by decide) t3 (fun M' a1 a2 a3 => ⟨Or.inl rfl, ⟨by decide, by decide⟩, fun z => absurd rfl z, fun _ => HE 1 (tS t) base M' a1 a2 a3⟩)
      have go : ¬ (rk (tK t) = 0 ∨ tK t = 12 ∨ (0 ≤ own ∧ 4 ≤ rk (tK t))) → KW E mX5_joins (qI (fun r18 M19 => (iR r18) ∧ ((r18 ≠ 0 → (KW E mX5_formula (qI f) M19 212 [(0, pR 1), (1, pI own), (2, pI 1), (3, pI (tn : Int))] [])) ∧ (r18 = 0 → f 0 M19)))) M 51 [(0, pR 1), (2, pI (tK t)), (3, pI (rk (tK t)))] [pI (if rk (tK t) = 4 then 5 else rk (tK t)), pR 1] := by
        intro z
        rw [if_neg z] at base
        have hr1 : 1 ≤ (if rk (tK t) = 4 then 5 else rk (tK t)) ∧ (if rk (tK t) = 4 then 5 else rk (tK t)) ≤ 6 := by split <;> omega
        have hq := stl_ok (own := own) (n := n) (ln := ln) (lw := own < 0) hr1.1 pd u h2 h8 hd
        refine vX5_joins_51 _ _ _ (vX5_settlePending_in _ (c_settleC hr1 pd u M h2 g2 g5 hup (by omega) (fun M1 b1 b2 b3 b4 b5 => ?_)))
        have hG1 : FrG M M1 := ⟨b1, b3 9 (by decide), b3 10 (by decide)⟩
        generalize hq1 : stl (if rk (tK t) = 4 then 5 else rk (tK t)) pd u = q at base hq b4 b5
        have hl1 := pd_len q.1
        have hT1 : TC t M1 := g1.of (b2 2 (by decide) (by decide) (by decide) (by decide))
        have cn : ¬ (rk (tK t) = 4 ∧ topR q.1 = 4) → CI E mX5_counts [pR 1] M1 (fun r4 M5 => (iR r4) ∧ ((r4 ≠ 0 → (CV E mX5_addPending [pR 1, pI (tK t)] M5 (fun M8 => (iR 1) ∧ (((1 : Int) ≠ 0 → (KW E mX5_formula (qI f) M8 212 [(0, pR 1), (1, pI own), (2, pI 1), (3, pI (tn : Int))] [])) ∧ ((1 : Int) = 0 → f 0 M8))))) ∧ (r4 = 0 → (iR 0) ∧ (((0 : Int) ≠ 0 → (KW E mX5_formula (qI f) M5 212 [(0, pR 1), (1, pI own), (2, pI 1), (3, pI (tn : Int))] [])) ∧ ((0 : Int) = 0 → f 0 M5))))) := by
          intro z2
          rw [if_neg z2] at base
          refine c_countsC (by rw [b3 6 (by decide)]; exact g4) h6 hT1.2.2.1 (fun cc => ⟨⟨by decide, by decide⟩, fun _ => ?_, fun z => absurd z (by decide)⟩) (fun cc M' a1 a2 a3 => ⟨⟨by decide, by decide⟩, fun z => absurd rfl z, fun _ => ⟨⟨by decide, by decide⟩, fun z => absurd rfl z, fun _ => ?_⟩⟩)
          · rw [if_neg (by omega)] at base
            have hqn := hq.2.2.2.2.1
            refine c_addPend (pd := q.1) ⟨by omega, by omega⟩ (b4.of rfl rfl) (by have := hq.2.2.2.1; omega) (fun M2 d1 d2 d3 d4 => ⟨⟨by decide, by decide⟩, fun _ => ?_, fun z => absurd z (by decide)⟩)
            have hk39 : tK t ≠ 39 := fun e => z (Or.inl (by rw [e]; decide))
            refine adv _ M2 base rfl hk39 ((hG1.tr (FrG.u1 _ (by omega))).tr ⟨d1, d3 9 (by decide), d3 10 (by decide)⟩) (hT1.of (by rw [d2 2 (by decide) (by decide)]; rfl)) d4 ?_ ?_ ((b5.of rfl rfl rfl).of (d2 15 (by decide) (by decide)) (d2 16 (by decide) (by decide)) (d2 17 (by decide) (by decide))) ?_ ?_
            · rw [d3 4 (by decide), upM_self, va_up_neq _ _ (by decide), b3 4 (by decide)]; exact g3
            · rw [d3 6 (by decide)]; rfl
            · exact g6.of (by rw [d2 9 (by decide) (by decide), upM_ne _ _ _ (by decide), b2 9 (by decide) (by decide) (by decide) (by decide)])
            · rw [d3 5 (by decide), upM_self, va_up_neq _ _ (by decide), b3 5 (by decide)]; exact g7
          · rw [if_pos cc] at base
            exact HE 2 (tS t) base M' (b1.tr a1) a2 a3
        rw [b4.1]
        refine ⟨⟨by omega, by omega⟩, fun c4 => cn (fun z => c4 z.1), fun c4 => fun _ => ⟨fun z => ?_, fun z => fun _ => ⟨⟨by omega, by have := hq.2.2.2.1; have := hq.2.2.2.2.1; omega⟩, fun _ => ?_⟩⟩⟩
        · refine cn (fun w => ?_)
          have : q.1 = [] := by
            cases hz : q.1 with
            | nil => rfl
            | cons k p => rw [hz, List.length_cons] at z; omega
          rw [this] at w
          exact absurd w.2 (by decide)
        · cases hz : q.1 with
          | nil => rw [hz] at z; exact absurd z (by decide)
          | cons k p =>
            rw [hz] at b4
            have htop : M1 20 p.length = k := b4.2.top
            rw [show (((k :: p).length : Int) - 1).toNat = p.length by rw [List.length_cons]; omega, htop]
            have hkr2 := okPd_r (hq.1 k (by rw [hz]; exact List.mem_cons_self ..))
            have hrb2 := rk_b k
            have htr : topR q.1 = rk k := by rw [hz]; rfl
            refine c_rank ⟨by omega, by omega⟩ ⟨⟨by omega, by omega⟩, fun d => cn (fun w => d (by rw [← htr]; exact w.2)), fun d => ?_⟩
            rw [if_pos ⟨c4, by rw [htr]; exact d⟩] at base
            exact c_failsC (by decide) hT1.2.2.1 (fun M' a1 a2 a3 => ⟨Or.inl rfl, ⟨by decide, by decide⟩, fun z => absurd rfl z, fun _ => HE 1 (tS t) base M' (b1.tr a1) a2 a3⟩)
      refine vX5_formula_125 _ _ _ ⟨⟨by decide, by decide⟩, fun z => absurd rfl z, fun _ => ⟨by rcases hown with z | z <;> exact ⟨by omega, by omega⟩, fun cown => ?_, fun cown => ?_⟩⟩
      · apply vX5_joins_0
        rw [t1]
        refine fun _ => c_rank ⟨by omega, by omega⟩ ⟨⟨by omega, by omega⟩, fun c => bad (Or.inl c), fun c => ⟨fun c2 => bad (Or.inr (Or.inl c2)), fun c2 => ⟨⟨by decide, by decide⟩, fun z => absurd rfl z, fun _ => ⟨⟨by omega, by omega⟩, fun c3 => ⟨⟨by omega, by omega⟩, fun c4 => ?_, fun c4 => absurd c4 (by omega)⟩, fun c3 => bad (Or.inr (Or.inr ⟨by omega, c3⟩))⟩⟩⟩⟩
        have := go (by omega)
        rw [if_neg c4] at this
        exact this
      · apply vX5_joins_0
        rw [t1]
        refine fun _ => c_rank ⟨by omega, by omega⟩ ⟨⟨by omega, by omega⟩, fun c => bad (Or.inl c), fun c => ⟨fun c2 => bad (Or.inr (Or.inl c2)), fun c2 => ⟨⟨by decide, by decide⟩, fun _ => ⟨⟨by omega, by omega⟩, fun c4 => ?_, fun c4 => ?_⟩, fun z => absurd z (by decide)⟩⟩⟩
        · have := go (by omega)
          rw [if_neg c4] at this
          exact this
        · have := go (by omega)
          rw [if_pos c4] at this
          rw [c4] at this ⊢
          exact this
    -- )
    have cl : ¬ (tK t = 24 ∧ op = 0) → KW E mX5_formula (qI f) M 74 [(0, pR 1), (1, pI own), (2, pI 0), (3, pI (tn : Int))] [] := by
      intro n24
      refine vX5_formula_74 _ _ _ ⟨⟨by decide, by decide⟩, fun z => absurd rfl z, fun _ => ?_⟩
      rw [t1, g3]
      refine fun _ => ⟨fun c => jn n24 (fun z => c z.1), fun c => fun _ => ⟨fun c2 => jn n24 (fun z => by omega), fun c2 => ?_⟩⟩
      have base : stepF bs L own n nm ln (t, pd, op, cnt, u, lt, false) = Sum.inr (true, (tok bs L (tN t), (stl 1 pd u).1.tail, op - 1, cnt, (stl 1 pd u).2, lt, false)) := by
        unfold stepF
        rw [if_neg (show ¬ (false = true) by decide)]
        show (if tK t = 24 ∧ op = 0 then _ else if tK t = 26 ∧ 0 < op then _ else _) = _
        rw [if_neg n24, if_pos ⟨c, by omega⟩]
      have hq := stl_ok (own := own) (n := n) (ln := ln) (lw := own < 0) (r := 1) (Int.le_refl _) pd u h2 h8 hd
      obtain ⟨q, eq⟩ := top25 hq.1 hq.2.2.2.2.2 (by rw [hq.2.2.2.1]; omega)
      refine vX5_settlePending_in _ (c_settleC (by decide) pd u M h2 g2 g5 hup (by omega) (fun M1 b1 b2 b3 b4 b5 => ?_))
      rw [eq] at b4
      have e13 : M1 1 3 = (q.length : Int) + 1 := by rw [b4.1, List.length_cons]; omega
      have hq2 := hq.2.2.2.2.1
      have hl1 := pd_len (stl 1 pd u).1
      rw [eq, List.length_cons] at hl1
      have hq3 := hq.2.2.2.1
      rw [eq] at hq2 hq3
      rw [e13, b3 4 (by decide), g3]
      refine fun _ => ⟨⟨by omega, by omega⟩, fun _ => ⟨⟨by omega, by omega⟩, ?_⟩⟩
      refine adv _ _ base rfl (by omega) (((show FrG M M1 from ⟨b1, b3 9 (by decide), b3 10 (by decide)⟩).tr (FrG.u1 _ (by omega))).tr (FrG.u1 _ (by omega))) (g1.of (by rw [upM_ne _ _ _ (by decide), upM_ne _ _ _ (by decide), b2 2 (by decide) (by decide) (by decide) (by decide)])) ?_ ?_ ?_ (b5.of rfl rfl rfl) (g6.of (by rw [upM_ne _ _ _ (by decide), upM_ne _ _ _ (by decide), b2 9 (by decide) (by decide) (by decide) (by decide)])) ?_
      · show PdC (stl 1 pd u).1.tail _
        rw [eq]
        refine ⟨?_, b4.2.pop⟩
        show (q.length : Int) + 1 - 1 = (q.length : Int)
        omega
      · show (op : Int) - 1 = ((op - 1 : Nat) : Int)
        omega
      · show M1 1 6 = (cnt : Int)
        rw [b3 6 (by decide)]; exact g4
      · show M1 1 5 = -1
        rw [b3 5 (by decide)]; exact g7
    refine vX5_formula_19 _ _ _ ⟨⟨by omega, by have := h1.1; omega⟩, fun z => absurd z (by have := h1.1; omega), fun _ => ?_⟩
    rw [g7]
    refine fun _ => ⟨fun _ => ⟨⟨by decide, by decide⟩, fun z => absurd rfl z, fun _ => ?_⟩, fun z => absurd rfl z⟩
    rw [t1, g3]
    refine fun _ => ⟨fun c => cl (fun z => c z.1), fun c => fun _ => ⟨fun c2 => cl (fun z => by omega), fun c2 => ?_⟩⟩
    have base : stepF bs L own n nm ln (t, pd, op, cnt, u, lt, false) = Sum.inr (false, (t, (stl 1 pd u).1, op, cnt, (stl 1 pd u).2, lt, false)) := by
      unfold stepF
      rw [if_neg (show ¬ (false = true) by decide)]
      show (if tK t = 24 ∧ op = 0 then _ else _) = _
      rw [if_pos ⟨c, by omega⟩]
    refine vX5_settlePending_in _ (c_settleC (by decide) pd u M h2 g2 g5 hup (by omega) (fun M1 b1 b2 b3 b4 b5 => ?_))
    exact HD _ base M1 ⟨b1, b3 9 (by decide), b3 10 (by decide)⟩ ⟨g1.of (b2 2 (by decide) (by decide) (by decide) (by decide)), b4, by rw [b3 4 (by decide)]; exact g3, by rw [b3 6 (by decide)]; exact g4, b5, g6.of (b2 9 (by decide) (by decide) (by decide) (by decide)), by rw [b3 5 (by decide)]; exact g7⟩
/-- a formula in the class: as the pure reading -/
theorem c_formulaL {f : Int → Mem → Prop} {M0 : Mem} (hown : own = -1 ∨ (0 ≤ own ∧ own < n)) (hT : TPc bs L M0) (hN : NmC n nm ln M0) : ∀ (j : Nat) (s : FS) (tn : Nat) (M : Mem), FI L own n ln pre.length s → L < tS (fT s) + j → tn ≤ tS (fT s) → FrG M0 M → FC pre s M →
    (∀ w pl, fml bs L own n nm ln j s = Sum.inl (w, pl) → ∀ M', FrF M0 M' → M' 1 9 = w → M' 1 10 = (pl : Int) → f 0 M') →
    (∀ s', fml bs L own n nm ln j s = Sum.inr s' → FI L own n ln pre.length s' → (fP s' = [] ∧ fW s' = false ∧ tK (fT s') = 24) → ∀ M', FrG M0 M' → FC pre s' M' → f 1 M') →
    KW E mX5_formula (qI f) M 19 [(0, pR 1), (1, pI own), (2, pI (bI (fW s))), (3, pI (tn : Int))] [] := by
  intro j
  induction j with
  | zero => intro s tn M hI hj; have := hI.1.1; omega
  | succ j ih =>
    intro s tn M hI hj htn hG hF HE HD
    have hn := hN.2.1
    refine c_stepC hown hI (hG.1.tp hT) (hG.1.nm hN) hF htn (fun w pl es M' a1 a2 a3 => HE w pl ?_ M' (hG.1.tr a1) a2 a3) (fun s' es M' a1 a2 => ?_) (fun s' es tn' M' a0 a1 a2 => ?_)
    · simp only [fml]; rw [es]
    · have hs := hI.step hn (by omega) es
      refine HD s' ?_ hs.1 ⟨(hs.2.2 rfl).1, (hs.2.2 rfl).2.1, (hs.2.2 rfl).2.2.2.1⟩ M' (hG.tr a1) a2
      simp only [fml]; rw [es]
    · have hs := hI.step hn (by omega) es
      have hs1 := hs.2.1 rfl
      have e : fml bs L own n nm ln (j + 1) s = fml bs L own n nm ln j s' := by simp only [fml]; rw [es]
      rw [e] at HE HD
      exact ih s' tn' M' hs.1 (by omega) a0 (hG.tr a1) a2 HE HD
end FMLC2
