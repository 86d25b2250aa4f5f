theorem bI_ne {b : Bool} (h : bI b ≠ 0) : b = true := by
  cases b
  · exact absurd rfl h
  · rfl
theorem bI_eq0 {b : Bool} (h : bI b = 0) : b = false := by
  cases b
  · rfl
  · exact absurd h (by decide)
theorem c_push120 {E : Scr} {f : Int → Mem → Prop} {M : Mem} {b l n : Nat} {d : DS} {o : Op} {law : Lw} {may : Nat → Nat} {rust s0 : Int} (hb : b < 2) (hl : l < n) (hw : wfD n d) (hs0 : iR s0) (hD : MD n may law rust (upM M 130 (8 * b + l) s0)) (hO : OpM o (upM M 130 (8 * b + l) s0)) (hv : vM b d (upM M 130 (8 * b + l) s0))
    (H : ∀ M', FrP b (upM M 130 (8 * b + l) s0) M' → vM b (if oNs o then d else slF d l (sealQ law d l || (eatF o (lawB law 2 (envD d l) rust 100) (dNu d)).1) (eatF o (lawB law 2 (envD d l) rust 100) (dNu d)).2) M' → f 1 M') : KW E mX11_pushesOne (qI f) M 120 [(0, pR 98), (1, pI (b : Int)), (2, pI (l : Int))] [pI s0, pI (8 * (b : Int) + (l : Int)), pR 130] := by
  have hn := hD.2.1
  apply vX11_pushesOne_120
  rw [show ((8 : Int) * (b : Int) + (l : Int)).toNat = 8 * b + l by omega]
  generalize hM2 : upM M 130 (8 * b + l) s0 = M2 at hD hO hv H ⊢
  have e61 : M 98 61 = M2 98 61 := by rw [← hM2]; rfl
  rw [e61, hO.2.1]
  refine ⟨⟨by omega, by omega⟩, hs0, fun _ => ⟨fun c => ?_, fun c => ?_⟩⟩
  · have hns := bI_eq0 c
    rw [hns] at H
    refine c_lay hb hl hn hw hv ?_
    intro M5 h5 h5e
    have hv5 := hv.lay h5
    have hF5 : FrP b M2 M5 := FrP.lay h5
    have hD5 := hD.fr hF5
    have hO5 := hO.fr hF5
    intro _
    refine ⟨fun z => ?_, fun z => ?_⟩
    · have hq : sealQ law d l = false := by
        rcases hD5.2.2.2.1 1 (by decide) with ⟨-, y⟩ | ⟨y, -⟩
        · unfold sealQ; rw [y]
        · exact absurd (z.symm.trans y) (by decide)
      rw [hq] at H
      exact c_push160 (i := false) hb hl hw hD5 hO5 hv5 h5e (fun M' a1 a2 => H M' (hF5.tr a1) a2)
    · refine c_lawV (k := 1) (by decide) hD5.2.2.2.1 z (envD_b hw hl hn) h5e ?_ ?_
      · intro M8 v a1 a2 a3 a4
        have hF8 : FrP b M2 M8 := hF5.tr (FrP.ofL a1)
        have h8e : ∀ j, j < 7 → M8 121 j = envD d l j := fun j hj => by rw [a1.row (a := 121) (by decide) (by decide)]; exact h5e j hj
        refine ⟨⟨by omega, by omega⟩, fun y => ?_, fun y => ?_⟩
        · have hq : sealQ law d l = false := by unfold sealQ; rw [a4]; simp [y]
          rw [hq] at H
          exact c_push160 (i := false) hb hl hw (hD.fr hF8) (hO.fr hF8) (hv5.law a1) h8e (fun M' b1 b2 => H M' (hF8.tr b1) b2)
        · have hq : sealQ law d l = true := by unfold sealQ; rw [a4]; simp [y]
          rw [hq] at H
          exact c_push160 (i := true) hb hl hw (hD.fr hF8) (hO.fr hF8) (hv5.law a1) h8e (fun M' b1 b2 => H M' (hF8.tr b1) b2)
      · intro M8 a1 a2 a4
        have hF8 : FrP b M2 M8 := hF5.tr (FrP.ofL a1)
        have h8e : ∀ j, j < 7 → M8 121 j = envD d l j := fun j hj => by rw [a1.row (a := 121) (by decide) (by decide)]; exact h5e j hj
        have hq : sealQ law d l = false := by unfold sealQ; rw [a4]
        rw [hq] at H
        exact ⟨⟨by decide, by decide⟩, fun _ => c_push160 (i := false) hb hl hw (hD.fr hF8) (hO.fr hF8) (hv5.law a1) h8e (fun M' b1 b2 => H M' (hF8.tr b1) b2), fun y => absurd rfl y⟩
  · have hns := bI_ne c
    rw [hns] at H
    exact H M2 (FrP.rf b M2) hv
theorem c_pushesOne {E : Scr} {f : Int → Mem → Prop} {M : Mem} {b l n : Nat} {d : DS} {o : Op} {law : Lw} {may : Nat → Nat} {rust : Int} (hb : b < 2) (hl : l < n) (hw : wfD n d) (hD : MD n may law rust M) (hO : OpM o M) (hv : vM b d M)
    (H : ∀ M', FrP b M M' → vM b (pushF o law may rust d l).2 M' → f (bI (pushF o law may rust d l).1) M') : CI E mX11_pushesOne [pR 98, pI (b : Int), pI (l : Int)] M f := by
  have hn := hD.2.1
  have hp := pw8 hn
  obtain ⟨hw1, hw2, hw3, hw4, hw5, hw6⟩ := id hw
  obtain ⟨v1, v2, v3, v4, v5, v6, v7⟩ := id hv
  have hmm := hD.2.2.1 (dRo d) hw1
  apply vX11_pushesOne_0
  -- what is asked: can it be moved
  have ask : ∀ mk : Nat, mk < 256 → bt (andN mk (dSe d)) l = (if canB o may d l then 1 else 0) → CI E mX11_isOf [pI ((andN mk (dSe d) : Nat) : Int), pI (l : Int)] M (fun r3 M4 => (iR r3) ∧ ((r3 ≠ 0 → (CV E mX11_lay [pR 98, pI (b : Int), pI (l : Int)] M4 (fun M7 => (CI E mX11_boundLaw [pR 98, pI 0, pI 1, pI 999] M7 (fun r8 M9 => (0 ≤ (b : Int) ∧ (b : Int) < 2) ∧ ((iR (M9 125 (b : Int).toNat)) → (0 ≤ (b : Int) ∧ (b : Int) < 2) ∧ (0 ≤ (b : Int) ∧ (b : Int) < 2) ∧ ((iR (M9 127 (b : Int).toNat)) → (iR ((M9 127 (b : Int).toNat) + r8)) ∧ ((((M9 127 (b : Int).toNat) + r8) ≥ 99999 → (KW E mX11_pushesOne (qI f) (upM M9 125 (b : Int).toNat (bXor (M9 125 (b : Int).toNat) (bShl 1 (l : Int)))) 73 [(0, pR 98), (1, pI (b : Int)), (2, pI (l : Int))] [pI 99999, pI (b : Int), pR 127])) ∧ (((M9 127 (b : Int).toNat) + r8) < 99999 → (0 ≤ (b : Int) ∧ (b : Int) < 2) ∧ ((iR (M9 127 (b : Int).toNat)) → (KW E mX11_pushesOne (qI f) (upM M9 125 (b : Int).toNat (bXor (M9 125 (b : Int).toNat) (bShl 1 (l : Int)))) 73 [(0, pR 98), (1, pI (b : Int)), (2, pI (l : Int))] [pI ((M9 127 (b : Int).toNat) + r8), pI (b : Int), pR 127]))))))))))) ∧ (r3 = 0 → f 0 M4))) := by
    intro mk hmk hbt
    have hal := andN_le mk (dSe d)
    refine c_isOf (by omega) (by omega) ?_
    rw [hbt]
    have hH := H
    unfold pushF at hH
    cases hc : canB o may d l
    · rw [hc] at hH
      exact ⟨⟨by decide, by decide⟩, fun z => absurd rfl z, fun _ => hH M (FrP.rf b M) hv⟩
    · rw [hc] at hH
      simp only [if_true] at hH
      refine ⟨⟨by decide, by decide⟩, fun _ => ?_, fun z => absurd z (by decide)⟩
      refine c_lay hb hl hn hw hv ?_
      intro M7 h7 h7e
      have hF7 : FrP b M M7 := FrP.lay h7
      refine c_boundLaw (k := 0) (by decide) (hD.fr hF7).2.2.2.1 (envD_b hw hl hn) h7e ⟨by decide, by decide⟩ ?_
      intro M9 hF
      have hF9 : FrP b M M9 := hF7.tr (FrP.ofL hF)
      obtain ⟨u1, u2, u3, u4, u5, u6, u7⟩ := (hv.lay h7).law hF
      have hr := lawB_b (law := law) (k := 0) (env := envD d l) (wo := 1) (most := 999) (by decide) ⟨by decide, by decide⟩
      rw [Int.toNat_natCast, u2, u4, bOne_nat (by omega), bXor_nat (by omega) (pw31 (by omega))]
      generalize hq : lawB law 0 (envD d l) 1 999 = more at hr ⊢
      have hin2 : (0 : Int) ≤ (b : Int) ∧ (b : Int) < 2 := ⟨by omega, by omega⟩
      -- behind the effort
      have go : ∀ s0 : Int, s0 = min (dEf d + more) 99999 → KW E mX11_pushesOne (qI f) (upM M9 125 b ((dRo d ^^^ 2 ^ l : Nat) : Int)) 73 [(0, pR 98), (1, pI (b : Int)), (2, pI (l : Int))] [pI s0, pI (b : Int), pR 127] := by
        intro s0 hs0
        apply vX11_pushesOne_73
        rw [show ((8 : Int) * (b : Int) + (l : Int)).toNat = 8 * b + l by omega, Int.toNat_natCast]
        have e130 : (upM M9 125 b ((dRo d ^^^ 2 ^ l : Nat) : Int)) 130 (8 * b + l) = dWo d l := u7 l (by omega)
        rw [e130]
        have hwl := hw6 l (by omega)
        have fin : ∀ w0 : Int, w0 = min (dWo d l + 1) 999 → KW E mX11_pushesOne (qI f) (upM (upM M9 125 b ((dRo d ^^^ 2 ^ l : Nat) : Int)) 127 b s0) 120 [(0, pR 98), (1, pI (b : Int)), (2, pI (l : Int))] [pI w0, pI (8 * (b : Int) + (l : Int)), pR 130] := by
          intro w0 hw0
          have hFa : FrP b M9 (upM (upM (upM M9 125 b ((dRo d ^^^ 2 ^ l : Nat) : Int)) 127 b s0) 130 (8 * b + l) w0) :=
            ((FrP.u M9 _ (Or.inl ⟨by decide, by decide, rfl⟩)).tr (FrP.u _ _ (Or.inl ⟨by decide, by decide, rfl⟩))).tr (FrP.u _ _ (Or.inr (Or.inl ⟨rfl, by omega, by omega⟩)))
          have hFb := hF9.tr hFa
          have hvb : vM b (movF law d l) (upM (upM (upM M9 125 b ((dRo d ^^^ 2 ^ l : Nat) : Int)) 127 b s0) 130 (8 * b + l) w0) := by
            refine ⟨u1, ?_, u3, ?_, u5, u6, ?_⟩
            · exact va_up_self _ _ _
            · show va_up (M9 127) b s0 b = min (dEf d + lawB law 0 (envD d l) 1 999) 99999
              rw [va_up_self, hs0, hq]
            · intro i hi
              show va_up (M9 130) (8 * b + l) w0 (8 * b + i) = va_up (dWo d) l (min (dWo d l + 1) 999) i
              by_cases hil : i = l
              · subst hil; rw [va_up_self, va_up_self, hw0]
              · rw [va_up_neq _ _ hil, va_up_neq _ _ (by omega)]; exact u7 i hi
          refine c_push120 hb hl (wfD_mov hw hl) ⟨by omega, by omega⟩ (hD.fr hFb) (hO.fr hFb) hvb ?_
          intro M' a1 a2
          have := hH M' (hFb.tr a1)
          cases hns : oNs o
          · rw [hns] at this a2
            exact this a2
          · rw [hns] at this a2
            exact this a2
        exact ⟨hin2, ⟨by omega, by omega⟩, ⟨by omega, by omega⟩, fun _ => ⟨fun z => fin 999 (by omega), fun z => ⟨⟨by omega, by omega⟩, fun _ => fin _ (by omega)⟩⟩⟩
      exact ⟨hin2, fun _ => ⟨hin2, hin2, fun _ => ⟨⟨by omega, by omega⟩, fun z => go 99999 (by omega), fun z => ⟨hin2, fun _ => go _ (by omega)⟩⟩⟩⟩
  have cb : ∀ mk : Nat, bt (andN mk (dSe d)) l = (if mk.testBit l && !(dSe d).testBit l then 1 else 0) := by
    intro mk; rw [bt_tb, andN_tb]
  cases hnl : oNl o
  · refine c_canNow hb (by rw [hO.2.2.1, hnl]; rfl) v2 (by omega) hmm.1 (by omega) v3 (by omega) (ask _ (by omega) ?_)
    rw [cb]; simp [canB, hnl]
  · refine c_canNowF hb (by rw [hO.2.2.1, hnl]; rfl) v3 (by omega) (ask 255 (by decide) ?_)
    rw [cb]
    have h255 : Nat.testBit 255 l = true := by
      have : ∀ l, l < 8 → Nat.testBit 255 l = true := by decide
      exact this l (by omega)
    simp [canB, hnl, h255]
