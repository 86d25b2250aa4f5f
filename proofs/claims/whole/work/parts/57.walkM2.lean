section WALKM2
variable {E : Scr} {n : Nat} {may : Nat → Nat} {nev : Int} {stuck loose : Nat}
theorem c_far54 {f : Mem → Prop} (hn : n ≤ 8) (hst : stuck < 2147483648) (he : loose < 256) (hnev : iR nev) : ∀ (j k : Nat) (b : BS) (w : WF) (M : Mem), k + j = 257 → BI n b → GM n may M → BR b w M → (∀ M', FrV M M' → BR (bGo nev (canG may stuck loose) n j k b) (wGo nev (canG may stuck loose) n j k b w) M' → f M') → KW E mX11_layFar (qV f) M 54 [(0, pR 98), (2, pI nev), (3, pI (stuck : Int)), (4, pI (loose : Int)), (5, pI (k : Int))] [] := by
  have hp := pw8 hn
  intro j
  induction j with
  | zero =>
    intro k b w M hk hb hG hB H
    have hc := hb.cnt
    apply vX11_layFar_54
    rw [hB.2.2.1]
    exact fun _ => ⟨⟨by omega, by omega⟩, fun _ => H M (FrV.rf M) hB, fun z => absurd z (by omega)⟩
  | succ j ih =>
    intro k b w M hk hb hG hB H
    have hc := hb.cnt
    simp only [bGo, wGo] at H
    apply vX11_layFar_54
    rw [hB.2.2.1]
    refine fun _ => ⟨⟨by omega, by omega⟩, fun z => ?_, fun z => ⟨⟨by omega, by omega⟩, ?_⟩⟩
    · rw [if_neg (by omega), if_neg (by omega)] at H
      exact H M (FrV.rf M) hB
    · have hkc : k < bC b := by omega
      rw [if_pos hkc, if_pos hkc] at H
      have hm := hb.2.1 k hkc
      have hmv := hG.2 (bM b k) hm
      have hf := hb.2.2.2.1 k hkc
      rw [Int.toNat_natCast, hB.2.1 k hkc, Int.toNat_natCast, hmv.1]
      have hor : may (bM b k) ||| loose < 2 ^ 8 := Nat.or_lt_two_pow hmv.2 he
      rw [bOr_nat (by omega) (by omega), bAndN_nat (by omega) hst]
      refine fun _ => ⟨⟨by omega, by omega⟩, fun _ => ?_⟩
      refine c_far91 (cr := canG may stuck loose (bM b k)) hn (canG_lt hmv.2 he) hnev n 0 b w M (by omega) hb (by omega) hG hB (fun M1 d1 d2 => ?_)
      have hr := BI.row (nev := nev) (cr := canG may stuck loose (bM b k)) (row := bM b k) n 0 b (by omega) hb (by omega)
      exact ih (k + 1) _ _ M1 (by omega) hr.1 (hG.fr d1) d2 (fun M' a1 a2 => H M' (d1.tr a1) a2)
theorem c_layFar {f : Mem → Prop} {M : Mem} {s : Nat} (hn : n ≤ 8) (hst : stuck < 2147483648) (he : loose < 256) (hnev : iR nev) (hs : s < 2 ^ n) (hG : GM n may M) (H : ∀ M', FrV M M' → BR (bfs nev (canG may stuck loose) n s) (wfs nev (canG may stuck loose) n s) M' → f M') : CV E mX11_layFar [pR 98, pI (s : Int), pI nev, pI (stuck : Int), pI (loose : Int)] M f := by
  have hp := pw8 hn
  have loop : ∀ (j k : Nat) (M1 : Mem), k + j = 256 → (∀ a, a ≠ 131 → M1 a = M a) → (∀ i, i < k → M1 131 i = -1) → KW E mX11_layFar (qV f) M1 3 [(0, pR 98), (1, pI (s : Int)), (2, pI nev), (3, pI (stuck : Int)), (4, pI (loose : Int)), (5, pI (k : Int))] [] := by
    intro j
    induction j with
    | zero =>
      intro k M1 hk e1 e2
      apply vX11_layFar_3
      rw [Int.toNat_natCast]
      refine ⟨⟨by omega, by omega⟩, fun _ => ⟨⟨by omega, by omega⟩, ⟨by omega, by omega⟩, ⟨by omega, by omega⟩, ?_⟩, fun z => absurd z (by omega)⟩
      generalize hM2 : upM (upM (upM (upM M1 131 s 0) 132 s 1) 133 0 (s : Int)) 98 69 1 = M2
      have hF2 : FrV M M2 := by
        refine ⟨fun a a1 a2 a3 a4 => ?_, fun q hq => ?_⟩
        · rw [← hM2, upM_ne _ _ _ a1, upM_ne _ _ _ a4, upM_ne _ _ _ a3, upM_ne _ _ _ a2, e1 a a2]
        · rw [← hM2, upM_self, va_up_neq _ _ hq, upM_ne _ _ _ (by decide), upM_ne _ _ _ (by decide), upM_ne _ _ _ (by decide), e1 98 (by decide)]
      have hB2 : BR (bSt s) (fun _ => 1) M2 := by
        refine ⟨fun r hr => ?_, fun i hi => ?_, by rw [← hM2]; rfl, fun r hr => ?_⟩
        · rw [← hM2]
          show va_up (M1 131) s 0 r = (if r = s then (0 : Int) else -1)
          by_cases e : r = s
          · rw [if_pos e, e, va_up_self]
          · rw [if_neg e, va_up_neq _ _ e]; exact e2 r (by omega)
        · have hi' : i < 1 := hi
          have : i = 0 := by omega
          subst this
          rw [← hM2]; rfl
        · have hr' : (if r = s then (0 : Int) else -1) ≠ -1 := hr
          by_cases e : r = s
          · rw [← hM2, e]
            exact ⟨va_up_self _ _ _, (by decide : (0 : Int) ≤ 1), (by decide : (1 : Int) ≤ 1000000000)⟩
          · rw [if_neg e] at hr'; exact absurd rfl hr'
      exact c_far54 hn hst he hnev 257 0 (bSt s) (fun _ => 1) M2 (by omega) (BI.st hs) (hG.fr hF2) hB2 (fun M' a1 a2 => H M' (hF2.tr a1) a2)
    | succ j ih =>
      intro k M1 hk e1 e2
      refine vX11_layFar_3 _ _ _ _ _ ⟨⟨by omega, by omega⟩, fun z => absurd z (by omega), fun _ => ⟨⟨by omega, by omega⟩, ?_⟩⟩
      rw [Int.toNat_natCast]
      refine ih (k + 1) _ (by omega) (fun a a1 => by rw [upM_ne _ _ _ a1]; exact e1 a a1) (fun i hi => ?_)
      by_cases e : i = k
      · rw [e, upM_self, va_up_self]
      · rw [upM_self, va_up_neq _ _ e]; exact e2 i (by omega)
  exact vX11_layFar_0 _ _ _ _ (loop 256 0 M (by omega) (fun _ _ => rfl) (fun i hi => by omega))
end WALKM2
