section DRUNK3
variable {E : Scr} {law : Lw} {may : Nat → Nat} {rust : Int} {n : Nat} {y : YS}
theorem c_dr170 {f : Int → Mem → Prop} {g : TF} {x1 x2 x3 x4 x6 : Int} {k : Nat} {each : Int} {B : Int} (hn : n ≤ 8) (hk : k < 2 ^ n) (mk : Nat) (hmk : mk < 2 ^ n) (he : 0 ≤ each) (hB : B + each * (pop mk : Int) ≤ 418211942400000) (hev : mk ≠ 0 → each = g k * Int.tdiv 840 (pop mk : Int)) (M0 : Mem) (h12 : M0 98 12 = (n : Int)) (h138 : M0 138 k = g k) : ∀ (j l : Nat) (t : TF) (M : Mem), l + j = n → TB t (B + each * (popN l mk : Int)) → (∀ a, a ≠ 139 → M a = M0 a) → (∀ r, r < 256 → M 139 r = t r) → (∀ M', (∀ a, a ≠ 139 → M' a = M0 a) → (∀ r, r < 256 → M' 139 r = dLat mk each k j l t r) → KW E mX11_drunk (qL f) M' 112 [(0, pR 98), (1, pI x1), (2, pI x2), (3, pI x3), (4, pL x4), (6, pI x6), (7, pI ((k : Int) + 1))] []) → KW E mX11_drunk (qL f) M 170 [(0, pR 98), (1, pI x1), (2, pI x2), (3, pI x3), (4, pL x4), (6, pI x6), (7, pI (k : Int)), (8, pI (mk : Int)), (9, pI (l : Int))] [] := by
  have hp := pw8 hn
  intro j
  induction j with
  | zero =>
    intro l t M hl hT e1 e2 H
    apply vX11_drunk_170
    rw [e1 98 (by decide), h12]
    exact fun _ => ⟨⟨by omega, by omega⟩, fun _ => H M e1 e2, fun z => absurd z (by omega)⟩
  | succ j ih =>
    intro l t M hl hT e1 e2 H
    have hx := xor_lt (l := l) hk (by omega)
    have hT2 := lat_b (n := n) (m := mk) (row := k) hn (by omega) hk he hT
    have hle : each * (popN (l + 1) mk : Int) ≤ each * (pop mk : Int) := Int.mul_le_mul_of_nonneg_left (by have := popN_mono (x := mk) (show l + 1 ≤ 17 by omega); have e5 : pop mk = popN 17 mk := rfl; omega) he
    have hat := hT2.at (r := k ^^^ 2 ^ l) (by omega)
    simp only [dLat] at H
    apply vX11_drunk_170
    rw [e1 98 (by decide), h12, bOne_nat (by omega), bXor_nat (by omega) (pw31 (by omega)), Int.toNat_natCast, Int.toNat_natCast, e2 _ (by omega)]
    refine fun _ => ⟨⟨by omega, by omega⟩, fun z => absurd z (by omega), fun _ => ⟨⟨by omega, by omega⟩, fun _ => c_isOf (by omega) (by omega) ?_⟩⟩
    rw [bt_tb]
    by_cases ht : mk.testBit l = true
    · rw [if_pos ht] at hT2 H hat ⊢
      rw [upN_self] at hat
      have hmz : mk ≠ 0 := fun z => by rw [z, Nat.zero_testBit] at ht; exact absurd ht (by decide)
      have hpp := pop_pos (show mk < 2 ^ 17 by omega) hmz
      have hp17 : pop mk ≤ 17 := popN_le 17 mk
      refine ⟨⟨by decide, by decide⟩, fun z => absurd z (by decide), fun _ => ⟨⟨by omega, by omega⟩, fun _ => c_manyOf (by omega) ?_⟩⟩
      rw [e1 138 (by decide), h138, ← hev hmz]
      refine ⟨⟨by omega, by omega⟩, by omega, ⟨by omega, by omega⟩, ⟨by omega, by omega⟩, ?_⟩
      refine ih (l + 1) _ _ (by omega) hT2 (fun a a1 => by rw [upM_ne _ _ _ a1]; exact e1 a a1) (fun r hr => ?_) H
      rw [upM_self]
      by_cases e : r = k ^^^ 2 ^ l
      · rw [e, va_up_self, upN_self]
      · rw [va_up_neq _ _ e, upN_ne _ _ e]; exact e2 r hr
    · rw [if_neg ht] at hT2 H hat ⊢
      refine ⟨⟨by decide, by decide⟩, fun _ => ⟨⟨by omega, by omega⟩, ⟨by omega, by omega⟩, ?_⟩, fun z => absurd rfl z⟩
      refine ih (l + 1) t _ (by omega) hT2 (fun a a1 => by rw [upM_ne _ _ _ a1]; exact e1 a a1) (fun r hr => ?_) H
      rw [upM_self]
      by_cases e : r = k ^^^ 2 ^ l
      · rw [e, va_up_self, Int.add_zero]
      · rw [va_up_neq _ _ e]; exact e2 r hr
theorem dLat_none {row : Nat} {each : Int} : ∀ (j l : Nat) (t : TF), dLat 0 each row j l t = t := by
  intro j
  induction j with
  | zero => intro l t; rfl
  | succ j ih => intro l t; simp only [dLat]; rw [Nat.zero_testBit, ih]; rfl
theorem c_drunkM {f : Int → Mem → Prop} {M : Mem} {x k w : Int} (hx : iR x) (hk : iR k) (hw2 : iR w) (hw : wfY n y) (hD : MD n may law rust M) (hy : YM y M) (H : ∀ M', FrN M M' → f (drkY n may x k w y.1) M') : CL E mX11_drunk [pR 98, pI x, pI k, pI w] M f := by
  have hn := hD.2.1
  have hp := pw8 hn
  have hF0 := FrN.th M 0
  have h1 := hw.1.1.1
  have h2 := hw.1.1.2.1
  unfold drkY at H
  refine vX11_drunk_0 _ _ _ (c_isRow hx (hD.gm.fN hF0).1 hn (fun r er hr => ⟨⟨by decide, by decide⟩, fun z => absurd z (by decide), fun _ => c_isIn hk ⟨by decide, by decide⟩ ⟨by decide, by decide⟩ (fun c => ⟨⟨by decide, by decide⟩, fun z => absurd z (by decide), fun _ => c_isIn hw2 ⟨by decide, by decide⟩ ⟨by decide, by decide⟩ (fun c2 => ⟨⟨by decide, by decide⟩, fun _ => ?_, fun z => absurd z (by decide)⟩) (fun c2 => ⟨⟨by decide, by decide⟩, fun z => absurd rfl z, fun _ => ?_⟩)⟩) (fun c => ⟨⟨by decide, by decide⟩, fun _ => ?_, fun z => absurd rfl z⟩)⟩) (fun z => ⟨⟨by decide, by decide⟩, fun _ => ?_, fun z => absurd rfl z⟩))
  · subst er
    rw [if_pos ⟨⟨by omega, by omega⟩, ⟨by omega, by omega⟩, by omega, by omega⟩, Int.toNat_natCast] at H
    obtain ⟨m, em⟩ : ∃ m : Nat, k = (m : Int) := ⟨k.toNat, by omega⟩
    subst em
    rw [Int.toNat_natCast] at H
    have hmv : ∀ r, r < 2 ^ n → mvF may (dSe y.1) r < 2 ^ n := fun r hr => Nat.lt_of_le_of_lt (andN_le _ _) (hD.2.2.1 r hr).2
    have up : ∀ (M3 : Mem) (a q : Nat) (v : Int), a = 138 ∨ a = 139 → FrN M M3 → FrN M (upM M3 a q v) := fun M3 a q v ha h => h.tr ⟨fun c a1 a2 => upM_ne _ _ _ (by omega), fun q _ _ => by rw [upM_ne _ _ _ (by omega)]⟩
    have outer : ∀ (j i : Nat) (M3 : Mem), i + j = m → FrN M M3 → (∀ q, q < 256 → M3 138 q = dIt (mvF may (dSe y.1)) n i (dSt (dRo y.1)) q) → KW E mX11_drunk (qL f) M3 78 [(0, pR 98), (1, pI (r : Int)), (2, pI (m : Int)), (3, pI w), (4, pL (840 ^ i)), (6, pI (i : Int))] [] := by
      intro j
      induction j with
      | zero =>
        intro i M3 hi hF e2
        have : i = m := by omega
        subst this
        apply vX11_drunk_78
        rw [Int.toNat_natCast, e2 r (by omega)]
        have hb := (dIt_b (mv := mvF may (dSe y.1)) hn (show dRo y.1 < 256 by omega) hmv i).at (r := r) (by omega)
        have h8 := p840 (m := i) (by omega)
        have HH := H M3 hF
        have e3 := e2 r (by omega)
        unfold frcY at HH
        generalize dIt (mvF may (dSe y.1)) n i (dSt (dRo y.1)) r = A at hb HH e3
        generalize (840 : Int) ^ i = B at hb HH h8
        obtain ⟨a, ea⟩ : ∃ a : Nat, A = (a : Int) := ⟨A.toNat, by omega⟩
        obtain ⟨b, eb⟩ : ∃ b : Nat, B = (b : Int) := ⟨B.toNat, by omega⟩
        subst ea; subst eb
        rw [Int.toNat_natCast, Int.toNat_natCast] at HH
        have hgp : 0 < Nat.gcd b a := Nat.gcd_pos_of_pos_left _ (by omega)
        have hgl : Nat.gcd b a ≤ b := Nat.gcd_le_left _ (by omega)
        refine ⟨⟨by omega, by omega⟩, ⟨by omega, by omega⟩, fun _ => ⟨⟨by omega, by omega⟩, fun _ => vX11_shared_in _ _ (c_shared a b (by omega) (by omega) ⟨hw2, fun c3 => ⟨⟨by omega, by omega⟩, ⟨by omega, by omega⟩, by omega, ?_⟩, fun c3 => ⟨⟨by omega, by omega⟩, fun _ => ⟨⟨by omega, by omega⟩, by omega, ?_⟩⟩⟩)⟩, fun z => absurd z (by omega)⟩
        · rw [if_neg c3] at HH; exact HH
        · rw [if_pos c3] at HH; rw [e3]; exact HH
      | succ j ih =>
        intro i M3 hi hF e2
        have hRB : RB n (mvF may (dSe y.1)) (dIt (mvF may (dSe y.1)) n i (dSt (dRo y.1))) := RB.it hn (by omega) hmv (show i < m by omega) (by omega)
        have cpy : ∀ (j2 q : Nat) (M5 : Mem), q + j2 = 256 → FrN M M5 → (∀ p, p < 256 → M5 139 p = dIt (mvF may (dSe y.1)) n (i + 1) (dSt (dRo y.1)) p) → (∀ p, p < q → M5 138 p = dIt (mvF may (dSe y.1)) n (i + 1) (dSt (dRo y.1)) p) → KW E mX11_drunk (qL f) M5 241 [(0, pR 98), (1, pI (r : Int)), (2, pI (m : Int)), (3, pI w), (4, pL (840 ^ i)), (6, pI (i : Int)), (7, pI (q : Int))] [] := by
          intro j2
          induction j2 with
          | zero =>
            intro q M5 hq hF5 k1 k2
            refine vX11_drunk_241 _ _ _ _ _ _ ⟨⟨by omega, by omega⟩, fun _ => ?_, fun z => absurd z (by omega)⟩
            rw [← Int.pow_succ]
            exact ih (i + 1) M5 (by omega) hF5 (fun p hp2 => k2 p (by omega))
          | succ j2 ih2 =>
            intro q M5 hq hF5 k1 k2
            apply vX11_drunk_241
            rw [Int.toNat_natCast, k1 q (by omega)]
            refine ⟨⟨by omega, by omega⟩, fun z => absurd z (by omega), fun _ => ⟨⟨by omega, by omega⟩, fun _ => ⟨⟨by omega, by omega⟩, ?_⟩⟩⟩
            refine ih2 (q + 1) _ (by omega) (up _ _ _ _ (Or.inl rfl) hF5) k1 (fun p hp2 => ?_)
            rw [upM_self]
            by_cases e : p = q
            · rw [e, va_up_self]
            · rw [va_up_neq _ _ e]; exact k2 p (by omega)
        have rows : ∀ (j2 q : Nat) (t : TF) (M5 : Mem), q + j2 = 2 ^ n → FrN M M5 → M5 138 = M3 138 → TB t (840 * sm (dIt (mvF may (dSe y.1)) n i (dSt (dRo y.1))) q) → (∀ r, r < 256 → M5 139 r = t r) → dIt (mvF may (dSe y.1)) n (i + 1) (dSt (dRo y.1)) = dRws (mvF may (dSe y.1)) n (dIt (mvF may (dSe y.1)) n i (dSt (dRo y.1))) j2 q t → KW E mX11_drunk (qL f) M5 112 [(0, pR 98), (1, pI (r : Int)), (2, pI (m : Int)), (3, pI w), (4, pL (840 ^ i)), (6, pI (i : Int)), (7, pI (q : Int))] [] := by
          intro j2
          induction j2 with
          | zero =>
            intro q t M5 hq hF5 e138 hT k2 k3
            apply vX11_drunk_112
            rw [(hD.gm.fN hF5).1, bOne_nat (by omega)]
            refine fun _ => ⟨⟨by omega, by omega⟩, fun _ => cpy 256 0 M5 (by omega) hF5 (fun p hp2 => by rw [k3]; exact k2 p hp2) (fun p hp2 => absurd hp2 (by omega)), fun z => absurd z (by omega)⟩
          | succ j2 ih2 =>
            intro q t M5 hq hF5 e138 hT k2 k3
            have hq2 : q < 2 ^ n := by omega
            have hG5 := hD.gm.fN hF5
            have hy5 := hy.fN hF5
            have hm := hG5.2 q hq2
            have hle := andN_le (may q) (dSe y.1)
            have hmq : andN (may q) (dSe y.1) < 2 ^ n := hmv q hq2
            have hgq := hRB.1 q
            have hBq := hRB.row hn hq2
            have es : sm (dIt (mvF may (dSe y.1)) n i (dSt (dRo y.1))) (q + 1) = sm (dIt (mvF may (dSe y.1)) n i (dSt (dRo y.1))) q + dIt (mvF may (dSe y.1)) n i (dSt (dRo y.1)) q := rfl
            have hs0 : 0 ≤ sm (dIt (mvF may (dSe y.1)) n i (dSt (dRo y.1))) q := sm_mono hRB.1 (Nat.zero_le q)
            have hT2 := dOne_b (mv := mvF may (dSe y.1)) hn hq2 hRB.1 (hmv q hq2) hT
            have e5 : M5 138 q = dIt (mvF may (dSe y.1)) n i (dSt (dRo y.1)) q := by rw [e138]; exact e2 q (by omega)
            simp only [dRws] at k3
            apply vX11_drunk_112
            rw [hG5.1, bOne_nat (by omega), Int.toNat_natCast, hm.1, hy5.1.2.2.1, bAndN_nat (by omega) (by omega)]
            refine fun _ => ⟨⟨by omega, by omega⟩, fun z => absurd z (by omega), fun _ => ⟨⟨by omega, by omega⟩, fun _ _ => ⟨fun c5 => ?_, fun c5 => ⟨⟨by omega, by omega⟩, fun _ => ⟨⟨by omega, by omega⟩, fun _ => ⟨⟨by omega, by omega⟩, ?_, ?_⟩⟩⟩⟩⟩⟩
            · have e7 : mvF may (dSe y.1) q = andN (may q) (dSe y.1) := rfl
              have hne : mvF may (dSe y.1) q ≠ 0 := by rw [e7]; omega
              have hpp := pop_pos (show mvF may (dSe y.1) q < 2 ^ 17 by rw [e7]; omega) hne
              have hb := each_b hgq hpp
              refine c_dr170 (g := dIt (mvF may (dSe y.1)) n i (dSt (dRo y.1))) (each := dIt (mvF may (dSe y.1)) n i (dSt (dRo y.1)) q * Int.tdiv 840 (pop (mvF may (dSe y.1) q) : Int)) (B := 840 * sm (dIt (mvF may (dSe y.1)) n i (dSt (dRo y.1))) q) hn hq2 (mvF may (dSe y.1) q) hmq hb.1 ?_ (fun _ => rfl) M5 hG5.1 e5 n 0 t M5 (Nat.zero_add _) (by show TB t (_ + _ * ((0 : Nat) : Int)); simpa using hT) (fun _ _ => rfl) k2 (fun M6 l1 l2 => ?_)
              · have := hb.2; omega
              · have ed : dOne (mvF may (dSe y.1)) n (dIt (mvF may (dSe y.1)) n i (dSt (dRo y.1))) q t = dLat (mvF may (dSe y.1) q) (dIt (mvF may (dSe y.1)) n i (dSt (dRo y.1)) q * Int.tdiv 840 (pop (mvF may (dSe y.1) q) : Int)) q n 0 t := by unfold dOne; rw [if_neg hne]
                rw [← ed] at l2
                exact ih2 (q + 1) _ M6 (by omega) (hF5.tr ⟨fun a a1 a2 => l1 a (by omega), fun q _ _ => by rw [l1 98 (by decide)]⟩) (by rw [l1 138 (by decide)]; exact e138) hT2 l2 k3
            · have h9 := hT.at (r := q) (by omega)
              rw [e5, k2 q (by omega)]
              exact ⟨by omega, by omega⟩
            · have e7 : mvF may (dSe y.1) q = andN (may q) (dSe y.1) := rfl
              have hz : mvF may (dSe y.1) q = 0 := by rw [e7]; omega
              have ed : dOne (mvF may (dSe y.1)) n (dIt (mvF may (dSe y.1)) n i (dSt (dRo y.1))) q t = upN t q (t q + dIt (mvF may (dSe y.1)) n i (dSt (dRo y.1)) q * 840) := by unfold dOne; rw [if_pos hz]
              rw [e5, k2 q (by omega)]
              have e0 : ((andN (may q) (dSe y.1) : Nat) : Int) = ((0 : Nat) : Int) := by rw [← e7, hz]
              rw [e0]
              refine c_dr170 (g := dIt (mvF may (dSe y.1)) n i (dSt (dRo y.1))) (each := 0) (B := 840 * sm (dIt (mvF may (dSe y.1)) n i (dSt (dRo y.1))) (q + 1)) hn hq2 0 (by omega) (Int.le_refl _) ?_ (fun z => absurd rfl z) _ (by rw [upM_ne _ _ _ (by decide)]; exact hG5.1) (by rw [upM_ne _ _ _ (by decide)]; exact e5) n 0 (upN t q (t q + dIt (mvF may (dSe y.1)) n i (dSt (dRo y.1)) q * 840)) _ (Nat.zero_add _) ?_ (fun _ _ => rfl) (fun p hp2 => ?_) (fun M6 l1 l2 => ?_)
              · omega
              · rw [ed] at hT2
                show TB _ (_ + 0 * ((0 : Nat) : Int))
                simpa using hT2
              · rw [upM_self]
                by_cases e : p = q
                · rw [e, va_up_self, upN_self]
                · rw [va_up_neq _ _ e, upN_ne _ _ e]; exact k2 p hp2
              · rw [dLat_none, ← ed] at l2
                refine ih2 (q + 1) _ M6 (by omega) (hF5.tr ⟨fun a a1 a2 => ?_, fun q2 _ _ => ?_⟩) ?_ hT2 l2 k3
                · rw [l1 a (by omega), upM_ne _ _ _ (by omega)]
                · rw [l1 98 (by decide), upM_ne _ _ _ (by decide)]
                · rw [l1 138 (by decide), upM_ne _ _ _ (by decide)]; exact e138
        have ini : ∀ (j2 q : Nat) (M5 : Mem), q + j2 = 256 → FrN M M5 → M5 138 = M3 138 → (∀ p, p < q → M5 139 p = 0) → KW E mX11_drunk (qL f) M5 87 [(0, pR 98), (1, pI (r : Int)), (2, pI (m : Int)), (3, pI w), (4, pL (840 ^ i)), (6, pI (i : Int)), (7, pI (q : Int))] [] := by
          intro j2
          induction j2 with
          | zero =>
            intro q M5 hq hF5 e138 k2
            exact vX11_drunk_87 _ _ _ _ _ _ ⟨⟨by omega, by omega⟩, fun _ => rows (2 ^ n) 0 (fun _ => 0) M5 (Nat.zero_add _) hF5 e138 z_TB (fun p hp2 => k2 p (by omega)) (dIt_S i _), fun z => absurd z (by omega)⟩
          | succ j2 ih2 =>
            intro q M5 hq hF5 e138 k2
            refine vX11_drunk_87 _ _ _ _ _ _ ⟨⟨by omega, by omega⟩, fun z => absurd z (by omega), fun _ => ⟨⟨by omega, by omega⟩, ?_⟩⟩
            rw [Int.toNat_natCast]
            refine ih2 (q + 1) _ (by omega) (up _ _ _ _ (Or.inr rfl) hF5) (by rw [upM_ne _ _ _ (by decide)]; exact e138) (fun p hp2 => ?_)
            rw [upM_self]
            by_cases e : p = q
            · rw [e, va_up_self]
            · rw [va_up_neq _ _ e]; exact k2 p (by omega)
        exact vX11_drunk_78 _ _ _ _ _ ⟨⟨by omega, by omega⟩, ⟨by omega, by omega⟩, fun z => absurd z (by omega), fun _ => ini 256 0 M3 (by omega) hF rfl (fun p hp2 => absurd hp2 (by omega))⟩
    have ini0 : ∀ (j2 q : Nat) (M5 : Mem), q + j2 = 256 → FrN M M5 → (∀ p, p < q → M5 138 p = 0) → KW E mX11_drunk (qL f) M5 38 [(0, pR 98), (1, pI (r : Int)), (2, pI (m : Int)), (3, pI w), (4, pI (q : Int))] [] := by
      intro j2
      induction j2 with
      | zero =>
        intro q M5 hq hF5 k2
        apply vX11_drunk_38
        rw [(hy.fN hF5).1.2.1, Int.toNat_natCast]
        refine ⟨⟨by omega, by omega⟩, fun _ _ => ⟨⟨by omega, by omega⟩, ?_⟩, fun z => absurd z (by omega)⟩
        have h00 := outer m 0 (upM M5 138 (dRo y.1) 1) (Nat.zero_add _) (up _ _ _ _ (Or.inl rfl) hF5) (fun p hp2 => ?_)
        · rw [Int.pow_zero] at h00
          exact h00
        · rw [upM_self]
          show _ = if p = dRo y.1 then (1 : Int) else 0
          by_cases e : p = dRo y.1
          · rw [e, va_up_self, if_pos rfl]
          · rw [va_up_neq _ _ e, if_neg e]; exact k2 p (by omega)
      | succ j2 ih2 =>
        intro q M5 hq hF5 k2
        refine vX11_drunk_38 _ _ _ _ ⟨⟨by omega, by omega⟩, fun z => absurd z (by omega), fun _ => ⟨⟨by omega, by omega⟩, ?_⟩⟩
        rw [Int.toNat_natCast]
        refine ih2 (q + 1) _ (by omega) (up _ _ _ _ (Or.inl rfl) hF5) (fun p hp2 => ?_)
        rw [upM_self]
        by_cases e : p = q
        · rw [e, va_up_self]
        · rw [va_up_neq _ _ e]; exact k2 p (by omega)
    exact ini0 256 0 _ (by omega) hF0 (fun p hp2 => absurd hp2 (by omega))
  · rw [if_neg (by omega)] at H; exact H _ hF0
  · rw [if_neg (by omega)] at H; exact H _ hF0
  · rw [if_neg (fun q => z q.1)] at H; exact H _ hF0
end DRUNK3
