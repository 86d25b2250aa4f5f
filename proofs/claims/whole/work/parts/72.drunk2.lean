/-! drunk on both sides -/
def dSt (s : Nat) : TF := fun r => if r = s then 1 else 0
def drkY (n : Nat) (may : Nat → Nat) (x k w : Int) (d : DS) : Int := if (0 ≤ x ∧ x < ((2 ^ n : Nat) : Int)) ∧ (0 ≤ k ∧ k ≤ 5) ∧ 0 ≤ w ∧ w ≤ 1 then frcY (dIt (mvF may (dSe d)) n k.toNat (dSt (dRo d)) x.toNat) (840 ^ k.toNat) w else -1
theorem dSt_b {s : Nat} : ∀ N, sm (dSt s) N = if s < N then 1 else 0 := by
  intro N
  induction N with
  | zero => rw [if_neg (by omega)]; rfl
  | succ N ih =>
    simp only [sm]
    rw [ih]
    unfold dSt
    by_cases e : N = s
    · subst e; rw [if_neg (by omega), if_pos rfl, if_pos (by omega)]; rfl
    · rw [if_neg e]
      by_cases c : s < N
      · rw [if_pos c, if_pos (by omega)]; rfl
      · rw [if_neg c, if_neg (by omega)]; rfl
theorem dIt_S {mv : Nat → Nat} {n : Nat} : ∀ (j : Nat) (g : TF), dIt mv n (j + 1) g = dRws mv n (dIt mv n j g) (2 ^ n) 0 (fun _ => 0) := by
  intro j
  induction j with
  | zero => intro g; rfl
  | succ j ih => intro g; exact ih _
theorem dIt_b {mv : Nat → Nat} {n s : Nat} (hn : n ≤ 8) (hs : s < 256) (hm : ∀ r, r < 2 ^ n → mv r < 2 ^ n) : ∀ j : Nat, TB (dIt mv n j (dSt s)) (840 ^ j) := by
  have hp := pw8 hn
  intro j
  induction j with
  | zero =>
    refine ⟨fun r => ?_, ?_⟩
    · show 0 ≤ if r = s then (1 : Int) else 0
      split <;> decide
    · show sm (dSt s) 256 ≤ _
      rw [dSt_b, if_pos hs, Int.pow_zero]; decide
  | succ j ih =>
    rw [dIt_S]
    have z : TB (fun _ => 0) (840 * sm (dIt mv n j (dSt s)) 0) := ⟨fun _ => Int.le_refl _, by
      have : ∀ N, sm (fun _ => 0) N = 0 := by
        intro N
        induction N with
        | zero => rfl
        | succ N ih => simp only [sm]; rw [ih]; rfl
      rw [this]; show (0 : Int) ≤ 840 * 0; decide⟩
    have h1 := dRws_b hn ih.1 hm (2 ^ n) 0 (fun _ => 0) (Nat.zero_add _) z
    refine h1.mono ?_
    have h2 := sm_mono ih.1 hp
    have h3 := ih.2
    rw [Int.pow_succ]
    omega
section DRUNK2
variable {E : Scr} {law : Lw} {may : Nat → Nat} {rust : Int} {n : Nat} {y : YS}
/-- bounds of a row's turn -/
def RB (n : Nat) (mv : Nat → Nat) (g : TF) : Prop := (∀ r, 0 ≤ g r) ∧ (∀ r, r < 2 ^ n → mv r < 2 ^ n) ∧ sm g 256 ≤ 497871360000
theorem RB.row {mv : Nat → Nat} {g : TF} (h : RB n mv g) (hn : n ≤ 8) {k : Nat} (hk : k < 2 ^ n) : 840 * sm g (k + 1) ≤ 418211942400000 := by
  have hp := pw8 hn
  have := sm_mono h.1 (show k + 1 ≤ 256 by omega)
  have := h.2.2
  omega
theorem c_spill {f : Mem → Prop} {M : Mem} {mv : Nat → Nat} {g t : TF} {k : Nat} (hn : n ≤ 8) (hk : k < 2 ^ n) (hG : GC n mv (-1) 0 0 M) (hR : RB n mv g) (hT : TB t (840 * sm g k)) (h91 : ∀ r, r < 256 → M 91 r = g r) (h92 : ∀ r, r < 256 → M 92 r = t r) (H : ∀ M', (∀ a, a ≠ 92 → M' a = M a) → (∀ r, r < 256 → M' 92 r = dOne mv n g k t r) → f M') : CV E mX4_spill [pR 86, pI (k : Int)] M f := by
  have hp := pw8 hn
  have hm := hG.2.2.1 k hk
  have hmk := hR.2.1 k hk
  have hgk := hR.1 k
  have hB := hR.row hn hk
  have es : sm g (k + 1) = sm g k + g k := rfl
  have hs0 : 0 ≤ sm g k := by have := sm_mono hR.1 (Nat.zero_le k); exact this
  have h17 : mv k < 2 ^ 17 := by omega
  unfold dOne at H
  apply vX4_spill_0
  rw [Int.toNat_natCast, hm.1]
  have hpk : pop (mv k) ≤ 17 := popN_le 17 _
  refine ⟨⟨by omega, by omega⟩, fun _ => c_bitCount (by omega) ⟨⟨by omega, by omega⟩, fun c => ⟨⟨by omega, by omega⟩, fun _ => ⟨⟨by omega, by omega⟩, c, ?_, ?_⟩⟩, fun c => ⟨⟨by omega, by omega⟩, fun _ => ⟨⟨by omega, by omega⟩, fun _ => ⟨⟨by omega, by omega⟩, ?_, ?_⟩⟩⟩⟩⟩
  · have e : Int.tdiv 840 (pop (mv k) : Int) = ((840 / pop (mv k) : Nat) : Int) := rfl
    rw [e]
    have h9 := Nat.div_le_self 840 (pop (mv k))
    generalize 840 / pop (mv k) = z at h9 ⊢
    exact ⟨by omega, by omega⟩
  · have hne : mv k ≠ 0 := fun z => c (by rw [z]; rfl)
    have hpp := pop_pos h17 hne
    have hb := each_b hgk hpp
    have e3 : popN n (mv k) = pop (mv k) := by
      have := popN_ext (m := n) (x := mv k) hmk (17 - n)
      rw [show n + (17 - n) = 17 by omega] at this
      exact this.symm
    rw [if_neg hne] at H
    rw [h91 k (by omega)]
    generalize g k * Int.tdiv 840 (pop (mv k) : Int) = each at hb H
    have loop : ∀ (j l : Nat) (t1 : TF) (M1 : Mem), l + j = n → TB t1 (840 * sm g k + each * (popN l (mv k) : Int)) → (∀ a, a ≠ 92 → M1 a = M a) → (∀ r, r < 256 → M1 92 r = t1 r) → dLat (mv k) each k n 0 t = dLat (mv k) each k j l t1 → KW E mX4_spill (qV f) M1 51 [(0, pR 86), (1, pI (k : Int)), (3, pL each), (5, pI (l : Int))] [] := by
      intro j
      induction j with
      | zero =>
        intro l t1 M1 hl hT1 e1 e2 e4
        apply vX4_spill_51
        rw [e1 86 (by decide), hG.1]
        refine fun _ => ⟨⟨by omega, by omega⟩, fun _ => H M1 e1 (fun r hr => ?_), fun z => absurd z (by omega)⟩
        rw [e4]
        exact e2 r hr
      | succ j ih =>
        intro l t1 M1 hl hT1 e1 e2 e4
        have hx := xor_lt (l := l) hk (by omega)
        have hG1 : GC n mv (-1) 0 0 M1 := by unfold GC at hG ⊢; rw [e1 86 (by decide), e1 87 (by decide)]; exact hG
        have hT2 := lat_b (n := n) (m := mv k) (row := k) hn (by omega) hk hb.1 hT1
        have hle : each * (popN (l + 1) (mv k) : Int) ≤ each * (pop (mv k) : Int) := Int.mul_le_mul_of_nonneg_left (by have := popN_mono (x := mv k) (show l + 1 ≤ 17 by omega); have e5 : pop (mv k) = popN 17 (mv k) := rfl; omega) hb.1
        apply vX4_spill_51
        rw [hG1.1, bOne_nat (by omega), bXor_nat (by omega) (pw31 (by omega)), Int.toNat_natCast]
        refine fun _ => ⟨⟨by omega, by omega⟩, fun z => absurd z (by omega), fun _ => c_isMovable hn hk (by omega) hG1 ?_⟩
        simp only [dLat] at e4
        cases ht : (mv k).testBit l
        · have hz : ¬ (mv k).testBit l = true := by rw [ht]; decide
          rw [if_neg hz] at hT2 e4
          exact ⟨⟨by decide, by decide⟩, fun _ => ih (l + 1) t1 M1 (by omega) hT2 e1 e2 e4, fun z => absurd rfl z⟩
        · rw [if_pos ht] at hT2 e4
          have hat := hT2.at (r := k ^^^ 2 ^ l) (by omega)
          rw [upN_self] at hat
          refine ⟨⟨by decide, by decide⟩, fun z => absurd z (by decide), fun _ => c_hasP hn hx hG1.2.1 ⟨⟨by decide, by decide⟩, fun z => absurd z (by decide), fun _ => ?_⟩⟩
          rw [e2 _ (by omega)]
          refine ⟨⟨by omega, by omega⟩, fun _ => ⟨⟨by omega, by omega⟩, ⟨by omega, by omega⟩, ?_⟩⟩
          refine ih (l + 1) _ _ (by omega) hT2 (fun a a1 => by rw [upM_ne _ _ _ a1]; exact e1 a a1) (fun r hr => ?_) e4
          rw [upM_self]
          by_cases e : r = k ^^^ 2 ^ l
          · rw [e, va_up_self, upN_self]
          · rw [va_up_neq _ _ e, upN_ne _ _ e]; exact e2 r hr
    exact loop n 0 t M (Nat.zero_add _) (by show TB t (_ + _ * ((0 : Nat) : Int)); simpa using hT) (fun _ _ => rfl) h92 rfl
  · have h1 := hT.at (r := k) (by omega)
    rw [h91 k (by omega), h92 k (by omega)]
    exact ⟨by omega, by omega⟩
  · have hz : mv k = 0 := by
      by_cases z : mv k = 0
      · exact z
      · have := pop_pos h17 z; omega
    rw [if_pos hz] at H
    rw [h91 k (by omega), h92 k (by omega)]
    refine H _ (fun a a1 => upM_ne _ _ _ a1) (fun r hr => ?_)
    rw [upM_self]
    by_cases e : r = k
    · rw [e, va_up_self, upN_self]
    · rw [va_up_neq _ _ e, upN_ne _ _ e]; exact h92 r hr
theorem z_TB {g : TF} : TB (fun _ => 0) (840 * sm g 0) := ⟨fun _ => Int.le_refl _, by
  have : ∀ N, sm (fun _ => 0) N = 0 := by
    intro N
    induction N with
    | zero => rfl
    | succ N ih => simp only [sm]; rw [ih]; rfl
  rw [this]; show (0 : Int) ≤ 840 * 0; decide⟩
theorem RB.it {mv : Nat → Nat} {s i m : Nat} (hn : n ≤ 8) (hs : s < 256) (hm : ∀ r, r < 2 ^ n → mv r < 2 ^ n) (hi : i < m) (hm5 : m ≤ 5) : RB n mv (dIt mv n i (dSt s)) := by
  have h := dIt_b hn hs hm i
  refine ⟨h.1, hm, Int.le_trans h.2 ?_⟩
  have : ∀ i, i < 5 → (840 : Int) ^ i ≤ 497871360000 := by decide
  exact this i (by omega)
theorem c_drunkC {f : Int → Mem → Prop} {M : Mem} {x k w : Int} (hx : iR x) (hk : iR k) (hw2 : iR w) (hw : wfY n y) (hD : CD n may law rust M) (hy : YC y M) (H : ∀ M', FrQ M M' → f (drkY n may x k w y.1) M') : CL E mX10_drunk [pR 0, pI x, pI k, pI w] M f := by
  have hn := hD.2.1
  have hp := pw8 hn
  have h1 := hw.1.1.1
  have h2 := hw.1.1.2.1
  unfold drkY at H
  refine vX10_drunk_0 _ _ _ (c_hasRow hx hD.1 hn (fun r er hr => ⟨⟨by decide, by decide⟩, fun z => absurd z (by decide), fun _ => ⟨hk, fun c => ?_, fun c => ⟨hk, fun c2 => ?_, fun c2 => ⟨hw2, fun c3 => ?_, fun c3 => ⟨hw2, fun c4 => ?_, fun c4 => ?_⟩⟩⟩⟩⟩) (fun z => ⟨⟨by decide, by decide⟩, fun _ => ?_, fun z => absurd rfl z⟩))
  · rw [if_neg (by omega)] at H; exact H M (FrQ.rf M)
  · rw [if_neg (by omega)] at H; exact H M (FrQ.rf M)
  · rw [if_neg (by omega)] at H; exact H M (FrQ.rf M)
  · subst er
    rw [if_pos ⟨⟨by omega, by omega⟩, ⟨by omega, by omega⟩, by omega, by omega⟩, Int.toNat_natCast] at H
    obtain ⟨m, em⟩ : ∃ m : Nat, k = (m : Int) := ⟨k.toNat, by omega⟩
    subst em
    rw [Int.toNat_natCast] at H
    rw [hy.1.2.2.1]
    refine fun _ => c_layP (by omega) hD (fun M1 b1 b2 => ?_)
    rw [b1 36 (by decide), hy.1.2.1]
    have hmv : ∀ r, r < 2 ^ n → mvF may (dSe y.1) r < 2 ^ n := fun r hr => Nat.lt_of_le_of_lt (andN_le _ _) (hD.2.2.1 r hr).2
    have gcf : ∀ M3 : Mem, (∀ a, a ≠ 91 → a ≠ 92 → M3 a = M1 a) → GC n (mvF may (dSe y.1)) (-1) 0 0 M3 := fun M3 e => by
      unfold GC at b2 ⊢
      rw [e 86 (by decide) (by decide), e 87 (by decide) (by decide)]
      exact b2
    have frq : ∀ M3 : Mem, (∀ a, a ≠ 91 → a ≠ 92 → M3 a = M1 a) → FrQ M M3 := fun M3 e a a1 => by rw [e a (by omega) (by omega)]; exact b1 a a1
    refine fun _ => vX4_drunkTo_0 _ _ _ (c_hasP hn h1 b2.2.1 ⟨⟨by decide, by decide⟩, fun z => absurd z (by decide), fun _ => c_hasP hn hr b2.2.1 ⟨⟨by decide, by decide⟩, fun _ => c_fillL (nn := 256) rfl (by decide) ⟨by decide, by decide⟩ (fun M2 d1 d2 => ⟨⟨by omega, by omega⟩, ?_⟩), fun z => absurd z (by decide)⟩⟩)
    rw [Int.toNat_natCast]
    have outer : ∀ (j i : Nat) (M3 : Mem), i + j = m → (∀ a, a ≠ 91 → a ≠ 92 → M3 a = M1 a) → (∀ q, q < 256 → M3 91 q = dIt (mvF may (dSe y.1)) n i (dSt (dRo y.1)) q) → KW E mX4_drunkTo (qL (fun r12 M13 => CL E mX10_power [pL 840, pI (m : Int)] M13 (fun r14 M15 => (CL E mX10_inLeastTerms [pL r12, pL r14, pI w] M15 (fun r16 M17 => f r16 M17))))) M3 36 [(0, pR 86), (2, pI (r : Int)), (3, pI (m : Int)), (4, pI (i : Int))] [] := by
      intro j
      induction j with
      | zero =>
        intro i M3 hi e1 e2
        have : i = m := by omega
        subst this
        apply vX4_drunkTo_36
        rw [Int.toNat_natCast, e2 r (by omega)]
        refine ⟨⟨by omega, by omega⟩, ⟨by omega, by omega⟩, fun _ => ⟨⟨by omega, by omega⟩, fun _ => c_power (by omega) ?_⟩, fun z => absurd z (by omega)⟩
        have hb := (dIt_b (mv := mvF may (dSe y.1)) hn (show dRo y.1 < 256 by omega) hmv i).at (r := r) (by omega)
        have h8 := p840 (m := i) (by omega)
        have HH := H M3 (frq M3 e1)
        unfold frcY at HH
        generalize dIt (mvF may (dSe y.1)) n i (dSt (dRo y.1)) r = A at hb HH
        generalize (840 : Int) ^ i = B at hb HH h8
        obtain ⟨a, ea⟩ : ∃ a : Nat, A = (a : Int) := ⟨A.toNat, by omega⟩
        obtain ⟨b, eb⟩ : ∃ b : Nat, B = (b : Int) := ⟨B.toNat, by omega⟩
        subst ea; subst eb
        rw [Int.toNat_natCast, Int.toNat_natCast] at HH
        exact c_inLeast (by omega) (by omega) ⟨by omega, by omega⟩ HH
      | succ j ih =>
        intro i M3 hi e1 e2
        have hRB : RB n (mvF may (dSe y.1)) (dIt (mvF may (dSe y.1)) n i (dSt (dRo y.1))) := RB.it hn (by omega) hmv (show i < m by omega) (by omega)
        refine vX4_drunkTo_36 _ _ _ ⟨⟨by omega, by omega⟩, ⟨by omega, by omega⟩, fun z => absurd z (by omega), fun _ => c_fillL (nn := 256) rfl (by decide) ⟨by decide, by decide⟩ (fun M4 g1 g2 => ?_)⟩
        have inner : ∀ (j2 q : Nat) (t : TF) (M5 : Mem), q + j2 = 2 ^ n → TB t (840 * sm (dIt (mvF may (dSe y.1)) n i (dSt (dRo y.1))) q) → (∀ a, a ≠ 92 → M5 a = M3 a) → (∀ r, r < 256 → M5 92 r = t r) → dIt (mvF may (dSe y.1)) n (i + 1) (dSt (dRo y.1)) = dRws (mvF may (dSe y.1)) n (dIt (mvF may (dSe y.1)) n i (dSt (dRo y.1))) j2 q t → KW E mX4_drunkTo (qL (fun r12 M13 => CL E mX10_power [pL 840, pI (m : Int)] M13 (fun r14 M15 => (CL E mX10_inLeastTerms [pL r12, pL r14, pI w] M15 (fun r16 M17 => f r16 M17))))) M5 53 [(0, pR 86), (2, pI (r : Int)), (3, pI (m : Int)), (4, pI (i : Int)), (5, pI (q : Int))] [] := by
          intro j2
          induction j2 with
          | zero =>
            intro q t M5 hq hT k1 k2 k3
            have e5 : ∀ a, a ≠ 91 → a ≠ 92 → M5 a = M1 a := fun a a1 a2 => by rw [k1 a a2]; exact e1 a a1 a2
            apply vX4_drunkTo_53
            rw [(gcf M5 e5).2.1]
            refine fun _ => ⟨⟨by omega, by omega⟩, fun _ => ?_, fun z => absurd z (by omega)⟩
            refine ih (i + 1) _ (by omega) (fun a a1 a2 => by rw [cpM_ne _ a1]; exact e5 a a1 a2) (fun p hp2 => ?_)
            rw [cpM_self]
            simp only [va_cpy]
            rw [if_pos ⟨by omega, by omega⟩, show 0 + (p - 0) = p by omega, k2 p hp2, k3]
            rfl
          | succ j2 ih2 =>
            intro q t M5 hq hT k1 k2 k3
            have e5 : ∀ a, a ≠ 91 → a ≠ 92 → M5 a = M1 a := fun a a1 a2 => by rw [k1 a a2]; exact e1 a a1 a2
            have hG5 := gcf M5 e5
            have hT2 := dOne_b (mv := mvF may (dSe y.1)) hn (show q < 2 ^ n by omega) hRB.1 (hmv q (by omega)) hT
            have e91 : ∀ r, r < 256 → M5 91 r = dIt (mvF may (dSe y.1)) n i (dSt (dRo y.1)) r := fun r hr => by rw [k1 91 (by decide)]; exact e2 r hr
            apply vX4_drunkTo_53
            rw [hG5.2.1, Int.toNat_natCast, e91 q (by omega)]
            refine fun _ => ⟨⟨by omega, by omega⟩, fun z => absurd z (by omega), fun _ => ⟨⟨by omega, by omega⟩, fun _ => ⟨fun c5 => ?_, fun c5 => ?_⟩⟩⟩
            · refine ih2 (q + 1) t M5 (by omega) (hT.mono ?_) k1 k2 ?_
              · have es : sm (dIt (mvF may (dSe y.1)) n i (dSt (dRo y.1))) (q + 1) = sm (dIt (mvF may (dSe y.1)) n i (dSt (dRo y.1))) q + dIt (mvF may (dSe y.1)) n i (dSt (dRo y.1)) q := rfl
                rw [es]; omega
              · rw [k3]
                simp only [dRws]
                rw [dOne_0 c5]
            · refine c_spill hn (by omega) hG5 hRB hT e91 k2 (fun M6 l1 l2 => ?_)
              exact ih2 (q + 1) _ M6 (by omega) hT2 (fun a a1 => by rw [l1 a a1]; exact k1 a a1) l2 k3
        exact inner (2 ^ n) 0 (fun _ => 0) M4 (Nat.zero_add _) z_TB g1 g2 (dIt_S i _)
    refine outer m 0 _ (Nat.zero_add _) (fun a a1 a2 => by rw [upM_ne _ _ _ a1]; exact d1 a a1) (fun q hq => ?_)
    rw [upM_self]
    show _ = if q = dRo y.1 then (1 : Int) else 0
    by_cases e : q = dRo y.1
    · rw [e, va_up_self, if_pos rfl]
    · rw [va_up_neq _ _ e, if_neg e]; exact d2 q hq
  · rw [if_neg (by omega)] at H; exact H M (FrQ.rf M)
  · rw [if_neg (fun q => z q.1)] at H; exact H M (FrQ.rf M)
end DRUNK2
