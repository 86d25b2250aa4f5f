section TOKC2
variable {E : Scr} {bs : BF} {L : Nat}
theorem sgF_at : ∀ c : Nat, c < 256 → (sgF (c : Int) 10 0 = 3 ↔ c = 60) ∧ (sgF (c : Int) 10 0 = 5 ↔ c = 62) := by decide +kernel
theorem c_readSign {f : Mem → Prop} {M : Mem} {s : Nat} (hT : TPc bs L M) (hs : s < L) (h4 : M 2 4 = (s : Int)) (h6 : M 2 6 = (s : Int)) (h7 : M 2 7 = 0) (H : ∀ M', FrTk M M' → TC (sgT bs L s) M' → f M') : CV E mX8_readSign [pR 2] M f := by
  have hL := hT.2.1
  have hb := hT.2.2.1 s hs
  have hat := sgF_at (bs s) hb.2
  have hsb := sgF_b (c := (bs s : Int)) 10 0 (by decide)
  have e52 : ∀ s0 : Int, s0 = (if sgF (bs s : Int) 10 0 < 0 then 40 else 24 + sgF (bs s : Int) 10 0) → KW E mX8_readSign (qV f) (upM M 2 4 ((s : Int) + 1)) 52 [(0, pR 2)] [pI s0, pR 2] := by
    intro s0 hs0
    have k27 : s0 = 27 ↔ bs s = 60 := by
      rw [← hat.1]
      rcases hsb with z | z
      · rw [z] at hs0; rw [if_pos (by decide)] at hs0; omega
      · rw [if_neg (by omega)] at hs0; omega
    have k29 : s0 = 29 ↔ bs s = 62 := by
      rw [← hat.2]
      rcases hsb with z | z
      · rw [z] at hs0; rw [if_pos (by decide)] at hs0; omega
      · rw [if_neg (by omega)] at hs0; omega
    have hrg : iR s0 := by
      rcases hsb with z | z
      · rw [z] at hs0; rw [if_pos (by decide)] at hs0; exact ⟨by omega, by omega⟩
      · rw [if_neg (by omega)] at hs0; exact ⟨by omega, by omega⟩
    generalize hM1 : upM (upM M 2 4 ((s : Int) + 1)) 2 5 s0 = M1
    have hF1 : FrTk M M1 := by rw [← hM1]; exact (FrTk.u M _ (by decide)).tr (FrTk.u _ _ (by decide))
    have hT1 := hT.fr hF1
    have h41 : M1 2 4 = ((s + 1 : Nat) : Int) := by rw [← hM1]; rfl
    have h51 : M1 2 5 = s0 := by rw [← hM1]; rfl
    have h61 : M1 2 6 = (s : Int) := by rw [← hM1]; exact h6
    have h71 : M1 2 7 = 0 := by rw [← hM1]; exact h7
    have two : ∀ (k : Int) (M2 : Mem), sgT bs L s = (k, 0, s, s + 2) → M2 = upM (upM M1 2 5 k) 2 4 (M1 2 4 + 1) → f M2 := by
      intro k M2 e1 e2
      subst e2
      refine H _ ((hF1.tr (FrTk.u _ _ (by decide))).tr (FrTk.u _ _ (by decide))) ?_
      rw [e1]
      refine ⟨rfl, h71, h61, ?_⟩
      show M1 2 4 + 1 = ((s + 2 : Nat) : Int)
      rw [h41]; omega
    have one : sgT bs L s = (s0, 0, s, s + 1) → f M1 := by
      intro e1
      refine H M1 hF1 ?_
      rw [e1]
      exact ⟨h51, h71, h61, h41⟩
    have st1 : ¬ (bs s = 60 ∧ s + 1 < L ∧ bs (s + 1) = 61) → ¬ (bs s = 60 ∧ s + 1 < L ∧ bs (s + 1) = 62) → ¬ (bs s = 62 ∧ s + 1 < L ∧ bs (s + 1) = 61) → f M1 := by
      intro n1 n2 n3
      refine one ?_
      unfold sgT
      rw [if_neg n1, if_neg n2, if_neg n3, hs0]
    have e133 : ¬ (bs s = 60 ∧ s + 1 < L ∧ bs (s + 1) = 61) → ¬ (bs s = 60 ∧ s + 1 < L ∧ bs (s + 1) = 62) → KW E mX8_readSign (qV f) M1 133 [(0, pR 2)] [] := by
      intro n1 n2
      apply vX8_readSign_133
      rw [h51]
      refine fun _ => ⟨fun c => st1 n1 n2 (fun z => c (k29.mpr z.1)), fun c => c_between (lo := 61) (hi := 61) hT1 h41 (by decide) (by decide) (fun c1 c2 c3 => ⟨⟨by decide, by decide⟩, fun z => absurd z (by decide), fun _ => ?_⟩) (fun c1 => ⟨⟨by decide, by decide⟩, fun _ => st1 n1 n2 (fun z => c1 ⟨z.2.1, by omega, by omega⟩), fun z => absurd rfl z⟩)⟩
      have hx : bs s = 62 := k29.mp c
      refine fun _ => ⟨by rw [h41]; exact ⟨by omega, by omega⟩, two 36 _ ?_ rfl⟩
      unfold sgT
      rw [if_neg n1, if_neg n2, if_pos ⟨hx, c1, by omega⟩]
    have e94 : ¬ (bs s = 60 ∧ s + 1 < L ∧ bs (s + 1) = 61) → KW E mX8_readSign (qV f) M1 94 [(0, pR 2)] [] := by
      intro n1
      apply vX8_readSign_94
      rw [h51]
      refine fun _ => ⟨fun c => e133 n1 (fun z => c (k27.mpr z.1)), fun c => c_between (lo := 62) (hi := 62) hT1 h41 (by decide) (by decide) (fun c1 c2 c3 => ⟨⟨by decide, by decide⟩, fun z => absurd z (by decide), fun _ => ?_⟩) (fun c1 => ⟨⟨by decide, by decide⟩, fun _ => e133 n1 (fun z => c1 ⟨z.2.1, by omega, by omega⟩), fun z => absurd rfl z⟩)⟩
      have hx : bs s = 60 := k27.mp c
      refine fun _ => ⟨by rw [h41]; exact ⟨by omega, by omega⟩, two 35 _ ?_ rfl⟩
      unfold sgT
      rw [if_neg n1, if_pos ⟨hx, c1, by omega⟩]
    apply vX8_readSign_52
    rw [hM1]
    refine ⟨hrg, fun _ => ⟨fun c => e94 (fun z => c (k27.mpr z.1)), fun c => c_between (lo := 61) (hi := 61) hT1 h41 (by decide) (by decide) (fun c1 c2 c3 => ⟨⟨by decide, by decide⟩, fun z => absurd z (by decide), fun _ => ?_⟩) (fun c1 => ⟨⟨by decide, by decide⟩, fun _ => e94 (fun z => c1 ⟨z.2.1, by omega, by omega⟩), fun z => absurd rfl z⟩)⟩⟩
    have hx : bs s = 60 := k27.mp c
    refine fun _ => ⟨by rw [h41]; exact ⟨by omega, by omega⟩, two 34 _ ?_ rfl⟩
    unfold sgT
    rw [if_pos ⟨hx, c1, by omega⟩]
  apply vX8_readSign_0
  rw [h4, Int.toNat_natCast, hb.1]
  refine fun _ => ⟨fun z => absurd z (by omega), fun _ _ => ⟨⟨by omega, by omega⟩, fun _ => ⟨⟨by omega, by omega⟩, c_indexOf ⟨by omega, by omega⟩ ?_⟩⟩⟩
  rw [h4]
  refine fun _ => ⟨⟨by omega, by omega⟩, ?_, fun c => e52 _ (by rw [if_neg (by omega)]), fun c => e52 _ (by rw [if_pos c])⟩
  rcases hsb with z | z
  · rw [z]; exact ⟨by decide, by decide⟩
  · exact ⟨by omega, by omega⟩
theorem c_advance {f : Mem → Prop} {M : Mem} {p : Nat} (hT : TPc bs L M) (hp : p ≤ L) (h4 : M 2 4 = (p : Int)) (H : ∀ M', FrTk M M' → TC (tok bs L p) M' → f M') : CV E mX8_advance [pR 2] M f := by
  have hL := hT.2.1
  have mid : ∀ (M1 : Mem) (s : Nat), FrTk M M1 → s ≤ L → M1 2 4 = (s : Int) → tok bs L p = tokA bs L s → KW E mX8_advance (qV f) M1 46 [(0, pR 2)] [] := by
    intro M1 s hF hs h4' et
    rw [et] at H
    unfold tokA at H
    apply vX8_advance_46
    rw [h4', (hT.fr hF).1]
    generalize hM2 : upM (upM M1 2 6 (s : Int)) 2 7 0 = M2
    have hF2 : FrTk M M2 := by rw [← hM2]; exact (hF.tr (FrTk.u _ _ (by decide))).tr (FrTk.u _ _ (by decide))
    have hT2 := hT.fr hF2
    have h42 : M2 2 4 = (s : Int) := by rw [← hM2]; exact h4'
    have h62 : M2 2 6 = (s : Int) := by rw [← hM2]; rfl
    have h72 : M2 2 7 = 0 := by rw [← hM2]; rfl
    refine fun _ _ _ => ⟨fun c => c_between (lo := 97) (hi := 122) hT2 h42 (by decide) (by decide) (fun c1 c2 c3 => ⟨⟨by decide, by decide⟩, fun z => absurd z (by decide), fun _ => ?_⟩) (fun c1 => ⟨⟨by decide, by decide⟩, fun _ => ?_, fun z => absurd rfl z⟩), fun c => ?_⟩
    · rw [if_neg (by omega), if_pos ⟨c2, c3⟩] at H
      exact c_readWord hT2 (by omega) h42 h62 h72 (fun M' a1 a2 => H M' (hF2.tr a1) a2)
    · rw [if_neg (by omega), if_neg (fun z => c1 ⟨by omega, z⟩)] at H
      refine c_between (lo := 48) (hi := 57) hT2 h42 (by decide) (by decide) (fun d1 d2 d3 => ⟨⟨by decide, by decide⟩, fun z => absurd z (by decide), fun _ => ?_⟩) (fun d1 => ⟨⟨by decide, by decide⟩, fun _ => ?_, fun z => absurd rfl z⟩)
      · rw [if_pos ⟨d2, d3⟩] at H
        exact c_readNumber hT2 (by omega) h42 h62 h72 (fun M' a1 a2 => H M' (hF2.tr a1) a2)
      · rw [if_neg (fun z => d1 ⟨by omega, z⟩)] at H
        exact c_readSign hT2 (by omega) h42 h62 h72 (fun M' a1 a2 => H M' (hF2.tr a1) a2)
    · rw [if_pos (by omega)] at H
      exact H _ (hF2.tr (FrTk.u _ _ (by decide))) ⟨rfl, h72, h62, h42⟩
  have loop : ∀ (j q : Nat) (M1 : Mem), q + j = L → FrTk M M1 → M1 2 4 = (q : Int) → tok bs L p = tokA bs L (skF bs L j q) → KW E mX8_advance (qV f) M1 0 [(0, pR 2)] [] := by
    intro j
    induction j with
    | zero =>
      intro q M1 hq hF h4' et
      apply vX8_advance_0
      rw [h4', (hT.fr hF).1]
      exact fun _ _ => ⟨fun _ => mid M1 q hF (by omega) h4' et, fun z => absurd z (by omega)⟩
    | succ j ih =>
      intro q M1 hq hF h4' et
      have hT1 := hT.fr hF
      simp only [skF] at et
      have step : q < L ∧ (bs q = 32 ∨ bs q = 10) → iR ((q : Int) + 1) ∧ KW E mX8_advance (qV f) (upM M1 2 4 ((q : Int) + 1)) 0 [(0, pR 2)] [] := by
        intro z
        rw [if_pos z] at et
        exact ⟨⟨by omega, by omega⟩, ih (q + 1) _ (by omega) (hF.tr (FrTk.u _ _ (by decide))) rfl et⟩
      apply vX8_advance_0
      rw [h4', hT1.1]
      refine fun _ _ => ⟨fun z => absurd z (by omega), fun _ => c_between (lo := 32) (hi := 32) hT1 h4' (by decide) (by decide) (fun c1 c2 c3 => ⟨⟨by decide, by decide⟩, fun _ => ?_, fun z => absurd z (by decide)⟩) (fun c => ⟨⟨by decide, by decide⟩, fun z => absurd rfl z, fun _ => c_between (lo := 10) (hi := 10) hT1 h4' (by decide) (by decide) (fun c1 c2 c3 => ⟨⟨by decide, by decide⟩, fun z => absurd z (by decide), fun _ => ?_⟩) (fun d => ⟨⟨by decide, by decide⟩, fun _ => ?_, fun z => absurd rfl z⟩)⟩)⟩
      · rw [h4']; exact fun _ => step ⟨c1, Or.inl (by omega)⟩
      · rw [h4']; exact fun _ => step ⟨c1, Or.inr (by omega)⟩
      · rw [if_neg (fun z => by omega)] at et
        exact mid M1 q hF (by omega) h4' et
  exact vX8_advance_in (loop (L - p) p M (by omega) (FrTk.rf M) h4 rfl)
end TOKC2
