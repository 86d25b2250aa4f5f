section TOKM2
variable {E : Scr} {bs : BF} {L : Nat}
theorem sg_val (c : Nat) : (c = 59 → sgF (c : Int) 10 0 = 0) ∧ (c = 40 → sgF (c : Int) 10 0 = 1) ∧ (c = 41 → sgF (c : Int) 10 0 = 2) ∧ (c = 60 → sgF (c : Int) 10 0 = 3) ∧ (c = 61 → sgF (c : Int) 10 0 = 4) ∧ (c = 62 → sgF (c : Int) 10 0 = 5) ∧ (c = 43 → sgF (c : Int) 10 0 = 6) ∧ (c = 45 → sgF (c : Int) 10 0 = 7) ∧ (c = 42 → sgF (c : Int) 10 0 = 8) ∧ (c = 47 → sgF (c : Int) 10 0 = 9) ∧ (c ≠ 59 ∧ c ≠ 40 ∧ c ≠ 41 ∧ c ≠ 60 ∧ c ≠ 61 ∧ c ≠ 62 ∧ c ≠ 43 ∧ c ≠ 45 ∧ c ≠ 42 ∧ c ≠ 47 → sgF (c : Int) 10 0 = -1) := by
  refine ⟨fun h => by subst h; decide, fun h => by subst h; decide, fun h => by subst h; decide, fun h => by subst h; decide, fun h => by subst h; decide, fun h => by subst h; decide, fun h => by subst h; decide, fun h => by subst h; decide, fun h => by subst h; decide, fun h => by subst h; decide, fun h => ?_⟩
  show (if (59 : Int) = (c : Int) then (0 : Int) else if (40 : Int) = (c : Int) then 1 else if (41 : Int) = (c : Int) then 2 else if (60 : Int) = (c : Int) then 3 else if (61 : Int) = (c : Int) then 4 else if (62 : Int) = (c : Int) then 5 else if (43 : Int) = (c : Int) then 6 else if (45 : Int) = (c : Int) then 7 else if (42 : Int) = (c : Int) then 8 else if (47 : Int) = (c : Int) then 9 else -1) = -1
  rw [if_neg (by omega), if_neg (by omega), if_neg (by omega), if_neg (by omega), if_neg (by omega), if_neg (by omega), if_neg (by omega), if_neg (by omega), if_neg (by omega), if_neg (by omega)]
theorem c_signToken {f : Mem → Prop} {M : Mem} {s : Nat} (hT : TPm bs L M) (hs : s < L) (h7 : M 98 7 = (s : Int)) (h10 : M 98 10 = (s : Int)) (H : ∀ M', FrTm M M' → TM (sgT bs L s) M' → f M') : CV E mX11_signToken [pR 98] M f := by
  have hL := hT.2.1
  have hb := hT.2.2.1 s hs
  have hv := sg_val (bs s)
  generalize hM1 : upM (upM M 98 9 (bs s : Int)) 98 7 ((s : Int) + 1) = M1
  have hF1 : FrTm M M1 := by rw [← hM1]; exact (FrTm.u M _ (by decide)).tr (FrTm.u _ _ (by decide))
  have hT1 := hT.fr hF1
  have h71 : M1 98 7 = ((s + 1 : Nat) : Int) := by rw [← hM1]; rfl
  have h91 : M1 98 9 = (bs s : Int) := by rw [← hM1]; rfl
  have h101 : M1 98 10 = (s : Int) := by rw [← hM1]; exact h10
  -- signs of one
  have n60 : bs s ≠ 60 → bs s ≠ 62 → sgT bs L s = (if sgF (bs s : Int) 10 0 < 0 then 40 else 24 + sgF (bs s : Int) 10 0, 0, s, s + 1) := by
    intro a1 a2
    unfold sgT
    rw [if_neg (fun z => a1 z.1), if_neg (fun z => a1 z.1), if_neg (fun z => a2 z.1)]
  have sig : ∀ (k : Int), bs s ≠ 60 → bs s ≠ 62 → (if sgF (bs s : Int) 10 0 < 0 then (40 : Int) else 24 + sgF (bs s : Int) 10 0) = k → RK (k, 0, s, s + 1) 4 (bs s : Int) → KW E mX11_signToken (qV f) M1 270 [(0, pR 98)] [] := by
    intro k a1 a2 ek hr
    refine vX11_signToken_270 (H _ (hF1.tr (FrTm.u _ _ (by decide))) ?_)
    rw [n60 a1 a2, ek]
    refine ⟨?_, h101, h71⟩
    show RK _ 4 (M1 98 9)
    rw [h91]; exact hr
  have cmp : bs s = 60 ∨ bs s = 61 ∨ bs s = 62 → KW E mX11_signToken (qV f) M1 50 [(0, pR 98)] [] := by
    intro hc
    -- the ends: x2 whether =, x3 whether >
    have fin : ∀ (x2 x3 : Int) (M2 : Mem) (k : Int) (nx : Nat) (w : Int), FrTm M M2 → M2 98 9 = (bs s : Int) → M2 98 10 = (s : Int) → M2 98 7 = (nx : Int) → (x2 = 0 ∨ x2 = 1) → (x3 = 0 ∨ x3 = 1) → w = (if bs s = 61 then 2 else if bs s = 60 then (if x2 ≠ 0 then 1 else if x3 ≠ 0 then 3 else 0) else (if x2 ≠ 0 then 4 else 5)) → sgT bs L s = (k, 0, s, nx) → RK (k, 0, s, nx) 5 w → KW E mX11_signToken (qV f) M2 135 [(0, pR 98), (2, pI x2), (3, pI x3)] [] := by
      intro x2 x3 M2 k nx w hF2 e9 e10 e7 hx2 hx3 hw et hr
      have done : ∀ v : Int, v = w → f (upM (upM M2 98 8 5) 98 9 v) := by
        intro v hv2
        refine H _ ((hF2.tr (FrTm.u _ _ (by decide))).tr (FrTm.u _ _ (by decide))) ?_
        rw [et]
        refine ⟨?_, e10, e7⟩
        show RK _ 5 v
        rw [hv2]; exact hr
      apply vX11_signToken_135
      rw [e9]
      refine fun _ => ⟨fun c1 => fun _ => ⟨fun c2 => ⟨⟨by omega, by omega⟩, fun c3 => done 5 ?_, fun c3 => done 4 ?_⟩, fun c2 => ⟨⟨by omega, by omega⟩, fun c3 => ⟨⟨by omega, by omega⟩, fun c4 => done 0 ?_, fun c4 => done 3 ?_⟩, fun c3 => done 1 ?_⟩⟩, fun c1 => done 2 ?_⟩
      · rw [hw, if_neg (by omega), if_neg (by omega), if_neg (by omega)]
      · rw [hw, if_neg (by omega), if_neg (by omega), if_pos c3]
      · rw [hw, if_neg (by omega), if_pos (by omega), if_neg (by omega), if_neg (by omega)]
      · rw [hw, if_neg (by omega), if_pos (by omega), if_neg (by omega), if_pos c4]
      · rw [hw, if_neg (by omega), if_pos (by omega), if_pos c3]
      · rw [hw, if_pos (by omega)]
    have one : ¬ (bs s = 60 ∧ s + 1 < L ∧ bs (s + 1) = 61) → ¬ (bs s = 60 ∧ s + 1 < L ∧ bs (s + 1) = 62) → ¬ (bs s = 62 ∧ s + 1 < L ∧ bs (s + 1) = 61) → KW E mX11_signToken (qV f) M1 135 [(0, pR 98), (2, pI 0), (3, pI 0)] [] := by
      intro n1 n2 n3
      have et : sgT bs L s = (if sgF (bs s : Int) 10 0 < 0 then 40 else 24 + sgF (bs s : Int) 10 0, 0, s, s + 1) := by unfold sgT; rw [if_neg n1, if_neg n2, if_neg n3]
      refine fin 0 0 M1 _ (s + 1) _ hF1 h91 h101 h71 (Or.inl rfl) (Or.inl rfl) rfl et ?_
      rcases hc with c | c | c
      · have e := hv.2.2.2.1 c
        rw [e, c]; unfold RK; simp
      · have e := hv.2.2.2.2.1 c
        rw [e, c]; unfold RK; simp
      · have e := hv.2.2.2.2.2.1 c
        rw [e, c]; unfold RK; simp
    have st115 : ∀ (s0 : Int), (s0 = 0 ∨ s0 = 1) → (s0 = 1 → s + 1 < L ∧ bs (s + 1) = 61 ∧ bs s ≠ 61) → (s0 = 0 → bs s = 61 ∨ ¬ (s + 1 < L ∧ bs (s + 1) = 61)) → ¬ (bs s = 60 ∧ s + 1 < L ∧ bs (s + 1) = 62) → KW E mX11_signToken (qV f) M1 115 [(0, pR 98), (2, pI s0)] [] := by
      intro s0 h0 h1 h2 n2
      apply vX11_signToken_115
      rw [h71]
      refine ⟨⟨by omega, by omega⟩, fun c => fun _ => ⟨⟨by omega, by omega⟩, ?_⟩, fun c => ?_⟩
      · have e0 : s0 = 1 := by omega
        subst e0
        have hh := h1 rfl
        have e7 : upM M1 98 7 (((s + 1 : Nat) : Int) + 1) 98 7 = ((s + 2 : Nat) : Int) := by rw [upM_self, va_up_self]; omega
        rcases hc with c2 | c2 | c2
        · exact fin 1 0 _ 34 (s + 2) 1 (hF1.tr (FrTm.u _ _ (by decide))) h91 h101 e7 (Or.inr rfl) (Or.inl rfl) (by rw [if_neg (by omega), if_pos c2, if_pos (by decide)]) (by unfold sgT; rw [if_pos ⟨c2, hh.1, hh.2.1⟩]) (by unfold RK; simp)
        · exact absurd c2 hh.2.2
        · exact fin 1 0 _ 36 (s + 2) 4 (hF1.tr (FrTm.u _ _ (by decide))) h91 h101 e7 (Or.inr rfl) (Or.inl rfl) (by rw [if_neg (by omega), if_neg (by omega), if_pos (by decide)]) (by unfold sgT; rw [if_neg (by omega), if_neg (by omega), if_pos ⟨c2, hh.1, hh.2.1⟩]) (by unfold RK; simp)
      · subst c
        have hh := h2 rfl
        exact one (fun z => by omega) n2 (fun z => by omega)
    have st95 : ∀ (x1 s0 : Int), iR x1 → (s0 = 0 ∨ s0 = 1) → (s0 = 1 → s + 1 < L ∧ bs (s + 1) = 61 ∧ bs s ≠ 61) → (s0 = 0 → bs s = 61 ∨ ¬ (s + 1 < L ∧ bs (s + 1) = 61)) → (x1 = 62 → s + 1 < L ∧ bs (s + 1) = 62) → (x1 ≠ 62 → ¬ (s + 1 < L ∧ bs (s + 1) = 62)) → KW E mX11_signToken (qV f) M1 95 [(0, pR 98), (1, pI x1)] [pI s0] := by
      intro x1 s0 hx1 h0 h1 h2 h3 h4
      apply vX11_signToken_95
      rw [h91, h71]
      refine fun _ => ⟨fun c => st115 s0 h0 h1 h2 (fun z => by omega), fun c => ⟨hx1, fun c2 => st115 s0 h0 h1 h2 (fun z => h4 c2 z.2), fun c2 => ⟨⟨by omega, by omega⟩, fun c3 => ?_, fun c3 => fun _ => ⟨⟨by omega, by omega⟩, ?_⟩⟩⟩⟩
      · have := h1 (by omega)
        have := h3 c2
        omega
      · subst c3
        have hh := h3 c2
        have e7 : upM M1 98 7 (((s + 1 : Nat) : Int) + 1) 98 7 = ((s + 2 : Nat) : Int) := by rw [upM_self, va_up_self]; omega
        exact fin 0 1 _ 35 (s + 2) 3 (hF1.tr (FrTm.u _ _ (by decide))) h91 h101 e7 (Or.inl rfl) (Or.inr rfl) (by rw [if_neg (by omega), if_pos (by omega), if_neg (by decide), if_pos (by decide)]) (by unfold sgT; rw [if_neg (by omega), if_pos ⟨by omega, hh.1, hh.2⟩]) (by unfold RK; simp)
    apply vX11_signToken_50
    rw [h71, hT1.1, h91]
    refine fun _ _ => ⟨fun c => fun _ => ⟨fun c2 => ?_, fun c2 => ?_⟩, fun c => fun _ => ⟨⟨by omega, by omega⟩, ?_⟩⟩
    · exact st95 0 0 ⟨by decide, by decide⟩ (Or.inl rfl) (fun z => absurd z (by decide)) (fun _ => Or.inr (by omega)) (fun z => absurd z (by decide)) (fun _ => by omega)
    · exact st95 0 0 ⟨by decide, by decide⟩ (Or.inl rfl) (fun z => absurd z (by decide)) (fun _ => Or.inr (by omega)) (fun z => absurd z (by decide)) (fun _ => by omega)
    · have hb1 := hT1.2.2.1 (s + 1) (by omega)
      rw [Int.toNat_natCast, hb1.1]
      refine fun _ _ => ⟨fun c2 => ?_, fun c2 => ⟨fun c3 => ?_, fun c3 => ?_⟩⟩
      · exact st95 _ 0 ⟨by omega, by omega⟩ (Or.inl rfl) (fun z => absurd z (by decide)) (fun _ => Or.inl (by omega)) (fun z => by omega) (fun z => by omega)
      · exact st95 _ 0 ⟨by omega, by omega⟩ (Or.inl rfl) (fun z => absurd z (by decide)) (fun _ => Or.inr (by omega)) (fun z => by omega) (fun z => by omega)
      · exact st95 _ 1 ⟨by omega, by omega⟩ (Or.inr rfl) (fun _ => by omega) (fun z => absurd z (by decide)) (fun z => by omega) (fun z => by omega)
  apply vX11_signToken_0
  rw [h7, Int.toNat_natCast, hb.1, hM1]
  refine fun _ => ⟨⟨by omega, by omega⟩, fun _ _ => ⟨⟨by omega, by omega⟩, fun _ => ⟨fun c => cmp (by omega), fun c0 => fun _ => ⟨fun c => cmp (by omega), fun c1 => fun _ => ⟨fun c2 => fun _ => ⟨fun c => ?_, fun c3 => fun _ => ⟨fun c => ?_, fun c4 => fun _ => ⟨fun c => ?_, fun c5 => fun _ => ⟨fun c => ?_, fun c6 => fun _ => ⟨fun c => ?_, fun c7 => fun _ => ⟨fun c => ?_, fun c8 => fun _ => ⟨fun c => ?_, fun c9 => fun _ => ⟨fun c => ?_, fun c => ?_⟩⟩⟩⟩⟩⟩⟩⟩, fun c => cmp (by omega)⟩⟩⟩⟩⟩
  · exact sig 24 (by omega) (by omega) (by rw [hv.1 (by omega)]; rfl) (by rw [c]; unfold RK; simp)
  · exact sig 25 (by omega) (by omega) (by rw [hv.2.1 (by omega)]; rfl) (by rw [c]; unfold RK; simp)
  · exact sig 26 (by omega) (by omega) (by rw [hv.2.2.1 (by omega)]; rfl) (by rw [c]; unfold RK; simp)
  · exact sig 30 (by omega) (by omega) (by rw [hv.2.2.2.2.2.2.1 (by omega)]; rfl) (by rw [c]; unfold RK; simp)
  · exact sig 31 (by omega) (by omega) (by rw [hv.2.2.2.2.2.2.2.1 (by omega)]; rfl) (by rw [c]; unfold RK; simp)
  · exact sig 32 (by omega) (by omega) (by rw [hv.2.2.2.2.2.2.2.2.1 (by omega)]; rfl) (by rw [c]; unfold RK; simp)
  · exact sig 33 (by omega) (by omega) (by rw [hv.2.2.2.2.2.2.2.2.2.1 (by omega)]; rfl) (by rw [c]; unfold RK; simp)
  · have e := hv.2.2.2.2.2.2.2.2.2.2 ⟨by omega, by omega, by omega, by omega, by omega, by omega, by omega, by omega, by omega, by omega⟩
    refine H _ (hF1.tr (FrTm.u _ _ (by decide))) ?_
    rw [n60 (by omega) (by omega), e]
    refine ⟨?_, h101, h71⟩
    show RK _ 6 _
    unfold RK; simp
  · have e := hv.2.2.2.2.2.2.2.2.2.2 ⟨by omega, by omega, by omega, by omega, by omega, by omega, by omega, by omega, by omega, by omega⟩
    exact sig 40 (by omega) (by omega) (by rw [e]; rfl) (by rw [c]; unfold RK; simp)
theorem c_token {f : Mem → Prop} {M : Mem} {p : Nat} (hT : TPm bs L M) (hp : p ≤ L) (h7 : M 98 7 = (p : Int)) (H : ∀ M', FrTm M M' → TM (tok bs L p) M' → f M') : CV E mX11_token [pR 98] M f := by
  have hL := hT.2.1
  have mid : ∀ (M1 : Mem) (s : Nat), FrTm M M1 → s ≤ L → M1 98 7 = (s : Int) → tok bs L p = tokA bs L s → KW E mX11_token (qV f) M1 52 [(0, pR 98)] [] := by
    intro M1 s hF hs h7' et
    rw [et] at H
    unfold tokA at H
    apply vX11_token_52
    rw [h7', (hT.fr hF).1]
    generalize hM2 : upM M1 98 10 (s : Int) = M2
    have hF2 : FrTm M M2 := by rw [← hM2]; exact hF.tr (FrTm.u _ _ (by decide))
    have hT2 := hT.fr hF2
    have h72 : M2 98 7 = (s : Int) := by rw [← hM2]; exact h7'
    have h102 : M2 98 10 = (s : Int) := by rw [← hM2]; rfl
    refine fun _ _ _ => ⟨fun c => fun _ => c_isSmall hT2 hs (fun c1 c2 c3 => ⟨⟨by decide, by decide⟩, fun z => absurd z (by decide), fun _ => ?_⟩) (fun c1 => ⟨⟨by decide, by decide⟩, fun _ => ?_, fun z => absurd rfl z⟩), fun c => ?_⟩
    · rw [if_neg (by omega), if_pos ⟨c2, c3⟩] at H
      have hsp := spF_b (lo := 97) (hi := 122) (bs := bs) (L := L) (L - s) s (by omega)
      have hes : s < spF 97 122 bs L (L - s) s := by
        rcases Nat.lt_or_ge s (spF 97 122 bs L (L - s) s) with z | z
        · exact z
        · have e : spF 97 122 bs L (L - s) s = s := by omega
          have h9 := hsp.2.2.2
          rw [e] at h9
          exact absurd ⟨c1, c2, c3⟩ h9
      generalize he : spF 97 122 bs L (L - s) s = e at H hsp hes
      have loop : ∀ (j q : Nat) (M3 : Mem), q + j = L → s ≤ q → spF 97 122 bs L j q = e → FrTm M M3 → M3 98 7 = (q : Int) → M3 98 10 = (s : Int) → KW E mX11_token (qV f) M3 90 [(0, pR 98)] [] := by
        have fin : ∀ (M3 : Mem), FrTm M M3 → M3 98 7 = (e : Int) → M3 98 10 = (s : Int) → CI E mX11_wordAt [pR 98, pI (s : Int), pI (e : Int)] M3 (fun r7 M8 => (iR r7) ∧ ((iR r7) → ((r7 < 0 → ((iR (M8 98 7)) → ((iR (M8 98 10)) → (iR ((M8 98 7) - (M8 98 10))) ∧ ((((M8 98 7) - (M8 98 10)) ≤ 6 → (KW E mX11_token (qV f) (upM M8 98 9 r7) 162 [(0, pR 98)] [pI 2, pR 98])) ∧ (((M8 98 7) - (M8 98 10)) > 6 → (KW E mX11_token (qV f) (upM M8 98 9 r7) 162 [(0, pR 98)] [pI 6, pR 98])))))) ∧ (r7 ≥ 0 → (KW E mX11_token (qV f) (upM M8 98 9 r7) 162 [(0, pR 98)] [pI 1, pR 98]))))) := by
          intro M3 hF3 e7 e10
          have hT3 := hT.fr hF3
          refine c_wordAt hT3 (by omega) (by omega) ?_
          rw [e7, e10]
          rcases fstM_c (p := mtB bs s e) 24 0 with ⟨z1, z2⟩ | ⟨k, k1, k2, k3, k4⟩
          · rw [z1]
            refine ⟨⟨by decide, by decide⟩, fun _ => ⟨fun _ _ _ => ⟨⟨by omega, by omega⟩, fun c4 => ?_, fun c4 => ?_⟩, fun z => absurd z (by decide)⟩⟩
            · have hl38 : lstM (prL bs s e 6) 24 = 38 := by
                rcases lstM_b (v := prL bs s e 6) 24 (by decide) with z | z
                · exact z
                · obtain ⟨i, hi⟩ : ∃ i : Nat, lstM (prL bs s e 6) 24 = (i : Int) := ⟨(lstM (prL bs s e 6) 24).toNat, by omega⟩
                  have hw := lstM_hit 24 (by decide) i (by omega) hi
                  obtain ⟨k, hk, ek⟩ := w_in i (by omega)
                  have := (mt_iff hk hes (by omega) hsp.2.2.1).mpr (by rw [ek]; exact hw.symm)
                  rw [z2 k (by omega) (by omega)] at this
                  exact absurd this (by decide)
              rw [if_neg (by omega), hl38] at H
              apply vX11_token_162
              refine ⟨⟨by decide, by decide⟩, fun _ => ⟨fun z => absurd rfl z, fun _ => ?_⟩⟩
              rw [show upM M3 98 9 (-1) 98 10 = (s : Int) from e10, show upM M3 98 9 (-1) 98 7 = (e : Int) from e7]
              have hF4 : FrTm M (upM (upM M3 98 9 (-1)) 98 8 2) := (hF3.tr (FrTm.u _ _ (by decide))).tr (FrTm.u _ _ (by decide))
              have hpb := prL_b (e := e) hsp.2.2.1 6
              have h326 : (32 : Nat) ^ 6 = 1073741824 := by decide
              refine fun _ _ => c_packed (hT.fr hF4) (by omega) (by omega) hsp.2.2.1 ⟨⟨by omega, by omega⟩, H _ (hF4.tr (FrTm.u _ _ (by decide))) ⟨?_, e10, e7⟩⟩
              show RK _ 2 ((prL bs s e 6 : Nat) : Int)
              unfold RK; simp
            · rw [if_pos (by omega)] at H
              apply vX11_token_162
              refine ⟨⟨by decide, by decide⟩, fun _ => ⟨fun _ => H _ ((hF3.tr (FrTm.u _ _ (by decide))).tr (FrTm.u _ _ (by decide))) ⟨?_, e10, e7⟩, fun z => absurd z (by decide)⟩⟩
              show RK _ 6 _
              unfold RK; simp
          · rw [k4]
            have ht := w_tab k (by omega)
            have hlen : wlN k = e - s := by
              unfold mtB at k3
              rw [Bool.and_eq_true, decide_eq_true_eq] at k3
              exact k3.1
            have hpr := (mt_iff (by omega) hes (by omega) hsp.2.2.1).mp k3
            rw [if_neg (by omega), hpr, w_dis (peN k) ht.2.2.2.2.2.2] at H
            refine ⟨⟨by omega, by omega⟩, fun _ => ⟨fun z => absurd z (by omega), fun _ => ?_⟩⟩
            apply vX11_token_162
            refine ⟨⟨by decide, by decide⟩, fun _ => ⟨fun _ => H _ ((hF3.tr (FrTm.u _ _ (by decide))).tr (FrTm.u _ _ (by decide))) ⟨?_, e10, e7⟩, fun z => absurd z (by decide)⟩⟩
            show RK _ 1 (k : Int)
            have hpe := w_pe k (by omega)
            unfold RK
            show (((0 ≤ ((peN k : Nat) : Int) ∧ ((peN k : Nat) : Int) ≤ 9) ∨ (17 ≤ ((peN k : Nat) : Int) ∧ ((peN k : Nat) : Int) ≤ 23)) ∧ _) ∨ _
            have := ht.2.2.2.2.2.2
            rcases hpe with z | z | z | z | z
            · refine Or.inl ⟨?_, rfl, ?_⟩
              · omega
              · show (k : Int) = ((peN k : Nat) : Int); omega
            · refine Or.inr (Or.inl ⟨?_, rfl, ?_⟩)
              · show ((peN k : Nat) : Int) = 10; omega
              · omega
            · refine Or.inr (Or.inr (Or.inl ⟨?_, rfl, ?_⟩))
              · show ((peN k : Nat) : Int) = 11; omega
              · omega
            · refine Or.inr (Or.inr (Or.inr (Or.inl ⟨?_, rfl, ?_⟩)))
              · show ((peN k : Nat) : Int) = 12; omega
              · omega
            · refine Or.inr (Or.inr (Or.inr (Or.inr (Or.inl ⟨?_, ?_, rfl, ?_⟩))))
              · show 13 ≤ ((peN k : Nat) : Int); omega
              · show ((peN k : Nat) : Int) ≤ 16; omega
              · show (k : Int) = ((peN k : Nat) : Int) - 3; omega
        intro j
        induction j with
        | zero =>
          intro q M3 hq hsq h3 hF3 e7 e10
          have hT3 := hT.fr hF3
          have eq1 : q = e := h3
          subst eq1
          apply vX11_token_90
          rw [e7]
          exact fun _ => c_isSmall hT3 (by omega) (fun d1 _ _ => absurd d1 (by omega)) (fun _ => ⟨⟨by decide, by decide⟩, fun _ => by rw [e7, e10]; exact fun _ _ => fin M3 hF3 e7 e10, fun z => absurd rfl z⟩)
        | succ j ih =>
          intro q M3 hq hsq h3 hF3 e7 e10
          have hT3 := hT.fr hF3
          simp only [spF] at h3
          apply vX11_token_90
          rw [e7]
          refine fun _ => c_isSmall hT3 (by omega) (fun d1 d2 d3 => ⟨⟨by decide, by decide⟩, fun z => absurd z (by decide), fun _ => ?_⟩) (fun d => ⟨⟨by decide, by decide⟩, fun _ => ?_, fun z => absurd rfl z⟩)
          · rw [if_pos ⟨d1, d2, d3⟩] at h3
            rw [e7]
            exact fun _ => ⟨⟨by omega, by omega⟩, ih (q + 1) _ (by omega) (by omega) h3 (hF3.tr (FrTm.u _ _ (by decide))) rfl e10⟩
          · rw [if_neg d] at h3
            subst h3
            rw [e7, e10]
            exact fun _ _ => fin M3 hF3 e7 e10
      exact loop (L - s) s M2 (by omega) (Nat.le_refl _) he hF2 h72 h102
    · rw [if_neg (by omega), if_neg (fun z => c1 ⟨by omega, z⟩)] at H
      rw [h72]
      refine fun _ => c_isDigit hT2 hs (fun d1 d2 d3 => ⟨⟨by decide, by decide⟩, fun z => absurd z (by decide), fun _ => ?_⟩) (fun d1 => ⟨⟨by decide, by decide⟩, fun _ => ?_, fun z => absurd rfl z⟩)
      · rw [if_pos ⟨d2, d3⟩] at H
        have hsp := spF_b (lo := 48) (hi := 57) (bs := bs) (L := L) (L - s) s (by omega)
        generalize he : spF 48 57 bs L (L - s) s = e at H hsp
        have hnb := nvC_b (bs := bs) (s := s) (m := e - s) (fun q a1 a2 => hsp.2.2.1 q a1 (by omega))
        have loop : ∀ (j q : Nat) (w : Int) (M3 : Mem), q + j = L → s ≤ q → spF 48 57 bs L j q = e → FrTm M M3 → M3 98 7 = (q : Int) → M3 98 10 = (s : Int) → M3 98 8 = 3 → M3 98 9 = w → (0 ≤ w ∧ w ≤ 999999 ∧ ((nvC bs s (q - s) = w ∧ w ≤ 99999) ∨ (99999 < nvC bs s (q - s) ∧ 99999 < w))) → KW E mX11_token (qV f) M3 213 [(0, pR 98)] [] := by
          have fin : ∀ (w : Int) (M3 : Mem), FrTm M M3 → M3 98 7 = (e : Int) → M3 98 10 = (s : Int) → M3 98 8 = 3 → M3 98 9 = w → (0 ≤ w ∧ w ≤ 999999 ∧ ((nvC bs s (e - s) = w ∧ w ≤ 99999) ∨ (99999 < nvC bs s (e - s) ∧ 99999 < w))) → f M3 := by
            intro w M3 hF3 e7 e10 e8 e9 hw
            refine H M3 hF3 ⟨?_, e10, e7⟩
            rw [e8, e9]
            unfold RK
            exact Or.inr (Or.inr (Or.inr (Or.inr (Or.inr (Or.inr (Or.inr (Or.inr (Or.inr (Or.inr (Or.inr (Or.inr (Or.inr (Or.inr (Or.inr (Or.inr (Or.inr (Or.inr (Or.inl ⟨rfl, rfl, hw⟩))))))))))))))))))
          intro j
          induction j with
          | zero =>
            intro q w M3 hq hsq h3 hF3 e7 e10 e8 e9 hw
            have hT3 := hT.fr hF3
            have eq1 : q = e := h3
            subst eq1
            apply vX11_token_213
            rw [e7]
            exact fun _ => c_isDigit hT3 (by omega) (fun g1 _ _ => absurd g1 (by omega)) (fun _ => ⟨⟨by decide, by decide⟩, fun _ => fin w M3 hF3 e7 e10 e8 e9 hw, fun z => absurd rfl z⟩)
          | succ j ih =>
            intro q w M3 hq hsq h3 hF3 e7 e10 e8 e9 hw
            have hT3 := hT.fr hF3
            simp only [spF] at h3
            apply vX11_token_213
            rw [e7]
            refine fun _ => c_isDigit hT3 (by omega) (fun g1 g2 g3 => ⟨⟨by decide, by decide⟩, fun z => absurd z (by decide), fun _ => ?_⟩) (fun g => ⟨⟨by decide, by decide⟩, fun _ => ?_, fun z => absurd rfl z⟩)
            · rw [if_pos ⟨g1, g2, g3⟩] at h3
              have hqe : q < e := by have := spF_b (lo := 48) (hi := 57) (bs := bs) (L := L) j (q + 1) (by omega); rw [h3] at this; omega
              have hn := hnb (q - s) (by omega)
              have es : nvC bs s (q + 1 - s) = min 1000000 (nvC bs s (q - s) * 10 + (bs q : Int) - 48) := by
                rw [show q + 1 - s = (q - s) + 1 by omega]
                show min 1000000 (nvC bs s (q - s) * 10 + (bs (s + (q - s)) : Int) - 48) = _
                rw [show s + (q - s) = q by omega]
              rw [e7, e9, Int.toNat_natCast, (hT3.2.2.1 q g1).1]
              refine fun _ => ⟨fun c5 => fun _ _ => ⟨⟨by omega, by omega⟩, fun _ => ⟨⟨by omega, by omega⟩, fun _ => ⟨⟨by omega, by omega⟩, ?_⟩⟩⟩, fun c5 => fun _ _ => ⟨⟨by omega, by omega⟩, ?_⟩⟩
              · exact ih (q + 1) (10 * w + (bs q : Int) - 48) _ (by omega) (by omega) h3 ((hF3.tr (FrTm.u _ _ (by decide))).tr (FrTm.u _ _ (by decide))) rfl e10 e8 rfl (by rw [es]; omega)
              · exact ih (q + 1) w _ (by omega) (by omega) h3 ((hF3.tr (FrTm.u _ _ (by decide))).tr (FrTm.u _ _ (by decide))) rfl e10 e8 rfl (by rw [es]; omega)
            · rw [if_neg g] at h3
              subst h3
              exact fin w M3 hF3 e7 e10 e8 e9 hw
        refine loop (L - s) s 0 _ (by omega) (Nat.le_refl _) he ((hF2.tr (FrTm.u _ _ (by decide))).tr (FrTm.u _ _ (by decide))) h72 h102 rfl rfl ?_
        rw [Nat.sub_self]
        exact ⟨by decide, by decide, Or.inl ⟨rfl, by decide⟩⟩
      · rw [if_neg (fun z => d1 ⟨by omega, z⟩)] at H
        exact c_signToken hT2 (by omega) h72 h102 (fun M' a1 a2 => H M' (hF2.tr a1) a2)
    · rw [if_pos (by omega)] at H
      rw [← hM2]
      refine H _ ((hF.tr (FrTm.u _ _ (by decide))).tr (FrTm.u _ _ (by decide))) ⟨?_, rfl, h7'⟩
      show RK _ 0 _
      unfold RK; simp
  have loop : ∀ (j q : Nat) (M1 : Mem), q + j = L → FrTm M M1 → M1 98 7 = (q : Int) → tok bs L p = tokA bs L (skF bs L j q) → KW E mX11_token (qV f) M1 0 [(0, pR 98)] [] := by
    intro j
    induction j with
    | zero =>
      intro q M1 hq hF h7' et
      apply vX11_token_0
      rw [h7', (hT.fr hF).1]
      exact fun _ _ => ⟨fun _ => mid M1 q hF (by omega) h7' et, fun z => absurd z (by omega)⟩
    | succ j ih =>
      intro q M1 hq hF h7' et
      have hT1 := hT.fr hF
      simp only [skF] at et
      have step : q < L ∧ (bs q = 32 ∨ bs q = 10) → iR ((q : Int) + 1) ∧ KW E mX11_token (qV f) (upM M1 98 7 ((q : Int) + 1)) 0 [(0, pR 98)] [] := by
        intro z
        rw [if_pos z] at et
        exact ⟨⟨by omega, by omega⟩, ih (q + 1) _ (by omega) (hF.tr (FrTm.u _ _ (by decide))) rfl et⟩
      apply vX11_token_0
      rw [h7', hT1.1, Int.toNat_natCast, (hT1.2.2.1 q (by omega)).1]
      refine fun _ _ => ⟨fun z => absurd z (by omega), fun _ _ => ⟨⟨by omega, by omega⟩, fun _ => ⟨fun c => fun _ => step ⟨by omega, Or.inr (by omega)⟩, fun c => fun _ => ⟨⟨by omega, by omega⟩, fun _ => ⟨fun c2 => ?_, fun c2 => fun _ => step ⟨by omega, Or.inl (by omega)⟩⟩⟩⟩⟩⟩
      rw [if_neg (fun z => by omega)] at et
      exact mid M1 q hF (by omega) h7' et
  exact vX11_token_in (loop (L - p) p M (by omega) (FrTm.rf M) h7 rfl)
end TOKM2
