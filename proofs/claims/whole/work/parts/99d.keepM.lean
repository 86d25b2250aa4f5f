/-! what was read is kept -/
def hOf (a : Nat) : Nat := if a = 102 then 2 else if a ≤ 106 then 8 else if a ≤ 108 then 16 else if a = 109 then 4 else if a ≤ 112 then 64 else if a ≤ 115 then 3 else 64
def CpR (hi : Nat) (M M' : Mem) : Prop := (∀ a, 102 ≤ a → a < hi → ∀ i, i < hOf a → M' a i = M a (hOf a + i)) ∧ ∀ a, ¬ (102 ≤ a ∧ a < hi) → M' a = M a
theorem CpR.next {hi : Nat} {M M1 M2 : Mem} (h : CpR hi M M1) (hh : 102 ≤ hi) (h1 : ∀ a, a ≠ hi → M2 a = M1 a) (h2 : ∀ i, i < hOf hi → M2 hi i = M1 hi (hOf hi + i)) : CpR (hi + 1) M M2 := by
  refine ⟨fun a a1 a2 i hi2 => ?_, fun a ha => ?_⟩
  · by_cases e : a = hi
    · subst e; rw [h2 i hi2, h.2 a (by omega)]
    · rw [h1 a e]; exact h.1 a a1 (by omega) i hi2
  · rw [h1 a (by omega)]; exact h.2 a (by omega)
section KEEPM
variable {E : Scr} {bs : BF} {L : Nat} {s : PSt}
theorem c_copies {f : Mem → Prop} {M : Mem} {aa nn h : Nat} (hT : T0[aa]? = some (20, nn)) (hnn : nn = 2 * h) (hh : h ≤ 64) (H : ∀ M', (∀ a, a ≠ aa → M' a = M a) → (∀ i, i < h → M' aa i = M aa (h + i)) → f M') : CV E mX11_copies [pR aa, pI (h : Int)] M f := by
  apply vX11_copies_0 _ hT
  have loop : ∀ (j i : Nat) (M1 : Mem), i + j = h → (∀ a, a ≠ aa → M1 a = M a) → (∀ q, q < i → M1 aa q = M aa (h + q)) → (∀ q, i ≤ q → M1 aa q = M aa q) → KW E mX11_copies (qV f) M1 2 [(0, pR aa), (1, pI (h : Int)), (2, pI (i : Int))] [] := by
    intro j
    induction j with
    | zero =>
      intro i M1 hij h1 h2 h3
      exact vX11_copies_2 _ _ hT ⟨⟨by omega, by omega⟩, ⟨by omega, by omega⟩, fun _ => H M1 h1 (fun q hq => h2 q (by omega)), fun z => absurd z (by omega)⟩
    | succ j ih =>
      intro i M1 hij h1 h2 h3
      refine vX11_copies_2 _ _ hT ⟨⟨by omega, by omega⟩, ⟨by omega, by omega⟩, fun z => absurd z (by omega), fun _ => ⟨⟨by omega, by omega⟩, fun _ => ⟨⟨by omega, by omega⟩, ?_⟩⟩⟩
      rw [Int.toNat_natCast, show ((h : Int) + (i : Int)).toNat = h + i by omega, show (i : Int) + 1 = ((i + 1 : Nat) : Int) by omega, h3 (h + i) (by omega)]
      refine ih (i + 1) _ (by omega) (fun a ha => by rw [upM_ne _ _ _ ha, h1 a ha]) (fun q hq => ?_) (fun q hq => ?_)
      · rw [upM_self]
        by_cases e : q = i
        · rw [e, va_up_self]
        · rw [va_up_neq _ _ e]; exact h2 q (by omega)
      · rw [upM_self, va_up_neq _ _ (by omega)]; exact h3 q (by omega)
  exact loop h 0 M (by omega) (fun _ _ => rfl) (fun q hq => absurd hq (Nat.not_lt_zero _)) (fun _ _ => rfl)
theorem c_copyS {f : Mem → Prop} {M0 M : Mem} {aa nn h : Nat} (hT : T0[aa]? = some (20, nn)) (hnn : nn = 2 * h) (hh : hOf aa = h) (h64 : h ≤ 64) (ha : 102 ≤ aa) (hC : CpR aa M0 M) (H : ∀ M', CpR (aa + 1) M0 M' → f M') : CV E mX11_copies [pR aa, pI (h : Int)] M f :=
  c_copies hT hnn h64 (fun M' a1 a2 => H M' (hC.next ha a1 (by rw [hh]; exact a2)))
/-- what is kept -/
def KpM (s : PSt) (M : Mem) : Prop := (M 98 12 = (sN s : Int) ∧ M 98 13 = ((sPu s).length : Int) ∧ M 98 14 = ((sOi s).length : Int) ∧ M 98 15 = (sC s : Int) ∧ M 98 32 = (sLk s : Int)) ∧ (M 102 0 = sRu s ∧ M 102 1 = sSe s) ∧ (∀ l, l < sN s → M 103 l = sM s l) ∧ (∀ l, l < sN s → M 104 l = ((bt (sU s) l : Nat) : Int)) ∧ (∀ l, l < sN s → if (sLn s).testBit l = true then M 105 l = (sRt s l : Int) ∧ sRt s l < 64 else M 105 l = -1) ∧ (∀ l, l < 8 → M 106 l = (sLt s l : Int)) ∧
  (∀ (i o : Nat) (m : Int), (sPu s)[i]? = some (o, m) → M 107 i = (o : Int) ∧ M 108 i = m) ∧ (∀ (i : Nat) (m : Int), (sOi s)[i]? = some m → M 109 i = m) ∧ (∀ e, e ∈ sLf s → ND (ndL (sRt s) (M 110) (M 111) (M 112)) e.2.2.2 [] e.2.1) ∧
  (∀ k, k < 3 → (sWf s k = [] ∧ M 113 k = 0) ∨ (sWf s k ≠ [] ∧ M 113 k = 1 ∧ M 114 k = (sWb s k : Int) ∧ M 115 k = ((sWb s k + (sWf s k).length : Nat) : Int) ∧ ND (ndW (M 116) (M 117) (M 118)) (sWb s k) [] (sWf s k)))
/-- all but what is kept stays -/
def FrKp (M M' : Mem) : Prop := (∀ a, a ≠ 98 → ¬ (102 ≤ a ∧ a ≤ 118) → M' a = M a) ∧ ∀ k, ¬ (12 ≤ k ∧ k ≤ 15) → k ≠ 32 → M' 98 k = M 98 k
theorem getlen {α : Type} {l : List α} {i : Nat} {a : α} (h : l[i]? = some a) : i < l.length := by
  rcases Nat.lt_or_ge i l.length with c | c
  · exact c
  · rw [List.getElem?_eq_none c] at h; exact absurd h (by simp)
theorem c_keep {f : Mem → Prop} {M : Mem} (hI : PI L s) (h : PMr bs L s M) (H : ∀ M', FrKp M M' → KpM s M' → CV E mX11_layMay [pR 98] M' (fun M13 => (CV E mX11_begin [pR 98] M13 (fun M15 => f M15)))) : CV E mX11_keepText [pR 98] M f := by
  obtain ⟨hTk, ⟨hn, hu⟩, ⟨hln, hlt, hlo, hll⟩, ⟨hpu, hoi⟩, hrs, ⟨hal, hal2, hal3⟩, h7, h8, h9, -⟩ := id hI
  obtain ⟨p1, p2, p3, p4, p5, p6, p7, p8, p9, p10, p11, p12⟩ := h
  apply vX11_keepText_0
  intro _ _ _ _ _
  generalize hM0 : upM (upM (upM (upM (upM M 98 12 (M 98 16)) 98 13 (M 98 17)) 98 14 (M 98 18)) 98 15 (M 98 45)) 98 32 (M 98 33) = M0
  have c0 : ∀ a, a ≠ 98 → M0 a = M a := fun a ha => by rw [← hM0, upM_ne _ _ _ ha, upM_ne _ _ _ ha, upM_ne _ _ _ ha, upM_ne _ _ _ ha, upM_ne _ _ _ ha]
  have q0 : ∀ k, ¬ (12 ≤ k ∧ k ≤ 15) → k ≠ 32 → M0 98 k = M 98 k := fun k k1 k2 => by rw [← hM0, upM_self, va_up_neq _ _ k2, upM_self, va_up_neq _ _ (by omega), upM_self, va_up_neq _ _ (by omega), upM_self, va_up_neq _ _ (by omega), upM_self, va_up_neq _ _ (by omega)]
  have z0 : M0 98 12 = M 98 16 ∧ M0 98 13 = M 98 17 ∧ M0 98 14 = M 98 18 ∧ M0 98 15 = M 98 45 ∧ M0 98 32 = M 98 33 := by rw [← hM0]; exact ⟨rfl, rfl, rfl, rfl, rfl⟩
  have hC0 : CpR 102 M0 M0 := ⟨fun a a1 a2 => absurd a2 (by omega), fun _ _ => rfl⟩
  refine c_copyS (h := 2) (nn := 4) rfl rfl rfl (by decide) (by decide) hC0 (fun M1 C1 => ?_)
  refine c_copyS (h := 8) (nn := 16) rfl rfl rfl (by decide) (by decide) C1 (fun M2 C2 => ?_)
  refine c_copyS (h := 8) (nn := 16) rfl rfl rfl (by decide) (by decide) C2 (fun M3 C3 => ?_)
  refine c_copyS (h := 8) (nn := 16) rfl rfl rfl (by decide) (by decide) C3 (fun M4 C4 => ?_)
  refine c_copyS (h := 8) (nn := 16) rfl rfl rfl (by decide) (by decide) C4 (fun M5 C5 => ?_)
  refine c_copyS (h := 16) (nn := 32) rfl rfl rfl (by decide) (by decide) C5 (fun M6 C6 => ?_)
  refine c_copyS (h := 16) (nn := 32) rfl rfl rfl (by decide) (by decide) C6 (fun M7 C7 => ?_)
  refine c_copyS (h := 4) (nn := 8) rfl rfl rfl (by decide) (by decide) C7 (fun M8 C8 => ?_)
  refine c_copyS (h := 64) (nn := 128) rfl rfl rfl (by decide) (by decide) C8 (fun M9 C9 => ?_)
  refine c_copyS (h := 64) (nn := 128) rfl rfl rfl (by decide) (by decide) C9 (fun M10 C10 => ?_)
  refine c_copyS (h := 64) (nn := 128) rfl rfl rfl (by decide) (by decide) C10 (fun M11 C11 => ?_)
  have h113 : ∀ k, k < 3 → zR (M0 113 (3 + k)) := by
    intro k hk
    rw [c0 113 (by decide)]
    rcases p10 k hk with ⟨-, z⟩ | ⟨-, z, -⟩
    · rw [z]; exact Or.inl rfl
    · rw [z]; exact Or.inr rfl
  have rest : ∀ M12, CpR 114 M0 M12 → CV E mX11_copies [pR 114, pI 3] M12 (fun M3 => (CV E mX11_copies [pR 115, pI 3] M3 (fun M5 => (CV E mX11_copies [pR 116, pI 64] M5 (fun M7 => (CV E mX11_copies [pR 117, pI 64] M7 (fun M9 => (CV E mX11_copies [pR 118, pI 64] M9 (fun M11 => (CV E mX11_layMay [pR 98] M11 (fun M13 => (CV E mX11_begin [pR 98] M13 (fun M15 => f M15))))))))))))) := by
    intro M12 C12
    refine c_copyS (h := 3) (nn := 6) rfl rfl rfl (by decide) (by decide) C12 (fun N1 D1 => ?_)
    refine c_copyS (h := 3) (nn := 6) rfl rfl rfl (by decide) (by decide) D1 (fun N2 D2 => ?_)
    refine c_copyS (h := 64) (nn := 128) rfl rfl rfl (by decide) (by decide) D2 (fun N3 D3 => ?_)
    refine c_copyS (h := 64) (nn := 128) rfl rfl rfl (by decide) (by decide) D3 (fun N4 D4 => ?_)
    refine c_copyS (h := 64) (nn := 128) rfl rfl rfl (by decide) (by decide) D4 (fun N5 D5 => ?_)
    have cp : ∀ a hh, hOf a = hh → 102 ≤ a → a < 119 → ∀ i, i < hh → N5 a i = M a (hh + i) := fun a hh e a1 a2 i hi => by
      rw [D5.1 a a1 a2 i (by omega), c0 a (by omega), e]
    have h98 : N5 98 = M0 98 := D5.2 98 (by decide)
    refine H N5 ⟨fun a a1 a2 => by rw [D5.2 a (by omega), c0 a a1], fun k k1 k2 => by rw [h98]; exact q0 k k1 k2⟩ ⟨?_, ?_, fun l hl => ?_, fun l hl => ?_, fun l hl => ?_, fun l hl => ?_, fun i o m hi => ?_, fun i m hi => ?_, fun e he => ?_, fun k hk => ?_⟩
    · rw [h98, z0.1, z0.2.1, z0.2.2.1, z0.2.2.2.1, z0.2.2.2.2]
      exact ⟨p3.1, p7.1, p8.1, p12.2.2, p12.1⟩
    · rw [cp 102 2 rfl (by decide) (by decide) 0 (by decide), cp 102 2 rfl (by decide) (by decide) 1 (by decide)]; exact ⟨p9.1, p9.2.1⟩
    · rw [cp 103 8 rfl (by decide) (by decide) l (by omega)]; exact p3.2.2.1 l hl
    · rw [cp 104 8 rfl (by decide) (by decide) l (by omega)]; exact p5 l hl
    · rw [cp 105 8 rfl (by decide) (by decide) l (by omega)]; exact p3.2.2.2 l hl
    · rw [cp 106 8 rfl (by decide) (by decide) l (by omega)]; exact p6 l hl
    · have := getlen hi
      rw [cp 107 16 rfl (by decide) (by decide) i (by omega), cp 108 16 rfl (by decide) (by decide) i (by omega)]; exact p7.2 i o m hi
    · have := getlen hi
      rw [cp 109 4 rfl (by decide) (by decide) i (by omega)]; exact p8.2 i m hi
    · obtain ⟨m1, m2, m3, m4, m5, m6⟩ := h7 e he
      refine ND_mon2 _ _ _ (fun q k' v G q1 q2 hm hnd => ?_) (p11 e he)
      unfold ndL at hnd ⊢
      rw [cp 110 64 rfl (by decide) (by decide) q (by omega), cp 111 64 rfl (by decide) (by decide) q (by omega), cp 112 64 rfl (by decide) (by decide) q (by omega)]
      exact hnd
    · rw [cp 113 3 rfl (by decide) (by decide) k (by omega), cp 114 3 rfl (by decide) (by decide) k (by omega), cp 115 3 rfl (by decide) (by decide) k (by omega)]
      rcases p10 k hk with z | ⟨z1, z2, z3, z4, z5⟩
      · exact Or.inl z
      · have hw9 := h9 k hk z1
        refine Or.inr ⟨z1, z2, z3, z4, ND_mon2 _ _ _ (fun q k' v G q1 q2 _ hnd => ?_) z5⟩
        unfold ndW at hnd ⊢
        rw [cp 116 64 rfl (by decide) (by decide) q (by omega), cp 117 64 rfl (by decide) (by decide) q (by omega), cp 118 64 rfl (by decide) (by decide) q (by omega)]
        exact hnd
  have loop : ∀ (j i : Nat) (N : Mem), i + j = 3 → (∀ a, a ≠ 113 → N a = M11 a) → (∀ q, q < i → N 113 q = M11 113 (3 + q)) → (∀ q, i ≤ q → N 113 q = M11 113 q) → KW E mX11_keepText (qV f) N 139 [(0, pR 98), (1, pI (i : Int))] [] := by
    intro j
    induction j with
    | zero =>
      intro i N hij a1 a2 a3
      exact vX11_keepText_139 _ ⟨⟨by omega, by omega⟩, fun _ => rest N (C11.next (by decide) a1 (fun q hq => a2 q (by have hq' : q < 3 := hq; omega))), fun z => absurd z (by omega)⟩
    | succ j ih =>
      intro i N hij a1 a2 a3
      have e3 : N 113 (3 + i) = M0 113 (3 + i) := by rw [a3 (3 + i) (by omega), C11.2 113 (by decide)]
      refine vX11_keepText_139 _ ⟨⟨by omega, by omega⟩, fun z => absurd z (by omega), fun _ => ?_⟩
      rw [Int.toNat_natCast, show ((3 : Int) + (i : Int)).toNat = 3 + i by omega, show (i : Int) + 1 = ((i + 1 : Nat) : Int) by omega]
      refine ⟨⟨by omega, by omega⟩, fun _ => ⟨⟨by omega, by omega⟩, by rw [e3]; exact h113 i (by omega), ih (i + 1) _ (by omega) (fun a ha => by rw [upM_ne _ _ _ ha, a1 a ha]) (fun q hq => ?_) (fun q hq => ?_)⟩⟩
      · rw [upM_self]
        by_cases e : q = i
        · rw [e, va_up_self, a3 (3 + i) (by omega)]
        · rw [va_up_neq _ _ e]; exact a2 q (by omega)
      · rw [upM_self, va_up_neq _ _ (by omega)]; exact a3 q (by omega)
  exact loop 3 0 M11 (by omega) (fun _ _ => rfl) (fun q hq => absurd hq (Nat.not_lt_zero _)) (fun _ _ => rfl)
end KEEPM
