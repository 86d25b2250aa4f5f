/-! a leaning in the reference -/
def FrHL (M M' : Mem) : Prop := FrH M M' ∧ M' 98 4 = M 98 4 ∧ M' 98 5 = M 98 5 ∧ M' 98 19 = M 98 19
theorem FrHL.rf (M : Mem) : FrHL M M := ⟨FrH.rf M, rfl, rfl, rfl⟩
theorem FrHL.tr {M M1 M2 : Mem} (h1 : FrHL M M1) (h2 : FrHL M1 M2) : FrHL M M2 := ⟨h1.1.tr h2.1, h2.2.1.trans h1.2.1, h2.2.2.1.trans h1.2.2.1, h2.2.2.2.trans h1.2.2.2⟩
theorem FrTm.toHL {M M' : Mem} (h : FrTm M M') : FrHL M M' := ⟨h.toH, h.2 4 (by decide), h.2 5 (by decide), h.2 19 (by decide)⟩
theorem FrHL.u98 {M : Mem} {k : Nat} (v : Int) (h : (7 ≤ k ∧ k ≤ 11) ∨ (42 ≤ k ∧ k ≤ 47)) : FrHL M (upM M 98 k v) := ⟨FrH.u98 v (by omega), by rw [upM_self, va_up_neq _ _ (by omega)], by rw [upM_self, va_up_neq _ _ (by omega)], by rw [upM_self, va_up_neq _ _ (by omega)]⟩
def RLn (root : Nat → Nat) (lo : Nat) (s : FS) (M : Mem) : Prop := TM (fT s) M ∧ WtM False (fP s) M ∧ M 98 44 = (fO s : Int) ∧ M 98 45 = (fC s : Int) ∧ M 98 33 = ((lo + (fU s).length : Nat) : Int) ∧ HdM (hst lo [] (fU s)) M ∧ ND (ndL root (upH M 110) (upH M 111) (upH M 112)) lo [] (fU s) ∧ LnM (fL s) M
theorem ndL_up {root : Nat → Nat} {kn pa ot : Nat → Int} {i q : Nat} {x y z k v : Int} {G : List Nat} (hq : q ≠ i) (h : ndL root kn pa ot q k v G) : ndL root (va_up kn i x) (va_up pa i y) (va_up ot i z) q k v G := by
  unfold ndL at h ⊢
  rw [va_up_neq _ _ hq, va_up_neq _ _ hq, va_up_neq _ _ hq]
  exact h
theorem wcd_rF {k : Int} (h : okPd False k) : -1 ≤ wcd False k ∧ wcd False k ≤ 16 ∧ (wcd False k = 2 ↔ False) := by
  rcases h with z | z | z | z | z
  · rw [z]; decide
  · rw [z]; decide
  · rw [z]; decide
  · rw [z]; decide
  · exact absurd z.1 id
section LEANM
variable {E : Scr} {bs : BF} {L : Nat}
theorem c_waitsBy {f : Int → Mem → Prop} {M : Mem} {k : Int} (h : okPd False k) (H : f (rk k) M) : CI E mX11_waitsBy [pI (wcd False k)] M f := by
  rcases h with z | z | z | z | z
  · subst z; rw [rk25] at H
    exact vX11_waitsBy_0 (-1) ⟨by decide, fun _ => ⟨by decide, fun _ => ⟨by decide, fun _ => H, fun q => absurd q (by decide)⟩, fun q => absurd q (by decide)⟩, fun q => absurd q (by decide)⟩
  · subst z; rw [rk12] at H
    exact vX11_waitsBy_0 16 ⟨by decide, fun q => absurd rfl q, fun _ => H⟩
  · subst z; rw [rk10] at H
    exact vX11_waitsBy_0 15 ⟨by decide, fun _ => ⟨by decide, fun _ => ⟨by decide, fun q => absurd rfl q, fun _ => H⟩, fun q => absurd q (by decide)⟩, fun q => absurd q (by decide)⟩
  · subst z; rw [rk11] at H
    exact vX11_waitsBy_0 14 ⟨by decide, fun _ => ⟨by decide, fun q => absurd rfl q, fun _ => H⟩, fun q => absurd q (by decide)⟩
  · exact absurd z.1 id
def FrBe (M M' : Mem) : Prop := FrHL M M' ∧ (∀ c, c ≠ 98 → ¬ (110 ≤ c ∧ c ≤ 112) → c ≠ 120 → M' c = M c) ∧ ∀ q, q ≠ 33 → q ≠ 42 → q ≠ 43 → M' 98 q = M 98 q
theorem FrBe.rf (M : Mem) : FrBe M M := ⟨FrHL.rf M, fun _ _ _ _ => rfl, fun _ _ _ _ => rfl⟩
theorem FrBe.tr {M M1 M2 : Mem} (h1 : FrBe M M1) (h2 : FrBe M1 M2) : FrBe M M2 := ⟨h1.1.tr h2.1, fun c c1 c2 c3 => (h2.2.1 c c1 c2 c3).trans (h1.2.1 c c1 c2 c3), fun q q1 q2 q3 => (h2.2.2 q q1 q2 q3).trans (h1.2.2 q q1 q2 q3)⟩
theorem c_bindsM {f : Mem → Prop} {r : Int} {lo : Nat} {root : Nat → Nat} (hr : 1 ≤ r ∧ r ≤ 6) : ∀ (pd : List Int) (u : KL) (M : Mem), (∀ k, k ∈ pd → okPd False k) → WtM False pd M → M 98 33 = ((lo + u.length : Nat) : Int) → HdM (hst lo [] u) M → ND (ndL root (upH M 110) (upH M 111) (upH M 112)) lo [] u → dpF 0 u = some (bnL pd + 1) → lo + u.length + npL pd ≤ 64 → pd.length ≤ 72 → u.length ≤ 64 → (∀ M', FrBe M M' → WtM False (stl r pd u).1 M' → M' 98 33 = ((lo + (stl r pd u).2.length : Nat) : Int) → HdM (hst lo [] (stl r pd u).2) M' → ND (ndL root (upH M' 110) (upH M' 111) (upH M' 112)) lo [] (stl r pd u).2 → f M') → KW E mX11_binds (qV f) M 0 [(0, pR 98), (1, pI r)] [] := by
  intro pd
  induction pd with
  | nil =>
    intro u M hok hW h33 hH hND hd hlen hl hul K
    apply vX11_binds_0
    rw [hW.1]
    exact fun _ => ⟨fun _ => K M (FrBe.rf M) hW h33 hH hND, fun z => absurd z (by decide)⟩
  | cons k pd ih =>
    intro u M hok hW h33 hH hND hd hlen hl hul K
    have hk := hok k (List.mem_cons_self ..)
    have htop : M 119 pd.length = wcd False k := by
      have h2 : SR (M 119) (wcd False k :: pd.map (wcd False)) := hW.2
      have := h2.top
      rw [List.length_map] at this
      exact this
    have hwr := wcd_rF hk
    have hrb := rk_b k
    have hl2 : pd.length + 1 ≤ 72 := by rw [List.length_cons] at hl; exact hl
    have e1 : M 98 42 = (pd.length : Int) + 1 := by rw [hW.1, List.length_cons]; omega
    have hHl := hst_len u lo 0 _ [] rfl hd
    simp only [stl] at K
    apply vX11_binds_0
    rw [e1, show ((pd.length : Int) + 1 - 1).toNat = pd.length by omega, htop]
    refine fun _ => ⟨fun z => absurd z (by omega), fun _ _ => ⟨⟨by omega, by omega⟩, fun _ => c_waitsBy hk ⟨⟨by omega, by omega⟩, ⟨by omega, by omega⟩, fun c => ?_, fun c => ?_⟩⟩⟩
    · rw [if_neg (by omega)] at K
      exact K M (FrBe.rf M) hW h33 hH hND
    · rw [if_pos c] at K
      have hk25 : k ≠ 25 := fun z => by rw [z, rk25] at c; omega
      have e3 : npL (k :: pd) = (if k = 25 then 0 else 1) + npL pd := rfl
      rw [if_neg hk25] at e3
      have e4 : bnL (k :: pd) = (if k = 25 ∨ k = 12 then 0 else 1) + bnL pd := rfl
      have hsd := sdN_pd hk hk25
      have hd2 := dpF_sn (k := k) (v := 0) u 0 _ hd
      rw [e1, show ((pd.length : Int) + 1 - 1).toNat = pd.length by omega, htop]
      refine fun _ => ⟨⟨by omega, by omega⟩, fun _ => ⟨⟨by omega, by omega⟩, fun _ => ?_⟩⟩
      generalize hM1 : upM M 98 42 ((pd.length : Int) + 1 - 1) = M1
      have hB1 : FrBe M M1 := by rw [← hM1]; exact ⟨FrHL.u98 _ (by omega), fun c2 c1 _ _ => upM_ne _ _ _ c1, fun q _ q2 _ => by rw [upM_self, va_up_neq _ _ q2]⟩
      have hW1 : WtM False pd M1 := by
        rw [← hM1]
        refine ⟨?_, ?_⟩
        · rw [upM_self, va_up_self]; omega
        · rw [upM_ne _ _ _ (by decide)]
          have h2 : SR (M 119) (wcd False k :: pd.map (wcd False)) := hW.2
          exact h2.pop
      have hH1 : HdM (hst lo [] u) M1 := by rw [← hM1]; exact hH
      have h331 : M1 98 33 = ((lo + u.length : Nat) : Int) := by rw [← hM1]; exact h33
      have hND1 : ND (ndL root (upH M1 110) (upH M1 111) (upH M1 112)) lo [] u := by rw [← hM1]; exact hND
      -- behind the growing
      have nxt : ∀ (M3 : Mem) (H : List Nat) (x a b : Int), FrBe M1 M3 → M3 98 42 = M1 98 42 → M3 119 = M1 119 → M3 98 33 = ((lo + u.length : Nat) : Int) → HdM H M3 → H.length < 96 → (hst lo [] u).drop (sdN k) = H → upH M3 110 = upH M1 110 → upH M3 111 = upH M1 111 → upH M3 112 = upH M1 112 → iR x → iR a → iR b → ndL root (va_up (upH M1 110) (lo + u.length) x) (va_up (upH M1 111) (lo + u.length) a) (va_up (upH M1 112) (lo + u.length) b) (lo + u.length) k 0 (hst lo [] u) → dpF 0 (u ++ [(k, 0)]) = some (bnL pd + 1) → CV E mX11_leans [pR 98, pI x, pI a, pI b] M3 (fun M19 => KW E mX11_binds (qV f) M19 0 [(0, pR 98), (1, pI r)] []) := by
        intro M3 H x a b q1 q2 q3 q4 q5 q6 q7 q8 q9 q10 q11 q12 q13 q14 q15
        refine c_leans q11 q12 q13 q4 (by omega) q5 q6 (fun M4 m1 m2 m3 m4 m5 m6 m7 m8 => ?_)
        have hB4 : FrBe M3 M4 := ⟨⟨m1, m3 4 (by decide) (by decide), m3 5 (by decide) (by decide), m3 19 (by decide) (by decide)⟩, m2, fun q a1 _ a3 => m3 q a1 a3⟩
        refine ih (u ++ [(k, 0)]) M4 (fun q hq => hok q (List.mem_cons_of_mem _ hq)) ?_ ?_ ?_ ?_ q15 ?_ (by omega) ?_ (fun M' a1 a2 a3 a4 a5 => K M' (((hB1.tr q1).tr hB4).tr a1) a2 a3 a4 a5)
        · refine ⟨?_, ?_⟩
          · rw [m3 42 (by decide) (by decide), q2]; exact hW1.1
          · rw [m2 119 (by decide) (by decide) (by decide), q3]; exact hW1.2
        · rw [m4, List.length_append]; rfl
        · rw [hst_sn, q7]; exact m5
        · rw [m6, m7, m8, q8, q9, q10]
          refine ND_sn u lo [] (ND_mono u lo [] (fun q k2 v2 G a1 a2 hq => ndL_up (by omega) hq) hND1) q14
        · rw [List.length_append]; show lo + (u.length + 1) + npL pd ≤ 64; omega
        · rw [List.length_append]; show u.length + 1 ≤ 64; omega
      have ul := hst_le u lo []
      simp only [List.length_nil, Nat.zero_add] at ul
      by_cases h12 : k = 12
      · rw [if_pos h12] at hsd
        have hw2 : wcd False k = 16 := by rw [h12]; decide
        rw [e4, if_pos (Or.inr h12)] at hd2 hHl
        rw [hsd, if_pos (by omega)] at hd2
        refine ⟨fun z => absurd hw2 z, fun _ => ?_⟩
        obtain ⟨a, G, hG⟩ : ∃ a G, hst lo [] u = a :: G := by
          cases hz : hst lo [] u with
          | nil => rw [hz] at hHl; exact absurd hHl (by show ¬ (0 = _); omega)
          | cons a G => exact ⟨a, G, rfl⟩
        have hab := hst_b u lo [] lo (Nat.le_refl _) (fun q hq => absurd hq (by simp)) a (by rw [hG]; exact List.mem_cons_self ..)
        rw [hG] at hH1
        rw [hG, List.length_cons] at ul
        refine vX11_binds_59 _ _ _ (c_dropHeld hH1 (by rw [List.length_cons]; omega) (fun M3 m1 m2 m3 m4 => ?_))
        rw [hw2]
        refine ⟨⟨by decide, by decide⟩, fun z => absurd rfl z, fun _ => ?_⟩
        refine nxt M3 G _ _ _ ⟨⟨m1, m3 4 (by decide), m3 5 (by decide), m3 19 (by decide)⟩, fun c2 c1 _ _ => m2 c2 c1, fun q _ _ q3 => m3 q q3⟩ (m3 42 (by decide)) (m2 119 (by decide)) (by rw [m3 33 (by decide)]; exact h331) m4 (by omega) (by rw [hG, hsd]; rfl) (by unfold upH; rw [m2 110 (by decide)]) (by unfold upH; rw [m2 111 (by decide)]) (by unfold upH; rw [m2 112 (by decide)]) ⟨by decide, by decide⟩ ⟨by omega, by omega⟩ ⟨by decide, by decide⟩ ?_ (by rw [hd2]; congr 1; omega)
        exact Or.inr (Or.inr (Or.inl ⟨h12, by rw [va_up_self], a, G, hG, by rw [va_up_self]⟩))
      · rw [if_neg h12] at hsd
        have hk1 : k = 11 ∧ wcd False k = 14 ∨ k = 10 ∧ wcd False k = 15 := by
          rcases hk with z | z | z | z | z
          · exact absurd z hk25
          · exact absurd z h12
          · exact Or.inr ⟨z, by rw [z]; decide⟩
          · exact Or.inl ⟨z, by rw [z]; decide⟩
          · exact absurd z.1 id
        have c13 : ¬ (k = 25 ∨ k = 12) := fun z => z.elim hk25 h12
        rw [e4, if_neg c13] at hd2 hHl
        rw [hsd, if_pos (by omega)] at hd2
        refine ⟨fun _ => ?_, fun z => by omega⟩
        obtain ⟨b, a, G, hG⟩ : ∃ b a G, hst lo [] u = b :: a :: G := by
          cases hz : hst lo [] u with
          | nil => rw [hz] at hHl; exact absurd hHl (by show ¬ (0 = _); omega)
          | cons b G1 =>
            cases hz2 : G1 with
            | nil => rw [hz, hz2] at hHl; exact absurd hHl (by show ¬ (0 + 1 = _); omega)
            | cons a G => exact ⟨b, a, G, rfl⟩
        have hab := hst_b u lo [] lo (Nat.le_refl _) (fun q hq => absurd hq (by simp))
        have hab1 := hab b (by rw [hG]; exact List.mem_cons_self ..)
        have hab2 := hab a (by rw [hG]; exact List.mem_cons_of_mem _ (List.mem_cons_self ..))
        rw [hG] at hH1
        rw [hG, List.length_cons, List.length_cons] at ul
        refine c_dropHeld hH1 (by rw [List.length_cons, List.length_cons]; omega) (fun M2 m1 m2 m3 m4 => vX11_binds_59 _ _ _ (c_dropHeld m4 (by rw [List.length_cons]; omega) (fun M3 p1 p2 p3 p4 => ?_)))
        have gg : ∀ x : Int, (k = 11 ∧ x = 5 ∨ k = 10 ∧ x = 6) → CV E mX11_leans [pR 98, pI x, pI (a : Int), pI (b : Int)] M3 (fun M19 => KW E mX11_binds (qV f) M19 0 [(0, pR 98), (1, pI r)] []) := by
          intro x hx
          refine nxt M3 G _ _ _ ⟨(show FrHL M1 M2 from ⟨m1, m3 4 (by decide), m3 5 (by decide), m3 19 (by decide)⟩).tr ⟨p1, p3 4 (by decide), p3 5 (by decide), p3 19 (by decide)⟩, fun c2 c1 _ _ => by rw [p2 c2 c1, m2 c2 c1], fun q _ _ q3 => by rw [p3 q q3, m3 q q3]⟩ (by rw [p3 42 (by decide), m3 42 (by decide)]) (by rw [p2 119 (by decide), m2 119 (by decide)]) (by rw [p3 33 (by decide), m3 33 (by decide)]; exact h331) p4 (by omega) (by rw [hG, hsd]; rfl) (by unfold upH; rw [p2 110 (by decide), m2 110 (by decide)]) (by unfold upH; rw [p2 111 (by decide), m2 111 (by decide)]) (by unfold upH; rw [p2 112 (by decide), m2 112 (by decide)]) ⟨by omega, by omega⟩ ⟨by omega, by omega⟩ ⟨by omega, by omega⟩ ?_ (by rw [hd2]; congr 1; omega)
          refine Or.inr (Or.inr (Or.inr ⟨?_, a, b, G, hG, by rw [va_up_self], by rw [va_up_self]⟩))
          rw [va_up_self]; exact hx
        exact ⟨⟨by omega, by omega⟩, fun _ => ⟨⟨by omega, by omega⟩, fun z => gg 6 (by omega), fun z => gg 5 (by omega)⟩, fun z => by omega⟩
end LEANM
