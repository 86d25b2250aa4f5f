/-! a law's formula in the reference -/
def FrHG (M M' : Mem) : Prop := FrH M M' ∧ M' 98 4 = M 98 4 ∧ M' 98 5 = M 98 5 ∧ M' 98 33 = M 98 33
theorem FrHG.rf (M : Mem) : FrHG M M := ⟨FrH.rf M, rfl, rfl, rfl⟩
theorem FrHG.tr {M M1 M2 : Mem} (h1 : FrHG M M1) (h2 : FrHG M1 M2) : FrHG M M2 := ⟨h1.1.tr h2.1, h2.2.1.trans h1.2.1, h2.2.2.1.trans h1.2.2.1, h2.2.2.2.trans h1.2.2.2⟩
theorem FrTm.toHG {M M' : Mem} (h : FrTm M M') : FrHG M M' := ⟨h.toH, h.2 4 (by decide), h.2 5 (by decide), h.2 33 (by decide)⟩
theorem FrHG.u98 {M : Mem} {k : Nat} (v : Int) (h : (7 ≤ k ∧ k ≤ 11) ∨ (42 ≤ k ∧ k ≤ 47)) : FrHG M (upM M 98 k v) := ⟨FrH.u98 v (by omega), by rw [upM_self, va_up_neq _ _ (by omega)], by rw [upM_self, va_up_neq _ _ (by omega)], by rw [upM_self, va_up_neq _ _ (by omega)]⟩
def RW (lo : Nat) (s : FS) (M : Mem) : Prop := TM (fT s) M ∧ WtM True (fP s) M ∧ M 98 44 = (fO s : Int) ∧ M 98 45 = (fC s : Int) ∧ M 98 19 = ((lo + (fU s).length : Nat) : Int) ∧ HdM (hst lo [] (fU s)) M ∧ ND (ndW (upH M 116) (upH M 117) (upH M 118)) lo [] (fU s) ∧ M 98 46 = bI (fW s) ∧ (fW s = true → M 98 47 = bI (decide (topR (fP s) ≤ 3)))
theorem ndW_up {kn pa ot : Nat → Int} {i q : Nat} {x y z k v : Int} {G : List Nat} (hq : q ≠ i) (h : ndW kn pa ot q k v G) : ndW (va_up kn i x) (va_up pa i y) (va_up ot i z) q k v G := by
  unfold ndW at h ⊢
  rw [va_up_neq _ _ hq, va_up_neq _ _ hq, va_up_neq _ _ hq]
  exact h
theorem cm_ok {k : Int} (h : okPd True k) (h25 : k ≠ 25) (h12 : k ≠ 12) : 3 ≤ cm k ∧ cm k ≤ 14 := by
  rcases h with z | z | z | z | z
  · exact absurd z h25
  · exact absurd z h12
  · rw [z]; decide
  · rw [z]; decide
  · have hk : k = 27 ∨ k = 28 ∨ k = 29 ∨ k = 30 ∨ k = 31 ∨ k = 32 ∨ k = 33 ∨ k = 34 ∨ k = 35 ∨ k = 36 := by omega
    rcases hk with q | q | q | q | q | q | q | q | q | q <;> (rw [q]; decide)
theorem wcd_r {k : Int} (h : okPd True k) : 0 ≤ wcd True k ∧ wcd True k ≤ 14 ∧ (wcd True k = 2 ↔ k = 12) := by
  unfold wcd
  rw [if_pos trivial]
  by_cases h25 : k = 25
  · rw [if_pos h25, h25]; decide
  · rw [if_neg h25]
    by_cases h12 : k = 12
    · rw [if_pos h12, h12]; decide
    · rw [if_neg h12]
      have := cm_ok h h25 h12
      omega
section FMLM2
variable {E : Scr} {bs : BF} {L : Nat}
theorem c_standing {f : Int → Mem → Prop} {M : Mem} {k : Int} (h : okPd True k) (H : f (rk k) M) : CI E mX11_standing [pI (wcd True k)] M f := by
  have go : ∀ x r : Int, wcd True k = x → rk k = r → ((iR x) ∧ ((x < 13 → (iR x) ∧ ((x < 11 → (iR x) ∧ ((x < 5 → (iR x) ∧ ((x ≠ 2 → (iR x) ∧ ((x ≠ 3 → (iR x) ∧ ((x ≠ 4 → f 0 M) ∧ (x = 4 → f 1 M))) ∧ (x = 3 → f 2 M))) ∧ (x = 2 → f 3 M))) ∧ (x ≥ 5 → f 4 M))) ∧ (x ≥ 11 → f 5 M))) ∧ (x ≥ 13 → f 6 M))) → CI E mX11_standing [pI (wcd True k)] M f := fun x r e1 _ h2 => by rw [e1]; exact vX11_standing_0 _ h2
  rcases h with z | z | z | z | z
  · subst z
    rw [rk25] at H
    refine go 0 0 (by decide) rk25 ⟨by decide, fun _ => ⟨by decide, fun _ => ⟨by decide, fun _ => ⟨by decide, fun _ => ⟨by decide, fun _ => ⟨by decide, fun _ => H, fun q => absurd q (by decide)⟩, fun q => absurd q (by decide)⟩, fun q => absurd q (by decide)⟩, fun q => absurd q (by decide)⟩, fun q => absurd q (by decide)⟩, fun q => absurd q (by decide)⟩
  · subst z
    rw [rk12] at H
    exact go 2 3 (by decide) rk12 ⟨by decide, fun _ => ⟨by decide, fun _ => ⟨by decide, fun _ => ⟨by decide, fun q => absurd rfl q, fun _ => H⟩, fun q => absurd q (by decide)⟩, fun q => absurd q (by decide)⟩, fun q => absurd q (by decide)⟩
  · subst z
    rw [rk10] at H
    exact go 4 1 (by decide) rk10 ⟨by decide, fun _ => ⟨by decide, fun _ => ⟨by decide, fun _ => ⟨by decide, fun _ => ⟨by decide, fun _ => ⟨by decide, fun q => absurd rfl q, fun _ => H⟩, fun q => absurd q (by decide)⟩, fun q => absurd q (by decide)⟩, fun q => absurd q (by decide)⟩, fun q => absurd q (by decide)⟩, fun q => absurd q (by decide)⟩
  · subst z
    rw [rk11] at H
    exact go 3 2 (by decide) rk11 ⟨by decide, fun _ => ⟨by decide, fun _ => ⟨by decide, fun _ => ⟨by decide, fun _ => ⟨by decide, fun q => absurd rfl q, fun _ => H⟩, fun q => absurd q (by decide)⟩, fun q => absurd q (by decide)⟩, fun q => absurd q (by decide)⟩, fun q => absurd q (by decide)⟩
  · have hk : k = 27 ∨ k = 28 ∨ k = 29 ∨ k = 34 ∨ k = 35 ∨ k = 36 ∨ k = 30 ∨ k = 31 ∨ k = 32 ∨ k = 33 := by omega
    have four : ∀ x : Int, 5 ≤ x → x < 11 → wcd True k = x → rk k = 4 → CI E mX11_standing [pI (wcd True k)] M f := by
      intro x a1 a2 e1 e2
      rw [e2] at H
      exact go x 4 e1 e2 ⟨⟨by omega, by omega⟩, fun _ => ⟨⟨by omega, by omega⟩, fun _ => ⟨⟨by omega, by omega⟩, fun q => absurd q (by omega), fun _ => H⟩, fun q => absurd q (by omega)⟩, fun q => absurd q (by omega)⟩
    have five : ∀ x : Int, 11 ≤ x → x < 13 → wcd True k = x → rk k = 5 → CI E mX11_standing [pI (wcd True k)] M f := by
      intro x a1 a2 e1 e2
      rw [e2] at H
      exact go x 5 e1 e2 ⟨⟨by omega, by omega⟩, fun _ => ⟨⟨by omega, by omega⟩, fun q => absurd q (by omega), fun _ => H⟩, fun q => absurd q (by omega)⟩
    have six : ∀ x : Int, 13 ≤ x → x < 100 → wcd True k = x → rk k = 6 → CI E mX11_standing [pI (wcd True k)] M f := by
      intro x a1 a2 e1 e2
      rw [e2] at H
      exact go x 6 e1 e2 ⟨⟨by omega, by omega⟩, fun q => absurd q (by omega), fun _ => H⟩
    rcases hk with q | q | q | q | q | q | q | q | q | q
    · exact four 5 (by decide) (by decide) (by rw [q]; decide) (by rw [q]; decide)
    · exact four 7 (by decide) (by decide) (by rw [q]; decide) (by rw [q]; decide)
    · exact four 10 (by decide) (by decide) (by rw [q]; decide) (by rw [q]; decide)
    · exact four 6 (by decide) (by decide) (by rw [q]; decide) (by rw [q]; decide)
    · exact four 8 (by decide) (by decide) (by rw [q]; decide) (by rw [q]; decide)
    · exact four 9 (by decide) (by decide) (by rw [q]; decide) (by rw [q]; decide)
    · exact five 11 (by decide) (by decide) (by rw [q]; decide) (by rw [q]; decide)
    · exact five 12 (by decide) (by decide) (by rw [q]; decide) (by rw [q]; decide)
    · exact six 13 (by decide) (by decide) (by rw [q]; decide) (by rw [q]; decide)
    · exact six 14 (by decide) (by decide) (by rw [q]; decide) (by rw [q]; decide)
/-- what the binding leaves -/
def FrBd (M M' : Mem) : Prop := FrHG M M' ∧ (∀ c, c ≠ 98 → ¬ (116 ≤ c ∧ c ≤ 118) → c ≠ 120 → M' c = M c) ∧ ∀ q, q ≠ 19 → q ≠ 42 → q ≠ 43 → M' 98 q = M 98 q
theorem FrBd.rf (M : Mem) : FrBd M M := ⟨FrHG.rf M, fun _ _ _ _ => rfl, fun _ _ _ _ => rfl⟩
theorem FrBd.tr {M M1 M2 : Mem} (h1 : FrBd M M1) (h2 : FrBd M1 M2) : FrBd M M2 := ⟨h1.1.tr h2.1, fun c c1 c2 c3 => (h2.2.1 c c1 c2 c3).trans (h1.2.1 c c1 c2 c3), fun q q1 q2 q3 => (h2.2.2 q q1 q2 q3).trans (h1.2.2 q q1 q2 q3)⟩
theorem c_bindM {f : Mem → Prop} {r : Int} {lo : Nat} (hr : 1 ≤ r ∧ r ≤ 6) : ∀ (pd : List Int) (u : KL) (M : Mem), (∀ k, k ∈ pd → okPd True k) → WtM True pd M → M 98 19 = ((lo + u.length : Nat) : Int) → HdM (hst lo [] u) M → ND (ndW (upH M 116) (upH M 117) (upH M 118)) lo [] u → dpF 0 u = some (bnL pd + 1) → lo + u.length + npL pd ≤ 64 → pd.length ≤ 72 → u.length ≤ 64 → (∀ M', FrBd M M' → WtM True (stl r pd u).1 M' → M' 98 19 = ((lo + (stl r pd u).2.length : Nat) : Int) → HdM (hst lo [] (stl r pd u).2) M' → ND (ndW (upH M' 116) (upH M' 117) (upH M' 118)) lo [] (stl r pd u).2 → f M') → KW E mX11_bind (qV f) M 0 [(0, pR 98), (1, pI r)] [] := by
  intro pd
  induction pd with
  | nil =>
    intro u M hok hW h19 hH hND hd hlen hl hul K
    apply vX11_bind_0
    rw [hW.1]
    exact fun _ => ⟨fun _ => K M (FrBd.rf M) hW h19 hH hND, fun z => absurd z (by decide)⟩
  | cons k pd ih =>
    intro u M hok hW h19 hH hND hd hlen hl hul K
    have hk := hok k (List.mem_cons_self ..)
    have htop : M 119 pd.length = wcd True k := by
      have h2 : SR (M 119) (wcd True k :: pd.map (wcd True)) := hW.2
      have := h2.top
      rw [List.length_map] at this
      exact this
    have hwr := wcd_r hk
    have hrb := rk_b k
    have hl2 : pd.length + 1 ≤ 72 := by rw [List.length_cons] at hl; exact hl
    have e1 : M 98 42 = (pd.length : Int) + 1 := by rw [hW.1, List.length_cons]; omega
    have hHl := hst_len u lo 0 _ [] rfl hd
    simp only [stl] at K
    apply vX11_bind_0
    rw [e1, show ((pd.length : Int) + 1 - 1).toNat = pd.length by omega, htop]
    refine fun _ => ⟨fun z => absurd z (by omega), fun _ _ => ⟨⟨by omega, by omega⟩, fun _ => c_standing hk ⟨⟨by omega, by omega⟩, ⟨by omega, by omega⟩, fun c => ?_, fun c => ?_⟩⟩⟩
    · rw [if_neg (by omega)] at K
      exact K M (FrBd.rf M) hW h19 hH hND
    · rw [if_pos c] at K
      have hk25 : k ≠ 25 := fun z => by rw [z, rk25] at c; omega
      have e3 : npL (k :: pd) = (if k = 25 then 0 else 1) + npL pd := rfl
      rw [if_neg hk25] at e3
      have e4 : bnL (k :: pd) = (if k = 25 ∨ k = 12 then 0 else 1) + bnL pd := rfl
      have hsd := sdN_pd hk hk25
      have hd2 := dpF_sn (k := k) (v := 0) u 0 _ hd
      rw [e1, show ((pd.length : Int) + 1 - 1).toNat = pd.length by omega, htop]
      refine fun _ => ⟨⟨by omega, by omega⟩, fun _ => ⟨⟨by omega, by omega⟩, fun _ => ?_⟩⟩
      generalize hM1 : upM M 98 42 ((pd.length : Int) + 1 - 1) = M1
      have hB1 : FrBd M M1 := by rw [← hM1]; exact ⟨FrHG.u98 _ (by omega), fun c2 c1 _ _ => upM_ne _ _ _ c1, fun q _ q2 _ => by rw [upM_self, va_up_neq _ _ q2]⟩
      have hW1 : WtM True pd M1 := by
        rw [← hM1]
        refine ⟨?_, ?_⟩
        · rw [upM_self, va_up_self]; omega
        · rw [upM_ne _ _ _ (by decide)]
          have h2 : SR (M 119) (wcd True k :: pd.map (wcd True)) := hW.2
          exact h2.pop
      have hH1 : HdM (hst lo [] u) M1 := by rw [← hM1]; exact hH
      have h191 : M1 98 19 = ((lo + u.length : Nat) : Int) := by rw [← hM1]; exact h19
      have hND1 : ND (ndW (upH M1 116) (upH M1 117) (upH M1 118)) lo [] u := by rw [← hM1]; exact hND
      -- behind the growing
      have nxt : ∀ (M3 : Mem) (H : List Nat) (x a b : Int), FrBd M1 M3 → M3 98 42 = M1 98 42 → M3 119 = M1 119 → M3 98 19 = ((lo + u.length : Nat) : Int) → HdM H M3 → H.length < 96 → (hst lo [] u).drop (sdN k) = H → upH M3 116 = upH M1 116 → upH M3 117 = upH M1 117 → upH M3 118 = upH M1 118 → iR x → iR a → iR b → ndW (va_up (upH M1 116) (lo + u.length) x) (va_up (upH M1 117) (lo + u.length) a) (va_up (upH M1 118) (lo + u.length) b) (lo + u.length) k 0 (hst lo [] u) → dpF 0 (u ++ [(k, 0)]) = some (bnL pd + 1) → CV E mX11_grown [pR 98, pI x, pI a, pI b] M3 (fun M19 => KW E mX11_bind (qV f) M19 0 [(0, pR 98), (1, pI r)] []) := by
        intro M3 H x a b q1 q2 q3 q4 q5 q6 q7 q8 q9 q10 q11 q12 q13 q14 q15
        refine c_grown q11 q12 q13 q4 (by omega) q5 q6 (fun M4 m1 m2 m3 m4 m5 m6 m7 m8 => ?_)
        have hB4 : FrBd M3 M4 := ⟨⟨m1, m3 4 (by decide) (by decide), m3 5 (by decide) (by decide), m3 33 (by decide) (by decide)⟩, m2, fun q a1 _ a3 => m3 q a1 a3⟩
        refine ih (u ++ [(k, 0)]) M4 (fun q hq => hok q (List.mem_cons_of_mem _ hq)) ?_ ?_ ?_ ?_ q15 ?_ (by omega) ?_ (fun M' a1 a2 a3 a4 a5 => K M' (((hB1.tr q1).tr hB4).tr a1) a2 a3 a4 a5)
        · refine ⟨?_, ?_⟩
          · rw [m3 42 (by decide) (by decide), q2]; exact hW1.1
          · rw [m2 119 (by decide) (by decide) (by decide), q3]; exact hW1.2
        · rw [m4, List.length_append]; rfl
        · rw [hst_sn, q7]; exact m5
        · rw [m6, m7, m8, q8, q9, q10]
          refine ND_sn u lo [] (ND_mono u lo [] (fun q k2 v2 G a1 a2 hq => ndW_up (by omega) hq) hND1) q14
        · rw [List.length_append]; show lo + (u.length + 1) + npL pd ≤ 64; omega
        · rw [List.length_append]; show u.length + 1 ≤ 64; omega
      by_cases h12 : k = 12
      · -- not
        rw [if_pos h12] at hsd
        have hw2 : wcd True k = 2 := hwr.2.2.mpr h12
        rw [e4, if_pos (Or.inr h12)] at hd2 hHl
        rw [hsd, if_pos (by omega)] at hd2
        refine ⟨fun z => absurd hw2 z, fun _ => ?_⟩
        obtain ⟨a, G, hG⟩ : ∃ a G, hst lo [] u = a :: G := by
          cases hz : hst lo [] u with
          | nil => rw [hz] at hHl; exact absurd hHl (by show ¬ (0 = _); omega)
          | cons a G => exact ⟨a, G, rfl⟩
        have hab := hst_b u lo [] lo (Nat.le_refl _) (fun q hq => absurd hq (by simp)) a (by rw [hG]; exact List.mem_cons_self ..)
        rw [hG] at hH1
        have hlG : G.length + 1 = 0 + bnL pd + 1 := by rw [hG, List.length_cons] at hHl; exact hHl
        have hu64 : G.length ≤ 64 := by
          have := hst_len u lo 0 _ [] rfl hd
          have hul2 : (hst lo [] u).length ≤ u.length := by
            have aux : ∀ (P : KL) (i : Nat) (H : List Nat), (hst i H P).length ≤ H.length + P.length := by
              intro P
              induction P with
              | nil => intro i H; exact Nat.le_refl _
              | cons e P ih => intro i H; have := ih (i + 1) (i :: H.drop (sdN e.1)); simp only [hst]; rw [List.length_cons, List.length_drop] at this; rw [List.length_cons]; omega
            have := aux u lo []
            simpa using this
          rw [hG, List.length_cons] at hul2; omega
        refine c_dropHeld hH1 (by rw [List.length_cons]; omega) (fun M3 m1 m2 m3 m4 => ?_)
        refine nxt M3 G _ _ _ ⟨⟨m1, m3 4 (by decide), m3 5 (by decide), m3 33 (by decide)⟩, fun c2 c1 _ _ => m2 c2 c1, fun q _ _ q3 => m3 q q3⟩ (m3 42 (by decide)) (m2 119 (by decide)) (by rw [m3 19 (by decide)]; exact h191) m4 (by omega) (by rw [hG, hsd]; rfl) (by unfold upH; rw [m2 116 (by decide)]) (by unfold upH; rw [m2 117 (by decide)]) (by unfold upH; rw [m2 118 (by decide)]) ⟨by omega, by omega⟩ ⟨by omega, by omega⟩ ⟨by decide, by decide⟩ ?_ (by rw [hd2]; congr 1; omega)
        refine Or.inr (Or.inr (Or.inl ⟨h12, ?_, a, G, hG, ?_⟩))
        · rw [va_up_self, hw2]
        · rw [va_up_self]
      · rw [if_neg h12] at hsd
        have hw2 : wcd True k ≠ 2 := fun z => h12 (hwr.2.2.mp z)
        have hwc : wcd True k = cm k := by unfold wcd; rw [if_pos trivial, if_neg hk25, if_neg h12]
        have c13 : ¬ (k = 25 ∨ k = 12) := fun z => z.elim hk25 h12
        rw [e4, if_neg c13] at hd2 hHl
        rw [hsd, if_pos (by omega)] at hd2
        refine ⟨fun _ => ?_, fun z => absurd z hw2⟩
        obtain ⟨b, a, G, hG⟩ : ∃ b a G, hst lo [] u = b :: a :: G := by
          cases hz : hst lo [] u with
          | nil => rw [hz] at hHl; exact absurd hHl (by show ¬ (0 = _); omega)
          | cons b G1 =>
            cases hz2 : G1 with
            | nil => rw [hz, hz2] at hHl; exact absurd hHl (by show ¬ (0 + 1 = _); omega)
            | cons a G => exact ⟨b, a, G, rfl⟩
        have hab := hst_b u lo [] lo (Nat.le_refl _) (fun q hq => absurd hq (by simp))
        have hab1 := hab b (by rw [hG]; exact List.mem_cons_self ..)
        have hab2 := hab a (by rw [hG]; exact List.mem_cons_of_mem _ (List.mem_cons_self ..))
        have hul2 : (hst lo [] u).length ≤ u.length := by
          have aux : ∀ (P : KL) (i : Nat) (H : List Nat), (hst i H P).length ≤ H.length + P.length := by
            intro P
            induction P with
            | nil => intro i H; exact Nat.le_refl _
            | cons e P ih => intro i H; have := ih (i + 1) (i :: H.drop (sdN e.1)); simp only [hst]; rw [List.length_cons, List.length_drop] at this; rw [List.length_cons]; omega
          have := aux u lo []
          simpa using this
        rw [hG] at hH1
        rw [hG, List.length_cons, List.length_cons] at hul2
        refine c_dropHeld hH1 (by rw [List.length_cons, List.length_cons]; omega) (fun M2 m1 m2 m3 m4 => c_dropHeld m4 (by rw [List.length_cons]; omega) (fun M3 p1 p2 p3 p4 => ?_))
        refine nxt M3 G _ _ _ ⟨(show FrHG M1 M2 from ⟨m1, m3 4 (by decide), m3 5 (by decide), m3 33 (by decide)⟩).tr ⟨p1, p3 4 (by decide), p3 5 (by decide), p3 33 (by decide)⟩, fun c2 c1 _ _ => by rw [p2 c2 c1, m2 c2 c1], fun q _ _ q3 => by rw [p3 q q3, m3 q q3]⟩ (by rw [p3 42 (by decide), m3 42 (by decide)]) (by rw [p2 119 (by decide), m2 119 (by decide)]) (by rw [p3 19 (by decide), m3 19 (by decide)]; exact h191) p4 (by omega) (by rw [hG, hsd]; rfl) (by unfold upH; rw [p2 116 (by decide), m2 116 (by decide)]) (by unfold upH; rw [p2 117 (by decide), m2 117 (by decide)]) (by unfold upH; rw [p2 118 (by decide), m2 118 (by decide)]) ⟨by omega, by omega⟩ ⟨by omega, by omega⟩ ⟨by omega, by omega⟩ ?_ (by rw [hd2]; congr 1; omega)
        refine Or.inr (Or.inr (Or.inr ⟨h12, by have := okPd_rk hk hk25; omega, ?_, a, b, G, hG, ?_, ?_⟩))
        · rw [va_up_self, hwc]
        · rw [va_up_self]
        · rw [va_up_self]
end FMLM2
