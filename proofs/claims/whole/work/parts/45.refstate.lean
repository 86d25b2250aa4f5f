/-! the reference: put, take, remember, laid for a try -/
def uM (aa i : Nat) (e : UE) (M : Mem) : Prop := M aa i = (e.1 : Int) ∧ M aa (i + 1) = (e.2.1 : Int) ∧ M aa (i + 2) = e.2.2.1 ∧ ∀ l, l < 8 → M aa (i + 3 + l) = e.2.2.2 l
theorem uM.congr {aa i : Nat} {e : UE} {M M' : Mem} (h : uM aa i e M) (hc : ∀ k, i ≤ k → k < i + 11 → M' aa k = M aa k) : uM aa i e M' := by
  obtain ⟨h1, h2, h3, h4⟩ := h
  exact ⟨by rw [hc _ (by omega) (by omega)]; exact h1, by rw [hc _ (by omega) (by omega)]; exact h2, by rw [hc _ (by omega) (by omega)]; exact h3, fun l hl => by rw [hc _ (by omega) (by omega)]; exact h4 l hl⟩
section REFSTATE
variable {E : Scr} {n : Nat}
theorem c_putM {f : Mem → Prop} {M : Mem} {aa nn i : Nat} {d : DS} (ha : aa = 142 ∧ nn = 220 ∨ aa = 143 ∧ nn = 11) (hi : i + 11 ≤ nn) (hv : vM 0 d M) (H : ∀ M', (∀ a, a ≠ aa → M' a = M a) → (∀ k, k < i ∨ i + 11 ≤ k → M' aa k = M aa k) → uM aa i (dUe d) M' → f M') : CV E mX11_put [pR 98, pR aa, pI (i : Int)] M f := by
  have hT : T0[aa]? = some (20, nn) := by rcases ha with ⟨e1, e2⟩ | ⟨e1, e2⟩ <;> subst e1 <;> subst e2 <;> rfl
  obtain ⟨v1, v2, v3, v4, v5, v6, v7⟩ := hv
  have loop : ∀ (j l : Nat) (M1 : Mem), l + j = 8 → (∀ a, a ≠ aa → M1 a = M a) → (∀ k, k < i ∨ i + 11 ≤ k → M1 aa k = M aa k) → M1 aa i = (dRo d : Int) → M1 aa (i + 1) = (dSe d : Int) → M1 aa (i + 2) = dEf d → (∀ q, q < l → M1 aa (i + 3 + q) = dWo d q) → KW E mX11_put (qV f) M1 33 [(0, pR 98), (1, pR aa), (2, pI (i : Int)), (3, pI (l : Int))] [] := by
    intro j
    induction j with
    | zero =>
      intro l M1 hl e1 e2 e3 e4 e5 e6
      exact vX11_put_33 _ _ hT ⟨⟨by omega, by omega⟩, fun _ => H M1 e1 e2 ⟨e3, e4, e5, fun q hq => e6 q (by omega)⟩, fun z => absurd z (by omega)⟩
    | succ j ih =>
      intro l M1 hl e1 e2 e3 e4 e5 e6
      refine vX11_put_33 _ _ hT ⟨⟨by omega, by omega⟩, fun z => absurd z (by omega), fun _ => ⟨⟨by omega, by omega⟩, fun _ => ⟨⟨by omega, by omega⟩, ?_⟩⟩⟩
      rw [show ((i : Int) + 3 + (l : Int)).toNat = i + 3 + l by omega, Int.toNat_natCast, e1 130 (by omega), show M 130 l = dWo d l by have := v7 l (by omega); rwa [show 8 * 0 + l = l by omega] at this]
      have e : ∀ k v, k ≠ i + 3 + l → (upM M1 aa (i + 3 + l) v) aa k = M1 aa k := fun k v hk => by rw [upM_self, va_up_neq _ _ hk]
      refine ih (l + 1) _ (by omega) (fun a a1 => by rw [upM_ne _ _ _ a1]; exact e1 a a1) (fun k hk => by rw [e k _ (by omega)]; exact e2 k hk) (by rw [e _ _ (by omega)]; exact e3) (by rw [e _ _ (by omega)]; exact e4) (by rw [e _ _ (by omega)]; exact e5) (fun q hq => ?_)
      by_cases hql : q = l
      · subst hql; rw [upM_self, va_up_self]
      · rw [e _ _ (by omega)]; exact e6 q (by omega)
  apply vX11_put_0 _ hT
  have ne : ∀ (M0 : Mem) (k : Nat) (v : Int) (c : Nat), 125 ≤ c → c ≤ 130 → upM M0 aa k v c = M0 c := fun M0 k v c h1 h2 => upM_ne _ _ _ (by omega)
  rw [ne _ _ _ 126 (by omega) (by omega), ne _ _ _ 127 (by omega) (by omega), ne _ _ _ 127 (by omega) (by omega), v2, v3, v4, Int.toNat_natCast, show ((i : Int) + 1).toNat = i + 1 by omega, show ((i : Int) + 2).toNat = i + 2 by omega]
  refine fun _ => ⟨⟨by omega, by omega⟩, fun _ => ⟨⟨by omega, by omega⟩, fun _ => ⟨⟨by omega, by omega⟩, ?_⟩⟩⟩
  refine loop 8 0 _ (by omega) ?_ ?_ ?_ ?_ ?_ ?_
  · intro a a1
    rw [upM_ne _ _ _ a1, upM_ne _ _ _ a1, upM_ne _ _ _ a1]
  · intro k hk
    rw [upM_self, va_up_neq _ _ (by omega), upM_self, va_up_neq _ _ (by omega), upM_self, va_up_neq _ _ (by omega)]
  · rw [upM_self, va_up_neq _ _ (by omega), upM_self, va_up_neq _ _ (by omega), upM_self, va_up_self]
  · rw [upM_self, va_up_neq _ _ (by omega), upM_self, va_up_self]
  · rw [upM_self, va_up_self]
  · intro q hq; omega
theorem c_takeM {f : Mem → Prop} {M : Mem} {aa nn i : Nat} {d : DS} {e : UE} (ha : aa = 142 ∧ nn = 220 ∨ aa = 143 ∧ nn = 11) (hi : i + 11 ≤ nn) (hv : vM 0 d M) (hu : uM aa i e M) (H : ∀ M', (∀ a, ¬ (125 ≤ a ∧ a ≤ 127) → a ≠ 130 → M' a = M a) → vM 0 (ueD d e) M' → f M') : CV E mX11_take [pR 98, pR aa, pI (i : Int)] M f := by
  have hT : T0[aa]? = some (20, nn) := by rcases ha with ⟨e1, e2⟩ | ⟨e1, e2⟩ <;> subst e1 <;> subst e2 <;> rfl
  obtain ⟨v1, v2, v3, v4, v5, v6, v7⟩ := hv
  obtain ⟨u1, u2, u3, u4⟩ := hu
  have loop : ∀ (j l : Nat) (M1 : Mem), l + j = 8 → (∀ a, ¬ (125 ≤ a ∧ a ≤ 127) → a ≠ 130 → M1 a = M a) → M1 125 0 = (e.1 : Int) → M1 126 0 = (e.2.1 : Int) → M1 127 0 = e.2.2.1 → (∀ q, q < l → M1 130 q = e.2.2.2 q) → KW E mX11_take (qV f) M1 33 [(0, pR 98), (1, pR aa), (2, pI (i : Int)), (3, pI (l : Int))] [] := by
    intro j
    induction j with
    | zero =>
      intro l M1 hl e1 e3 e4 e5 e6
      refine vX11_take_33 _ _ hT ⟨⟨by omega, by omega⟩, fun _ => H M1 e1 ⟨?_, e3, e4, e5, ?_, ?_, fun q hq => ?_⟩, fun z => absurd z (by omega)⟩
      · rw [e1 129 (by omega) (by omega)]; exact v1
      · rw [e1 128 (by omega) (by omega)]; exact v5
      · rw [e1 98 (by omega) (by omega)]; exact v6
      · rw [show 8 * 0 + q = q by omega]; exact e6 q (by omega)
    | succ j ih =>
      intro l M1 hl e1 e3 e4 e5 e6
      refine vX11_take_33 _ _ hT ⟨⟨by omega, by omega⟩, fun z => absurd z (by omega), fun _ => ⟨⟨by omega, by omega⟩, fun _ => ⟨⟨by omega, by omega⟩, ?_⟩⟩⟩
      rw [show ((i : Int) + 3 + (l : Int)).toNat = i + 3 + l by omega, Int.toNat_natCast, e1 aa (by omega) (by omega), u4 l (by omega)]
      refine ih (l + 1) _ (by omega) (fun a a1 a2 => by rw [upM_ne _ _ _ a2]; exact e1 a a1 a2) e3 e4 e5 (fun q hq => ?_)
      by_cases hql : q = l
      · subst hql; rw [upM_self, va_up_self]
      · rw [upM_self, va_up_neq _ _ hql]; exact e6 q (by omega)
  apply vX11_take_0 _ hT
  have ne : ∀ (M0 : Mem) (c k : Nat) (v : Int), 125 ≤ c → c ≤ 130 → upM M0 c k v aa = M0 aa := fun M0 c k v h1 h2 => upM_ne _ _ _ (by omega)
  simp only [ne _ 125 _ _ (by omega) (by omega), ne _ 126 _ _ (by omega) (by omega)]
  rw [Int.toNat_natCast, show ((i : Int) + 1).toNat = i + 1 by omega, show ((i : Int) + 2).toNat = i + 2 by omega, u1, u2, u3]
  refine ⟨⟨by omega, by omega⟩, fun _ => ⟨⟨by omega, by omega⟩, fun _ => ⟨⟨by omega, by omega⟩, fun _ => ?_⟩⟩⟩
  refine loop 8 0 _ (by omega) ?_ rfl rfl rfl (fun q hq => by omega)
  intro a a1 a2
  rw [upM_ne _ _ _ (by omega), upM_ne _ _ _ (by omega), upM_ne _ _ _ (by omega)]
def UM (u : US) (M : Mem) : Prop := u.1 ≤ 20 ∧ M 98 80 = (u.1 : Int) ∧ ∀ i, i < u.1 → uM 142 (11 * i) (u.2 i) M
theorem c_rememberM {f : Mem → Prop} {M : Mem} {d : DS} {u : US} (hv : vM 0 d M) (hu : UM u M) (H : ∀ M', (∀ a, a ≠ 98 → a ≠ 142 → M' a = M a) → (∀ k, k ≠ 80 → M' 98 k = M 98 k) → UM (remU u (dUe d)) M' → f M') : CV E mX11_remember [pR 98] M f := by
  obtain ⟨h1, h2, h3⟩ := hu
  have shift : ∀ (j x : Nat) (M1 : Mem), x + j = 209 → u.1 = 20 → (∀ a, a ≠ 142 → M1 a = M a) → (∀ k, k < x → M1 142 k = M 142 (k + 11)) → (∀ k, x ≤ k → M1 142 k = M 142 k) → KW E mX11_remember (qV f) M1 11 [(0, pR 98), (1, pI (x : Int))] [] := by
    intro j
    induction j with
    | zero =>
      intro x M1 hx h20 e1 e2 e3
      apply vX11_remember_11
      rw [e1 98 (by decide), h2, h20]
      refine ⟨⟨by omega, by omega⟩, fun _ _ => ⟨⟨by omega, by omega⟩, fun _ => ?_⟩, fun z => absurd z (by omega)⟩
      rw [show (11 : Int) * (((20 : Nat) : Int) - 1) = ((209 : Nat) : Int) by omega]
      have hv' : vM 0 d (upM M1 98 80 (((20 : Nat) : Int) - 1)) := by
        obtain ⟨v1, v2, v3, v4, v5, v6, v7⟩ := hv
        have q : ∀ c, c ≠ 98 → c ≠ 142 → upM M1 98 80 (((20 : Nat) : Int) - 1) c = M c := fun c c1 c2 => by rw [upM_ne _ _ _ c1]; exact e1 c c2
        exact ⟨by rw [q 129 (by decide) (by decide)]; exact v1, by rw [q 125 (by decide) (by decide)]; exact v2, by rw [q 126 (by decide) (by decide)]; exact v3, by rw [q 127 (by decide) (by decide)]; exact v4, by rw [q 128 (by decide) (by decide)]; exact v5, by rw [upM_self, va_up_neq _ _ (by decide), e1 98 (by decide)]; exact v6, by rw [q 130 (by decide) (by decide)]; exact v7⟩
      refine c_putM (nn := 220) (Or.inl ⟨rfl, rfl⟩) (by omega) hv' ?_
      intro M2 b1 b2 b3
      have e98 : M2 98 80 = 19 := by rw [b1 98 (by decide), upM_self, va_up_self]; rfl
      rw [e98]
      refine fun _ => ⟨⟨by omega, by omega⟩, H _ ?_ ?_ ?_⟩
      · intro a a1 a2
        rw [upM_ne _ _ _ a1, b1 a a2, upM_ne _ _ _ a1, e1 a a2]
      · intro k hk
        rw [upM_self, va_up_neq _ _ hk, b1 98 (by decide), upM_self, va_up_neq _ _ hk, e1 98 (by decide)]
      · unfold remU
        rw [if_pos h20]
        refine ⟨by show 20 ≤ 20; omega, by rw [upM_self, va_up_self]; rfl, fun i hi => ?_⟩
        have hi' : i < 20 := hi
        show uM 142 (11 * i) (if i = 19 then dUe d else u.2 (i + 1)) _
        by_cases hi19 : i = 19
        · rw [if_pos hi19, hi19]
          exact b3.congr (fun k _ _ => by rw [upM_ne _ _ _ (by decide)])
        · rw [if_neg hi19]
          obtain ⟨g1, g2, g3, g4⟩ := h3 (i + 1) (by omega)
          have q : ∀ k, k < 209 → (upM M2 98 80 (19 + 1)) 142 k = M 142 (k + 11) := fun k hk => by
            rw [upM_ne _ _ _ (by decide), b2 k (by omega), upM_ne _ _ _ (by decide)]; exact e2 k (by omega)
          refine ⟨by rw [q _ (by omega), show 11 * i + 11 = 11 * (i + 1) by omega]; exact g1, by rw [q _ (by omega), show 11 * i + 1 + 11 = 11 * (i + 1) + 1 by omega]; exact g2, by rw [q _ (by omega), show 11 * i + 2 + 11 = 11 * (i + 1) + 2 by omega]; exact g3, fun l hl => by rw [q _ (by omega), show 11 * i + 3 + l + 11 = 11 * (i + 1) + 3 + l by omega]; exact g4 l hl⟩
    | succ j ih =>
      intro x M1 hx h20 e1 e2 e3
      apply vX11_remember_11
      refine ⟨⟨by omega, by omega⟩, fun z => absurd z (by omega), fun _ => ⟨⟨by omega, by omega⟩, fun _ => ⟨⟨by omega, by omega⟩, ?_⟩⟩⟩
      rw [show ((x : Int) + 11).toNat = x + 11 by omega, Int.toNat_natCast, e3 (x + 11) (by omega)]
      refine ih (x + 1) _ (by omega) h20 (fun a a1 => by rw [upM_ne _ _ _ a1]; exact e1 a a1) (fun k hk => ?_) (fun k hk => ?_)
      · by_cases hkx : k = x
        · subst hkx; rw [upM_self, va_up_self]
        · rw [upM_self, va_up_neq _ _ hkx]; exact e2 k (by omega)
      · rw [upM_self, va_up_neq _ _ (by omega)]; exact e3 k (by omega)
  apply vX11_remember_0
  rw [h2]
  refine fun _ => ⟨fun c _ => ?_, fun c => shift 209 0 M (by omega) (by omega) (fun _ _ => rfl) (fun k hk => by omega) (fun _ _ => rfl)⟩
  rw [show (11 : Int) * (u.1 : Int) = ((11 * u.1 : Nat) : Int) by omega]
  refine c_putM (nn := 220) (Or.inl ⟨rfl, rfl⟩) (by omega) hv ?_
  intro M2 b1 b2 b3
  rw [b1 98 (by decide), h2]
  refine fun _ => ⟨⟨by omega, by omega⟩, H _ ?_ ?_ ?_⟩
  · intro a a1 a2
    rw [upM_ne _ _ _ a1, b1 a a2]
  · intro k hk
    rw [upM_self, va_up_neq _ _ hk, b1 98 (by decide)]
  · unfold remU
    rw [if_neg (by omega)]
    refine ⟨by show u.1 + 1 ≤ 20; omega, by rw [upM_self, va_up_self]; show _ = ((u.1 + 1 : Nat) : Int); omega, fun i hi => ?_⟩
    have hi' : i < u.1 + 1 := hi
    show uM 142 (11 * i) (if i = u.1 then dUe d else u.2 i) _
    by_cases hiu : i = u.1
    · rw [if_pos hiu, hiu]
      exact b3.congr (fun k _ _ => by rw [upM_ne _ _ _ (by decide)])
    · rw [if_neg hiu]
      exact (h3 i (by omega)).congr (fun k k1 k2 => by rw [upM_ne _ _ _ (by decide), b2 k (by omega)])
def oPl : Op := (false, false, false, false, false, -1)
theorem c_plainTried {f : Mem → Prop} {M : Mem} (H : ∀ M', (∀ a, a ≠ 98 → M' a = M a) → (∀ k, ¬ (60 ≤ k ∧ k ≤ 65) → M' 98 k = M 98 k) → OpM oPl M' → f M') : CV E mX11_plainTried [pR 98] M f := by
  refine vX11_plainTried_0 (H _ ?_ ?_ ⟨rfl, rfl, rfl, rfl, rfl, rfl⟩)
  · intro a a1
    rw [upM_ne _ _ _ a1, upM_ne _ _ _ a1, upM_ne _ _ _ a1, upM_ne _ _ _ a1, upM_ne _ _ _ a1, upM_ne _ _ _ a1]
  · intro k hk
    rw [upM_self, va_up_neq _ _ (by omega), upM_self, va_up_neq _ _ (by omega), upM_self, va_up_neq _ _ (by omega), upM_self, va_up_neq _ _ (by omega), upM_self, va_up_neq _ _ (by omega), upM_self, va_up_neq _ _ (by omega)]
theorem c_layTried {f : Mem → Prop} {M : Mem} {d : DS} (hv : vM 0 d M) (H : ∀ M', (∀ a, a ≠ 98 → ¬ (125 ≤ a ∧ a ≤ 130) → M' a = M a) → (∀ k, ¬ (60 ≤ k ∧ k ≤ 65) → M' 98 k = M 98 k) → vM 0 d M' → vM 1 d M' → OpM oPl M' → f M') : CV E mX11_layTried [pR 98] M f := by
  obtain ⟨v1, v2, v3, v4, v5, v6, v7⟩ := hv
  have loop : ∀ (j x : Nat) (M1 : Mem), x + j = 8 → (∀ a, ¬ (125 ≤ a ∧ a ≤ 130) → M1 a = M a) → (∀ a, 125 ≤ a → a ≤ 129 → M1 a 0 = M a 0 ∧ M1 a 1 = M a 0) → (∀ q, q < 8 → M1 130 q = M 130 q) → (∀ q, q < x → M1 130 (8 + q) = M 130 q) → KW E mX11_layTried (qV f) M1 62 [(0, pR 98), (1, pI (x : Int))] [] := by
    intro j
    induction j with
    | zero =>
      intro x M1 hx e1 e2 e3 e4
      refine vX11_layTried_62 _ ⟨⟨by omega, by omega⟩, fun _ => c_plainTried (fun M2 b1 b2 b3 => H M2 ?_ ?_ ?_ ?_ b3), fun z => absurd z (by omega)⟩
      · intro a a1 a2
        rw [b1 a a1, e1 a a2]
      · intro k hk
        rw [b2 k hk, e1 98 (by decide)]
      · refine ⟨by rw [b1 129 (by decide), (e2 129 (by decide) (by decide)).1]; exact v1, by rw [b1 125 (by decide), (e2 125 (by decide) (by decide)).1]; exact v2, by rw [b1 126 (by decide), (e2 126 (by decide) (by decide)).1]; exact v3, by rw [b1 127 (by decide), (e2 127 (by decide) (by decide)).1]; exact v4, by rw [b1 128 (by decide), (e2 128 (by decide) (by decide)).1]; exact v5, by rw [b2 59 (by decide), e1 98 (by decide)]; exact v6, fun i hi => ?_⟩
        rw [b1 130 (by decide), show 8 * 0 + i = i by omega, e3 i hi]
        have := v7 i hi; rwa [show 8 * 0 + i = i by omega] at this
      · refine ⟨by rw [b1 129 (by decide), (e2 129 (by decide) (by decide)).2]; exact v1, by rw [b1 125 (by decide), (e2 125 (by decide) (by decide)).2]; exact v2, by rw [b1 126 (by decide), (e2 126 (by decide) (by decide)).2]; exact v3, by rw [b1 127 (by decide), (e2 127 (by decide) (by decide)).2]; exact v4, by rw [b1 128 (by decide), (e2 128 (by decide) (by decide)).2]; exact v5, by rw [b2 59 (by decide), e1 98 (by decide)]; exact v6, fun i hi => ?_⟩
        rw [b1 130 (by decide), show 8 * 1 + i = 8 + i by omega, e4 i (by omega)]
        have := v7 i hi; rwa [show 8 * 0 + i = i by omega] at this
    | succ j ih =>
      intro x M1 hx e1 e2 e3 e4
      refine vX11_layTried_62 _ ⟨⟨by omega, by omega⟩, fun z => absurd z (by omega), fun _ => ⟨⟨by omega, by omega⟩, fun _ => ⟨⟨by omega, by omega⟩, ?_⟩⟩⟩
      rw [show ((8 : Int) + (x : Int)).toNat = 8 + x by omega, Int.toNat_natCast, e3 x (by omega)]
      refine ih (x + 1) _ (by omega) (fun a a1 => by rw [upM_ne _ _ _ (by omega)]; exact e1 a a1) (fun a a1 a2 => by rw [upM_ne _ _ _ (by omega)]; exact e2 a a1 a2) (fun q hq => by rw [upM_self, va_up_neq _ _ (by omega)]; exact e3 q hq) (fun q hq => ?_)
      by_cases hqx : q = x
      · subst hqx; rw [upM_self, va_up_self]
      · rw [upM_self, va_up_neq _ _ (by omega)]; exact e4 q (by omega)
  refine vX11_layTried_0 (fun _ _ _ _ _ => loop 8 0 _ (by omega) ?_ ?_ ?_ (fun q hq => by omega))
  · intro a a1
    rw [upM_ne _ _ _ (by omega), upM_ne _ _ _ (by omega), upM_ne _ _ _ (by omega), upM_ne _ _ _ (by omega), upM_ne _ _ _ (by omega)]
  · intro a a1 a2
    have : a = 125 ∨ a = 126 ∨ a = 127 ∨ a = 128 ∨ a = 129 := by omega
    rcases this with e | e | e | e | e <;> subst e <;> exact ⟨rfl, rfl⟩
  · intro q _; rfl
end REFSTATE
