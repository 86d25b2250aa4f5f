/-! the reference's pushesOne -/
def bI (b : Bool) : Int := if b then 1 else 0
theorem bI_t : bI true = 1 := rfl
theorem bI_f : bI false = 0 := rfl
/-- all but names, worths, the error, the number, and the rows at place b stays -/
def FrP (b : Nat) (M M' : Mem) : Prop := ∀ a q, a ≠ 121 → a ≠ 122 → (125 ≤ a ∧ a ≤ 129 → q ≠ b) → (a = 130 → q < 8 * b ∨ 8 * b + 8 ≤ q) → (a = 98 → q ≠ 50 ∧ q ≠ 59) → M' a q = M a q
theorem FrP.rf (b : Nat) (M : Mem) : FrP b M M := fun _ _ _ _ _ _ _ => rfl
theorem FrP.tr {b : Nat} {M M1 M2 : Mem} (h1 : FrP b M M1) (h2 : FrP b M1 M2) : FrP b M M2 := fun a q a1 a2 a3 a4 a5 => (h2 a q a1 a2 a3 a4 a5).trans (h1 a q a1 a2 a3 a4 a5)
theorem FrP.ofL {b : Nat} {M M' : Mem} (h : FrL M M') : FrP b M M' := fun a q _ a2 _ _ a5 => h a q a2 (fun z => (a5 z.1).1 z.2)
theorem FrP.lay {b : Nat} {M M' : Mem} (h : ∀ a, a ≠ 121 → M' a = M a) : FrP b M M' := fun a q a1 _ _ _ _ => by rw [h a a1]
theorem upM_at (M : Mem) (a k : Nat) (v : Int) (c q : Nat) (h : c = a → q ≠ k) : upM M a k v c q = M c q := by
  by_cases hc : c = a
  · subst hc; rw [upM_self, va_up_neq _ _ (h rfl)]
  · rw [upM_ne M k v hc]
theorem FrP.u {b : Nat} (M : Mem) {a0 k : Nat} (v : Int) (h : (125 ≤ a0 ∧ a0 ≤ 129 ∧ k = b) ∨ (a0 = 130 ∧ 8 * b ≤ k ∧ k < 8 * b + 8) ∨ (a0 = 98 ∧ k = 59)) : FrP b M (upM M a0 k v) := by
  intro a q a1 a2 a3 a4 a5
  apply upM_at
  rintro rfl rfl
  rcases h with h | h | h
  · exact a3 ⟨h.1, h.2.1⟩ h.2.2
  · have := a4 h.1; omega
  · exact (a5 h.1).2 h.2
theorem FrP.row {b : Nat} {M M' : Mem} (h : FrP b M M') {a : Nat} (ha : a ≠ 121 ∧ a ≠ 122 ∧ a ≠ 98 ∧ (a < 125 ∨ 130 < a)) : M' a = M a := funext fun q => h a q ha.1 ha.2.1 (fun z => by omega) (fun z => by omega) (fun z => absurd z ha.2.2.1)
/-- what the text told, and how it is gone on, in the reference -/
def MD (n : Nat) (may : Nat → Nat) (law : Lw) (rust : Int) (M : Mem) : Prop := M 98 12 = (n : Int) ∧ n ≤ 8 ∧ (∀ r, r < 2 ^ n → M 123 r = (may r : Int) ∧ may r < 2 ^ n) ∧ LwM law M ∧ M 102 0 = rust ∧ 0 ≤ rust ∧ rust ≤ 100
def OpM (o : Op) (M : Mem) : Prop := M 98 60 = bI (oDr o) ∧ M 98 61 = bI (oNs o) ∧ M 98 62 = bI (oNl o) ∧ M 98 63 = bI (oNo o) ∧ M 98 64 = bI (oTw o) ∧ M 98 65 = oId o
theorem MD.fr {n b : Nat} {may : Nat → Nat} {law : Lw} {rust : Int} {M M' : Mem} (h : MD n may law rust M) (hF : FrP b M M') : MD n may law rust M' := by
  obtain ⟨h1, h2, h3, h4, h5, h6⟩ := h
  refine ⟨?_, h2, ?_, ?_, ?_, h6⟩
  · rw [hF 98 12 (by decide) (by decide) (by omega) (by omega) (fun _ => ⟨by decide, by decide⟩)]; exact h1
  · rw [hF.row (a := 123) (by decide)]; exact h3
  · exact h4.congr (hF.row (by decide)) (hF.row (by decide)) (hF.row (by decide)) (hF.row (by decide)) (hF.row (by decide)) (hF.row (by decide))
  · rw [hF.row (a := 102) (by decide)]; exact h5
theorem FrP.f98 {b : Nat} {M M' : Mem} (hF : FrP b M M') {q : Nat} (h : q ≠ 50 ∧ q ≠ 59) : M' 98 q = M 98 q := hF 98 q (by decide) (by decide) (by omega) (by omega) (fun _ => h)
theorem OpM.fr {b : Nat} {o : Op} {M M' : Mem} (h : OpM o M) (hF : FrP b M M') : OpM o M' := by
  obtain ⟨h1, h2, h3, h4, h5, h6⟩ := h
  exact ⟨by rw [hF.f98 (by decide)]; exact h1, by rw [hF.f98 (by decide)]; exact h2, by rw [hF.f98 (by decide)]; exact h3, by rw [hF.f98 (by decide)]; exact h4, by rw [hF.f98 (by decide)]; exact h5, by rw [hF.f98 (by decide)]; exact h6⟩
theorem vM.lay {b : Nat} {d : DS} {M M' : Mem} (hv : vM b d M) (h : ∀ a, a ≠ 121 → M' a = M a) : vM b d M' := by
  unfold vM
  rw [h 129 (by decide), h 125 (by decide), h 126 (by decide), h 127 (by decide), h 128 (by decide), h 98 (by decide), h 130 (by decide)]
  exact hv
theorem vM.law {b : Nat} {d : DS} {M M' : Mem} (hv : vM b d M) (h : FrL M M') : vM b d M' := by
  unfold vM
  rw [h.row (a := 129) (by decide) (by decide), h.row (a := 125) (by decide) (by decide), h.row (a := 126) (by decide) (by decide), h.row (a := 127) (by decide) (by decide), h.row (a := 128) (by decide) (by decide), h 98 59 (by decide) (by decide), h.row (a := 130) (by decide) (by decide)]
  exact hv
theorem envD_b {n l : Nat} {d : DS} (hw : wfD n d) (hl : l < n) (hn : n ≤ 8) : ∀ j, j < 7 → Bd (envD d l j) := by
  intro j hj
  have h6 := hw.2.2.2.2.2 l (by omega)
  have hp1 : pop (dRo d) ≤ 17 := popN_le 17 _
  have hp2 : pop (dSe d) ≤ 17 := popN_le 17 _
  have hbt := bt_lt (dRo d) l
  have h3 := hw.2.2.1
  have h4 := hw.2.2.2.1
  match j, hj with
  | 0, _ => show Bd (dWo d l); omega
  | 1, _ => show Bd (l : Int); omega
  | 2, _ => show Bd ((pop (dRo d) : Nat) : Int); omega
  | 3, _ => show Bd ((pop (dSe d) : Nat) : Int); omega
  | 4, _ => show Bd ((bt (dRo d) l : Nat) : Int); omega
  | 5, _ => show Bd (dEf d); omega
  | 6, _ => show Bd (dMi d); omega
theorem c_push222 {E : Scr} {f : Int → Mem → Prop} {M : Mem} {b l n : Nat} {d : DS} {i e : Bool} (hb : b < 2) (hl : l < n) (hn : n ≤ 8) (hw : wfD n d) (hv : vM b d M) (H : ∀ M', FrP b M M' → vM b (slF d l (i || e) (dNu d)) M' → f 1 M') : KW E mX11_pushesOne (qI f) M 222 [(0, pR 98), (1, pI (b : Int)), (2, pI (l : Int)), (4, pI (bI i))] [pI (bI e)] := by
  have hp := pw8 hn
  have hset : (i || e) = true → (0 ≤ (b : Int) ∧ (b : Int) < 2) ∧ ((iR (M 126 (b : Int).toNat)) → (0 ≤ (b : Int) ∧ (b : Int) < 2) ∧ f 1 (upM M 126 (b : Int).toNat (bOr (M 126 (b : Int).toNat) (bShl 1 (l : Int))))) := by
    intro hie
    refine ⟨⟨by omega, by omega⟩, fun _ => ⟨⟨by omega, by omega⟩, ?_⟩⟩
    rw [Int.toNat_natCast, hv.2.2.1, bOne_nat (by omega), bOr_nat (by have := hw.2.1; omega) (pw31 (by omega))]
    refine H _ (FrP.u M _ (Or.inl ⟨by decide, by decide, rfl⟩)) ?_
    obtain ⟨v1, v2, v3, v4, v5, v6, v7⟩ := hv
    rw [hie]
    exact ⟨v1, v2, by rw [upM_self, va_up_self]; rfl, v4, v5, v6, v7⟩
  have hun : i = false → e = false → f 1 M := by
    intro h1 h2
    refine H M (FrP.rf b M) ?_
    rw [h1, h2]
    exact hv
  apply vX11_pushesOne_222
  cases i <;> cases e
  · exact ⟨⟨by decide, by decide⟩, fun z => absurd rfl z, fun _ => ⟨⟨by decide, by decide⟩, fun _ => hun rfl rfl, fun z => absurd rfl z⟩⟩
  · exact ⟨⟨by decide, by decide⟩, fun z => absurd rfl z, fun _ => ⟨⟨by decide, by decide⟩, fun z => absurd z (by decide), fun _ => hset rfl⟩⟩
  · exact ⟨⟨by decide, by decide⟩, fun _ => hset rfl, fun z => absurd z (by decide)⟩
  · exact ⟨⟨by decide, by decide⟩, fun _ => hset rfl, fun z => absurd z (by decide)⟩
theorem c_push160 {E : Scr} {f : Int → Mem → Prop} {M : Mem} {b l n : Nat} {d : DS} {i : Bool} {o : Op} {law : Lw} {may : Nat → Nat} {rust : Int} (hb : b < 2) (hl : l < n) (hw : wfD n d) (hD : MD n may law rust M) (hO : OpM o M) (hv : vM b d M) (he : ∀ j, j < 7 → M 121 j = envD d l j)
    (H : ∀ M', FrP b M M' → vM b (slF d l (i || (eatF o (lawB law 2 (envD d l) rust 100) (dNu d)).1) (eatF o (lawB law 2 (envD d l) rust 100) (dNu d)).2) M' → f 1 M') : KW E mX11_pushesOne (qI f) M 160 [(0, pR 98), (1, pI (b : Int)), (2, pI (l : Int))] [pI (bI i)] := by
  have hn := hD.2.1
  apply vX11_pushesOne_160
  intro _
  rw [hD.2.2.2.2.1]
  refine c_boundLaw (k := 2) (by decide) hD.2.2.2.1 (envD_b hw hl hn) he ⟨by decide, by decide⟩ ?_
  intro M3 hF
  have hr := lawB_b (law := law) (k := 2) (env := envD d l) (wo := rust) (most := 100) (by decide) hD.2.2.2.2.2
  generalize lawB law 2 (envD d l) rust 100 = odds at hr H ⊢
  have hv3 := hv.law hF
  have hF3 : FrP b M M3 := FrP.ofL hF
  have hO3 := hO.fr hF3
  have go : ∀ (e : Bool), (eatF o odds (dNu d)) = (e, dNu d) → KW E mX11_pushesOne (qI f) M3 222 [(0, pR 98), (1, pI (b : Int)), (2, pI (l : Int)), (4, pI (bI i))] [pI (bI e)] := by
    intro e hee
    rw [hee] at H
    exact c_push222 hb hl hn hw hv3 (fun M' a1 a2 => H M' (hF3.tr a1) a2)
  unfold eatF at go
  refine ⟨⟨by omega, by omega⟩, fun z => go true (by rw [if_pos (by omega)]), fun z => ⟨⟨by omega, by omega⟩, fun y => go false (by rw [if_neg (by omega), if_pos y]), fun y _ => ⟨fun c => ?_, fun c => ?_⟩⟩⟩
  · have hdr : oDr o = false := by
      rw [hO3.1] at c
      cases hh : oDr o
      · rfl
      · rw [hh] at c; exact absurd c (by decide)
    refine ⟨⟨by omega, by omega⟩, fun x => go false ?_, fun x => go true ?_⟩
    · rw [if_neg (by omega), if_neg (by omega), hdr]; simp; omega
    · rw [if_neg (by omega), if_neg (by omega), hdr]; simp; omega
  · have hdr : oDr o = true := by
      rw [hO3.1] at c
      cases hh : oDr o
      · rw [hh] at c; exact absurd rfl c
      · rfl
    refine c_number1 ?_
    rw [hv3.2.2.2.2.2.1]
    have hN := drawN_b (dNu d)
    -- the number is drawn
    have hv4 : vM b (dMi d, dRo d, dSe d, dEf d, dVa d, drawN (dNu d), dWo d) (upM M3 98 59 (drawN (dNu d))) := by
      obtain ⟨v1, v2, v3, v4, v5, v6, v7⟩ := hv3
      exact ⟨v1, v2, v3, v4, v5, by rw [upM_self, va_up_self], v7⟩
    have hw4 : wfD n (dMi d, dRo d, dSe d, dEf d, dVa d, drawN (dNu d), dWo d) := ⟨hw.1, hw.2.1, hw.2.2.1, hw.2.2.2.1, hN, hw.2.2.2.2.2⟩
    have hF4 : FrP b M (upM M3 98 59 (drawN (dNu d))) := hF3.tr (FrP.u M3 _ (Or.inr (Or.inr ⟨rfl, rfl⟩)))
    have gd : ∀ (e : Bool), (eatF o odds (dNu d)) = (e, drawN (dNu d)) → KW E mX11_pushesOne (qI f) (upM M3 98 59 (drawN (dNu d))) 222 [(0, pR 98), (1, pI (b : Int)), (2, pI (l : Int)), (4, pI (bI i))] [pI (bI e)] := by
      intro e hee
      rw [hee] at H
      exact c_push222 hb hl hn hw4 hv4 (fun M' a1 a2 => H M' (hF4.tr a1) a2)
    unfold eatF at gd
    refine ⟨⟨by omega, by omega⟩, ⟨by omega, by omega⟩, fun x => gd false ?_, fun x => gd true ?_⟩
    · rw [if_neg (by omega), if_neg (by omega), hdr]; simp; omega
    · rw [if_neg (by omega), if_neg (by omega), hdr]; simp; omega
