/-! formulas in the reference: pieces -/
/-- what is held behind so many knots, from the i-th on -/
def hst : Nat → List Nat → KL → List Nat
  | _, H, [] => H
  | i, H, e :: P => hst (i + 1) (i :: H.drop (sdN e.1)) P
theorem hst_sn {k v : Int} : ∀ (P : KL) (i : Nat) (H : List Nat), hst i H (P ++ [(k, v)]) = (i + P.length) :: (hst i H P).drop (sdN k) := by
  intro P
  induction P with
  | nil => intro i H; rfl
  | cons e P ih =>
    intro i H
    simp only [hst, List.cons_append]
    rw [ih, List.length_cons]
    congr 1
    omega
theorem hst_len : ∀ (P : KL) (i d m : Nat) (H : List Nat), H.length = d → dpF d P = some m → (hst i H P).length = m := by
  intro P
  induction P with
  | nil => intro i d m H h1 h2; have h2' : some d = some m := h2
           cases h2'; exact h1
  | cons e P ih =>
    intro i d m H h1 h2
    simp only [dpF] at h2
    by_cases c : sdN e.1 ≤ d
    · rw [if_pos c] at h2
      refine ih (i + 1) _ m _ ?_ h2
      rw [List.length_cons, List.length_drop]; omega
    · rw [if_neg c] at h2; exact absurd h2 (by simp)
theorem hst_b : ∀ (P : KL) (i : Nat) (H : List Nat) (lo : Nat), lo ≤ i → (∀ q, q ∈ H → lo ≤ q ∧ q < i) → ∀ q, q ∈ hst i H P → lo ≤ q ∧ q < i + P.length := by
  intro P
  induction P with
  | nil => intro i H lo _ h q hq; exact h q hq
  | cons e P ih =>
    intro i H lo hlo h q hq
    have := ih (i + 1) (i :: H.drop (sdN e.1)) lo (by omega) (fun z hz => ?_) q hq
    · rw [List.length_cons]; omega
    · rcases List.mem_cons.mp hz with c | c
      · omega
      · have := h z (List.mem_of_mem_drop c); omega
/-- knots as nodes: by a function of what a node is to be -/
def ND (nd : Nat → Int → Int → List Nat → Prop) : Nat → List Nat → KL → Prop
  | _, _, [] => True
  | i, H, e :: P => nd i e.1 e.2 H ∧ ND nd (i + 1) (i :: H.drop (sdN e.1)) P
theorem ND_sn {nd : Nat → Int → Int → List Nat → Prop} {k v : Int} : ∀ (P : KL) (i : Nat) (H : List Nat), ND nd i H P → nd (i + P.length) k v (hst i H P) → ND nd i H (P ++ [(k, v)]) := by
  intro P
  induction P with
  | nil => intro i H _ h; exact ⟨h, trivial⟩
  | cons e P ih =>
    intro i H h1 h2
    refine ⟨h1.1, ih (i + 1) _ h1.2 ?_⟩
    rw [List.length_cons] at h2
    rw [show i + 1 + P.length = i + (P.length + 1) by omega]
    exact h2
theorem ND_mono {nd nd2 : Nat → Int → Int → List Nat → Prop} : ∀ (P : KL) (i : Nat) (H : List Nat), (∀ q k v G, i ≤ q → q < i + P.length → nd q k v G → nd2 q k v G) → ND nd i H P → ND nd2 i H P := by
  intro P
  induction P with
  | nil => intro i H _ _; trivial
  | cons e P ih =>
    intro i H h h1
    exact ⟨h i _ _ _ (Nat.le_refl _) (by rw [List.length_cons]; omega) h1.1, ih (i + 1) _ (fun q k v G a1 a2 => h q k v G (by omega) (by rw [List.length_cons]; omega)) h1.2⟩
/-- a node of a law, of a leaning (upper halves of the rows) -/
def ndW (kn pa ot : Nat → Int) (i : Nat) (k v : Int) (H : List Nat) : Prop :=
  (k = 37 ∧ kn i = 0 ∧ pa i = v) ∨ (17 ≤ k ∧ k ≤ 23 ∧ kn i = 1 ∧ pa i = k - 17) ∨ (k = 12 ∧ kn i = 2 ∧ ∃ a G, H = a :: G ∧ pa i = (a : Int)) ∨ (k ≠ 12 ∧ rk k ≠ 0 ∧ kn i = cm k ∧ ∃ a b G, H = b :: a :: G ∧ pa i = (a : Int) ∧ ot i = (b : Int))
def ndL (root : Nat → Nat) (kn pa ot : Nat → Int) (i : Nat) (k v : Int) (H : List Nat) : Prop :=
  ((k = 13 ∧ kn i = 0 ∨ k = 14 ∧ kn i = 1 ∨ k = 15 ∧ kn i = 2) ∧ pa i = v) ∨ (k = 16 ∧ kn i = 3 ∧ pa i = (root v.toNat : Int)) ∨ (k = 12 ∧ kn i = 4 ∧ ∃ a G, H = a :: G ∧ pa i = (a : Int)) ∨ ((k = 11 ∧ kn i = 5 ∨ k = 10 ∧ kn i = 6) ∧ ∃ a b G, H = b :: a :: G ∧ pa i = (a : Int) ∧ ot i = (b : Int))
def upH (M : Mem) (a : Nat) : Nat → Int := fun i => M a (64 + i)
def wcd (lw : Prop) [Decidable lw] (k : Int) : Int := if lw then (if k = 25 then 0 else if k = 12 then 2 else cm k) else (if k = 25 then -1 else if k = 12 then 16 else if k = 11 then 14 else 15)
def HdM (H : List Nat) (M : Mem) : Prop := M 98 43 = (H.length : Int) ∧ SR (M 120) (H.map (fun x : Nat => (x : Int)))
def WtM (lw : Prop) [Decidable lw] (pd : List Int) (M : Mem) : Prop := M 98 42 = (pd.length : Int) ∧ SR (M 119) (pd.map (wcd lw))
def LnM (lt : Nat → Nat) (M : Mem) : Prop := ∀ l, l < 8 → M 106 (8 + l) = (lt l : Int)
/-- names, who leans (roots) -/
def NmM (n : Nat) (nm : Nat → Int) (ln : Nat) (root : Nat → Nat) (M : Mem) : Prop := M 98 16 = (n : Int) ∧ n ≤ 8 ∧ (∀ l, l < n → M 103 (8 + l) = nm l) ∧ (∀ l, l < n → if ln.testBit l = true then M 105 (8 + l) = (root l : Int) ∧ root l < 64 else M 105 (8 + l) = -1)
/-- what a formula's reading may change -/
def FrH (M M' : Mem) : Prop := (∀ a, a ≠ 98 → a ≠ 106 → ¬ (110 ≤ a ∧ a ≤ 112) → ¬ (116 ≤ a ∧ a ≤ 120) → M' a = M a) ∧ (∀ a, a = 106 → ∀ i, i < 8 → M' a i = M a i) ∧ ((∀ a, 110 ≤ a → a ≤ 112 → ∀ i, i < 64 + (M 98 33).toNat → M' a i = M a i) ∧ (∀ a, 116 ≤ a → a ≤ 118 → ∀ i, i < 64 + (M 98 19).toNat → M' a i = M a i) ∧ M 98 33 ≤ M' 98 33 ∧ M 98 19 ≤ M' 98 19) ∧ (∀ k, ¬ (4 ≤ k ∧ k ≤ 5) → ¬ (7 ≤ k ∧ k ≤ 11) → k ≠ 19 → k ≠ 33 → ¬ (42 ≤ k ∧ k ≤ 47) → M' 98 k = M 98 k)
theorem FrH.rf (M : Mem) : FrH M M := ⟨fun _ _ _ _ _ => rfl, fun _ _ _ _ => rfl, ⟨fun _ _ _ _ _ => rfl, fun _ _ _ _ _ => rfl, Int.le_refl _, Int.le_refl _⟩, fun _ _ _ _ _ _ => rfl⟩
theorem FrH.tr {M M1 M2 : Mem} (h1 : FrH M M1) (h2 : FrH M1 M2) : FrH M M2 := ⟨fun a a1 a2 a3 a4 => (h2.1 a a1 a2 a3 a4).trans (h1.1 a a1 a2 a3 a4), fun a a1 i a2 => (h2.2.1 a a1 i a2).trans (h1.2.1 a a1 i a2), ⟨fun a a1 a2 i a3 => (h2.2.2.1.1 a a1 a2 i (by have := h1.2.2.1.2.2.1; omega)).trans (h1.2.2.1.1 a a1 a2 i a3), fun a a1 a2 i a3 => (h2.2.2.1.2.1 a a1 a2 i (by have := h1.2.2.1.2.2.2; omega)).trans (h1.2.2.1.2.1 a a1 a2 i a3), Int.le_trans h1.2.2.1.2.2.1 h2.2.2.1.2.2.1, Int.le_trans h1.2.2.1.2.2.2 h2.2.2.1.2.2.2⟩, fun k k1 k2 k3 k4 k5 => (h2.2.2.2 k k1 k2 k3 k4 k5).trans (h1.2.2.2 k k1 k2 k3 k4 k5)⟩
theorem FrTm.toH {M M' : Mem} (h : FrTm M M') : FrH M M' := ⟨fun a a1 _ _ _ => h.1 a a1, fun a a1 i _ => by rw [h.1 a (by omega)], ⟨fun a a1 a2 i _ => by rw [h.1 a (by omega)], fun a a1 a2 i _ => by rw [h.1 a (by omega)], by rw [h.2 33 (by decide)]; exact Int.le_refl _, by rw [h.2 19 (by decide)]; exact Int.le_refl _⟩, fun k _ k2 _ _ _ => h.2 k (by omega)⟩
theorem FrH.u98c {M : Mem} {k : Nat} (v : Int) (h : (4 ≤ k ∧ k ≤ 5) ∨ (7 ≤ k ∧ k ≤ 11) ∨ k = 19 ∨ k = 33 ∨ (42 ≤ k ∧ k ≤ 47)) (h1 : k = 19 → M 98 19 ≤ v) (h2 : k = 33 → M 98 33 ≤ v) : FrH M (upM M 98 k v) := by
  refine ⟨fun a a1 _ _ _ => upM_ne _ _ _ a1, fun a a1 i _ => by rw [upM_ne _ _ _ (by omega)], ⟨fun a a1 a2 i _ => by rw [upM_ne _ _ _ (by omega)], fun a a1 a2 i _ => by rw [upM_ne _ _ _ (by omega)], ?_, ?_⟩, fun q _ _ _ _ _ => by rw [upM_self, va_up_neq _ _ (by omega)]⟩
  · by_cases e : 33 = k
    · subst e; rw [upM_self, va_up_self]; exact h2 rfl
    · rw [upM_self, va_up_neq _ _ e]; exact Int.le_refl _
  · by_cases e : 19 = k
    · subst e; rw [upM_self, va_up_self]; exact h1 rfl
    · rw [upM_self, va_up_neq _ _ e]; exact Int.le_refl _
theorem FrH.u98 {M : Mem} {k : Nat} (v : Int) (h : (4 ≤ k ∧ k ≤ 5) ∨ (7 ≤ k ∧ k ≤ 11) ∨ (42 ≤ k ∧ k ≤ 47)) : FrH M (upM M 98 k v) := FrH.u98c v (by omega) (fun z => by omega) (fun z => by omega)
theorem FrH.uN {M : Mem} {a k : Nat} (v : Int) (h : (a = 106 ∧ 8 ≤ k) ∨ ((110 ≤ a ∧ a ≤ 112) ∧ 64 + (M 98 33).toNat ≤ k) ∨ ((116 ≤ a ∧ a ≤ 118) ∧ 64 + (M 98 19).toNat ≤ k) ∨ a = 119 ∨ a = 120) : FrH M (upM M a k v) := by
  have h98 : upM M a k v 98 = M 98 := upM_ne _ _ _ (by omega)
  refine ⟨fun c c1 c2 c3 c4 => upM_ne _ _ _ (by omega), fun c c1 i hi => ?_, ⟨fun c c1 c2 i hi => ?_, fun c c1 c2 i hi => ?_, ?_, ?_⟩, fun q _ _ _ _ _ => by rw [h98]⟩
  · by_cases e : c = a
    · subst e; rw [upM_self, va_up_neq _ _ (by omega)]
    · rw [upM_ne _ _ _ e]
  · by_cases e : c = a
    · subst e; rw [upM_self, va_up_neq _ _ (by omega)]
    · rw [upM_ne _ _ _ e]
  · by_cases e : c = a
    · subst e; rw [upM_self, va_up_neq _ _ (by omega)]
    · rw [upM_ne _ _ _ e]
  · rw [h98]; exact Int.le_refl _
  · rw [h98]; exact Int.le_refl _
theorem FrH.uA {M : Mem} {a k : Nat} (v : Int) (h : (a = 106 ∧ 8 ≤ k) ∨ a = 119 ∨ a = 120) : FrH M (upM M a k v) := FrH.uN v (by omega)
theorem FrH.tp {bs : BF} {L : Nat} {M M' : Mem} (h : FrH M M') (hT : TPm bs L M) : TPm bs L M' := by
  unfold TPm
  rw [h.2.2.2 6 (by decide) (by decide) (by decide) (by decide) (by decide), h.1 99 (by decide) (by decide) (by decide) (by decide), h.1 100 (by decide) (by decide) (by decide) (by decide)]
  exact hT
theorem FrH.nm {n : Nat} {nm : Nat → Int} {ln : Nat} {root : Nat → Nat} {M M' : Mem} (h : FrH M M') (hN : NmM n nm ln root M) : NmM n nm ln root M' := by
  unfold NmM
  rw [h.2.2.2 16 (by decide) (by decide) (by decide) (by decide) (by decide), h.1 103 (by decide) (by decide) (by decide) (by decide), h.1 105 (by decide) (by decide) (by decide) (by decide)]
  exact hN
section FMLM
variable {E : Scr} {bs : BF} {L : Nat}
theorem c_wrong {f : Int → Mem → Prop} {M : Mem} {w : Int} {st : Nat} (hw : 0 ≤ w ∧ w < 100) (h10 : M 98 10 = (st : Int)) (H : ∀ M', FrH M M' → M' 98 4 = w → M' 98 5 = (st : Int) → f 0 M') : CI E mX11_wrong [pR 98, pI w] M f := by
  apply vX11_wrong_0
  rw [h10]
  exact ⟨⟨by omega, by omega⟩, fun _ => H _ ((FrH.u98 _ (by omega)).tr (FrH.u98 _ (by omega))) rfl rfl⟩
theorem c_isCounted {f : Int → Mem → Prop} {M : Mem} {c st : Nat} (hc : M 98 45 = (c : Int)) (hcb : c ≤ 64) (h10 : M 98 10 = (st : Int)) (H1 : c < 64 → f 1 (upM M 98 45 ((c : Int) + 1))) (H0 : 64 ≤ c → ∀ M', FrH M M' → M' 98 4 = 2 → M' 98 5 = (st : Int) → f 0 M') : CI E mX11_isCounted [pR 98] M f := by
  apply vX11_isCounted_0
  rw [hc]
  exact fun _ => ⟨fun z => fun _ => ⟨⟨by omega, by omega⟩, H1 (by omega)⟩, fun z => c_wrong (by decide) h10 (fun M' a1 a2 a3 => ⟨Or.inl rfl, H0 (by omega) M' a1 a2 a3⟩)⟩
theorem c_isKey {f : Int → Mem → Prop} {M : Mem} {x : Int} (hx : iR x) (H1 : M 98 8 = 1 → M 98 9 = x → f 1 M) (H0 : ¬ (M 98 8 = 1 ∧ M 98 9 = x) → f 0 M) : CI E mX11_isKey [pR 98, pI x] M f := by
  apply vX11_isKey_0
  exact fun _ => ⟨fun c => H0 (fun z => c z.1), fun c => fun _ => ⟨hx, fun c2 => H0 (fun z => c2 z.2), fun c2 => H1 c c2⟩⟩
theorem c_isSign {f : Int → Mem → Prop} {M : Mem} {x : Int} (hx : iR x) (H1 : M 98 8 = 4 → M 98 9 = x → f 1 M) (H0 : ¬ (M 98 8 = 4 ∧ M 98 9 = x) → f 0 M) : CI E mX11_isSign [pR 98, pI x] M f := by
  apply vX11_isSign_0
  exact fun _ => ⟨fun c => H0 (fun z => c z.1), fun c => fun _ => ⟨hx, fun c2 => H0 (fun z => c2 z.2), fun c2 => H1 c c2⟩⟩
theorem c_waitsFor {f : Mem → Prop} {M : Mem} {lw : Prop} [Decidable lw] {pd : List Int} {k : Int} (hk : iR (wcd lw k)) (hp : WtM lw pd M) (hl : pd.length < 96) (H : ∀ M', FrH M M' → (∀ a, a ≠ 98 → a ≠ 119 → M' a = M a) → (∀ q, q ≠ 42 → M' 98 q = M 98 q) → WtM lw (k :: pd) M' → f M') : CV E mX11_waitsFor [pR 98, pI (wcd lw k)] M f := by
  apply vX11_waitsFor_0
  rw [hp.1, Int.toNat_natCast]
  refine fun _ => ⟨⟨by omega, by omega⟩, hk, fun _ => ⟨⟨by omega, by omega⟩, H _ ((FrH.uA _ (by omega)).tr (FrH.u98 _ (by omega))) (fun a a1 a2 => by rw [upM_ne _ _ _ a1, upM_ne _ _ _ a2]) (fun q hq => by rw [upM_self, va_up_neq _ _ hq, upM_ne _ _ _ (by decide)]) ⟨?_, ?_⟩⟩⟩
  · show (pd.length : Int) + 1 = ((k :: pd).length : Int)
    rw [List.length_cons]; omega
  · show SR (va_up (M 119) pd.length (wcd lw k)) (wcd lw k :: pd.map (wcd lw))
    have := hp.2.push (wcd lw k)
    rw [List.length_map] at this
    exact this
theorem c_dropHeld {f : Int → Mem → Prop} {M : Mem} {a : Nat} {H : List Nat} (hH : HdM (a :: H) M) (hl : (a :: H).length ≤ 96) (K : ∀ M', FrH M M' → (∀ c, c ≠ 98 → M' c = M c) → (∀ q, q ≠ 43 → M' 98 q = M 98 q) → HdM H M' → f (a : Int) M') : CI E mX11_dropHeld [pR 98] M f := by
  have htop : M 120 H.length = (a : Int) := by
    have h := hH.2
    have h2 : SR (M 120) ((a : Int) :: H.map (fun x : Nat => (x : Int))) := h
    have := h2.top
    rw [List.length_map] at this
    exact this
  have e1 : M 98 43 = (H.length : Int) + 1 := by rw [hH.1, List.length_cons]; omega
  rw [List.length_cons] at hl
  apply vX11_dropHeld_0
  rw [e1, show ((H.length : Int) + 1 - 1).toNat = H.length by omega, htop]
  refine fun _ => ⟨⟨by omega, by omega⟩, fun _ => ⟨⟨by omega, by omega⟩, fun _ => K _ (FrH.u98 _ (by omega)) (fun c c1 => upM_ne _ _ _ c1) (fun q hq => by rw [upM_self, va_up_neq _ _ hq]) ⟨?_, ?_⟩⟩⟩
  · show (H.length : Int) + 1 - 1 = (H.length : Int)
    omega
  · have h2 : SR (M 120) ((a : Int) :: H.map (fun x : Nat => (x : Int))) := hH.2
    exact h2.pop
theorem HdM.push {H : List Nat} {M M' : Mem} {a : Nat} (hH : HdM H M) (h43 : M' 98 43 = (H.length : Int) + 1) (h120 : M' 120 = va_up (M 120) H.length (a : Int)) : HdM (a :: H) M' := by
  refine ⟨?_, ?_⟩
  · rw [h43, List.length_cons]; omega
  · rw [h120]
    have := hH.2.push (a : Int)
    rw [List.length_map] at this
    exact this
theorem c_grown {f : Mem → Prop} {M : Mem} {k a b : Int} {i : Nat} {H : List Nat} (hk : iR k) (ha : iR a) (hb : iR b) (h19 : M 98 19 = (i : Int)) (hi : i < 64) (hH : HdM H M) (hl : H.length < 96) (K : ∀ M', FrH M M' → (∀ c, c ≠ 98 → ¬ (116 ≤ c ∧ c ≤ 118) → c ≠ 120 → M' c = M c) → (∀ q, q ≠ 19 → q ≠ 43 → M' 98 q = M 98 q) → M' 98 19 = ((i + 1 : Nat) : Int) → HdM (i :: H) M' → upH M' 116 = va_up (upH M 116) i k → upH M' 117 = va_up (upH M 117) i a → upH M' 118 = va_up (upH M 118) i b → f M') : CV E mX11_grown [pR 98, pI k, pI a, pI b] M f := by
  apply vX11_grown_0
  rw [h19, hH.1, show ((64 : Int) + (i : Int)).toNat = 64 + i by omega, Int.toNat_natCast]
  have hup : ∀ (c : Nat) (v : Int) (g : Nat → Int), (fun q => va_up g (64 + i) v (64 + q)) = va_up (fun q => g (64 + q)) i v := by
    intro c v g
    funext q
    by_cases e : q = i
    · rw [e, va_up_self, va_up_self]
    · rw [va_up_neq _ _ (by omega), va_up_neq _ _ e]
  have e2 : 64 + (M 98 19).toNat ≤ 64 + i := by rw [h19]; omega
  have e3 : M 98 19 ≤ (i : Int) + 1 := by rw [h19]; omega
  refine fun _ => ⟨⟨by omega, by omega⟩, hk, fun _ => ⟨⟨by omega, by omega⟩, ha, fun _ => ⟨⟨by omega, by omega⟩, hb, fun _ _ => ⟨⟨by omega, by omega⟩, fun _ => ⟨⟨by omega, by omega⟩, fun _ => ⟨⟨by omega, by omega⟩, K _ (((((((FrH.uN _ (Or.inr (Or.inr (Or.inl ⟨by decide, e2⟩))))).tr (FrH.uN _ (Or.inr (Or.inr (Or.inl ⟨by decide, e2⟩))))).tr (FrH.uN _ (Or.inr (Or.inr (Or.inl ⟨by decide, e2⟩))))).tr (FrH.uA _ (by omega))).tr (FrH.u98 _ (by omega))).tr (FrH.u98c _ (by omega) (fun z => e3) (fun z => absurd z (by decide)))) ?_ ?_ ?_ ?_ ?_ ?_ ?_⟩⟩⟩⟩⟩⟩
  · intro c c1 c2 c3
    rw [upM_ne _ _ _ c1, upM_ne _ _ _ c1, upM_ne _ _ _ c3, upM_ne _ _ _ (by omega), upM_ne _ _ _ (by omega), upM_ne _ _ _ (by omega)]
  · intro q q1 q2
    rw [upM_self, va_up_neq _ _ q1, upM_self, va_up_neq _ _ q2, upM_ne _ _ _ (by decide), upM_ne _ _ _ (by decide), upM_ne _ _ _ (by decide), upM_ne _ _ _ (by decide)]
  · show (i : Int) + 1 = ((i + 1 : Nat) : Int)
    omega
  · exact hH.push rfl rfl
  · exact hup 116 k (M 116)
  · exact hup 117 a (M 117)
  · exact hup 118 b (M 118)
theorem c_leans {f : Mem → Prop} {M : Mem} {k a b : Int} {i : Nat} {H : List Nat} (hk : iR k) (ha : iR a) (hb : iR b) (h33 : M 98 33 = (i : Int)) (hi : i < 64) (hH : HdM H M) (hl : H.length < 96) (K : ∀ M', FrH M M' → (∀ c, c ≠ 98 → ¬ (110 ≤ c ∧ c ≤ 112) → c ≠ 120 → M' c = M c) → (∀ q, q ≠ 33 → q ≠ 43 → M' 98 q = M 98 q) → M' 98 33 = ((i + 1 : Nat) : Int) → HdM (i :: H) M' → upH M' 110 = va_up (upH M 110) i k → upH M' 111 = va_up (upH M 111) i a → upH M' 112 = va_up (upH M 112) i b → f M') : CV E mX11_leans [pR 98, pI k, pI a, pI b] M f := by
  apply vX11_leans_0
  rw [h33, hH.1, show ((64 : Int) + (i : Int)).toNat = 64 + i by omega, Int.toNat_natCast]
  have hup : ∀ (c : Nat) (v : Int) (g : Nat → Int), (fun q => va_up g (64 + i) v (64 + q)) = va_up (fun q => g (64 + q)) i v := by
    intro c v g
    funext q
    by_cases e : q = i
    · rw [e, va_up_self, va_up_self]
    · rw [va_up_neq _ _ (by omega), va_up_neq _ _ e]
  have e2 : 64 + (M 98 33).toNat ≤ 64 + i := by rw [h33]; omega
  have e3 : M 98 33 ≤ (i : Int) + 1 := by rw [h33]; omega
  refine fun _ => ⟨⟨by omega, by omega⟩, hk, fun _ => ⟨⟨by omega, by omega⟩, ha, fun _ => ⟨⟨by omega, by omega⟩, hb, fun _ _ => ⟨⟨by omega, by omega⟩, fun _ => ⟨⟨by omega, by omega⟩, fun _ => ⟨⟨by omega, by omega⟩, K _ (((((((FrH.uN _ (Or.inr (Or.inl ⟨by decide, e2⟩)))).tr (FrH.uN _ (Or.inr (Or.inl ⟨by decide, e2⟩)))).tr (FrH.uN _ (Or.inr (Or.inl ⟨by decide, e2⟩)))).tr (FrH.uA _ (by omega))).tr (FrH.u98 _ (by omega))).tr (FrH.u98c _ (by omega) (fun z => absurd z (by decide)) (fun z => e3))) ?_ ?_ ?_ ?_ ?_ ?_ ?_⟩⟩⟩⟩⟩⟩
  · intro c c1 c2 c3
    rw [upM_ne _ _ _ c1, upM_ne _ _ _ c1, upM_ne _ _ _ c3, upM_ne _ _ _ (by omega), upM_ne _ _ _ (by omega), upM_ne _ _ _ (by omega)]
  · intro q q1 q2
    rw [upM_self, va_up_neq _ _ q1, upM_self, va_up_neq _ _ q2, upM_ne _ _ _ (by decide), upM_ne _ _ _ (by decide), upM_ne _ _ _ (by decide), upM_ne _ _ _ (by decide)]
  · show (i : Int) + 1 = ((i + 1 : Nat) : Int)
    omega
  · exact hH.push rfl rfl
  · exact hup 110 k (M 110)
  · exact hup 111 a (M 111)
  · exact hup 112 b (M 112)
end FMLM
