/-! the class: door, scene, laws at a latch -/
def vC (s : Nat) (d : DS) (M : Mem) : Prop := M s 0 = dMi d ∧ M s 1 = (dRo d : Int) ∧ M s 2 = (dSe d : Int) ∧ M s 3 = dEf d ∧ M s 4 = dVa d ∧ M s 5 = dNu d ∧ ∀ i, i < 8 → M (s + 1) i = dWo d i
def lfE (env : Nat → Int) (k v : Int) : Int := if 17 ≤ k ∧ k ≤ 23 then env (k - 17).toNat else v
/-- the class's laws -/
def LwC (law : Lw) (M : Mem) : Prop := ∀ k, k < 3 → ∃ lo hi : Nat, M 30 (2 * k) = (lo : Int) ∧ M 30 (2 * k + 1) = (hi : Int) ∧ lo ≤ hi ∧ hi ≤ 64 ∧ ((lo = hi ∧ ∀ env, law k env = none) ∨ (lo < hi ∧ (∀ i, lo ≤ i → i < hi → iR (M 32 i) ∧ (rk (M 32 i) = 0 → (M 32 i = 37 ∧ 0 ≤ M 33 i ∧ M 33 i ≤ 9999) ∨ (17 ≤ M 32 i ∧ M 32 i ≤ 23))) ∧ ∀ env, one1 (evS (M 32) (M 33) (lfE env) (hi - lo) lo []) = law k env))
theorem LwC.congr {law : Lw} {M M' : Mem} (h : LwC law M) (h0 : M' 30 = M 30) (h2 : M' 32 = M 32) (h3 : M' 33 = M 33) : LwC law M' := by
  unfold LwC
  rw [h0, h2, h3]
  exact h
def CD (n : Nat) (may : Nat → Nat) (law : Lw) (rust : Int) (M : Mem) : Prop := M 21 1 = (n : Int) ∧ n ≤ 8 ∧ (∀ r, r < 2 ^ n → M 26 r = (may r : Int) ∧ may r < 2 ^ n) ∧ LwC law M ∧ M 21 15 = rust ∧ 0 ≤ rust ∧ rust ≤ 100
def OpC (o : Op) (M : Mem) : Prop := M 42 1 = bI (oDr o) ∧ oNs o = decide (M 42 2 = 0) ∧ oNl o = decide (M 42 2 = 1) ∧ oNo o = decide (M 42 2 = 3) ∧ oTw o = decide (M 42 2 = 4) ∧ M 42 3 = oId o
/-- all but a state, the clock's scene, the knots' stack stays -/
def FrC (s : Nat) (M M' : Mem) : Prop := ∀ a, a ≠ s → a ≠ s + 1 → a ≠ 43 → a ≠ 34 → M' a = M a
theorem FrC.rf (s : Nat) (M : Mem) : FrC s M M := fun _ _ _ _ _ => rfl
theorem FrC.tr {s : Nat} {M M1 M2 : Mem} (h1 : FrC s M M1) (h2 : FrC s M1 M2) : FrC s M M2 := fun a a1 a2 a3 a4 => (h2 a a1 a2 a3 a4).trans (h1 a a1 a2 a3 a4)
theorem FrC.u {s : Nat} (M : Mem) {a k : Nat} (v : Int) (h : a = s ∨ a = s + 1 ∨ a = 43 ∨ a = 34) : FrC s M (upM M a k v) := fun c a1 a2 a3 a4 => upM_ne M k v (by omega)
/-- all but the clock's scene and the knots' stack stays -/
def FrS (M M' : Mem) : Prop := ∀ a, a ≠ 43 → a ≠ 34 → M' a = M a
theorem FrS.toC {s : Nat} {M M' : Mem} (h : FrS M M') : FrC s M M' := fun a _ _ a3 a4 => h a a3 a4
theorem FrS.tr {M M1 M2 : Mem} (h1 : FrS M M1) (h2 : FrS M1 M2) : FrS M M2 := fun a a3 a4 => (h2 a a3 a4).trans (h1 a a3 a4)
theorem CD.fr {n s : Nat} {may : Nat → Nat} {law : Lw} {rust : Int} {M M' : Mem} (h : CD n may law rust M) (hs : s = 36 ∨ s = 38) (hF : FrC s M M') : CD n may law rust M' := by
  obtain ⟨h1, h2, h3, h4, h5, h6⟩ := h
  have e : ∀ a, a < 34 → M' a = M a := fun a ha => hF a (by omega) (by omega) (by omega) (by omega)
  exact ⟨by rw [e 21 (by decide)]; exact h1, h2, by rw [e 26 (by decide)]; exact h3, h4.congr (e 30 (by decide)) (e 32 (by decide)) (e 33 (by decide)), by rw [e 21 (by decide)]; exact h5, h6⟩
theorem OpC.fr {s : Nat} {o : Op} {M M' : Mem} (h : OpC o M) (hs : s = 36 ∨ s = 38) (hF : FrC s M M') : OpC o M' := by
  unfold OpC
  rw [hF 42 (by omega) (by omega) (by omega) (by omega)]
  exact h
theorem vC.frS {s : Nat} {d : DS} {M M' : Mem} (hs : s = 36 ∨ s = 38) (h : vC s d M) (hF : FrS M M') : vC s d M' := by
  unfold vC
  rw [hF s (by omega) (by omega), hF (s + 1) (by omega) (by omega)]
  exact h
section CLOCK
variable {E : Scr} {law : Lw} {may : Nat → Nat} {rust : Int} {n : Nat}
theorem c_has {f : Int → Mem → Prop} {M : Mem} {x : Int} {dd m : Nat} (hd : dd = 5 ∨ dd = 21) (hx : iR x) (hn : M dd 1 = (m : Int)) (hm : m ≤ 8) (h1 : ∀ l : Nat, x = (l : Int) → l < m → f 1 M) (h0 : ¬ (0 ≤ x ∧ x < m) → f 0 M) : CI E mX1_has [pR dd, pI x] M f := by
  apply vX1_has_0 _ hd
  rw [hn]
  exact ⟨hx, fun c => h0 (by omega), fun c _ => ⟨hx, fun z => h0 (by omega), fun z => ⟨hx, fun y => absurd y (by omega), fun y => h1 x.toNat (by omega) (by omega)⟩⟩⟩
theorem c_hasRow {f : Int → Mem → Prop} {M : Mem} {x : Int} {m : Nat} (hx : iR x) (hn : M 21 1 = (m : Int)) (hm : m ≤ 8) (h1 : ∀ r : Nat, x = (r : Int) → r < 2 ^ m → f 1 M) (h0 : ¬ (0 ≤ x ∧ x < ((2 ^ m : Nat) : Int)) → f 0 M) : CI E mX1_hasRow [pR 21, pI x] M f := by
  have hp := pw8 hm
  apply vX1_hasRow_0
  rw [hn, bOne_nat (by omega)]
  exact ⟨hx, fun c => h0 (by omega), fun c _ => ⟨hx, fun z => h0 (by omega), fun z => ⟨hx, fun y => absurd y (by omega), fun y => h1 x.toNat (by omega) (by omega)⟩⟩⟩
theorem c_movable {f : Int → Mem → Prop} {M : Mem} {r s : Nat} (hD : CD n may law rust M) (hr : r < 2 ^ n) (hs : s < 2147483648) (h : f ((andN (may r) s : Nat) : Int) M) : CI E mX1_movable [pR 21, pI (r : Int), pI (s : Int)] M f := by
  have hp := pw8 hD.2.1
  have hm := hD.2.2.1 r hr
  refine vX1_movable_0 _ _ (c_hasRow ⟨by omega, by omega⟩ hD.1 hD.2.1 (fun r' e hr' => ⟨⟨by decide, by decide⟩, fun z => absurd z (by decide), fun _ => ⟨⟨by omega, by omega⟩, fun _ => ?_⟩⟩) (fun z => absurd ⟨by omega, by omega⟩ z))
  rw [Int.toNat_natCast, hm.1, bAndN_nat (by omega) hs]
  exact h
theorem c_all {f : Int → Mem → Prop} {M : Mem} {dd m : Nat} (hd : dd = 5 ∨ dd = 21) (hn : M dd 1 = (m : Int)) (hm : m ≤ 8) (h : f ((2 ^ m - 1 : Nat) : Int) M) : CI E mX1_all [pR dd] M f := by
  have hp := Nat.two_pow_pos m
  apply vX1_all_0 hd
  rw [hn, bOne_nat (by omega)]
  intro _
  rwa [show ((2 ^ m : Nat) : Int) - 1 = ((2 ^ m - 1 : Nat) : Int) by omega]
theorem c_hasLaw {f : Int → Mem → Prop} {M : Mem} {dd k lo hi : Nat} (hd : dd = 5 ∨ dd = 21) (hk : k < 3) (hlo : M (dd + 9) (2 * k) = (lo : Int)) (hhi : M (dd + 9) (2 * k + 1) = (hi : Int)) (h1 : lo < hi → f 1 M) (h0 : hi ≤ lo → f 0 M) : CI E mX1_hasLaw [pR dd, pI (k : Int)] M f := by
  apply vX1_hasLaw_0 _ hd
  rw [show ((2 : Int) * (k : Int) + 1).toNat = 2 * k + 1 by omega, show ((2 : Int) * (k : Int)).toNat = 2 * k by omega, hlo, hhi]
  exact ⟨⟨by omega, by omega⟩, fun z => absurd z (by omega), fun _ => ⟨⟨by omega, by omega⟩, fun z => absurd z (by omega), fun _ => ⟨⟨by omega, by omega⟩, fun _ => ⟨⟨by omega, by omega⟩, fun _ => ⟨fun z => h0 (by omega), fun z => h1 (by omega)⟩⟩⟩⟩⟩
/-- the clock's scene as a latch is looked at -/
def ScE (d : DS) (l : Nat) (M : Mem) : Prop := M 43 0 = (dRo d : Int) ∧ M 43 1 = (l : Int) ∧ M 43 4 = dWo d l ∧ M 43 5 = ((pop (dSe d) : Nat) : Int) ∧ M 43 6 = dEf d ∧ M 43 7 = dMi d
theorem c_wornI {f : Int → Mem → Prop} {M : Mem} {s i : Nat} {w : Int} (hs : isSt s) (hi : i < 8) (hv : M (s + 1) i = w) (H : iR w → f w M) : CI E mX7_wornOf [pR s, pI (i : Int)] M f := by
  apply vX7_wornOf_0 _ hs
  rw [Int.toNat_natCast, hv]
  exact ⟨⟨by omega, by omega⟩, fun c => absurd c (by omega), fun _ => ⟨⟨by omega, by omega⟩, fun c => absurd c (by omega), fun _ => ⟨⟨by omega, by omega⟩, H⟩⟩⟩
theorem c_wornOf {f : Int → Mem → Prop} {M : Mem} {s : Nat} {x : Int} {d : DS} (hs : isSt s) (hx : iR x) (hv : vC s d M) (H : f (if 0 ≤ x ∧ x < 8 then dWo d x.toNat else 0) M) : CI E mX7_wornOf [pR s, pI x] M f := by
  refine vX7_wornOf_0 _ hs ⟨hx, fun c => ?_, fun c => ⟨hx, fun c2 => ?_, fun c2 => ⟨⟨by omega, c2⟩, fun _ => ?_⟩⟩⟩
  · rw [if_neg (by omega)] at H; exact H
  · rw [if_neg (by omega)] at H; exact H
  · rw [if_pos ⟨by omega, c2⟩] at H
    rw [hv.2.2.2.2.2.2 x.toNat (by omega)]; exact H
theorem c_wear {f : Mem → Prop} {M : Mem} {s i : Nat} {v : Int} (hs : isSt s) (hi : i < 8) (hr : iR v) (H : f (upM M (s + 1) i v)) : CV E mX7_wear [pR s, pI (i : Int), pI v] M f := by
  apply vX7_wear_0 _ _ hs
  rw [Int.toNat_natCast]
  exact ⟨⟨by omega, by omega⟩, fun c => absurd c (by omega), fun _ => ⟨⟨by omega, by omega⟩, fun c => absurd c (by omega), fun _ => ⟨⟨by omega, by omega⟩, hr, H⟩⟩⟩
theorem isSt_of {s : Nat} (hs : s = 36 ∨ s = 38) : isSt s := by
  rcases hs with rfl | rfl
  · exact isSt_36
  · exact isSt_38
theorem c_look {f : Mem → Prop} {M : Mem} {s l : Nat} {d : DS} (hs : s = 36 ∨ s = 38) (hl : l < n) (hn : n ≤ 8) (hw : wfD n d) (hv : vC s d M) (h : ∀ M', FrS M M' → ScE d l M' → f M') : CV E mX6_look [pR 43, pR s, pI (l : Int)] M f := by
  have hp := pw8 hn
  obtain ⟨v1, v2, v3, v4, v5, v6, v7⟩ := hv
  have hp2 : pop (dSe d) ≤ 17 := popN_le 17 _
  apply vX6_look_0 _ hs
  have hne : s ≠ 43 := by omega
  have hne1 : s + 1 ≠ 43 := by omega
  rw [v2]
  refine fun _ => ⟨⟨by omega, by omega⟩, c_wornI (w := dWo d l) (isSt_of hs) (by omega) (by rw [upM_ne _ _ _ hne1, upM_ne _ _ _ hne1]; exact v7 l (by omega)) (fun h9 => ⟨h9, ?_⟩)⟩
  simp only [upM_ne _ _ _ hne, upM_ne _ _ _ hne1]
  rw [v3]
  refine fun _ => c_bitCount (by have := hw.2.1; omega) ?_
  simp only [upM_ne _ _ _ hne, upM_ne _ _ _ hne1]
  rw [v4, v1]
  refine ⟨⟨by omega, by omega⟩, fun _ _ => h _ ?_ ?_⟩
  · intro a a1 _
    rw [upM_ne _ _ _ a1, upM_ne _ _ _ a1, upM_ne _ _ _ a1, upM_ne _ _ _ a1, upM_ne _ _ _ a1, upM_ne _ _ _ a1]
  · exact ⟨rfl, rfl, rfl, rfl, rfl, rfl⟩
theorem c_leafE {f : Int → Mem → Prop} {M : Mem} {d : DS} {l : Nat} {k v : Int} (hw : wfD n d) (hl : l < n) (hn : n ≤ 8) (hS : ScE d l M) (hk : k = 37 ∨ (17 ≤ k ∧ k ≤ 23)) (h : f (lfE (envD d l) k v) M) : CI E mX6_leaf [pR 43, pI k, pI v] M f := by
  have hp := pw8 hn
  obtain ⟨s0, s1, s4, s5, s6, s7⟩ := hS
  unfold lfE at h
  apply vX6_leaf_0 _ _ (Or.inr rfl)
  rw [s0, s1, s4, s5, s6, s7]
  refine ⟨⟨by omega, by omega⟩, fun e => absurd e (by omega), fun e => absurd e (by omega), fun e => absurd e (by omega), fun e => absurd e (by omega), ?_, ?_, ?_, ?_, ?_, ?_, ?_, ?_⟩
  · rintro rfl _; exact h
  · rintro rfl _; exact h
  · rintro rfl _
    exact c_bitCount (by have := hw.1; omega) h
  · rintro rfl _; exact h
  · rintro rfl _ _
    rw [bBit_nat (by have := hw.1; omega) (by omega)]
    exact h
  · rintro rfl _; exact h
  · rintro rfl _; exact h
  · intro e
    rw [if_neg (by omega)] at h
    exact h
theorem c_worthOf {f : Int → Mem → Prop} {M : Mem} {s l k : Nat} {d : DS} (hs : s = 36 ∨ s = 38) (hk : k < 3) (hl : l < n) (hw : wfD n d) (hD : CD n may law rust M) (hv : vC s d M) (H : ∀ M', FrS M M' → f (orM (law k (envD d l))) M') : CL E mX0_worthOf [pR 42, pR 21, pR s, pI (k : Int), pI (l : Int)] M f := by
  obtain ⟨lo, hi, h1, h2, h3, h4, h5⟩ := hD.2.2.2.1 k hk
  apply vX0_worthOf_0 _ _ hs
  refine c_hasLaw (dd := 21) (Or.inr rfl) hk h1 h2 (fun z => ?_) (fun z => ?_)
  · rcases h5 with h5 | ⟨-, h6, h7⟩
    · omega
    · refine ⟨⟨by decide, by decide⟩, fun _ => ?_, fun y => absurd y (by decide)⟩
      refine c_look hs hl hD.2.1 hw hv ?_
      intro M5 hF hS
      rw [show ((2 : Int) * (k : Int) + 1).toNat = 2 * k + 1 by omega, show ((2 : Int) * (k : Int)).toNat = 2 * k by omega, hF 30 (by decide) (by decide), h1, h2]
      refine ⟨⟨by omega, by omega⟩, fun _ => ⟨⟨by omega, by omega⟩, fun _ => ?_⟩⟩
      have r2 : M5 32 = M 32 := hF 32 (by decide) (by decide)
      have r3 : M5 33 = M 33 := hF 33 (by decide) (by decide)
      have hkk : ∀ i, lo ≤ i → i < hi → rk (M 32 i) = 0 → M 32 i = 37 ∨ (17 ≤ M 32 i ∧ M 32 i ≤ 23) := fun i a b c => by
        rcases (h6 i a b).2 c with q | q
        · exact Or.inl q.1
        · exact Or.inr q
      have henv := envD_b hw hl hD.2.1
      have hnn := hD.2.1
      have h36 := hw.2.2.2.2.2 l (by omega)
      have h33 := hw.2.2.1
      have h34 := hw.2.2.2.1
      have hp1 : pop (dRo d) ≤ 17 := popN_le 17 _
      have hp2 : pop (dSe d) ≤ 17 := popN_le 17 _
      have hbt := bt_lt (dRo d) l
      have envi : ∀ j, j < 7 → iR (envD d l j) := by
        intro j hj
        match j, hj with
        | 0, _ => show iR (dWo d l); omega
        | 1, _ => show iR (l : Int); omega
        | 2, _ => show iR ((pop (dRo d) : Nat) : Int); omega
        | 3, _ => show iR ((pop (dSe d) : Nat) : Int); omega
        | 4, _ => show iR ((bt (dRo d) l : Nat) : Int); omega
        | 5, _ => show iR (dEf d); omega
        | 6, _ => show iR (dMi d); omega
      refine c_worth (dd := 31) (sc := 43) (lf := lfE (envD d l)) (Or.inr ⟨rfl, rfl⟩) h3 h4 ?_ ?_ ?_ ?_
      · intro i a b; show iR (M5 32 i); rw [r2]; exact (h6 i a b).1
      · intro i a b c
        have c : rk (M5 32 i) = 0 := c
        show iR (lfE (envD d l) (M5 32 i) (M5 33 i))
        rw [r2] at c ⊢
        rw [r3]
        unfold lfE
        rcases (h6 i a b).2 c with q | q
        · rw [if_neg (by omega)]; exact ⟨by omega, by omega⟩
        · rw [if_pos q]; exact envi _ (by omega)
      · intro i a b c M1 f' hF1 hf
        have c : rk (M5 32 i) = 0 := c
        rw [r2] at c
        have hS1 : ScE d l M1 := by unfold ScE; rw [hF1 43 (by decide)]; exact hS
        refine c_leafE hw hl hD.2.1 hS1 ?_ hf
        show M5 32 i = 37 ∨ _
        rw [show M5 (31 + 1) i = M 32 i by rw [← r2]]
        exact hkk i a b c
      · intro M' hF'
        have hF2 : FrS M M' := hF.tr (fun a _ a4 => hF' a a4)
        have := H M' hF2
        rw [← h7 (envD d l)] at this
        show f (orM (one1 (evS (M5 32) (M5 33) (lfE (envD d l)) (hi - lo) lo []))) M'
        rw [r2, r3]
        exact this
  · rcases h5 with ⟨-, h6⟩ | h6
    · refine ⟨⟨by decide, by decide⟩, fun y => absurd rfl y, fun _ => ?_⟩
      have := H M (fun _ _ _ => rfl)
      rw [h6] at this
      exact this
    · omega
end CLOCK
