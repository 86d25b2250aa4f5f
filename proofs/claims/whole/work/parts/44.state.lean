/-! the class: a state taken over, undone -/
theorem vC.congr {s : Nat} {d : DS} {M M' : Mem} (h : vC s d M) (h0 : M' s = M s) (h1 : M' (s + 1) = M (s + 1)) : vC s d M' := by
  unfold vC
  rw [h0, h1]
  exact h
section STATE
variable {E : Scr} {n : Nat}
theorem c_takeC {f : Mem → Prop} {M : Mem} {ss oo : Nat} {d : DS} (hs : isSt ss) (ho : isSt oo) (hne : ss + 2 ≤ oo ∨ oo + 2 ≤ ss) (hv : vC oo d M) (H : ∀ M', (∀ a, a ≠ ss → a ≠ ss + 1 → M' a = M a) → vC ss d M' → f M') : CV E mX7_take [pR ss, pR oo] M f := by
  refine vX7_take_0 hs ho (by omega) (by omega) (fun _ _ _ _ _ _ => H _ ?_ ?_)
  · intro a a1 a2
    rw [cpM_ne _ a2, upM_ne _ _ _ a1, upM_ne _ _ _ a1, upM_ne _ _ _ a1, upM_ne _ _ _ a1, upM_ne _ _ _ a1, upM_ne _ _ _ a1]
  · obtain ⟨v1, v2, v3, v4, v5, v6, v7⟩ := hv
    unfold vC
    rw [cpM_ne _ (show ss ≠ ss + 1 by omega), cpM_self]
    have e1 : ∀ (M0 : Mem) (k : Nat) (v : Int), upM M0 ss k v (oo + 1) = M0 (oo + 1) := fun M0 k v => upM_ne _ _ _ (by omega)
    simp only [upM_self, e1]
    refine ⟨v1, v2, v3, v4, v5, v6, fun i hi => ?_⟩
    simp only [va_cpy]
    rw [if_pos ⟨by omega, by omega⟩, show 0 + (i - 0) = i by omega]
    exact v7 i hi
theorem c_clearU {f : Mem → Prop} {M : Mem} (H : ∀ M', (∀ a, a ≠ 44 → M' a = M a) → M' 44 5 = 0 → M' 44 6 = 0 → f M') : CV E mX9_clear [pR 44] M f := by
  refine vX9_clear_0 (H _ ?_ rfl rfl)
  intro a a1
  rw [upM_ne _ _ _ a1, upM_ne _ _ _ a1]
/-- row, sealed, effort, worn: what an undoing brings back -/
abbrev UE : Type := Nat × Nat × Int × (Nat → Int)
abbrev US : Type := Nat × (Nat → UE)
def ueD (d : DS) (e : UE) : DS := (dMi d, e.1, e.2.1, e.2.2.1, dVa d, dNu d, e.2.2.2)
def dUe (d : DS) : UE := (dRo d, dSe d, dEf d, dWo d)
theorem ueD_dUe (d : DS) : ueD d (dUe d) = d := rfl
def remU (u : US) (e : UE) : US := if u.1 = 20 then (20, fun i => if i = 19 then e else u.2 (i + 1)) else (u.1 + 1, fun i => if i = u.1 then e else u.2 i)
/-- one undoing as it lies in the class, and how often the latches are worn behind it -/
def URow (at9 : Nat) (e : UE) (w : Nat → Int) (M : Mem) : Prop := M 45 at9 = (e.1 : Int) ∧ M 46 at9 = (e.2.1 : Int) ∧ M 47 at9 = e.2.2.1 ∧ ∃ l : Nat, l < 8 ∧ M 48 at9 = (l : Int) ∧ M 49 at9 = e.2.2.2 l ∧ ∀ j, j < 8 → j ≠ l → e.2.2.2 j = w j
theorem URow.to {at9 : Nat} {e : UE} {w w' : Nat → Int} {M M' : Mem} (h : URow at9 e w M) (e5 : M' 45 at9 = M 45 at9) (e6 : M' 46 at9 = M 46 at9) (e7 : M' 47 at9 = M 47 at9) (e8 : M' 48 at9 = M 48 at9) (e9 : M' 49 at9 = M 49 at9) (hw : ∀ j, j < 8 → w' j = w j) : URow at9 e w' M' := by
  obtain ⟨h1, h2, h3, l, h4, h5, h6, h7⟩ := h
  exact ⟨by rw [e5]; exact h1, by rw [e6]; exact h2, by rw [e7]; exact h3, l, h4, by rw [e8]; exact h5, by rw [e9]; exact h6, fun j a b => by rw [hw j a]; exact h7 j a b⟩
/-- how often the latches are worn behind the i-th -/
def nxW (u : US) (d : DS) (i : Nat) : Nat → Int := if i + 1 = u.1 then dWo d else (u.2 (i + 1)).2.2.2
def UC (u : US) (d : DS) (M : Mem) : Prop := u.1 ≤ 20 ∧ ∃ o : Nat, o < 20 ∧ M 44 5 = (o : Int) ∧ M 44 6 = (u.1 : Int) ∧ ∀ i, i < u.1 → URow ((o + i) % 20) (u.2 i) (nxW u d i) M
theorem UC.congr {u : US} {d : DS} {M M' : Mem} (h : UC u d M) (e : ∀ a, 44 ≤ a → a < 86 → M' a = M a) : UC u d M' := by
  obtain ⟨h1, o, h2, h3, h4, h5⟩ := h
  refine ⟨h1, o, h2, by rw [e 44 (by decide) (by decide)]; exact h3, by rw [e 44 (by decide) (by decide)]; exact h4, fun i hi => (h5 i hi).to ?_ ?_ ?_ ?_ ?_ (fun _ _ => rfl)⟩
  · rw [e 45 (by decide) (by decide)]
  · rw [e 46 (by decide) (by decide)]
  · rw [e 47 (by decide) (by decide)]
  · rw [e 48 (by decide) (by decide)]
  · rw [e 49 (by decide) (by decide)]
theorem UC.dd {u : US} {d d' : DS} {M : Mem} (h : UC u d M) (e : ∀ j, j < 8 → dWo d' j = dWo d j) : UC u d' M := by
  obtain ⟨h1, o, h2, h3, h4, h5⟩ := h
  refine ⟨h1, o, h2, h3, h4, fun i hi => (h5 i hi).to rfl rfl rfl rfl rfl (fun j hj => ?_)⟩
  unfold nxW
  by_cases c : i + 1 = u.1
  · rw [if_pos c, if_pos c]; exact e j hj
  · rw [if_neg c, if_neg c]
theorem UC.zero {u : US} {d : DS} {M : Mem} (h0 : u.1 = 0) (h1 : M 44 5 = 0) (h2 : M 44 6 = 0) : UC u d M := ⟨by omega, 0, by decide, h1, by rw [h2, h0]; rfl, fun i hi => by omega⟩
theorem tmodN {a : Nat} : Int.tmod (a : Int) 20 = ((a % 20 : Nat) : Int) := by
  rw [Int.tmod_eq_emod_of_nonneg (by omega)]; omega
theorem c_floorMod {f : Int → Mem → Prop} {M : Mem} {a : Nat} (ha : a < 1000) (H : f ((a % 20 : Nat) : Int) M) : CI E mJ9_floorMod_7cf53 [pI (a : Int), pI 20] M f := by
  apply vJ9_floorMod_7cf53_0
  rw [tmodN, show bXor (a : Int) 20 = ((a ^^^ 20 : Nat) : Int) from bXor_nat (b := 20) (by omega) (by decide)]
  exact ⟨⟨by omega, by omega⟩, ⟨by decide, by decide⟩, by decide, fun _ => H, fun z => absurd z (by omega)⟩
/-- a row is laid -/
def lyU (M : Mem) (t : Nat) (d : DS) (l : Nat) (k : Int) : Mem := upM (upM (upM (upM (upM (upM M 45 t (dRo d : Int)) 46 t (dSe d : Int)) 47 t (dEf d)) 48 t (l : Int)) 49 t (dWo d l)) 44 6 k
theorem lyU_new {M : Mem} {t l : Nat} {d : DS} {w : Nat → Int} {k : Int} (hl : l < 8) (hw : ∀ j, j < 8 → j ≠ l → w j = dWo d j) : URow t (dUe d) w (lyU M t d l k) := by
  refine ⟨?_, ?_, ?_, l, hl, ?_, ?_, fun j a b => (hw j a b).symm⟩
  · unfold lyU
    rw [upM_ne _ _ _ (by decide), upM_ne _ _ _ (by decide), upM_ne _ _ _ (by decide), upM_ne _ _ _ (by decide), upM_ne _ _ _ (by decide), upM_self, va_up_self]; rfl
  · unfold lyU
    rw [upM_ne _ _ _ (by decide), upM_ne _ _ _ (by decide), upM_ne _ _ _ (by decide), upM_ne _ _ _ (by decide), upM_self, va_up_self]; rfl
  · unfold lyU
    rw [upM_ne _ _ _ (by decide), upM_ne _ _ _ (by decide), upM_ne _ _ _ (by decide), upM_self, va_up_self]; rfl
  · unfold lyU
    rw [upM_ne _ _ _ (by decide), upM_ne _ _ _ (by decide), upM_self, va_up_self]
  · unfold lyU
    rw [upM_ne _ _ _ (by decide), upM_self, va_up_self]; rfl
theorem lyU_old {M : Mem} {t l s : Nat} {d : DS} {e : UE} {w w' : Nat → Int} {k : Int} (h : URow s e w M) (hs : s ≠ t) (hw : ∀ j, j < 8 → w' j = w j) : URow s e w' (lyU M t d l k) := by
  refine h.to ?_ ?_ ?_ ?_ ?_ hw
  · unfold lyU
    rw [upM_ne _ _ _ (by decide), upM_ne _ _ _ (by decide), upM_ne _ _ _ (by decide), upM_ne _ _ _ (by decide), upM_ne _ _ _ (by decide), upM_self, va_up_neq _ _ hs]
  · unfold lyU
    rw [upM_ne _ _ _ (by decide), upM_ne _ _ _ (by decide), upM_ne _ _ _ (by decide), upM_ne _ _ _ (by decide), upM_self, va_up_neq _ _ hs, upM_ne _ _ _ (by decide)]
  · unfold lyU
    rw [upM_ne _ _ _ (by decide), upM_ne _ _ _ (by decide), upM_ne _ _ _ (by decide), upM_self, va_up_neq _ _ hs, upM_ne _ _ _ (by decide), upM_ne _ _ _ (by decide)]
  · unfold lyU
    rw [upM_ne _ _ _ (by decide), upM_ne _ _ _ (by decide), upM_self, va_up_neq _ _ hs, upM_ne _ _ _ (by decide), upM_ne _ _ _ (by decide), upM_ne _ _ _ (by decide)]
  · unfold lyU
    rw [upM_ne _ _ _ (by decide), upM_self, va_up_neq _ _ hs, upM_ne _ _ _ (by decide), upM_ne _ _ _ (by decide), upM_ne _ _ _ (by decide), upM_ne _ _ _ (by decide)]
theorem lyU_44 {M : Mem} {t l : Nat} {d : DS} {k : Int} : lyU M t d l k 44 5 = M 44 5 ∧ lyU M t d l k 44 6 = k := by
  unfold lyU
  rw [upM_self, va_up_neq _ _ (by decide), va_up_self, upM_ne _ _ _ (by decide), upM_ne _ _ _ (by decide), upM_ne _ _ _ (by decide), upM_ne _ _ _ (by decide), upM_ne _ _ _ (by decide)]
  exact ⟨rfl, rfl⟩
theorem lyU_ne {M : Mem} {t l a : Nat} {d : DS} {k : Int} (ha : a < 44 ∨ 49 < a) : lyU M t d l k a = M a := by
  unfold lyU
  rw [upM_ne _ _ _ (by omega), upM_ne _ _ _ (by omega), upM_ne _ _ _ (by omega), upM_ne _ _ _ (by omega), upM_ne _ _ _ (by omega), upM_ne _ _ _ (by omega)]
theorem c_rem34 {f : Mem → Prop} {M : Mem} {d : DS} {l o k : Nat} (hl : l < 8) (h5 : M 44 5 = (o : Int)) (h6 : M 44 6 = (k : Int)) (ho : o < 20) (hk : k < 20) (hv : vC 36 d M) (H : f (lyU M ((o + k) % 20) d l ((k : Int) + 1))) : KW E mX9_remember (qV f) M 34 [(0, pR 44), (1, pR 36), (2, pI (l : Int))] [] := by
  obtain ⟨v1, v2, v3, v4, v5, v6, v7⟩ := id hv
  apply vX9_remember_34
  rw [h5, h6, show (o : Int) + (k : Int) = ((o + k : Nat) : Int) by omega]
  refine fun _ _ => c_floorMod (by omega) ?_
  have hm : (o + k) % 20 < 20 := Nat.mod_lt _ (by decide)
  unfold lyU at H
  generalize (o + k) % 20 = t at hm H ⊢
  rw [v2, v3, v4, Int.toNat_natCast]
  refine fun _ => ⟨⟨by omega, by omega⟩, fun _ => ⟨⟨by omega, by omega⟩, fun _ => ⟨⟨by omega, by omega⟩, ⟨by omega, by omega⟩, ⟨by omega, by omega⟩, ?_⟩⟩⟩
  refine c_wornI (w := dWo d l) isSt_36 hl ?_ (fun h9 => ⟨⟨by omega, by omega⟩, h9, ?_⟩)
  · rw [upM_ne _ _ _ (by decide), upM_ne _ _ _ (by decide), upM_ne _ _ _ (by decide), upM_ne _ _ _ (by decide)]; exact v7 l hl
  · have e : (upM (upM (upM (upM M 45 t (dRo d : Int)) 46 t (dSe d : Int)) 47 t (dEf d)) 48 t (l : Int)) 44 6 = (k : Int) := by
      rw [upM_ne _ _ _ (by decide), upM_ne _ _ _ (by decide), upM_ne _ _ _ (by decide), upM_ne _ _ _ (by decide)]; exact h6
    have e2 : (upM (upM (upM (upM (upM M 45 t (dRo d : Int)) 46 t (dSe d : Int)) 47 t (dEf d)) 48 t (l : Int)) 49 t (dWo d l)) 44 6 = (k : Int) := by
      rw [upM_ne _ _ _ (by decide)]; exact e
    first
      | rw [e2]
        exact fun _ => ⟨⟨by omega, by omega⟩, H⟩
      | rw [e]
        exact fun _ => ⟨⟨by omega, by omega⟩, H⟩
theorem c_rememberC {f : Mem → Prop} {M : Mem} {d : DS} {u : US} {l : Nat} (hl : l < 8) (hu : UC u d M) (hv : vC 36 d M) (H : ∀ M', (∀ a, ¬ (44 ≤ a ∧ a < 86) → M' a = M a) → (∀ d' : DS, (∀ j, j < 8 → j ≠ l → dWo d' j = dWo d j) → UC (remU u (dUe d)) d' M') → f M') : CV E mX9_remember [pR 44, pR 36, pI (l : Int)] M f := by
  obtain ⟨h1, o, h2, h3, h4, h5⟩ := hu
  apply vX9_remember_0
  rw [h4, h3]
  refine fun _ => ⟨fun c => ?_, fun c _ => ?_⟩
  · refine c_rem34 hl h3 h4 h2 (by omega) hv (H _ (fun a ha => lyU_ne (by omega)) (fun d' hd => ?_))
    unfold remU
    rw [if_neg (by omega)]
    refine ⟨by show u.1 + 1 ≤ 20; omega, o, h2, by rw [lyU_44.1]; exact h3, by rw [lyU_44.2]; show _ = ((u.1 + 1 : Nat) : Int); omega, fun i hi => ?_⟩
    have hi' : i < u.1 + 1 := hi
    show URow _ (if i = u.1 then dUe d else u.2 i) _ _
    by_cases hiu : i = u.1
    · rw [if_pos hiu, hiu]
      refine lyU_new hl (fun j a b => ?_)
      unfold nxW
      rw [if_pos rfl]
      exact hd j a b
    · rw [if_neg hiu]
      refine lyU_old (h5 i (by omega)) (by omega) (fun j hj => ?_)
      unfold nxW
      rw [if_neg (show ¬ i + 1 = u.1 + 1 by omega)]
      show (if i + 1 = u.1 then dUe d else u.2 (i + 1)).2.2.2 j = _
      by_cases c2 : i + 1 = u.1
      · rw [if_pos c2, if_pos c2]; rfl
      · rw [if_neg c2, if_neg c2]
  · have hu20 : u.1 = 20 := by omega
    rw [show (o : Int) + 1 = ((o + 1 : Nat) : Int) by omega]
    refine c_floorMod (by omega) ?_
    have hm0 : (o + 1) % 20 < 20 := Nat.mod_lt _ (by decide)
    rw [h4, hu20]
    refine ⟨⟨by omega, by omega⟩, fun _ => ⟨⟨by decide, by decide⟩, ?_⟩⟩
    refine c_rem34 (o := (o + 1) % 20) (k := 19) hl ?_ ?_ hm0 (by decide) (hv.congr ?_ ?_) (H _ (fun a ha => ?_) (fun d' hd => ?_))
    · rw [upM_self, va_up_neq _ _ (by decide), upM_self, va_up_self]
    · rw [upM_self, va_up_self]; rfl
    · rw [upM_ne _ _ _ (by decide), upM_ne _ _ _ (by decide)]
    · rw [upM_ne _ _ _ (by decide), upM_ne _ _ _ (by decide)]
    · rw [lyU_ne (by omega), upM_ne _ _ _ (by omega), upM_ne _ _ _ (by omega)]
    · unfold remU
      rw [if_pos hu20]
      refine ⟨by show 20 ≤ 20; omega, (o + 1) % 20, hm0, by rw [lyU_44.1, upM_self, va_up_neq _ _ (by decide), upM_self, va_up_self], by rw [lyU_44.2]; rfl, fun i hi => ?_⟩
      have hi' : i < 20 := hi
      show URow _ (if i = 19 then dUe d else u.2 (i + 1)) _ _
      by_cases hiu : i = 19
      · rw [if_pos hiu, hiu]
        refine lyU_new hl (fun j a b => ?_)
        unfold nxW
        rw [if_pos rfl]
        exact hd j a b
      · rw [if_neg hiu]
        have h9 := h5 (i + 1) (by omega)
        rw [show (o + (i + 1)) % 20 = ((o + 1) % 20 + i) % 20 by omega] at h9
        refine lyU_old (h9.to ?_ ?_ ?_ ?_ ?_ (fun _ _ => rfl)) (by omega) (fun j hj => ?_)
        · rw [upM_ne _ _ _ (by decide), upM_ne _ _ _ (by decide)]
        · rw [upM_ne _ _ _ (by decide), upM_ne _ _ _ (by decide)]
        · rw [upM_ne _ _ _ (by decide), upM_ne _ _ _ (by decide)]
        · rw [upM_ne _ _ _ (by decide), upM_ne _ _ _ (by decide)]
        · rw [upM_ne _ _ _ (by decide), upM_ne _ _ _ (by decide)]
        · unfold nxW
          rw [if_neg (show ¬ i + 1 = 20 by omega)]
          show (if i + 1 = 19 then dUe d else u.2 (i + 1 + 1)).2.2.2 j = _
          by_cases c2 : i + 1 = 19
          · rw [if_pos c2, if_pos (by omega)]; rfl
          · rw [if_neg c2, if_neg (by omega)]
theorem c_takeBackC {f : Int → Mem → Prop} {M : Mem} {d : DS} {u : US} (hu : UC u d M) (hv : vC 36 d M) (H0 : u.1 = 0 → f (-1) M) (H : ∀ M' i, u.1 = i + 1 → (∀ a, a ≠ 36 → a ≠ 37 → a ≠ 44 → M' a = M a) → UC (i, u.2) (ueD d (u.2 i)) M' → vC 36 (ueD d (u.2 i)) M' → f (i : Int) M') : CI E mX9_takeBack [pR 44, pR 36] M f := by
  obtain ⟨h1, o, h2, h3, h4, h5⟩ := hu
  apply vX9_takeBack_0
  rw [h4, h3]
  refine fun _ => ⟨fun c _ => ⟨⟨by omega, by omega⟩, fun _ _ => ?_⟩, fun c => H0 (by omega)⟩
  obtain ⟨i, hi⟩ : ∃ i, u.1 = i + 1 := ⟨u.1 - 1, by omega⟩
  rw [show (u.1 : Int) - 1 = (i : Int) by omega, show (o : Int) + (i : Int) = ((o + i : Nat) : Int) by omega]
  refine c_floorMod (by omega) ?_
  have hm : (o + i) % 20 < 20 := Nat.mod_lt _ (by decide)
  have hrow := h5 i (by omega)
  have hold : ∀ j, j < i → (o + j) % 20 ≠ (o + i) % 20 := fun j hj => by omega
  obtain ⟨r5, r6, r7, l, hl, r8, r9, rw9⟩ := hrow
  generalize (o + i) % 20 = t at hm r5 r6 r7 r8 r9 hold ⊢
  rw [Int.toNat_natCast]
  simp only [upM_ne M 6 (i : Int) (show 45 ≠ 44 by decide), upM_ne M 6 (i : Int) (show 46 ≠ 44 by decide), upM_ne M 6 (i : Int) (show 47 ≠ 44 by decide), upM_ne M 6 (i : Int) (show 48 ≠ 44 by decide), upM_ne M 6 (i : Int) (show 49 ≠ 44 by decide)]
  rw [r5, r6, r7, r8, r9]
  refine ⟨⟨by omega, by omega⟩, fun _ => ⟨⟨by omega, by omega⟩, fun _ => ⟨⟨by omega, by omega⟩, fun _ => ⟨⟨by omega, by omega⟩, fun _ => ⟨⟨by omega, by omega⟩, fun q9 => ?_⟩⟩⟩⟩⟩
  refine c_wear isSt_36 hl q9 ?_
  generalize hM : upM (upM (upM (upM (upM M 44 6 (i : Int)) 36 1 ((u.2 i).1 : Int)) 36 2 ((u.2 i).2.1 : Int)) 36 3 (u.2 i).2.2.1) (36 + 1) l ((u.2 i).2.2.2 l) = M1
  have ne : ∀ a, a ≠ 36 → a ≠ 37 → a ≠ 44 → M1 a = M a := fun a a1 a2 a3 => by
    rw [← hM, upM_ne _ _ _ a2, upM_ne _ _ _ a1, upM_ne _ _ _ a1, upM_ne _ _ _ a1, upM_ne _ _ _ a3]
  have e44 : M1 44 = upM M 44 6 (i : Int) 44 := by
    rw [← hM, upM_ne _ _ _ (by decide), upM_ne _ _ _ (by decide), upM_ne _ _ _ (by decide), upM_ne _ _ _ (by decide)]
  have e446 : M1 44 6 = (i : Int) := by rw [e44, upM_self, va_up_self]
  rw [e446]
  refine fun _ => H M1 i hi ne ?_ ?_
  · refine ⟨by show i ≤ 20; omega, o, h2, by rw [e44, upM_self, va_up_neq _ _ (by decide)]; exact h3, e446, fun j hj => ?_⟩
    have hj' : j < i := hj
    refine (h5 j (by omega)).to ?_ ?_ ?_ ?_ ?_ (fun q _ => ?_)
    · rw [ne 45 (by decide) (by decide) (by decide)]
    · rw [ne 46 (by decide) (by decide) (by decide)]
    · rw [ne 47 (by decide) (by decide) (by decide)]
    · rw [ne 48 (by decide) (by decide) (by decide)]
    · rw [ne 49 (by decide) (by decide) (by decide)]
    · unfold nxW
      rw [if_neg (show ¬ j + 1 = u.1 by omega)]
      by_cases c2 : j + 1 = i
      · rw [if_pos (show j + 1 = (i, u.2).1 from c2), ← c2]; rfl
      · rw [if_neg (show ¬ j + 1 = (i, u.2).1 from c2)]
  · obtain ⟨v1, v2, v3, v4, v5, v6, v7⟩ := hv
    have k : ∀ q, q ≠ 1 → q ≠ 2 → q ≠ 3 → M1 36 q = M 36 q := fun q q1 q2 q3 => by
      rw [← hM, upM_ne _ _ _ (by decide), upM_self, va_up_neq _ _ q3, upM_self, va_up_neq _ _ q2, upM_self, va_up_neq _ _ q1, upM_ne _ _ _ (by decide)]
    refine ⟨by rw [k 0 (by decide) (by decide) (by decide)]; exact v1, ?_, ?_, ?_, by rw [k 4 (by decide) (by decide) (by decide)]; exact v5, by rw [k 5 (by decide) (by decide) (by decide)]; exact v6, fun j hj => ?_⟩
    · rw [← hM, upM_ne _ _ _ (by decide), upM_self, va_up_neq _ _ (by decide), upM_self, va_up_neq _ _ (by decide), upM_self, va_up_self]; rfl
    · rw [← hM, upM_ne _ _ _ (by decide), upM_self, va_up_neq _ _ (by decide), upM_self, va_up_self]; rfl
    · rw [← hM, upM_ne _ _ _ (by decide), upM_self, va_up_self]; rfl
    · show M1 37 j = (u.2 i).2.2.2 j
      rw [← hM, upM_self]
      by_cases c2 : j = l
      · subst c2; rw [va_up_self]
      · rw [va_up_neq _ _ c2, upM_ne _ _ _ (by decide), upM_ne _ _ _ (by decide), upM_ne _ _ _ (by decide), upM_ne _ _ _ (by decide), rw9 j hj c2]
        unfold nxW
        rw [if_pos (by omega)]
        exact v7 j hj
end STATE
