/-! the reference's table: one leaning after another -/
def ctg : Nat → List LF → Nat → Prop
  | b, [], z => b = z
  | b, e :: l, z => e.2.2.2 = b ∧ ctg (b + e.2.1.length) l z
theorem ctg_sn {e : LF} : ∀ (l : List LF) (b z : Nat), ctg b l z → e.2.2.2 = z → ctg b (l ++ [e]) (z + e.2.1.length) := by
  intro l
  induction l with
  | nil => intro b z h1 h2; have h1' : b = z := h1
           exact ⟨by rw [h1']; exact h2, by rw [h1']; rfl⟩
  | cons a l ih => intro b z h1 h2; exact ⟨h1.1, ih _ _ h1.2 h2⟩
def PK (s : PSt) : Prop := ctg 0 (sLf s) (sLk s)
section SEGM
variable {bs : BF} {L : Nat} {s r : PSt}
theorem PK.line (h : PK s) (e : lineP bs L s = Sum.inr r) : PK r := by
  unfold lineP at e
  by_cases c0 : tK (sT s) = 0
  · rw [if_pos c0] at e
    unfold latchP at e
    simp only at e
    repeat' split at e
    all_goals first
      | (have e' := Sum.inr.inj e; subst e'; exact h)
      | exact absurd e (by simp)
  rw [if_neg c0] at e
  by_cases c1 : tK (sT s) = 1
  · rw [if_pos c1] at e
    unfold leanP at e
    simp only at e
    by_cases d1 : tK (tok bs L (tN (sT s))) ≠ 38
    · rw [if_pos d1] at e; exact absurd e (by simp)
    rw [if_neg d1] at e
    by_cases d2 : findN (sM s) (tV (tok bs L (tN (sT s)))) (sN s) 0 = -1
    · rw [if_pos d2] at e; exact absurd e (by simp)
    rw [if_neg d2] at e
    by_cases d3 : (sLn s).testBit (findN (sM s) (tV (tok bs L (tN (sT s)))) (sN s) 0).toNat = true
    · rw [if_pos d3] at e; exact absurd e (by simp)
    rw [if_neg d3] at e
    cases ef : fml bs L (findN (sM s) (tV (tok bs L (tN (sT s)))) (sN s) 0) (sN s) (sM s) (sLn s) (L + 1) (fmS (tok bs L (tN (tok bs L (tN (sT s))))) (sC s) (sLt s)) with
    | inl w => rw [ef] at e; exact absurd e (by simp)
    | inr q =>
      rw [ef] at e
      have e' := Sum.inr.inj e
      subst e'
      exact ctg_sn (e := (_, fU q, (sAl s).length, sLk s)) (sLf s) 0 (sLk s) h rfl
  rw [if_neg c1] at e
  by_cases c2 : tK (sT s) = 2
  · rw [if_pos c2] at e
    unfold pushP at e
    simp only at e
    repeat' split at e
    all_goals first
      | (have e' := Sum.inr.inj e; subst e'; exact h)
      | exact absurd e (by simp)
  rw [if_neg c2] at e
  by_cases c3 : tK (sT s) = 3
  · rw [if_pos c3] at e
    unfold oilP at e
    simp only at e
    repeat' split at e
    all_goals first
      | (have e' := Sum.inr.inj e; subst e'; exact h)
      | exact absurd e (by simp)
  rw [if_neg c3] at e
  by_cases c4 : tK (sT s) = 4
  · rw [if_pos c4] at e
    unfold rustP at e
    simp only at e
    repeat' split at e
    all_goals first
      | (have e' := Sum.inr.inj e; subst e'; exact h)
      | exact absurd e (by simp)
  rw [if_neg c4] at e
  by_cases c5 : tK (sT s) = 5
  · rw [if_pos c5] at e
    unfold seedP at e
    simp only at e
    repeat' split at e
    all_goals first
      | (have e' := Sum.inr.inj e; subst e'; exact h)
      | exact absurd e (by simp)
  rw [if_neg c5] at e
  by_cases c6 : tK (sT s) = 6
  · rw [if_pos c6] at e
    unfold lawP at e
    simp only at e
    repeat' split at e
    all_goals first
      | (have e' := Sum.inr.inj e; subst e'; exact h)
      | exact absurd e (by simp)
  rw [if_neg c6] at e
  exact absurd e (by simp)
theorem txt_PK : ∀ (j m m' : Nat) (s r : PSt), PK s → txtP bs L j m s = Sum.inr (r, m') → PK r := by
  intro j
  induction j with
  | zero => intro m m' s r h1 e; simp only [txtP] at e; cases e; exact h1
  | succ j ih =>
    intro m m' s r h1 e
    simp only [txtP] at e
    by_cases c : tK (sT s) = 39
    · rw [if_pos c] at e; cases e; exact h1
    rw [if_neg c] at e
    cases el : lineE bs L s with
    | inl w => rw [el] at e; exact absurd e (by simp)
    | inr q =>
      rw [el] at e
      refine ih (m + 1) m' q r ?_ e
      unfold lineE at el
      cases e2 : lineP bs L s with
      | inl w => rw [e2] at el; exact absurd el (by simp)
      | inr y =>
        rw [e2] at el
        simp only at el
        by_cases c24 : tK (sT y) = 24
        · rw [if_pos c24] at el
          have e' := Sum.inr.inj el
          subst e'
          have := h1.line e2
          exact this
        · rw [if_neg c24] at el; exact absurd el (by simp)
theorem PK.zero : PK (ps0 bs L) := rfl
end SEGM
def vB (g : Int → Int → Bool) (so : Nat → Bool) (e : Int × Int) (H : List Nat) : Bool := if e.1 = 12 then (match H with
      | a :: _ => !so a
      | [] => false)
    else if e.1 = 11 then (match H with
      | b :: a :: _ => so a && so b
      | _ => false)
    else if e.1 = 10 then (match H with
      | b :: a :: _ => so a || so b
      | _ => false)
    else g e.1 e.2
theorem evB_vB {n : Nat} {g : Int → Int → Bool} {so : Nat → Bool} {e : Int × Int} {P : KL} {H : List Nat} {m : Nat} (he : okB n e) (hd : dpF H.length (e :: P) = some m) : evB g (e :: P) (H.map so) = evB g P (vB g so e H :: (H.drop (sdN e.1)).map so) ∧ dpF (H.drop (sdN e.1)).length.succ P = some m := by
  simp only [dpF] at hd
  simp only [evB]
  unfold vB
  by_cases c12 : e.1 = 12
  · have es : sdN e.1 = 1 := by unfold sdN; rw [if_pos c12]
    rw [es] at hd
    rw [if_pos c12, if_pos c12, es]
    match H, hd with
    | [], hd => exact absurd hd (by simp)
    | a :: G, hd =>
      rw [if_pos (by rw [List.length_cons]; omega)] at hd
      exact ⟨rfl, hd⟩
  rw [if_neg c12, if_neg c12]
  by_cases c11 : e.1 = 11
  · have es : sdN e.1 = 2 := by rw [c11]; decide
    rw [es] at hd
    rw [if_pos c11, if_pos c11, es]
    match H, hd with
    | [], hd => exact absurd hd (by simp)
    | [_], hd => exact absurd hd (by simp)
    | b :: a :: G, hd =>
      rw [if_pos (by rw [List.length_cons, List.length_cons]; omega)] at hd
      exact ⟨rfl, hd⟩
  rw [if_neg c11, if_neg c11]
  by_cases c10 : e.1 = 10
  · have es : sdN e.1 = 2 := by rw [c10]; decide
    rw [es] at hd
    rw [if_pos c10, if_pos c10, es]
    match H, hd with
    | [], hd => exact absurd hd (by simp)
    | [_], hd => exact absurd hd (by simp)
    | b :: a :: G, hd =>
      rw [if_pos (by rw [List.length_cons, List.length_cons]; omega)] at hd
      exact ⟨rfl, hd⟩
  rw [if_neg c10, if_neg c10]
  have es := (okB_rk he c12 c11 c10).2
  rw [es] at hd ⊢
  rw [if_pos (Nat.zero_le _)] at hd
  exact ⟨rfl, hd⟩
theorem evB_len {n : Nat} {g : Int → Int → Bool} {P : KL} {m : Nat} (h : ∀ e, e ∈ P → okB n e) (hd : dpF 0 P = some m) : (evB g P []).length = m :=
  (evS_B (n := n) (kd := fun q => ((P[q]?).getD (0, 0)).1) (vl := fun q => ((P[q]?).getD (0, 0)).2) (lf := fun k v => bI (g k v)) (g := g) P 0 [] m (fun q e he => by
    show ((P[0 + q]?).getD (0, 0)).1 = e.1 ∧ ((P[0 + q]?).getD (0, 0)).2 = e.2
    rw [Nat.zero_add, he]; exact ⟨rfl, rfl⟩) h (fun _ _ _ => rfl) hd).2
theorem hst_head : ∀ (P : KL) (i : Nat) (H : List Nat), P ≠ [] → ∃ T, hst i H P = (i + P.length - 1) :: T := by
  intro P
  induction P with
  | nil => intro i H h; exact absurd rfl h
  | cons e P ih =>
    intro i H _
    match P, ih with
    | [], _ => exact ⟨H.drop (sdN e.1), rfl⟩
    | a :: Q, ih =>
      obtain ⟨T, hT⟩ := ih (i + 1) (i :: H.drop (sdN e.1)) (by simp)
      refine ⟨T, ?_⟩
      show hst (i + 1) (i :: H.drop (sdN e.1)) (a :: Q) = _
      rw [hT]
      congr 1
      simp only [List.length_cons]; omega
section SEGM2
variable {E : Scr}
theorem c_isSo {f : Int → Mem → Prop} {M : Mem} {i x l n op : Nat} {k v c : Int} {H : List Nat} {so : Nat → Bool} {rt : Nat → Nat} (hi : i < 64) (hx : x < 256) (hn : n ≤ 8) (hl : l < 8) (hc : c = ((pop (andN x (2 ^ l)) : Nat) : Int)) (hnd : ndL rt (M 110) (M 111) (M 112) i k v H) (hok : okB n (k, v)) (hH : ∀ a, a ∈ H → a < 64 ∧ M 124 a = bI (so a)) (h16 : k = 16 → rt v.toNat < 64 ∧ M 124 (rt v.toNat) = bI (op.testBit v.toNat)) (K : f (bI (vB (lfB x c op) so (k, v) H)) M) : CI E mX11_isSo [pR 98, pI (i : Int), pI (x : Int), pI (l : Int)] M f := by
  apply vX11_isSo_0
  rw [Int.toNat_natCast]
  have zb : ∀ b : Bool, zR (bI b) := fun b => by cases b; exact Or.inl rfl; exact Or.inr rfl
  unfold vB at K
  simp only at K
  rcases hnd with ⟨(⟨k1, k2⟩ | ⟨k1, k2⟩ | ⟨k1, k2⟩), k3⟩ | ⟨k1, k2, k3⟩ | ⟨k1, k2, a, G, k3, k4⟩ | ⟨(⟨k1, k2⟩ | ⟨k1, k2⟩), a, b, G, k3, k4, k5⟩
  · rw [k2, k3]
    rw [if_neg (by omega), if_neg (by omega), if_neg (by omega)] at K
    unfold lfB at K
    rw [if_pos k1] at K
    have hv : 0 ≤ v ∧ v < n := by rcases hok with z | z | z <;> simp only at z <;> omega
    obtain ⟨w, hw⟩ : ∃ w : Nat, v = (w : Int) := ⟨v.toNat, by omega⟩
    subst hw
    rw [Int.toNat_natCast] at K
    refine ⟨⟨by omega, by omega⟩, fun _ => ⟨⟨by omega, by omega⟩, fun _ => ⟨fun _ => c_isOf (by omega) (by omega) ?_, fun z => absurd z (by decide), fun z => absurd z (by decide), fun z => absurd z (by decide), fun z => absurd z (by decide), fun z => absurd z (by decide), fun z => absurd z (by decide)⟩⟩⟩
    rw [bt_bI]; exact ⟨zb _, K⟩
  · rw [k2, k3]
    rw [if_neg (by omega), if_neg (by omega), if_neg (by omega)] at K
    unfold lfB at K
    rw [if_neg (by omega), if_pos k1] at K
    have hv : 0 ≤ v ∧ v < n := by rcases hok with z | z | z <;> simp only at z <;> omega
    obtain ⟨w, hw⟩ : ∃ w : Nat, v = (w : Int) := ⟨v.toNat, by omega⟩
    subst hw
    rw [Int.toNat_natCast] at K
    refine ⟨⟨by omega, by omega⟩, fun _ => ⟨⟨by omega, by omega⟩, fun _ => ⟨fun z => absurd z (by decide), fun _ => c_isOf (by omega) (by omega) ?_, fun z => absurd z (by decide), fun z => absurd z (by decide), fun z => absurd z (by decide), fun z => absurd z (by decide), fun z => absurd z (by decide)⟩⟩⟩
    rw [bt_bI]
    cases hb : x.testBit w
    · rw [hb] at K; exact ⟨⟨by decide, by decide⟩, fun z => absurd rfl z, fun _ => K⟩
    · rw [hb] at K; exact ⟨⟨by decide, by decide⟩, fun _ => K, fun z => absurd z (by decide)⟩
  · rw [k2, k3]
    rw [if_neg (by omega), if_neg (by omega), if_neg (by omega)] at K
    unfold lfB at K
    rw [if_neg (by omega), if_neg (by omega), if_pos k1] at K
    have hp : 2 ^ l ≤ 2 ^ 7 := Nat.pow_le_pow_right (by decide) (by omega)
    have hle : andN x (2 ^ l) ≤ x := andN_le _ _
    rw [bShl_one (by omega), bAndN_nat (by omega) (by omega)]
    have hp17 : pop (andN x (2 ^ l)) ≤ 17 := popN_le 17 _
    refine ⟨⟨by omega, by omega⟩, fun _ => ⟨⟨by omega, by omega⟩, fun _ => ⟨fun z => absurd z (by decide), fun z => absurd z (by decide), fun _ => c_manyOf (by omega) ⟨⟨by omega, by omega⟩, fun z => ?_, fun z => ?_⟩, fun z => absurd z (by decide), fun z => absurd z (by decide), fun z => absurd z (by decide), fun z => absurd z (by decide)⟩⟩⟩
    · rw [decide_eq_false (by omega)] at K; exact K
    · rw [decide_eq_true (by omega)] at K; exact K
  · rw [k2, k3]
    rw [if_neg (by omega), if_neg (by omega), if_neg (by omega)] at K
    unfold lfB at K
    rw [if_neg (by omega), if_neg (by omega), if_neg (by omega)] at K
    obtain ⟨r1, r2⟩ := h16 k1
    rw [Int.toNat_natCast, r2]
    exact ⟨⟨by omega, by omega⟩, fun _ => ⟨⟨by omega, by omega⟩, fun _ => ⟨fun z => absurd z (by decide), fun z => absurd z (by decide), fun z => absurd z (by decide), fun _ => ⟨⟨by omega, by omega⟩, fun _ => ⟨zb _, K⟩⟩, fun z => absurd z (by decide), fun z => absurd z (by decide), fun z => absurd z (by decide)⟩⟩⟩
  · rw [k2, k4]
    rw [if_pos k1, k3] at K
    simp only at K
    obtain ⟨r1, r2⟩ := hH a (by rw [k3]; exact List.mem_cons_self ..)
    rw [Int.toNat_natCast, r2]
    refine ⟨⟨by omega, by omega⟩, fun _ => ⟨⟨by omega, by omega⟩, fun _ => ⟨fun z => absurd z (by decide), fun z => absurd z (by decide), fun z => absurd z (by decide), fun z => absurd z (by decide), fun _ => ⟨⟨by omega, by omega⟩, fun _ => ?_⟩, fun z => absurd z (by decide), fun z => absurd z (by decide)⟩⟩⟩
    cases hb : so a
    · rw [hb] at K; exact ⟨fun z => absurd rfl z, fun _ => K⟩
    · rw [hb] at K; exact ⟨fun _ => K, fun z => absurd z (by decide)⟩
  · rw [k2, k4, k5]
    rw [if_neg (by omega), if_pos k1, k3] at K
    simp only at K
    obtain ⟨r1, r2⟩ := hH a (by rw [k3]; exact List.mem_cons_of_mem _ (List.mem_cons_self ..))
    obtain ⟨r3, r4⟩ := hH b (by rw [k3]; exact List.mem_cons_self ..)
    rw [Int.toNat_natCast, Int.toNat_natCast, r2, r4]
    refine ⟨⟨by omega, by omega⟩, fun _ => ⟨⟨by omega, by omega⟩, fun _ => ⟨fun z => absurd z (by decide), fun z => absurd z (by decide), fun z => absurd z (by decide), fun z => absurd z (by decide), fun z => absurd z (by decide), fun _ => ⟨⟨by omega, by omega⟩, fun _ => ?_⟩, fun z => absurd z (by decide)⟩⟩⟩
    cases hb : so a
    · rw [hb] at K; exact ⟨fun _ => K, fun z => absurd rfl z⟩
    · rw [hb] at K
      refine ⟨fun z => absurd z (by decide), fun _ => ⟨⟨by omega, by omega⟩, fun _ => ⟨⟨by omega, by omega⟩, fun _ => ?_⟩⟩⟩
      cases hb2 : so b
      · rw [hb2] at K; exact ⟨fun _ => K, fun z => absurd rfl z⟩
      · rw [hb2] at K; exact ⟨fun z => absurd z (by decide), fun _ => K⟩
  · rw [k2, k4, k5]
    rw [if_neg (by omega), if_neg (by omega), if_pos k1, k3] at K
    simp only at K
    obtain ⟨r1, r2⟩ := hH a (by rw [k3]; exact List.mem_cons_of_mem _ (List.mem_cons_self ..))
    obtain ⟨r3, r4⟩ := hH b (by rw [k3]; exact List.mem_cons_self ..)
    rw [Int.toNat_natCast, Int.toNat_natCast, r2, r4]
    refine ⟨⟨by omega, by omega⟩, fun _ => ⟨⟨by omega, by omega⟩, fun _ => ⟨fun z => absurd z (by decide), fun z => absurd z (by decide), fun z => absurd z (by decide), fun z => absurd z (by decide), fun z => absurd z (by decide), fun z => absurd z (by decide), fun _ => ⟨⟨by omega, by omega⟩, fun _ => ?_⟩⟩⟩⟩
    cases hb : so a
    · rw [hb] at K
      refine ⟨fun z => absurd rfl z, fun _ => ⟨⟨by omega, by omega⟩, fun _ => ⟨⟨by omega, by omega⟩, fun _ => ?_⟩⟩⟩
      cases hb2 : so b
      · rw [hb2] at K; exact ⟨fun _ => K, fun z => absurd rfl z⟩
      · rw [hb2] at K; exact ⟨fun z => absurd z (by decide), fun _ => K⟩
    · rw [hb] at K; exact ⟨fun _ => K, fun z => absurd z (by decide)⟩
end SEGM2
