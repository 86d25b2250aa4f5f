/-! what leanings say, and the class's table of what may be pushed -/
def lfB (x : Nat) (c : Int) (op : Nat) (k v : Int) : Bool := if k = 13 then x.testBit v.toNat else if k = 14 then !x.testBit v.toNat else if k = 15 then decide (v ≤ c) else op.testBit v.toNat
def evB (g : Int → Int → Bool) : KL → List Bool → List Bool
  | [], st => st
  | e :: P, st => if e.1 = 12 then (match st with
      | a :: s => evB g P ((!a) :: s)
      | [] => [])
    else if e.1 = 11 then (match st with
      | b :: a :: s => evB g P ((a && b) :: s)
      | _ => [])
    else if e.1 = 10 then (match st with
      | b :: a :: s => evB g P ((a || b) :: s)
      | _ => [])
    else evB g P (g e.1 e.2 :: st)
def hd1 (l : List Bool) : Bool := match l with
  | [b] => b
  | _ => false
def opP (x : Nat) (c : Int) : List LF → Nat → Nat
  | [], op => op
  | e :: l, op => opP x c l (if hd1 (evB (lfB x c op) e.2.1 []) = true then op ||| 2 ^ e.1 else op)
def opA (s : PSt) (x : Nat) (c : Int) : Nat := opP x c (sLf s) (andN (2 ^ sN s - 1) (sLn s))
def mayP (s : PSt) (x : Nat) : Nat := andN (opA s x (pop x : Int)) x ||| (opA s x ((pop x : Int) - 1) &&& x)
/-- a leaning's knots -/
def okB (n : Nat) (e : Int × Int) : Prop := (e.1 = 12 ∨ e.1 = 11 ∨ e.1 = 10) ∨ ((e.1 = 13 ∨ e.1 = 14 ∨ e.1 = 16) ∧ 0 ≤ e.2 ∧ e.2 < n) ∨ (e.1 = 15 ∧ 0 ≤ e.2 ∧ e.2 ≤ 8)
theorem okEl_B {own : Int} {n ln : Nat} {e : Int × Int} (h : okEl False own n ln e) : okB n e := by
  rcases h with ⟨a, b, c, d⟩ | ⟨a, -⟩ | ⟨-, h⟩
  · rcases c with z | z | z | z | z
    · exact absurd z d
    · exact Or.inl (Or.inl z)
    · exact Or.inl (Or.inr (Or.inr z))
    · exact Or.inl (Or.inr (Or.inl z))
    · exact z.1.elim
  · exact a.elim
  · rcases h with ⟨a, b, c, d⟩ | h | ⟨a, b, c, d⟩
    · exact Or.inr (Or.inl ⟨by omega, b, c⟩)
    · exact Or.inr (Or.inr h)
    · exact Or.inr (Or.inl ⟨by omega, b, c⟩)
theorem okB_rk {n : Nat} {e : Int × Int} (h : okB n e) (h12 : e.1 ≠ 12) (h11 : e.1 ≠ 11) (h10 : e.1 ≠ 10) : rk e.1 = 0 ∧ sdN e.1 = 0 := by
  have hr : rk e.1 = 0 := by
    unfold rk
    rcases h with h | h | h
    · omega
    · rw [if_neg (by omega), if_neg (by omega), if_neg (by omega), if_neg (by omega), if_neg (by omega), if_neg (by omega)]
    · rw [if_neg (by omega), if_neg (by omega), if_neg (by omega), if_neg (by omega), if_neg (by omega), if_neg (by omega)]
  exact ⟨hr, by unfold sdN; rw [if_neg h12, if_pos hr]⟩
theorem bI_not {a : Bool} : (if bI a = 0 then (1 : Int) else 0) = bI (!a) := by cases a <;> rfl
theorem bI_and {a b : Bool} : opJ (cm 11) (bI a) (bI b) = some (bI (a && b)) := by cases a <;> cases b <;> decide
theorem bI_or {a b : Bool} : opJ (cm 10) (bI a) (bI b) = some (bI (a || b)) := by cases a <;> cases b <;> decide
theorem evS_B {n : Nat} {kd vl : Nat → Int} {lf : Int → Int → Int} {g : Int → Int → Bool} : ∀ (P : KL) (i : Nat) (st : List Bool) (m : Nat), (∀ q e, P[q]? = some e → kd (i + q) = e.1 ∧ vl (i + q) = e.2) → (∀ e, e ∈ P → okB n e) → (∀ e, e ∈ P → rk e.1 = 0 → lf e.1 e.2 = bI (g e.1 e.2)) → dpF st.length P = some m → evS kd vl lf P.length i (st.map bI) = some ((evB g P st).map bI) ∧ (evB g P st).length = m := by
  intro P
  induction P with
  | nil => intro i st m _ _ _ h; have h' : some st.length = some m := h
           cases h'; exact ⟨rfl, rfl⟩
  | cons e P ih =>
    intro i st m h1 h2 h3 h4
    have hk : kd i = e.1 ∧ vl i = e.2 := h1 0 e rfl
    have h1' : ∀ q e', P[q]? = some e' → kd (i + 1 + q) = e'.1 ∧ vl (i + 1 + q) = e'.2 := fun q e' he => by
      have := h1 (q + 1) e' he
      rw [show i + 1 + q = i + (q + 1) by omega]; exact this
    have h2' : ∀ e', e' ∈ P → okB n e' := fun e' he => h2 e' (List.mem_cons_of_mem _ he)
    have h3' : ∀ e', e' ∈ P → rk e'.1 = 0 → lf e'.1 e'.2 = bI (g e'.1 e'.2) := fun e' he => h3 e' (List.mem_cons_of_mem _ he)
    have h0 := h2 e (List.mem_cons_self ..)
    simp only [dpF] at h4
    simp only [List.length_cons, evS, evB]
    rw [hk.1, hk.2]
    by_cases c12 : e.1 = 12
    · rw [if_pos c12, if_pos c12]
      have es : sdN e.1 = 1 := by unfold sdN; rw [if_pos c12]
      rw [es] at h4
      match st, h4 with
      | [], h4 => exact absurd h4 (by simp)
      | a :: s, h4 =>
        rw [if_pos (by rw [List.length_cons]; omega)] at h4
        have := ih (i + 1) ((!a) :: s) m h1' h2' h3' (by rw [List.length_cons]; rw [List.length_cons] at h4; exact h4)
        simp only [List.map_cons] at this ⊢
        rw [bI_not]; exact this
    rw [if_neg c12, if_neg c12]
    by_cases c11 : e.1 = 11
    · have es : sdN e.1 = 2 := by rw [c11]; decide
      rw [if_neg (by rw [c11]; decide), if_pos c11]
      rw [es] at h4
      match st, h4 with
      | [], h4 => exact absurd h4 (by simp)
      | [_], h4 => exact absurd h4 (by simp)
      | b :: a :: s, h4 =>
        rw [if_pos (by rw [List.length_cons, List.length_cons]; omega)] at h4
        have := ih (i + 1) ((a && b) :: s) m h1' h2' h3' (by rw [List.length_cons]; rw [List.length_cons, List.length_cons] at h4; exact h4)
        simp only [List.map_cons] at this ⊢
        rw [c11, bI_and]; exact this
    rw [if_neg c11]
    by_cases c10 : e.1 = 10
    · have es : sdN e.1 = 2 := by rw [c10]; decide
      rw [if_neg (by rw [c10]; decide), if_pos c10]
      rw [es] at h4
      match st, h4 with
      | [], h4 => exact absurd h4 (by simp)
      | [_], h4 => exact absurd h4 (by simp)
      | b :: a :: s, h4 =>
        rw [if_pos (by rw [List.length_cons, List.length_cons]; omega)] at h4
        have := ih (i + 1) ((a || b) :: s) m h1' h2' h3' (by rw [List.length_cons]; rw [List.length_cons, List.length_cons] at h4; exact h4)
        simp only [List.map_cons] at this ⊢
        rw [c10, bI_or]; exact this
    obtain ⟨r0, r1⟩ := okB_rk h0 c12 c11 c10
    rw [r1, if_pos (Nat.zero_le _)] at h4
    rw [if_pos r0, if_neg c10, h3 e (List.mem_cons_self ..) r0]
    have := ih (i + 1) (g e.1 e.2 :: st) m h1' h2' h3' (by rw [List.length_cons]; exact h4)
    simp only [List.map_cons] at this
    exact this
theorem bNot_nat : ∀ x : Nat, x < 256 → ∀ k : Nat, k < 8 → bAnd (bShr (bXor (x : Int) (-1)) (k : Int)) 1 = bI (!x.testBit k) := by decide +kernel
theorem bt_bI (x k : Nat) : ((bt x k : Nat) : Int) = bI (x.testBit k) := by
  rw [bt_tb]; cases x.testBit k <;> rfl
theorem c_leafB {E : Scr} {f : Int → Mem → Prop} {M : Mem} {x op n : Nat} {c : Int} {e : Int × Int} (hn : n ≤ 8) (hx : x < 256) (hop : op < 256) (he : okB n e) (h12 : rk e.1 = 0) (h0 : M 19 0 = (x : Int)) (h2 : M 19 2 = c) (h3 : M 19 3 = (op : Int)) (H : f (bI (lfB x c op e.1 e.2)) M) : CI E mX6_leaf [pR 19, pI e.1, pI e.2] M f := by
  obtain ⟨k, v⟩ := e
  simp only at he h12 H ⊢
  unfold lfB at H
  have hk : k = 13 ∧ 0 ≤ v ∧ v < n ∨ k = 14 ∧ 0 ≤ v ∧ v < n ∨ k = 15 ∧ 0 ≤ v ∧ v ≤ 8 ∨ k = 16 ∧ 0 ≤ v ∧ v < n := by
    rcases he with (z | z | z) | ⟨z, a, b⟩ | ⟨z, a, b⟩
    · simp only at z; rw [z] at h12; exact absurd h12 (by decide)
    · simp only at z; rw [z] at h12; exact absurd h12 (by decide)
    · simp only at z; rw [z] at h12; exact absurd h12 (by decide)
    · simp only at z a b; omega
    · simp only at z a b; omega
  obtain ⟨w, hw⟩ : ∃ w : Nat, v = (w : Int) := ⟨v.toNat, by omega⟩
  subst hw
  rw [Int.toNat_natCast] at H
  refine vX6_leaf_0 _ _ (Or.inl rfl) ⟨⟨by omega, by omega⟩, fun z => ?_, fun z => ?_, fun z => ?_, fun z => ?_, fun z => absurd z (by omega), fun z => absurd z (by omega), fun z => absurd z (by omega), fun z => absurd z (by omega), fun z => absurd z (by omega), fun z => absurd z (by omega), fun z => absurd z (by omega), fun z => absurd z (by omega)⟩
  · rw [h0, bBit_nat (by omega) (by omega), bt_bI]
    rw [if_pos z] at H
    exact fun _ => H
  · rw [h0, bNot_nat x hx w (by omega)]
    rw [if_neg (by omega), if_pos z] at H
    exact fun _ => H
  · rw [h2]
    rw [if_neg (by omega), if_neg (by omega), if_pos z] at H
    refine fun _ => ⟨⟨by omega, by omega⟩, fun y => ?_, fun y => ?_⟩
    · rw [decide_eq_false (by omega)] at H; exact H
    · rw [decide_eq_true (by omega)] at H; exact H
  · rw [h3, bBit_nat (by omega) (by omega), bt_bI]
    rw [if_neg (by omega), if_neg (by omega), if_neg (by omega)] at H
    exact fun _ => H
theorem bShl_one {k : Nat} (hk : k < 31) : bShl 1 (k : Int) = ((2 ^ k : Nat) : Int) := by
  have hp : 2 ^ k ≤ 2 ^ 30 := Nat.pow_le_pow_right (by decide) (by omega)
  have := bShl_nat (m := 1) (k := k) (by omega) (by rw [Nat.one_mul]; omega)
  rw [Nat.one_mul] at this
  exact this
section OPENC
variable {E : Scr} {bs : BF} {L : Nat} {s : PSt}
def FrO2 (M M' : Mem) : Prop := ∀ a, a ≠ 18 → a ≠ 19 → M' a = M a
theorem FrO2.rf (M : Mem) : FrO2 M M := fun _ _ _ => rfl
theorem FrO2.tr {M M1 M2 : Mem} (h1 : FrO2 M M1) (h2 : FrO2 M1 M2) : FrO2 M M2 := fun a a1 a2 => (h2 a a1 a2).trans (h1 a a1 a2)
theorem FrO2.u {M : Mem} {k : Nat} (v : Int) : FrO2 M (upM M 19 k v) := fun a _ a2 => upM_ne _ _ _ a2
/-- the knots of a leaning, as they lie -/
theorem lf_knots (hI : PI L s) {M : Mem} (hK : KA (sAl s) M) {e : LF} (he : e ∈ sLf s) : (∀ q v, e.2.1[q]? = some v → M 16 (e.2.2.1 + q) = v.1 ∧ M 17 (e.2.2.1 + q) = v.2) ∧ (∀ v, v ∈ e.2.1 → okB (sN s) v) ∧ e.2.2.1 + e.2.1.length ≤ 64 ∧ dpF 0 e.2.1 = some 1 ∧ e.1 < sN s := by
  obtain ⟨-, -, -, -, -, ⟨hal, hal2, -⟩, h7, h8, -⟩ := hI
  obtain ⟨m1, m2, m3, m4, m5, m6⟩ := h7 e he
  obtain ⟨i, hi⟩ := List.getElem?_of_mem he
  obtain ⟨o, P, sg, rb⟩ := e
  have k8 := h8 i o P sg rb hi
  refine ⟨fun q v hq => hK.2 _ _ (m5 q v hq), fun v hv => ?_, by omega, m4, m1⟩
  obtain ⟨l0, a1, -⟩ := k8.1 v hv
  exact okEl_B a1
theorem c_openBy {f : Int → Mem → Prop} {M0 : Mem} {x : Nat} {c : Int} (hI : PI L s) (hx : x < 2 ^ sN s) (hc : -1 ≤ c ∧ c ≤ 17) (hP : PrC bs L s M0) (H : ∀ M', FrO2 M0 M' → opA s x c < 2 ^ sN s → f ((opA s x c : Nat) : Int) M') : CI E mX1_openBy [pR 5, pI (x : Int), pI c] M0 f := by
  obtain ⟨hTk, ⟨hn, hu⟩, ⟨hln, hlt, hlo, hll⟩, -⟩ := id hI
  have hN : NmC (sN s) (sM s) (sLn s) M0 := hP.2.2.1
  have hp8 : 2 ^ sN s ≤ 2 ^ 8 := Nat.pow_le_pow_right (by decide) hn
  have hpos : 0 < 2 ^ sN s := Nat.two_pow_pos _
  have hlf := hP.2.2.2.2.2.1
  have h54 : M0 5 4 = ((sLf s).length : Int) := hlf.1
  have hll8 : (sLf s).length ≤ 8 := by have := cbN_le (sLn s) (sN s); omega
  apply vX1_openBy_0
  refine ⟨⟨by omega, by omega⟩, ⟨by omega, by omega⟩, ?_⟩
  apply vX1_all_0 (Or.inl rfl)
  have e51 : (upM (upM M0 19 0 (x : Int)) 19 2 c) 5 1 = (sN s : Int) := hN.1
  have e55 : (upM (upM M0 19 0 (x : Int)) 19 2 c) 5 5 = (sLn s : Int) := hN.2.2.2.1
  rw [e51, e55, bShl_one (by omega), show ((2 ^ sN s : Nat) : Int) - 1 = ((2 ^ sN s - 1 : Nat) : Int) by omega, bAndN_nat (by omega) (by omega)]
  intro _ _
  have hst : andN (2 ^ sN s - 1) (sLn s) < 2 ^ sN s := by
    have : andN (2 ^ sN s - 1) (sLn s) ≤ 2 ^ sN s - 1 := andN_le _ _
    omega
  have loop : ∀ (j i op : Nat) (M : Mem), i + j = (sLf s).length → op < 2 ^ sN s → FrO2 M0 M → M 19 0 = (x : Int) → M 19 2 = c → M 19 3 = (op : Int) →
      opA s x c = opP x c ((sLf s).drop i) op → KW E mX1_openBy (qI f) M 36 [(0, pR 5), (3, pI (i : Int))] [] := by
    intro j
    induction j with
    | zero =>
      intro i op M hij hop hF h0 h2 h3 ho
      have e54 : M 5 4 = ((sLf s).length : Int) := by rw [hF 5 (by decide) (by decide)]; exact h54
      apply vX1_openBy_36
      rw [e54, h3]
      refine fun _ => ⟨⟨by omega, by omega⟩, fun _ _ => ?_, fun z => absurd z (by omega)⟩
      rw [List.drop_eq_nil_of_le (by omega)] at ho
      have ho' : opA s x c = op := ho
      have := H M hF (by omega)
      rw [ho'] at this; exact this
    | succ j ih =>
      intro i op M hij hop hF h0 h2 h3 ho
      have e54 : M 5 4 = ((sLf s).length : Int) := by rw [hF 5 (by decide) (by decide)]; exact h54
      have hi : i < (sLf s).length := by omega
      obtain ⟨o, P, sg, rb, hg⟩ : ∃ o P sg rb, (sLf s)[i]? = some (o, P, sg, rb) := by
        rw [List.getElem?_eq_getElem hi]
        exact ⟨_, _, _, _, rfl⟩
      have hd : (sLf s).drop i = (o, P, sg, rb) :: (sLf s).drop (i + 1) := by
        rw [List.drop_eq_getElem_cons hi]
        rw [List.getElem?_eq_getElem hi] at hg
        rw [Option.some.inj hg]
      obtain ⟨r7, r8, r9⟩ := hlf.2 i o P sg rb hg
      have hmem : (o, P, sg, rb) ∈ sLf s := List.mem_of_getElem? hg
      have hK0 : KA (sAl s) M := hP.2.2.2.2.2.2.2.2.2.2.1.of (hF 15 (by decide) (by decide)) (hF 16 (by decide) (by decide)) (hF 17 (by decide) (by decide))
      obtain ⟨k1, k2, k3, k4, k5⟩ := lf_knots hI hK0 hmem
      replace k1 : ∀ q v, P[q]? = some v → M 16 (sg + q) = v.1 ∧ M 17 (sg + q) = v.2 := k1
      replace k2 : ∀ v, v ∈ P → okB (sN s) v := k2
      replace k3 : sg + P.length ≤ 64 := k3
      replace k4 : dpF 0 P = some 1 := k4
      replace k5 : o < sN s := k5
      have e7 : M 7 i = (o : Int) := by rw [hF 7 (by decide) (by decide)]; exact r7
      have e8 : M 8 (2 * o) = (sg : Int) := by rw [hF 8 (by decide) (by decide)]; exact r8
      have e9 : M 8 (2 * o + 1) = ((sg + P.length : Nat) : Int) := by rw [hF 8 (by decide) (by decide)]; exact r9
      have e5 : M 5 1 = (sN s : Int) := by rw [hF 5 (by decide) (by decide)]; exact hN.1
      apply vX1_openBy_36
      rw [e54, Int.toNat_natCast, e7]
      refine fun _ => ⟨⟨by omega, by omega⟩, fun z => absurd z (by omega), fun _ => ⟨⟨by omega, by omega⟩, fun z => absurd z (by omega), fun _ => ⟨⟨by omega, by omega⟩, fun _ => ?_⟩⟩⟩
      refine c_has (Or.inl rfl) ⟨by omega, by omega⟩ e5 hn (fun l hl1 hl2 => ⟨⟨by decide, by decide⟩, fun z => absurd z (by decide), fun _ => ?_⟩) (fun z => absurd (show (0 : Int) ≤ (o : Int) ∧ (o : Int) < (sN s : Int) from ⟨by omega, by omega⟩) z)
      rw [show (2 * (o : Int)).toNat = 2 * o by omega, show (2 * (o : Int) + 1).toNat = 2 * o + 1 by omega, e8, e9]
      refine ⟨⟨by omega, by omega⟩, fun _ => ⟨⟨by omega, by omega⟩, fun _ => ?_⟩⟩
      have hat : ∀ q, sg ≤ q → q < sg + P.length → ∃ v, v ∈ P ∧ M 16 q = v.1 ∧ M 17 q = v.2 := by
        intro q q1 q2
        have hq : q - sg < P.length := by omega
        have := k1 (q - sg) P[q - sg] (List.getElem?_eq_getElem hq)
        rw [show sg + (q - sg) = q by omega] at this
        exact ⟨P[q - sg], List.getElem_mem hq, this⟩
      have hkr : ∀ v, v ∈ P → iR v.1 := by
        intro v hv
        rcases k2 v hv with z | z | z <;> exact ⟨by omega, by omega⟩
      have hev := evS_B (n := sN s) (kd := M 16) (vl := M 17) (lf := fun k v => bI (lfB x c op k v)) (g := lfB x c op) P sg [] 1 k1 k2 (fun _ _ _ => rfl) k4
      have hlen : sg + P.length - sg = P.length := by omega
      have hone : orM (one1 (evS (M 16) (M 17) (fun k v => bI (lfB x c op k v)) (sg + P.length - sg) sg [])) = bI (hd1 (evB (lfB x c op) P [])) := by
        rw [hlen]
        have h1 := hev.1
        rw [List.map_nil] at h1
        rw [h1]
        match hb : evB (lfB x c op) P [], hev.2 with
        | [b], _ => rfl
        | [], z => exact absurd z (by simp)
        | _ :: _ :: _, z => exact absurd z (by simp)
      refine c_worth (dd := 15) (sc := 19) (lf := fun k v => bI (lfB x c op k v)) (Or.inl ⟨rfl, rfl⟩) (by omega) k3 (fun q q1 q2 => ?_) (fun q q1 q2 _ => ?_) (fun q q1 q2 hr M1 f' hW hf' => ?_) (fun M1 hW => ?_)
      · obtain ⟨v, hv, v1, -⟩ := hat q q1 q2
        show iR (M 16 q)
        rw [v1]; exact hkr v hv
      · cases lfB x c op (M 16 q) (M 17 q) <;> exact ⟨by decide, by decide⟩
      · obtain ⟨v, hv, v1, v2⟩ := hat q q1 q2
        have hr' : rk (M 16 q) = 0 := hr
        have hf2 : f' (bI (lfB x c op (M 16 q) (M 17 q))) M1 := hf'
        show CI E mX6_leaf [pR 19, pI (M 16 q), pI (M 17 q)] M1 f'
        rw [v1] at hr'
        rw [v1, v2] at hf2 ⊢
        have h19 : M1 19 = M 19 := hW 19 (by decide)
        exact c_leafB hn (by omega) (by omega) (k2 v hv) hr' (by rw [h19]; exact h0) (by rw [h19]; exact h2) (by rw [h19]; exact h3) hf2
      · have h19 : M1 19 = M 19 := hW 19 (by decide)
        have hF1 : FrO2 M0 M1 := hF.tr (fun a a1 _ => hW a a1)
        have hone' : orM (one1 (evS (M (15 + 1)) (M (15 + 2)) (fun k v => bI (lfB x c op k v)) (sg + P.length - sg) sg [])) = bI (hd1 (evB (lfB x c op) P [])) := hone
        rw [hone']
        rw [hd] at ho
        simp only [opP] at ho
        have hii : (i : Int) + 1 = ((i + 1 : Nat) : Int) := by omega
        rw [hii]
        cases hb : hd1 (evB (lfB x c op) P [])
        · rw [if_neg (by rw [hb]; decide)] at ho
          exact ⟨⟨by decide, by decide⟩, fun _ => ih (i + 1) op M1 (by omega) hop hF1 (by rw [h19]; exact h0) (by rw [h19]; exact h2) (by rw [h19]; exact h3) ho, fun z => absurd rfl z⟩
        · rw [if_pos hb] at ho
          refine ⟨⟨by decide, by decide⟩, fun z => absurd z (by decide), fun _ => ?_⟩
          have hpo : 2 ^ o < 2 ^ sN s := Nat.pow_lt_pow_right (by decide) k5
          rw [h19, h3, bShl_one (by omega), bOr_nat (by omega) (by omega)]
          exact fun _ => ih (i + 1) (op ||| 2 ^ o) _ (by omega) (Nat.or_lt_two_pow hop hpo) (hF1.tr (FrO2.u _)) (by show M1 19 0 = _; rw [h19]; exact h0) (by show M1 19 2 = _; rw [h19]; exact h2) rfl ho
  exact loop (sLf s).length 0 (andN (2 ^ sN s - 1) (sLn s)) _ (by omega) hst (((FrO2.u _).tr (FrO2.u _)).tr (FrO2.u _)) rfl rfl rfl rfl
end OPENC
