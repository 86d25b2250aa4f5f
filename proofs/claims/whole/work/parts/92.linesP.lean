/-! what was read keeps its shape, and the reading goes on -/
theorem fml_I {bs : BF} {L : Nat} {own : Int} {n : Nat} {nm : Nat → Int} {ln base : Nat} (hn : n ≤ 8) (hown : own < n) : ∀ (j : Nat) (s r : FS), FI L own n ln base s → fml bs L own n nm ln j s = Sum.inr r → FI L own n ln base r ∧ fP r = [] ∧ fW r = false ∧ tK (fT r) = 24 ∧ tS (fT s) ≤ tS (fT r) := by
  intro j
  induction j with
  | zero => intro s r _ h; simp only [fml] at h; exact absurd h (by simp)
  | succ j ih =>
    intro s r hI h
    simp only [fml] at h
    cases es : stepF bs L own n nm ln s with
    | inl e => rw [es] at h; exact absurd h (by simp)
    | inr p =>
      obtain ⟨b, s'⟩ := p
      rw [es] at h
      have hs := hI.step hn hown es
      cases b with
      | false =>
        have h' : (Sum.inr s' : Res FS) = Sum.inr r := h
        cases h'
        have hz := hs.2.2 rfl
        exact ⟨hs.1, hz.1, hz.2.1, hz.2.2.2.1, by rw [hz.2.2.1]; exact Nat.le_refl _⟩
      | true =>
        have hz := ih s' r hs.1 h
        have := hs.2.1 rfl
        exact ⟨hz.1, hz.2.1, hz.2.2.1, hz.2.2.2.1, by omega⟩
theorem okEl_F {own : Int} {n n2 ln : Nat} {e : Int × Int} (hn : n ≤ n2) (h : okEl False own n ln e) : okEl False own n2 ln e := by
  rcases h with h | ⟨h, -⟩ | ⟨h, h2⟩
  · exact Or.inl h
  · exact h.elim
  · refine Or.inr (Or.inr ⟨h, ?_⟩)
    rcases h2 with ⟨a, b, c, d⟩ | a | ⟨a, b, c, d⟩
    · exact Or.inl ⟨a, b, by omega, d⟩
    · exact Or.inr (Or.inl a)
    · exact Or.inr (Or.inr ⟨a, b, by omega, d⟩)
theorem okEl_T {own : Int} {n n2 ln ln2 : Nat} {e : Int × Int} (h : okEl True own n ln e) : okEl True own n2 ln2 e := by
  rcases h with h | h | ⟨h, -⟩
  · exact Or.inl h
  · exact Or.inr (Or.inl h)
  · exact absurd trivial h
theorem tb_top {x n : Nat} (h : x < 2 ^ n) : x.testBit n = false := Nat.testBit_lt_two_pow h
section LINESP
variable {bs : BF} {L : Nat} {s r : PSt}
theorem PI.tk (h : PI L s) {t : Tk} (ht : TkI L t) : PI L (t, s.2) := ⟨ht, h.2⟩
theorem tok_on {t : Tk} (h : TkI L t) (h39 : tK t ≠ 39) : TkI L (tok bs L (tN t)) ∧ tS t + 1 ≤ tS (tok bs L (tN t)) := by
  have := tok_I (bs := bs) h.2.2.1
  have h2 := h.2.2.2.2.1 h39
  exact ⟨this.1, by omega⟩
theorem tok_on0 {t : Tk} (h : TkI L t) : TkI L (tok bs L (tN t)) ∧ tS t ≤ tS (tok bs L (tN t)) := by
  have := tok_I (bs := bs) h.2.2.1
  have h2 := h.2.1
  exact ⟨this.1, by omega⟩
theorem PI.latch (h : PI L s) (h39 : tK (sT s) ≠ 39) (e : latchP bs L s = Sum.inr r) : PI L r ∧ tS (sT s) + 1 ≤ tS (sT r) := by
  obtain ⟨hTk, ⟨hn, hu⟩, ⟨hln, hlt, hlo, hll⟩, hps, hrs, hal, h7, h8, h9, h10, h11, h12⟩ := id h
  obtain ⟨i1, p1⟩ := tok_on (bs := bs) hTk h39
  obtain ⟨i2, p2⟩ := tok_on0 (bs := bs) i1
  obtain ⟨i3, p3⟩ := tok_on0 (bs := bs) i2
  unfold latchP at e
  simp only at e
  generalize tok bs L (tN (sT s)) = t1 at *
  generalize tok bs L (tN t1) = t2 at *
  by_cases c1 : 8 ≤ sN s
  · rw [if_pos c1] at e; exact absurd e (by simp)
  rw [if_neg c1] at e
  by_cases c2 : tK t1 ≠ 38
  · rw [if_pos c2] at e; exact absurd e (by simp)
  rw [if_neg c2] at e
  by_cases c3 : findN (sM s) (tV t1) (sN s) 0 ≠ -1
  · rw [if_pos c3] at e; exact absurd e (by simp)
  rw [if_neg c3] at e
  by_cases c4 : tK t2 ≠ 37
  · rw [if_pos c4] at e; exact absurd e (by simp)
  rw [if_neg c4] at e
  by_cases c5 : 1 < tV t2
  · rw [if_pos c5] at e; exact absurd e (by simp)
  rw [if_neg c5] at e
  have e' := Sum.inr.inj e
  subst e'
  have hv2 := i2.2.2.2.2.2
  have hv1 := i1.2.2.2.2.2
  have hv : (tV t2).toNat ≤ 1 := by omega
  have hp : 2 ^ (sN s + 1) = 2 * 2 ^ sN s := by rw [Nat.pow_succ]; omega
  have hvm : (tV t2).toNat * 2 ^ sN s ≤ 1 * 2 ^ sN s := Nat.mul_le_mul_right _ hv
  have hpos : 0 < 2 ^ sN s := Nat.two_pow_pos _
  refine ⟨⟨i3, ⟨by show sN s + 1 ≤ 8; omega, ?_⟩, ⟨by show sLn s < 2 ^ (sN s + 1); omega, hlt, hlo, ?_⟩, hps, hrs, hal, fun e he => ?_, fun i o P sg rb he => ?_, fun k hk hne => ?_, fun e he => ?_, h11, fun l hl => ?_⟩, by show tS (sT s) + 1 ≤ tS (tok bs L (tN t2)); omega⟩
  · show sU s ||| (tV t2).toNat * 2 ^ sN s < 2 ^ (sN s + 1)
    exact Nat.or_lt_two_pow (by omega) (by omega)
  · show (sLf s).length = cbN (sLn s) (sN s + 1)
    simp only [cbN]
    rw [tb_top hln]; simpa using hll
  · have := h7 e he
    exact ⟨by show e.1 < sN s + 1; omega, this.2⟩
  · have := h8 i o P sg rb he
    refine ⟨fun q hq => ?_, this.2⟩
    obtain ⟨l0, a1, a2⟩ := this.1 q hq
    exact ⟨l0, okEl_F (by show sN s ≤ sN s + 1; omega) a1, a2⟩
  · have := h9 k hk hne
    exact ⟨this.1, this.2.1, this.2.2.1, fun q hq => okEl_T (this.2.2.2.1 q hq), this.2.2.2.2⟩
  · have := h10 e he
    exact ⟨by show e.1 < sN s + 1; omega, this.2⟩
  · have hl' : l < sN s + 1 := hl
    show 0 ≤ upN (sM s) (sN s) (tV t1) l ∧ upN (sM s) (sN s) (tV t1) l < 2147483648
    by_cases c : l = sN s
    · rw [c, upN_self]; exact hv1
    · rw [upN_ne _ _ c]; exact h12 l (by omega)
theorem PI.push (h : PI L s) (h39 : tK (sT s) ≠ 39) (e : pushP bs L s = Sum.inr r) : PI L r ∧ tS (sT s) + 1 ≤ tS (sT r) := by
  obtain ⟨hTk, ⟨hn, hu⟩, ⟨hln, hlt, hlo, hll⟩, hps, hrs, hal, h7, h8, h9, h10, h11, h12⟩ := id h
  obtain ⟨i1, p1⟩ := tok_on (bs := bs) hTk h39
  obtain ⟨i2, p2⟩ := tok_on0 (bs := bs) i1
  obtain ⟨i3, p3⟩ := tok_on0 (bs := bs) i2
  unfold pushP at e
  simp only at e
  generalize tok bs L (tN (sT s)) = t1 at *
  generalize tok bs L (tN t1) = t2 at *
  by_cases c1 : 16 ≤ (sPu s).length
  · rw [if_pos c1] at e; exact absurd e (by simp)
  rw [if_neg c1] at e
  by_cases c2 : tK t1 ≠ 38
  · rw [if_pos c2] at e; exact absurd e (by simp)
  rw [if_neg c2] at e
  by_cases c3 : findN (sM s) (tV t1) (sN s) 0 = -1
  · rw [if_pos c3] at e; exact absurd e (by simp)
  rw [if_neg c3] at e
  by_cases c4 : tK t2 ≠ 37
  · rw [if_pos c4] at e; exact absurd e (by simp)
  rw [if_neg c4] at e
  by_cases c5 : 99 < tV t2
  · rw [if_pos c5] at e; exact absurd e (by simp)
  rw [if_neg c5] at e
  have e' := Sum.inr.inj e
  subst e'
  have hv2 := i2.2.2.2.2.2
  rcases findN_c (nm := sM s) (v := tV t1) (sN s) 0 with z | ⟨o, o1, o2, o3⟩
  · exact absurd z c3
  refine ⟨⟨i3, ⟨hn, hu⟩, ⟨hln, hlt, hlo, hll⟩, ⟨?_, hps.2⟩, hrs, hal, h7, h8, h9, fun e he => ?_, h11, h12⟩, by show tS (sT s) + 1 ≤ tS (tok bs L (tN t2)); omega⟩
  · show (sPu s ++ [((findN (sM s) (tV t1) (sN s) 0).toNat, tV t2)]).length ≤ 16
    rw [List.length_append]; show (sPu s).length + 1 ≤ 16; omega
  · rcases mem_sn he with z | z
    · exact h10 e z
    · rw [z, o3]; exact ⟨by show (o : Int).toNat < sN s; omega, by show 0 ≤ tV t2; omega, by show tV t2 ≤ 99; omega⟩
theorem PI.oil (h : PI L s) (h39 : tK (sT s) ≠ 39) (e : oilP bs L s = Sum.inr r) : PI L r ∧ tS (sT s) + 1 ≤ tS (sT r) := by
  obtain ⟨hTk, ⟨hn, hu⟩, ⟨hln, hlt, hlo, hll⟩, hps, hrs, hal, h7, h8, h9, h10, h11, h12⟩ := id h
  obtain ⟨i1, p1⟩ := tok_on (bs := bs) hTk h39
  obtain ⟨i2, p2⟩ := tok_on0 (bs := bs) i1
  unfold oilP at e
  simp only at e
  generalize tok bs L (tN (sT s)) = t1 at *
  by_cases c1 : 4 ≤ (sOi s).length
  · rw [if_pos c1] at e; exact absurd e (by simp)
  rw [if_neg c1] at e
  by_cases c4 : tK t1 ≠ 37
  · rw [if_pos c4] at e; exact absurd e (by simp)
  rw [if_neg c4] at e
  by_cases c5 : 99 < tV t1
  · rw [if_pos c5] at e; exact absurd e (by simp)
  rw [if_neg c5] at e
  have e' := Sum.inr.inj e
  subst e'
  have hv2 := i1.2.2.2.2.2
  refine ⟨⟨i2, ⟨hn, hu⟩, ⟨hln, hlt, hlo, hll⟩, ⟨hps.1, ?_⟩, hrs, hal, h7, h8, h9, h10, fun e he => ?_, h12⟩, by show tS (sT s) + 1 ≤ tS (tok bs L (tN t1)); omega⟩
  · show (sOi s ++ [tV t1]).length ≤ 4
    rw [List.length_append]; show (sOi s).length + 1 ≤ 4; omega
  · rcases mem_sn he with z | z
    · exact h11 e z
    · rw [z]; exact ⟨by omega, by omega⟩
theorem PI.rust (h : PI L s) (h39 : tK (sT s) ≠ 39) (e : rustP bs L s = Sum.inr r) : PI L r ∧ tS (sT s) + 1 ≤ tS (sT r) := by
  obtain ⟨hTk, ⟨hn, hu⟩, ⟨hln, hlt, hlo, hll⟩, hps, hrs, hal, h7, h8, h9, h10, h11, h12⟩ := id h
  obtain ⟨i1, p1⟩ := tok_on (bs := bs) hTk h39
  obtain ⟨i2, p2⟩ := tok_on0 (bs := bs) i1
  unfold rustP at e
  simp only at e
  generalize tok bs L (tN (sT s)) = t1 at *
  by_cases c1 : sRd s = true
  · rw [if_pos c1] at e; exact absurd e (by simp)
  rw [if_neg c1] at e
  by_cases c4 : tK t1 ≠ 37
  · rw [if_pos c4] at e; exact absurd e (by simp)
  rw [if_neg c4] at e
  by_cases c5 : 100 < tV t1
  · rw [if_pos c5] at e; exact absurd e (by simp)
  rw [if_neg c5] at e
  have e' := Sum.inr.inj e
  subst e'
  have hv2 := i1.2.2.2.2.2
  exact ⟨⟨i2, ⟨hn, hu⟩, ⟨hln, hlt, hlo, hll⟩, hps, ⟨by show 0 ≤ tV t1; omega, by show tV t1 ≤ 100; omega, hrs.2.2.1, hrs.2.2.2⟩, hal, h7, h8, h9, h10, h11, h12⟩, by show tS (sT s) + 1 ≤ tS (tok bs L (tN t1)); omega⟩
theorem PI.seed (h : PI L s) (h39 : tK (sT s) ≠ 39) (e : seedP bs L s = Sum.inr r) : PI L r ∧ tS (sT s) + 1 ≤ tS (sT r) := by
  obtain ⟨hTk, ⟨hn, hu⟩, ⟨hln, hlt, hlo, hll⟩, hps, hrs, hal, h7, h8, h9, h10, h11, h12⟩ := id h
  obtain ⟨i1, p1⟩ := tok_on (bs := bs) hTk h39
  obtain ⟨i2, p2⟩ := tok_on0 (bs := bs) i1
  unfold seedP at e
  simp only at e
  generalize tok bs L (tN (sT s)) = t1 at *
  by_cases c1 : sSd s = true
  · rw [if_pos c1] at e; exact absurd e (by simp)
  rw [if_neg c1] at e
  by_cases c4 : tK t1 ≠ 37
  · rw [if_pos c4] at e; exact absurd e (by simp)
  rw [if_neg c4] at e
  by_cases c5 : 99999 < tV t1
  · rw [if_pos c5] at e; exact absurd e (by simp)
  rw [if_neg c5] at e
  have e' := Sum.inr.inj e
  subst e'
  have hv2 := i1.2.2.2.2.2
  exact ⟨⟨i2, ⟨hn, hu⟩, ⟨hln, hlt, hlo, hll⟩, hps, ⟨hrs.1, hrs.2.1, by show 0 ≤ tV t1; omega, by show tV t1 ≤ 99999; omega⟩, hal, h7, h8, h9, h10, h11, h12⟩, by show tS (sT s) + 1 ≤ tS (tok bs L (tN t1)); omega⟩
theorem get_app {α : Type} {l u : List α} {i : Nat} {q : α} (h : l[i]? = some q) : (l ++ u)[i]? = some q := by
  have hi : i < l.length := by
    rcases Nat.lt_or_ge i l.length with c | c
    · exact c
    · rw [List.getElem?_eq_none c] at h; exact absurd h (by simp)
  rw [List.getElem?_append_left hi]; exact h
theorem get_app2 {α : Type} {l u : List α} {i : Nat} {q : α} (h : u[i]? = some q) : (l ++ u)[l.length + i]? = some q := by
  rw [List.getElem?_append_right (by omega), Nat.add_sub_cancel_left]; exact h
theorem PI.lean (h : PI L s) (h39 : tK (sT s) ≠ 39) (e : leanP bs L s = Sum.inr r) : PI L r ∧ tS (sT s) + 1 ≤ tS (sT r) := by
  obtain ⟨hTk, ⟨hn, hu⟩, ⟨hln, hlt, hlo, hll⟩, hps, hrs, ⟨hal, hal2, hal3⟩, h7, h8, h9, h10, h11, h12⟩ := id h
  obtain ⟨i1, p1⟩ := tok_on (bs := bs) hTk h39
  obtain ⟨i2, p2⟩ := tok_on0 (bs := bs) i1
  unfold leanP at e
  simp only at e
  generalize tok bs L (tN (sT s)) = t1 at *
  generalize tok bs L (tN t1) = t2 at *
  by_cases c2 : tK t1 ≠ 38
  · rw [if_pos c2] at e; exact absurd e (by simp)
  rw [if_neg c2] at e
  by_cases c3 : findN (sM s) (tV t1) (sN s) 0 = -1
  · rw [if_pos c3] at e; exact absurd e (by simp)
  rw [if_neg c3] at e
  rcases findN_c (nm := sM s) (v := tV t1) (sN s) 0 with z | ⟨o, o1, o2, o3⟩
  · exact absurd z c3
  rw [o3, Int.toNat_natCast] at e
  by_cases c4 : (sLn s).testBit o = true
  · rw [if_pos c4] at e; exact absurd e (by simp)
  rw [if_neg c4] at e
  have hb : (sLn s).testBit o = false := by cases hz : (sLn s).testBit o with
    | true => exact absurd hz c4
    | false => rfl
  cases ef : fml bs L (o : Int) (sN s) (sM s) (sLn s) (L + 1) (fmS t2 (sC s) (sLt s)) with
  | inl w => rw [ef] at e; exact absurd e (by simp)
  | inr q =>
    rw [ef] at e
    have e' := Sum.inr.inj e
    obtain ⟨j1, j2, j3, j4, j5⟩ := fml_I hn (by omega) (L + 1) (fmS t2 (sC s) (sLt s)) q (FI.ini (al := sAl s) i2 hal hal2 hlt) ef
    have hlw : ((o : Int) < 0) = False := propext ⟨fun z => by omega, fun z => z.elim⟩
    obtain ⟨k1, k2, k3, k4, k5, k6, k7, k8, k9⟩ := j1
    rw [j2] at k5 k7
    rw [j3] at k7
    rw [hlw] at k8
    have k7' : dpF 0 (fU q) = some 1 := k7
    have k5' : (sAl s).length + (fU q).length = fC q := k5
    have hun : fU q ≠ [] := by
      intro z
      rw [z] at k7'
      exact absurd k7' (by decide)
    have hulen : 0 < (fU q).length := List.length_pos_iff.mpr hun
    have j5' : tS t2 ≤ tS (fT q) := j5
    have hno : ∀ e, e ∈ sLf s → e.1 ≠ o := by
      intro e he z
      have := hlo o
      rw [hb] at this
      unfold lnOf at this
      rw [eq_comm, List.any_eq_false] at this
      exact this _ he (by simp [z])
    subst e'
    refine ⟨⟨k1, ⟨hn, hu⟩, ⟨?_, k9, fun z => ?_, ?_⟩, hps, hrs, ⟨?_, k6, ?_⟩, fun e he => ?_, fun i o' P sg rb he => ?_, fun k hk hne => ?_, h10, h11, h12⟩, by show tS (sT s) + 1 ≤ tS (fT q); omega⟩
    · show sLn s ||| 2 ^ o < 2 ^ sN s
      exact Nat.or_lt_two_pow hln (Nat.pow_lt_pow_right (by decide) (by omega))
    · show (sLn s ||| 2 ^ o).testBit z = lnOf (sLf s ++ [(o, fU q, (sAl s).length, sLk s)]) z
      rw [lnOf_sn, Nat.testBit_or, hlo z, Nat.testBit_two_pow]
      by_cases c : o = z
      · subst c; simp
      · simp [c]
    · show (sLf s ++ [(o, fU q, (sAl s).length, sLk s)]).length = cbN (sLn s ||| 2 ^ o) (sN s)
      rw [List.length_append, cbN_or hb, if_pos (by omega), hll]; rfl
    · show (sAl s ++ fU q).length = fC q
      rw [List.length_append]; exact k5'
    · show sLk s + (fU q).length + sWk s = fC q
      omega
    · show e.1 < sN s ∧ e.2.2.1 + e.2.1.length ≤ (sAl s ++ fU q).length ∧ e.2.2.2 + e.2.1.length ≤ sLk s + (fU q).length ∧ dpF 0 e.2.1 = some 1 ∧ (∀ i v, e.2.1[i]? = some v → (sAl s ++ fU q)[e.2.2.1 + i]? = some v) ∧ upN (sRt s) o (sLk s + (fU q).length - 1) e.1 = e.2.2.2 + e.2.1.length - 1
      rw [List.length_append]
      rcases mem_sn he with z | z
      · obtain ⟨m1, m2, m3, m4, m5, m6⟩ := h7 e z
        exact ⟨m1, by omega, by omega, m4, fun i v hv => get_app (m5 i v hv), by rw [upN_ne _ _ (hno e z)]; exact m6⟩
      · rw [z]
        exact ⟨by show o < sN s; omega, Nat.le_refl _, Nat.le_refl _, k7', fun i v hv => get_app2 hv, by show upN (sRt s) o (sLk s + (fU q).length - 1) o = _; rw [upN_self]⟩
    · have he' : (sLf s ++ [(o, fU q, (sAl s).length, sLk s)])[i]? = some (o', P, sg, rb) := he
      show (∀ v, v ∈ P → ∃ ln0, okEl False (o' : Int) (sN s) ln0 v ∧ ∀ z, ln0.testBit z = true → lnOf ((sLf s ++ [(o, fU q, (sAl s).length, sLk s)]).take i) z = true) ∧ lnOf ((sLf s ++ [(o, fU q, (sAl s).length, sLk s)]).take i) o' = false
      rcases Nat.lt_trichotomy i (sLf s).length with c | c | c
      · rw [List.getElem?_append_left c] at he'
        rw [List.take_append_of_le_length (by omega)]
        exact h8 i o' P sg rb he'
      · subst c
        rw [List.getElem?_append_right (Nat.le_refl _), Nat.sub_self] at he'
        have he2 : some (o, fU q, (sAl s).length, sLk s) = some (o', P, sg, rb) := he'
        cases he2
        rw [List.take_append_of_le_length (Nat.le_refl _), List.take_length]
        exact ⟨fun v hv => ⟨sLn s, k8 v hv, fun z hz => by rw [← hlo z]; exact hz⟩, by rw [← hlo o]; exact hb⟩
      · rw [List.getElem?_eq_none (by rw [List.length_append]; show (sLf s).length + 1 ≤ i; omega)] at he'
        exact absurd he' (by simp)
    · obtain ⟨m1, m2, m3, m4, m5⟩ := h9 k hk hne
      exact ⟨by show sWs s k + (sWf s k).length ≤ (sAl s ++ fU q).length; rw [List.length_append]; omega, m2, m3, fun v hv => okEl_T (m4 v hv), fun i v hv => get_app (m5 i v hv)⟩
theorem PI.law (h : PI L s) (h39 : tK (sT s) ≠ 39) (e : lawP bs L s = Sum.inr r) : PI L r ∧ tS (sT s) + 1 ≤ tS (sT r) := by
  obtain ⟨hTk, ⟨hn, hu⟩, ⟨hln, hlt, hlo, hll⟩, hps, hrs, ⟨hal, hal2, hal3⟩, h7, h8, h9, h10, h11, h12⟩ := id h
  obtain ⟨i1, p1⟩ := tok_on (bs := bs) hTk h39
  obtain ⟨i2, p2⟩ := tok_on0 (bs := bs) i1
  unfold lawP at e
  simp only at e
  generalize tok bs L (tN (sT s)) = t1 at *
  generalize tok bs L (tN t1) = t2 at *
  by_cases c2 : tK t1 < 7 ∨ 9 < tK t1
  · rw [if_pos c2] at e; exact absurd e (by simp)
  rw [if_neg c2] at e
  generalize hk0 : (tK t1 - 7).toNat = k0 at e
  have hk3 : k0 < 3 := by omega
  by_cases c4 : (sWf s k0).length ≠ 0
  · rw [if_pos c4] at e; exact absurd e (by simp)
  rw [if_neg c4] at e
  cases ef : fml bs L (-1) (sN s) (sM s) (sLn s) (L + 1) (fmS t2 (sC s) (sLt s)) with
  | inl w => rw [ef] at e; exact absurd e (by simp)
  | inr q =>
    rw [ef] at e
    have e' := Sum.inr.inj e
    obtain ⟨j1, j2, j3, j4, j5⟩ := fml_I hn (by omega) (L + 1) (fmS t2 (sC s) (sLt s)) q (FI.ini (al := sAl s) i2 hal hal2 hlt) ef
    have hlw : ((-1 : Int) < 0) = True := propext ⟨fun _ => trivial, fun _ => by decide⟩
    obtain ⟨k1, k2, k3, k4, k5, k6, k7, k8, k9⟩ := j1
    rw [j2] at k5 k7
    rw [j3] at k7
    rw [hlw] at k8
    have k7' : dpF 0 (fU q) = some 1 := k7
    have k5' : (sAl s).length + (fU q).length = fC q := k5
    have j5' : tS t2 ≤ tS (fT q) := j5
    subst e'
    refine ⟨⟨k1, ⟨hn, hu⟩, ⟨hln, k9, hlo, hll⟩, hps, hrs, ⟨?_, k6, ?_⟩, fun e he => ?_, h8, fun k hk hne => ?_, h10, h11, h12⟩, by show tS (sT s) + 1 ≤ tS (fT q); omega⟩
    · show (sAl s ++ fU q).length = fC q
      rw [List.length_append]; exact k5'
    · show sLk s + (sWk s + (fU q).length) = fC q
      omega
    · show e.1 < sN s ∧ e.2.2.1 + e.2.1.length ≤ (sAl s ++ fU q).length ∧ e.2.2.2 + e.2.1.length ≤ sLk s ∧ dpF 0 e.2.1 = some 1 ∧ (∀ i v, e.2.1[i]? = some v → (sAl s ++ fU q)[e.2.2.1 + i]? = some v) ∧ sRt s e.1 = e.2.2.2 + e.2.1.length - 1
      rw [List.length_append]
      obtain ⟨m1, m2, m3, m4, m5, m6⟩ := h7 e he
      exact ⟨m1, by omega, m3, m4, fun i v hv => get_app (m5 i v hv), m6⟩
    · have hne' : upN (sWf s) k0 (fU q) k ≠ [] := hne
      show upN (sWs s) k0 (sAl s).length k + (upN (sWf s) k0 (fU q) k).length ≤ (sAl s ++ fU q).length ∧ upN (sWb s) k0 (sWk s) k + (upN (sWf s) k0 (fU q) k).length ≤ sWk s + (fU q).length ∧ dpF 0 (upN (sWf s) k0 (fU q) k) = some 1 ∧ (∀ v, v ∈ upN (sWf s) k0 (fU q) k → okEl True (-1) (sN s) (sLn s) v) ∧ (∀ i v, (upN (sWf s) k0 (fU q) k)[i]? = some v → (sAl s ++ fU q)[upN (sWs s) k0 (sAl s).length k + i]? = some v)
      rw [List.length_append]
      by_cases c : k = k0
      · rw [c, upN_self, upN_self, upN_self]
        exact ⟨Nat.le_refl _, Nat.le_refl _, k7', k8, fun i v hv => get_app2 hv⟩
      · rw [upN_ne _ _ c] at hne'
        rw [upN_ne _ _ c, upN_ne _ _ c, upN_ne _ _ c]
        obtain ⟨m1, m2, m3, m4, m5⟩ := h9 k hk hne'
        exact ⟨by omega, by omega, m3, m4, fun i v hv => get_app (m5 i v hv)⟩
theorem PI.line (h : PI L s) (h39 : tK (sT s) ≠ 39) (e : lineP bs L s = Sum.inr r) : PI L r ∧ tS (sT s) + 1 ≤ tS (sT r) := by
  unfold lineP at e
  by_cases c0 : tK (sT s) = 0
  · rw [if_pos c0] at e; exact h.latch h39 e
  rw [if_neg c0] at e
  by_cases c1 : tK (sT s) = 1
  · rw [if_pos c1] at e; exact h.lean h39 e
  rw [if_neg c1] at e
  by_cases c2 : tK (sT s) = 2
  · rw [if_pos c2] at e; exact h.push h39 e
  rw [if_neg c2] at e
  by_cases c3 : tK (sT s) = 3
  · rw [if_pos c3] at e; exact h.oil h39 e
  rw [if_neg c3] at e
  by_cases c4 : tK (sT s) = 4
  · rw [if_pos c4] at e; exact h.rust h39 e
  rw [if_neg c4] at e
  by_cases c5 : tK (sT s) = 5
  · rw [if_pos c5] at e; exact h.seed h39 e
  rw [if_neg c5] at e
  by_cases c6 : tK (sT s) = 6
  · rw [if_pos c6] at e; exact h.law h39 e
  rw [if_neg c6] at e
  exact absurd e (by simp)
theorem PI.lnE (h : PI L s) (h39 : tK (sT s) ≠ 39) (e : lineE bs L s = Sum.inr r) : PI L r ∧ tS (sT s) + 1 ≤ tS (sT r) := by
  unfold lineE at e
  cases el : lineP bs L s with
  | inl w => rw [el] at e; exact absurd e (by simp)
  | inr q =>
    rw [el] at e
    have hq := h.line h39 el
    simp only at e
    by_cases c : tK (sT q) = 24
    · rw [if_pos c] at e
      have e' := Sum.inr.inj e
      subst e'
      have := tok_on0 (bs := bs) hq.1.1
      exact ⟨hq.1.tk this.1, by show tS (sT s) + 1 ≤ tS (tok bs L (tN (sT q))); omega⟩
    · rw [if_neg c] at e; exact absurd e (by simp)
theorem PI.zero : PI L (ps0 bs L) := by
  have d1 : (0 : Nat) < 2 ^ 0 := by decide
  have d2 : (0 : Int) ≤ 100 := by decide
  have d3 : (0 : Int) ≤ 99999 := by decide
  exact ⟨(tok_I (Nat.zero_le _)).1, ⟨Nat.zero_le _, d1⟩, ⟨d1, fun _ => (by decide : (0 : Nat) < 2 ^ 8), fun o => Nat.zero_testBit o, rfl⟩, ⟨Nat.zero_le _, Nat.zero_le _⟩, ⟨Int.le_refl _, d2, Int.le_refl _, d3⟩, ⟨rfl, Nat.zero_le _, rfl⟩, fun e he => absurd he (show ¬ e ∈ ([] : List LF) by simp), fun i o P sg rb he => absurd he (show ¬ ([] : List LF)[i]? = some (o, P, sg, rb) by simp), fun k _ hne => absurd rfl hne, fun e he => absurd he (show ¬ e ∈ ([] : List (Nat × Int)) by simp), fun e he => absurd he (show ¬ e ∈ ([] : List Int) by simp), fun l hl => absurd hl (Nat.not_lt_zero _)⟩
end LINESP
