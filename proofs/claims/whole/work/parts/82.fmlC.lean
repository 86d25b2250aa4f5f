/-! formulas in the class -/
def KA (al : KL) (M : Mem) : Prop := M 15 3 = (al.length : Int) ∧ ∀ i e, al[i]? = some e → M 16 i = e.1 ∧ M 17 i = e.2
def PdC (pd : List Int) (M : Mem) : Prop := M 1 3 = (pd.length : Int) ∧ SR (M 20) pd
def LtC (lt : Nat → Nat) (M : Mem) : Prop := ∀ l, l < 8 → M 9 l = (lt l : Int)
def FC (pre : KL) (s : FS) (M : Mem) : Prop := TC (fT s) M ∧ PdC (fP s) M ∧ M 1 4 = (fO s : Int) ∧ M 1 6 = (fC s : Int) ∧ KA (pre ++ fU s) M ∧ LtC (fL s) M ∧ M 1 5 = -1
/-- names, who leans -/
def NmC (n : Nat) (nm : Nat → Int) (ln : Nat) (M : Mem) : Prop := M 5 1 = (n : Int) ∧ n ≤ 8 ∧ (∀ l, l < n → M 6 l = nm l) ∧ M 5 5 = (ln : Int) ∧ ln < 256
def FrF (M M' : Mem) : Prop := (∀ a, a ≠ 1 → a ≠ 2 → a ≠ 9 → a ≠ 15 → a ≠ 16 → a ≠ 17 → a ≠ 20 → M' a = M a) ∧ (∀ k, k < 4 → M' 2 k = M 2 k) ∧ (∀ k, k ≠ 3 → k ≠ 4 → k ≠ 5 → k ≠ 6 → k ≠ 9 → k ≠ 10 → M' 1 k = M 1 k)
theorem FrF.rf (M : Mem) : FrF M M := ⟨fun _ _ _ _ _ _ _ _ => rfl, fun _ _ => rfl, fun _ _ _ _ _ _ _ => rfl⟩
theorem FrF.tr {M M1 M2 : Mem} (h1 : FrF M M1) (h2 : FrF M1 M2) : FrF M M2 := ⟨fun a a1 a2 a3 a4 a5 a6 a7 => (h2.1 a a1 a2 a3 a4 a5 a6 a7).trans (h1.1 a a1 a2 a3 a4 a5 a6 a7), fun k k1 => (h2.2.1 k k1).trans (h1.2.1 k k1), fun k k1 k2 k3 k4 k5 k6 => (h2.2.2 k k1 k2 k3 k4 k5 k6).trans (h1.2.2 k k1 k2 k3 k4 k5 k6)⟩
theorem FrTk.toF {M M' : Mem} (h : FrTk M M') : FrF M M' := ⟨fun a _ a2 _ _ _ _ _ => h.1 a a2, h.2, fun k _ _ _ _ _ _ => by rw [h.1 1 (by decide)]⟩
theorem FrF.u1 {M : Mem} {k : Nat} (v : Int) (h : k = 3 ∨ k = 4 ∨ k = 5 ∨ k = 6 ∨ k = 9 ∨ k = 10) : FrF M (upM M 1 k v) := ⟨fun a a1 _ _ _ _ _ _ => upM_ne _ _ _ a1, fun q _ => by rw [upM_ne _ _ _ (by decide)], fun q q1 q2 q3 q4 q5 q6 => by rw [upM_self, va_up_neq _ _ (by omega)]⟩
theorem FrF.uA {M : Mem} {a k : Nat} (v : Int) (h : a = 9 ∨ a = 15 ∨ a = 16 ∨ a = 17 ∨ a = 20) : FrF M (upM M a k v) := ⟨fun c _ _ c3 c4 c5 c6 c7 => upM_ne _ _ _ (by omega), fun q _ => by rw [upM_ne _ _ _ (by omega)], fun q _ _ _ _ _ _ => by rw [upM_ne _ _ _ (by omega)]⟩
theorem FrF.tp {bs : BF} {L : Nat} {M M' : Mem} (h : FrF M M') (hT : TPc bs L M) : TPc bs L M' := by
  unfold TPc
  rw [h.2.1 3 (by decide), h.1 3 (by decide) (by decide) (by decide) (by decide) (by decide) (by decide) (by decide), h.1 4 (by decide) (by decide) (by decide) (by decide) (by decide) (by decide) (by decide)]
  exact hT
theorem FrF.nm {n : Nat} {nm : Nat → Int} {ln : Nat} {M M' : Mem} (h : FrF M M') (hN : NmC n nm ln M) : NmC n nm ln M' := by
  unfold NmC
  rw [h.1 5 (by decide) (by decide) (by decide) (by decide) (by decide) (by decide) (by decide), h.1 6 (by decide) (by decide) (by decide) (by decide) (by decide) (by decide) (by decide)]
  exact hN
section FMLC
variable {E : Scr} {bs : BF} {L : Nat} {own : Int} {n : Nat} {nm : Nat → Int} {ln : Nat} {pre : KL}
theorem c_failsC {f : Int → Mem → Prop} {M : Mem} {w : Int} {st : Nat} (hw : 0 ≤ w ∧ w < 100) (h6 : M 2 6 = (st : Int)) (H : ∀ M', FrF M M' → M' 1 9 = w → M' 1 10 = (st : Int) → f 0 M') : CI E mX5_fails [pR 1, pI w] M f := by
  apply vX5_fails_0
  rw [h6]
  exact ⟨⟨by omega, by omega⟩, fun _ => H _ ((FrF.u1 _ (by omega)).tr (FrF.u1 _ (by omega))) rfl rfl⟩
theorem c_countsC {f : Int → Mem → Prop} {M : Mem} {c st : Nat} (hc : M 1 6 = (c : Int)) (hcb : c ≤ 64) (h6 : M 2 6 = (st : Int)) (H1 : c < 64 → f 1 (upM M 1 6 ((c : Int) + 1))) (H0 : 64 ≤ c → ∀ M', FrF M M' → M' 1 9 = 2 → M' 1 10 = (st : Int) → f 0 M') : CI E mX5_counts [pR 1] M f := by
  apply vX5_counts_0
  rw [hc]
  refine fun _ => ⟨fun z => fun _ => ⟨⟨by omega, by omega⟩, H1 (by omega)⟩, fun z => c_failsC (by decide) h6 (fun M' a1 a2 a3 => ⟨Or.inl rfl, H0 (by omega) M' a1 a2 a3⟩)⟩
theorem c_addPend {f : Mem → Prop} {M : Mem} {pd : List Int} {k : Int} (hk : iR k) (hp : PdC pd M) (hl : pd.length < 72) (H : ∀ M', FrF M M' → (∀ a, a ≠ 1 → a ≠ 20 → M' a = M a) → (∀ q, q ≠ 3 → M' 1 q = M 1 q) → PdC (k :: pd) M' → f M') : CV E mX5_addPending [pR 1, pI k] M f := by
  apply vX5_addPending_0
  rw [hp.1, Int.toNat_natCast]
  refine fun _ => ⟨fun z => absurd z (by omega), fun _ _ => ⟨⟨by omega, by omega⟩, hk, fun _ => ⟨⟨by omega, by omega⟩, H _ ((FrF.uA _ (by omega)).tr (FrF.u1 _ (by omega))) (fun a a1 a2 => by rw [upM_ne _ _ _ a1, upM_ne _ _ _ a2]) (fun q hq => by rw [upM_self, va_up_neq _ _ hq, upM_ne _ _ _ (by decide)]) ⟨?_, ?_⟩⟩⟩⟩
  · show (pd.length : Int) + 1 = ((k :: pd).length : Int)
    rw [List.length_cons]; omega
  · show SR (va_up (M 20) pd.length k) (k :: pd)
    exact hp.2.push k
theorem KA.snoc {al : KL} {M M' : Mem} {k v : Int} (h : KA al M) (h3 : M' 15 3 = (al.length : Int) + 1) (h16 : M' 16 = va_up (M 16) al.length k) (h17 : M' 17 = va_up (M 17) al.length v) : KA (al ++ [(k, v)]) M' := by
  refine ⟨?_, fun i e he => ?_⟩
  · rw [h3, List.length_append]; show _ = ((al.length + 1 : Nat) : Int); omega
  · rw [h16, h17]
    rcases Nat.lt_trichotomy i al.length with c | c | c
    · rw [List.getElem?_append_left c] at he
      rw [va_up_neq _ _ (by omega), va_up_neq _ _ (by omega)]
      exact h.2 i e he
    · subst c
      rw [List.getElem?_append_right (Nat.le_refl _), Nat.sub_self] at he
      have he' : some (k, v) = some e := he
      cases he'
      rw [va_up_self, va_up_self]; exact ⟨rfl, rfl⟩
    · rw [List.getElem?_eq_none (by rw [List.length_append]; show al.length + 1 ≤ i; omega)] at he
      exact absurd he (by simp)
theorem c_addK {f : Mem → Prop} {M : Mem} {al : KL} {k v : Int} (hk : iR k) (hv : iR v) (h : KA al M) (hl : al.length < 64) (H : ∀ M', FrF M M' → (∀ a, a ≠ 15 → a ≠ 16 → a ≠ 17 → M' a = M a) → KA (al ++ [(k, v)]) M' → f M') : CV E mX2_add [pR 15, pI k, pI v] M f := by
  apply vX2_add_0
  rw [h.1, Int.toNat_natCast]
  exact fun _ => ⟨fun z => absurd z (by omega), fun _ _ => ⟨⟨by omega, by omega⟩, hk, fun _ => ⟨⟨by omega, by omega⟩, hv, fun _ => ⟨⟨by omega, by omega⟩, H _ (((FrF.uA _ (by omega)).tr (FrF.uA _ (by omega))).tr (FrF.uA _ (by omega))) (fun a a1 a2 a3 => by rw [upM_ne _ _ _ a1, upM_ne _ _ _ a3, upM_ne _ _ _ a2]) (h.snoc rfl rfl rfl)⟩⟩⟩⟩
theorem okPd_r {lw : Prop} {k : Int} (h : okPd lw k) : 0 ≤ k ∧ k ≤ 36 := by
  rcases h with z | z | z | z | z <;> omega
theorem c_settleC {f : Mem → Prop} {r : Int} (hr : 1 ≤ r ∧ r ≤ 6) {lw : Prop} : ∀ (pd : List Int) (u : KL) (M : Mem), (∀ k, k ∈ pd → okPd lw k) → PdC pd M → KA (pre ++ u) M → (pre ++ u).length + npL pd ≤ 64 → pd.length ≤ 72 → (∀ M', FrF M M' → (∀ a, a ≠ 1 → a ≠ 15 → a ≠ 16 → a ≠ 17 → M' a = M a) → (∀ q, q ≠ 3 → M' 1 q = M 1 q) → PdC (stl r pd u).1 M' → KA (pre ++ (stl r pd u).2) M' → f M') → KW E mX5_settlePending (qV f) M 0 [(0, pR 1), (1, pI r)] [] := by
  intro pd
  induction pd with
  | nil =>
    intro u M hok hP hK hlen hl H
    apply vX5_settlePending_0
    rw [hP.1]
    exact fun _ => ⟨fun _ => H M (FrF.rf M) (fun _ _ _ _ _ => rfl) (fun _ _ => rfl) hP hK, fun z => absurd z (by decide)⟩
  | cons k pd ih =>
    intro u M hok hP hK hlen hl H
    have htop : M 20 pd.length = k := hP.2.top
    have hk := hok k (List.mem_cons_self ..)
    have hkr := okPd_r hk
    have hrb := rk_b k
    have hl2 : pd.length + 1 ≤ 72 := by rw [List.length_cons] at hl; exact hl
    have e1 : M 1 3 = (pd.length : Int) + 1 := by rw [hP.1, List.length_cons]; omega
    simp only [stl] at H
    apply vX5_settlePending_0
    rw [e1, show ((pd.length : Int) + 1 - 1).toNat = pd.length by omega, htop]
    refine fun _ => ⟨fun z => absurd z (by omega), fun _ _ => ⟨⟨by omega, by omega⟩, fun _ => c_rank ⟨by omega, by omega⟩ ⟨⟨by omega, by omega⟩, ⟨by omega, by omega⟩, fun c => ?_, fun c => ?_⟩⟩⟩
    · rw [if_neg (by omega)] at H
      exact H M (FrF.rf M) (fun _ _ _ _ _ => rfl) (fun _ _ => rfl) hP hK
    · rw [if_pos c] at H
      have hk25 : k ≠ 25 := fun z => by rw [z, rk25] at c; omega
      have e3 : npL (k :: pd) = (if k = 25 then 0 else 1) + npL pd := rfl
      rw [if_neg hk25] at e3
      rw [e1, show ((pd.length : Int) + 1 - 1).toNat = pd.length by omega, htop]
      refine fun _ => ⟨⟨by omega, by omega⟩, fun _ => ⟨⟨by omega, by omega⟩, fun _ => c_addK (al := pre ++ u) ⟨by omega, by omega⟩ ⟨by decide, by decide⟩ hK (by omega) (fun M1 b1 b2 b3 => ?_)⟩⟩
      have hP1 : PdC pd M1 := by
        refine ⟨?_, ?_⟩
        · rw [b2 1 (by decide) (by decide) (by decide), upM_self, va_up_self]; omega
        · rw [b2 20 (by decide) (by decide) (by decide), upM_ne _ _ _ (by decide)]
          exact hP.2.pop
      rw [List.append_assoc] at b3
      refine ih (u ++ [(k, 0)]) M1 (fun q hq => hok q (List.mem_cons_of_mem _ hq)) hP1 b3 ?_ (by omega) (fun M' a1 a2 a3 a4 a5 => H M' (((FrF.u1 _ (by omega)).tr b1).tr a1) (fun a c1 c2 c3 c4 => by rw [a2 a c1 c2 c3 c4, b2 a c2 c3 c4, upM_ne _ _ _ c1]) (fun q hq => by rw [a3 q hq, b2 1 (by decide) (by decide) (by decide), upM_self, va_up_neq _ _ hq]) a4 a5)
      rw [← List.append_assoc, List.length_append]
      show (pre ++ u).length + 1 + npL pd ≤ 64
      omega
theorem c_numberOf {f : Int → Mem → Prop} {M : Mem} {dd m : Nat} {v : Int} {nm : Nat → Int} (hd : dd = 5 ∨ dd = 21) (hv : iR v) (h1 : M dd 1 = (m : Int)) (hm : m ≤ 8) (h6 : ∀ l, l < m → M (dd + 1) l = nm l) (H : f (findN nm v m 0) M) : CI E mX1_numberOf [pR dd, pI v] M f := by
  have loop : ∀ (j k : Nat), k + j = m → f (findN nm v j k) M → KW E mX1_numberOf (qI f) M 2 [(0, pR dd), (1, pI v), (2, pI (k : Int))] [] := by
    intro j
    induction j with
    | zero =>
      intro k hk hf
      refine vX1_numberOf_2 _ _ hd ?_
      rw [h1]
      exact fun _ => ⟨⟨by omega, by omega⟩, fun _ => hf, fun z => absurd z (by omega)⟩
    | succ j ih =>
      intro k hk hf
      simp only [findN] at hf
      refine vX1_numberOf_2 _ _ hd ?_
      rw [h1, Int.toNat_natCast, h6 k (by omega)]
      refine fun _ => ⟨⟨by omega, by omega⟩, fun z => absurd z (by omega), fun _ => ⟨⟨by omega, by omega⟩, fun z => absurd z (by omega), fun _ => ⟨⟨by omega, by omega⟩, fun _ => ⟨hv, fun c => ?_, fun c => ?_⟩⟩⟩⟩
      · rw [if_neg c] at hf; exact ih (k + 1) (by omega) hf
      · rw [if_pos c] at hf; exact hf
  exact vX1_numberOf_0 _ hd (loop m 0 (Nat.zero_add _) H)
theorem c_numberTo {f : Int → Mem → Prop} {M : Mem} {t : Tk} {most : Int} (hm : 0 ≤ most ∧ most ≤ 99999) (hT : TC t M) (H1 : tK t = 37 → tV t ≤ most → f 1 M) (H0 : ∀ w : Int, (tK t ≠ 37 ∧ w = 1 ∨ tK t = 37 ∧ most < tV t ∧ w = 2) → ∀ M', FrF M M' → M' 1 9 = w → M' 1 10 = (tS t : Int) → f 0 M') : CI E mX5_numberTo [pR 1, pI most] M f := by
  obtain ⟨t1, t2, t3, t4⟩ := hT
  apply vX5_numberTo_0
  rw [t1, t2]
  refine fun _ => ⟨fun c => fun _ => ⟨⟨by omega, by omega⟩, fun c2 => H1 c c2, fun c2 => c_failsC (by decide) t3 (fun M' a1 a2 a3 => ⟨⟨by decide, by decide⟩, fun _ => H0 2 (Or.inr ⟨c, c2, rfl⟩) M' a1 a2 a3, fun z => absurd rfl z⟩)⟩, fun c => c_failsC (by decide) t3 (fun M' a1 a2 a3 => ⟨Or.inl rfl, H0 1 (Or.inl ⟨c, rfl⟩) M' a1 a2 a3⟩)⟩
theorem c_toldLatch {f : Int → Mem → Prop} {M : Mem} {t : Tk} (hv : 0 ≤ tV t ∧ tV t < 2147483648) (hT : TC t M) (hN : NmC n nm ln M) (H1 : tK t = 38 → findN nm (tV t) n 0 ≠ -1 → f 1 M) (H0 : ∀ w : Int, (tK t ≠ 38 ∧ w = 1 ∨ tK t = 38 ∧ findN nm (tV t) n 0 = -1 ∧ w = 4) → ∀ M', FrF M M' → M' 1 9 = w → M' 1 10 = (tS t : Int) → f 0 M') : CI E mX5_toldLatch [pR 1] M f := by
  obtain ⟨t1, t2, t3, t4⟩ := hT
  have hrg : iR (findN nm (tV t) n 0) := by
    have := hN.2.1
    rcases findN_c (nm := nm) (v := tV t) n 0 with z | ⟨q, q1, q2, q3⟩
    · rw [z]; exact ⟨by decide, by decide⟩
    · rw [q3]; exact ⟨by omega, by omega⟩
  apply vX5_toldLatch_0
  rw [t1, t2]
  refine fun _ => ⟨fun c => fun _ => c_numberOf (Or.inl rfl) ⟨by omega, by omega⟩ hN.1 hN.2.1 hN.2.2.1 ⟨hrg, fun c2 => H1 c c2, fun c2 => c_failsC (by decide) t3 (fun M' a1 a2 a3 => ⟨⟨by decide, by decide⟩, fun _ => H0 4 (Or.inr ⟨c, c2, rfl⟩) M' a1 a2 a3, fun z => absurd rfl z⟩)⟩, fun c => c_failsC (by decide) t3 (fun M' a1 a2 a3 => ⟨Or.inl rfl, H0 1 (Or.inl ⟨c, rfl⟩) M' a1 a2 a3⟩)⟩
theorem c_addLeant {f : Mem → Prop} {M : Mem} {lt : Nat → Nat} {o : Nat} {x : Nat} (ho : o < 8) (hx : x < 256) (hlb : ∀ l, lt l < 2 ^ 8) (hL : LtC lt M) (H : ∀ M', FrF M M' → (∀ a, a ≠ 9 → M' a = M a) → LtC (upN lt o (lt o ||| x)) M' → f M') : CV E mX1_addLeant [pR 5, pI (o : Int), pI (x : Int)] M f := by
  have hb := hlb o
  apply vX1_addLeant_0
  rw [Int.toNat_natCast, hL o ho, bOr_nat (by omega) (by omega)]
  refine ⟨⟨by omega, by omega⟩, fun z => absurd z (by omega), fun _ => ⟨⟨by omega, by omega⟩, fun z => absurd z (by omega), fun _ => ⟨⟨by omega, by omega⟩, fun _ => ⟨⟨by omega, by omega⟩, H _ (FrF.uA _ (by omega)) (fun a a1 => upM_ne _ _ _ a1) (fun l hl => ?_)⟩⟩⟩⟩
  rw [upM_self]
  by_cases e : l = o
  · rw [e, va_up_self, upN_self]
  · rw [va_up_neq _ _ e, upN_ne _ _ e]; exact hL l hl
end FMLC
