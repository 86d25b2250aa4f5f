/-! both tables are one -/
theorem ctg_split {e : LF} {p : List LF} : ∀ (a : List LF) (b z : Nat), ctg b (a ++ e :: p) z → ctg b (a ++ [e]) (e.2.2.2 + e.2.1.length) := by
  intro a
  induction a with
  | nil => intro b z h; exact ⟨h.1, by show b + e.2.1.length = _; rw [h.1]⟩
  | cons q a ih => intro b z h; exact ⟨h.1, ih _ _ h.2⟩
theorem opP_lt {x n : Nat} {c : Int} : ∀ (l : List LF) (op : Nat), (∀ e, e ∈ l → e.1 < n) → op < 2 ^ n → opP x c l op < 2 ^ n := by
  intro l
  induction l with
  | nil => intro op _ h; exact h
  | cons e l ih =>
    intro op h1 h2
    simp only [opP]
    refine ih _ (fun e' he => h1 e' (List.mem_cons_of_mem _ he)) ?_
    have := Nat.pow_lt_pow_right (a := 2) (by decide) (h1 e (List.mem_cons_self ..))
    cases hd1 (evB (lfB x c op) e.2.1 [])
    · exact h2
    · exact Nat.or_lt_two_pow h2 this
section MAYM
variable {E : Scr} {f : Mem → Prop} {L : Nat} {s : PSt} {M0 : Mem}
theorem opA_lt (hI : PI L s) {x : Nat} {c : Int} : opA s x c < 2 ^ sN s := by
  unfold opA
  refine opP_lt _ _ (fun e he => (hI.2.2.2.2.2.2.1 e he).1) ?_
  have : andN (2 ^ sN s - 1) (sLn s) ≤ 2 ^ sN s - 1 := andN_le _ _
  have hpos : 0 < 2 ^ sN s := Nat.two_pow_pos _
  omega
theorem mayP_lt (hI : PI L s) {x : Nat} : mayP s x < 2 ^ sN s := by
  unfold mayP
  have h1 : andN (opA s x (pop x : Int)) x ≤ opA s x (pop x : Int) := andN_le _ _
  have h2 : opA s x ((pop x : Int) - 1) &&& x ≤ opA s x ((pop x : Int) - 1) := Nat.and_le_left
  have h3 := opA_lt hI (x := x) (c := (pop x : Int))
  have h4 := opA_lt hI (x := x) (c := (pop x : Int) - 1)
  exact Nat.or_lt_two_pow (by omega) (by omega)
theorem mayP_c {x l : Nat} (hl : l < 17) : (mayP s x).testBit l = (opA s x ((pop (andN x (2 ^ l)) : Nat) : Int)).testBit l := by
  rw [mayP_tb]
  cases hb : x.testBit l with
  | true =>
    rw [if_pos rfl]
    have hy : (andN x (2 ^ l)).testBit l = false := by rw [andN_tb, Nat.testBit_two_pow]; simp
    have hx : andN x (2 ^ l) ^^^ 2 ^ l = x := by
      apply Nat.eq_of_testBit_eq
      intro q
      rw [Nat.testBit_xor, andN_tb, Nat.testBit_two_pow]
      by_cases e : l = q
      · subst e; rw [hb]; simp
      · simp [e]
    have := popN_xor hy 17
    rw [hx, if_pos hl] at this
    have hp : pop x = pop (andN x (2 ^ l)) + 1 := this
    rw [hp, show ((pop (andN x (2 ^ l)) + 1 : Nat) : Int) - 1 = ((pop (andN x (2 ^ l)) : Nat) : Int) by omega]
  | false =>
    rw [if_neg (by decide)]
    have hx : andN x (2 ^ l) = x := by
      apply Nat.eq_of_testBit_eq
      intro q
      rw [andN_tb, Nat.testBit_two_pow]
      by_cases e : l = q
      · subst e; rw [hb]; rfl
      · simp [e]
    rw [hx]
theorem c_layMay (hI : PI L s) (hPK : PK s) (hK : KpM s M0) (H : ∀ M', Fr4 M0 M' → (∀ x, x < 2 ^ sN s → M' 123 x = (mayP s x : Int) ∧ mayP s x < 2 ^ sN s) → f M') : CV E mX11_layMay [pR 98] M0 f := by
  obtain ⟨hTk, ⟨hn, hu⟩, ⟨hln, hlt, hlo, hll⟩, -, -, ⟨hal, hal2, hal3⟩, h7, h8, -⟩ := id hI
  have hp8 := pw8' hn
  have h12 : M0 98 12 = (sN s : Int) := hK.1.1
  apply vX11_layMay_0
  have inner : ∀ (x : Nat), x < 2 ^ sN s → ∀ (j l acc : Nat) (M : Mem), l + j = sN s → acc < 2 ^ sN s → (∀ q, acc.testBit q = (decide (q < l) && (mayP s x).testBit q)) → Fr4 M0 M → M 123 x = (acc : Int) → (∀ y, y < x → M 123 y = (mayP s y : Int)) →
      (∀ M', Fr4 M0 M' → (∀ y, y < x + 1 → M' 123 y = (mayP s y : Int)) → KW E mX11_layMay (qV f) M' 2 [(0, pR 98), (1, pI ((x : Int) + 1))] []) → KW E mX11_layMay (qV f) M 21 [(0, pR 98), (1, pI (x : Int)), (2, pI (l : Int))] [] := by
    intro x hx j
    induction j with
    | zero =>
      intro l acc M hlj hacc hbits hF h123 hy K
      have e12 : M 98 12 = (sN s : Int) := by rw [hF 98 (by decide) (by decide)]; exact h12
      apply vX11_layMay_21
      rw [e12]
      refine fun _ => ⟨⟨by omega, by omega⟩, fun _ => K M hF (fun y hy2 => ?_), fun z => absurd z (by omega)⟩
      by_cases e : y = x
      · rw [e, h123]
        have : acc = mayP s x := by
          apply Nat.eq_of_testBit_eq
          intro q
          rw [hbits q]
          by_cases c : q < l
          · simp [c]
          · rw [Nat.testBit_lt_two_pow (Nat.lt_of_lt_of_le (mayP_lt hI (x := x)) (Nat.pow_le_pow_right (by decide) (by omega)))]
            simp
        rw [this]
      · exact hy y (by omega)
    | succ j ih =>
      intro l acc M hlj hacc hbits hF h123 hy K
      have hl : l < sN s := by omega
      have e12 : M 98 12 = (sN s : Int) := by rw [hF 98 (by decide) (by decide)]; exact h12
      have hpl : 2 ^ l < 2 ^ sN s := Nat.pow_lt_pow_right (by decide) hl
      have hrl := hK.2.2.2.2.1 l hl
      have setB : ∀ M', Fr4 M0 M' → M' 123 = M 123 → (mayP s x).testBit l = true → KW E mX11_layMay (qV f) (upM M' 123 x (bOr (M' 123 x) (bShl 1 (l : Int)))) 21 [(0, pR 98), (1, pI (x : Int)), (2, pI ((l : Int) + 1))] [] := by
        intro M' a1 a2 a3
        rw [a2, h123, bShl_one (by omega), bOr_nat (by omega) (by omega), show (l : Int) + 1 = ((l + 1 : Nat) : Int) by omega]
        refine ih (l + 1) (acc ||| 2 ^ l) _ (by omega) (Nat.or_lt_two_pow hacc hpl) (fun q => ?_) (a1.tr (Fr4.u _ (Or.inl rfl))) (by rw [upM_self, va_up_self]) (fun y hy2 => by rw [upM_self, va_up_neq _ _ (by omega), a2]; exact hy y hy2) K
        rw [Nat.testBit_or, hbits q, Nat.testBit_two_pow]
        by_cases e : l = q
        · subst e; rw [a3]; simp
        · by_cases c : q < l
          · have c2 : q < l + 1 := by omega
            simp [e, c, c2]
          · have c2 : ¬ q < l + 1 := by omega
            simp [e, c, c2]
      have skipB : ∀ M', Fr4 M0 M' → M' 123 = M 123 → (mayP s x).testBit l = false → KW E mX11_layMay (qV f) M' 21 [(0, pR 98), (1, pI (x : Int)), (2, pI ((l : Int) + 1))] [] := by
        intro M' a1 a2 a3
        rw [show (l : Int) + 1 = ((l + 1 : Nat) : Int) by omega]
        refine ih (l + 1) acc M' (by omega) hacc (fun q => ?_) a1 (by rw [a2]; exact h123) (fun y hy2 => by rw [a2]; exact hy y hy2) K
        rw [hbits q]
        by_cases e : l = q
        · subst e; rw [a3]; simp
        · by_cases c : q < l
          · have c2 : q < l + 1 := by omega
            simp [c, c2]
          · have c2 : ¬ q < l + 1 := by omega
            simp [c, c2]
      apply vX11_layMay_21
      rw [e12]
      refine fun _ => ⟨⟨by omega, by omega⟩, fun z => absurd z (by omega), fun _ => ?_⟩
      cases hb : (sLn s).testBit l with
      | false =>
        rw [hb, if_neg (by decide)] at hrl
        have e105 : M 105 l = -1 := by rw [hF 105 (by decide) (by decide)]; exact hrl
        apply vX11_layMay_31
        rw [Int.toNat_natCast, Int.toNat_natCast, e105]
        refine ⟨⟨by omega, by omega⟩, fun _ => ⟨⟨by decide, by decide⟩, fun _ => ⟨⟨by omega, by omega⟩, fun _ => ⟨fun _ => ⟨⟨by omega, by omega⟩, fun _ => ⟨⟨by omega, by omega⟩, setB M hF rfl ((mayP_free hI).2 l hl hb x hx)⟩⟩, fun z => absurd z (by decide)⟩⟩, fun z => absurd z (by decide)⟩⟩
      | true =>
        rw [hb, if_pos rfl] at hrl
        obtain ⟨e, he1, he2⟩ := lf_of hI hb
        obtain ⟨pre, post, hsp⟩ := List.append_of_mem he1
        obtain ⟨m1, m2, m3, m4, m5, m6⟩ := h7 e he1
        have hpos := dp_pos m4
        have hct : ctg 0 (pre ++ [e]) (sRt s l + 1) := by
          have h1 : ctg 0 (sLf s) (sLk s) := hPK
          rw [hsp] at h1
          have h2 := ctg_split pre 0 (sLk s) h1
          rw [← he2, m6, show e.2.2.2 + e.2.1.length - 1 + 1 = e.2.2.2 + e.2.1.length by omega]; exact h2
        have hmc := mayP_c (s := s) (x := x) (l := l) (by omega)
        refine c_rowL hI hK (by omega) hl rfl hb (pre ++ [e]) [] post 0 _ M (fun _ => false) (by rw [hsp]; simp) ⟨e, by simp, he2⟩ hct rfl hF (fun q hq => absurd hq (Nat.not_lt_zero _)) (fun e' he' => absurd he' (by simp)) (fun z z1 _ => ?_) (fun M' a1 a2 a3 => ?_)
        · show (andN (2 ^ sN s - 1) (sLn s)).testBit z = false
          rw [andN_tb, z1]; simp
        · have e105 : M' 105 l = (sRt s l : Int) := by rw [a1 105 (by decide) (by decide)]; exact hrl.1
          rw [← hmc] at a3
          have hr64 := hrl.2
          apply vX11_layMay_31
          rw [Int.toNat_natCast, Int.toNat_natCast, e105, Int.toNat_natCast, a3]
          refine ⟨⟨by omega, by omega⟩, fun _ => ⟨⟨by omega, by omega⟩, fun _ => ⟨⟨by omega, by omega⟩, fun _ => ⟨fun z => absurd z (by omega), fun _ => ⟨⟨by omega, by omega⟩, fun _ => ⟨⟨by omega, by omega⟩, fun _ => ⟨fun z => ?_, fun z => ?_⟩⟩⟩⟩⟩, fun z => absurd z (by omega)⟩⟩
          · exact skipB M' a1 a2 (bI_eq0 z)
          · exact ⟨⟨by omega, by omega⟩, fun _ => ⟨⟨by omega, by omega⟩, setB M' a1 a2 (bI_ne z)⟩⟩
  have outer : ∀ (j x : Nat) (M : Mem), x + j = 2 ^ sN s → Fr4 M0 M → (∀ y, y < x → M 123 y = (mayP s y : Int)) → KW E mX11_layMay (qV f) M 2 [(0, pR 98), (1, pI (x : Int))] [] := by
    intro j
    induction j with
    | zero =>
      intro x M hx hF hy
      have e12 : M 98 12 = (sN s : Int) := by rw [hF 98 (by decide) (by decide)]; exact h12
      apply vX11_layMay_2
      rw [e12, bShl_one (by omega)]
      exact fun _ => ⟨⟨by omega, by omega⟩, fun _ => H M hF (fun y hy2 => ⟨hy y (by omega), mayP_lt hI⟩), fun z => absurd z (by omega)⟩
    | succ j ih =>
      intro x M hx hF hy
      have e12 : M 98 12 = (sN s : Int) := by rw [hF 98 (by decide) (by decide)]; exact h12
      apply vX11_layMay_2
      rw [e12, bShl_one (by omega), Int.toNat_natCast]
      refine fun _ => ⟨⟨by omega, by omega⟩, fun z => absurd z (by omega), fun _ => ⟨⟨by omega, by omega⟩, ?_⟩⟩
      refine inner x (by omega) (sN s) 0 0 _ (by omega) (Nat.two_pow_pos _) (fun q => by rw [Nat.zero_testBit]; simp) (hF.tr (Fr4.u _ (Or.inl rfl))) (by rw [upM_self, va_up_self]; rfl) (fun y hy2 => by rw [upM_self, va_up_neq _ _ (by omega)]; exact hy y hy2) (fun M' a1 a2 => ?_)
      rw [show (x : Int) + 1 = ((x + 1 : Nat) : Int) by omega]
      exact ih (x + 1) M' (by omega) a1 a2
  exact outer (2 ^ sN s) 0 M0 (by omega) (Fr4.rf _) (fun y hy => absurd hy (Nat.not_lt_zero _))
end MAYM
