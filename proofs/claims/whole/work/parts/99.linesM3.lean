/-! leanings, laws and whole lines in the reference -/
theorem ND_mon2 {nd nd2 : Nat → Int → Int → List Nat → Prop} : ∀ (P : KL) (i : Nat) (H : List Nat), (∀ q k v G, i ≤ q → q < i + P.length → (k, v) ∈ P → nd q k v G → nd2 q k v G) → ND nd i H P → ND nd2 i H P := by
  intro P
  induction P with
  | nil => intro i H _ _; trivial
  | cons e P ih =>
    intro i H h1 h2
    refine ⟨h1 i e.1 e.2 H (Nat.le_refl _) (by rw [List.length_cons]; omega) (List.mem_cons_self ..) h2.1, ih (i + 1) _ (fun q k v G a b c d => h1 q k v G (by omega) (by rw [List.length_cons]; omega) (List.mem_cons_of_mem _ c) d) h2.2⟩
section LINESM3
variable {E : Scr} {bs : BF} {L : Nat} {s : PSt}
theorem lf_of (hI : PI L s) {l : Nat} (h : (sLn s).testBit l = true) : ∃ e, e ∈ sLf s ∧ e.1 = l := by
  have := hI.2.2.1.2.2.1 l
  rw [h] at this
  unfold lnOf at this
  rw [eq_comm, List.any_eq_true] at this
  obtain ⟨e, a, b⟩ := this
  exact ⟨e, a, by simpa using b⟩
theorem dp_pos {P : KL} (h : dpF 0 P = some 1) : 0 < P.length := by
  match P, h with
  | [], h => exact absurd h (by decide)
  | _ :: _, _ => exact Nat.succ_pos _
theorem c_lineM_lean {f : Int → Mem → Prop} {M : Mem} (hI : PI L s) (h : PMr bs L s M) (HE : ∀ w pl, leanP bs L s = Sum.inl (w, pl) → ∀ M', FrRm M M' → M' 98 4 = w → M' 98 5 = (pl : Int) → f 0 M') (HO : ∀ r, leanP bs L s = Sum.inr r → ∀ M', FrRm M M' → M' 98 4 = M 98 4 → M' 98 5 = M 98 5 → PMr bs L r M' → f 1 M')
    (HN : ∀ t : Tk, leanP bs L s = Sum.inl (1, tS t) → tK t ≠ 24 → ∀ M', FrRm M M' → TM t M' → f 1 M') : CI E mX11_leanLine [pR 98] M f := by
  obtain ⟨hTk, ⟨hn, hu⟩, ⟨hln, hlt, hlo, hll⟩, hps, hrs, ⟨hal, hal2, hal3⟩, h7, h8, -⟩ := id hI
  unfold leanP at HE HO HN
  apply vX11_leanLine_0
  refine c_tokP hTk h (fun M1 b1 b2 b3 => ?_)
  generalize ht1 : tok bs L (tN (sT s)) = t1 at HE HO HN b2 b3
  have e10 : M1 98 10 = (tS t1 : Int) := b3.2.1.2.1
  rw [e10]
  refine fun _ => c_latchThere (t := t1) b2 b3.1 b3.2.2.1 b3.2.1 (fun h38 o ho ef M2 d1 d2 d3 d4 d5 => ⟨⟨by decide, by decide⟩, fun _ => ?_, fun z => absurd z (by decide)⟩) (fun w hw M2 g1 g2 g3 => ⟨⟨by decide, by decide⟩, fun z => absurd rfl z, fun _ => HE w (tS t1) ?_ M2 (b1.toH.toRm.tr g1.toRm) g2 g3⟩)
  · replace ho : o < sN s := ho
    replace ef : findN (sM s) (tV t1) (sN s) 0 = (o : Int) := ef
    rw [if_neg (fun y => y h38), ef, if_neg (by omega), Int.toNat_natCast] at HE HO HN
    have hP2 := b3.tk (t := tok bs L (tN t1)) d2 d3 d5
    have i2 := (tok_I (bs := bs) b2.2.2.1).1
    generalize ht2 : tok bs L (tN t1) = t2 at HE HO HN d5 i2 hP2
    obtain ⟨p1, p2, p3, p4, p5, p6, p7, p8, p9, p10, p11, p12⟩ := hP2
    have hN2 : NmM (sN s) (sM s) (sLn s) (sRt s) M2 := p3
    have hno := hN2.2.2.2 o ho
    have hQ2 : FrRm M M2 := b1.toH.toRm.tr d1.1.toRm
    rw [d4, show ((8 : Int) + (o : Int)).toNat = 8 + o by omega]
    refine fun _ => ⟨⟨by omega, by omega⟩, fun _ => ⟨fun c => ?_, fun c => ?_⟩⟩
    · have hb : (sLn s).testBit o = false := by
        cases hz : (sLn s).testBit o with
        | false => rfl
        | true => rw [hz, if_pos rfl] at hno; omega
      rw [if_neg (by rw [hb]; decide)] at HE HO HN
      intro _
      apply vX11_leaningRead_0
      generalize hM3 : upM (upM (upM M2 98 42 0) 98 43 0) 98 44 0 = M3
      have hG3 : FrHL M2 M3 := by rw [← hM3]; exact ((FrHL.u98 _ (by omega)).tr (FrHL.u98 _ (by omega))).tr (FrHL.u98 _ (by omega))
      have c3 : ∀ a, a ≠ 98 → M3 a = M2 a := fun a ha => by rw [← hM3, upM_ne _ _ _ ha, upM_ne _ _ _ ha, upM_ne _ _ _ ha]
      have q3 : ∀ q, q ≠ 42 → q ≠ 43 → q ≠ 44 → M3 98 q = M2 98 q := fun q a b c => by rw [← hM3, upM_self, va_up_neq _ _ c, upM_self, va_up_neq _ _ b, upM_self, va_up_neq _ _ a]
      have hR : RLn (sRt s) (sLk s) (fmS t2 (sC s) (sLt s)) M3 := by
        refine ⟨d5.of (fun q a b => q3 q (by omega) (by omega) (by omega)), ⟨by rw [← hM3]; rfl, fun i v hv => absurd hv (by show ¬ (([] : List Int)[i]? = some v); simp)⟩, by rw [← hM3]; rfl, by rw [q3 45 (by decide) (by decide) (by decide)]; exact p12.2.2, by rw [q3 33 (by decide) (by decide) (by decide)]; exact p12.1, ⟨by rw [← hM3]; rfl, fun i v hv => absurd hv (by show ¬ (([] : List Int)[i]? = some v); simp)⟩, trivial, p6.of (c3 106 (by decide))⟩
      have hroot : ∀ l, l < sN s → (sLn s).testBit l = true → sRt s l < sLk s := by
        intro l _ hlb
        obtain ⟨e, he1, he2⟩ := lf_of hI hlb
        obtain ⟨m1, m2, m3, m4, m5, m6⟩ := h7 e he1
        have := dp_pos m4
        rw [← he2, m6]; omega
      have h33 : M2 98 33 = (sLk s : Int) := p12.1
      refine c_leanL (nm := sM s) (base := (sAl s).length) ho (by rw [hal]; omega) hroot p1 hN2 (L + 1) (fmS t2 (sC s) (sLt s)) M3 (FI.ini i2 hal hal2 hlt) (by omega) hG3 hR (fun w pl e M4 g1 g2 g3 => ?_) (fun t e ht M4 g1 g2 => ?_) (fun r e g0 g0' M4 g1 g2 => ?_)
      · rw [e] at HE
        exact ⟨⟨by decide, by decide⟩, fun z => absurd rfl z, fun _ => HE w pl rfl M4 (hQ2.tr g1.toRm) g2 g3⟩
      · rw [e] at HN
        have hge := g1.1.2.2.1.2.2.1
        refine ⟨⟨by decide, by decide⟩, fun _ hr => ⟨⟨by omega, by omega⟩, ⟨by omega, by omega⟩, ?_⟩, fun z => absurd z (by decide)⟩
        exact HN t rfl ht _ ((hQ2.tr g1.1.toRm).tr (FrRm.uA _ (by omega) (by unfold lowH; omega))) (g2.of (fun q _ _ => by rw [upM_ne _ _ _ (by decide)]))
      · rw [e] at HO
        obtain ⟨r1, r2, r3, r4, r5, r6, r7, r8⟩ := g2
        have hcr := g0.2.2.2.2.2.1
        have hcl : (sAl s).length + (fU r).length + npL (fP r) = fC r := g0.2.2.2.2.1
        have hdp : dpF 0 (fU r) = some 1 := by
          have := g0.2.2.2.2.2.2.1
          rw [g0'.1, g0'.2.1] at this
          exact this
        have hpos := dp_pos hdp
        rw [r5]
        refine ⟨⟨by decide, by decide⟩, fun _ _ => ⟨⟨by omega, by omega⟩, ⟨by omega, by omega⟩, ?_⟩, fun z => absurd z (by decide)⟩
        have hv : (((sLk s + (fU r).length : Nat) : Int) - 1) = ((sLk s + (fU r).length - 1 : Nat) : Int) := by omega
        rw [hv]
        generalize hM5 : upM M4 105 (8 + o) ((sLk s + (fU r).length - 1 : Nat) : Int) = M5
        have c5 : ∀ a, a ≠ 105 → M5 a = M4 a := fun a ha => by rw [← hM5, upM_ne _ _ _ ha]
        have hF := g1.1
        have c4 : ∀ a, a ≠ 98 → a ≠ 105 → a ≠ 106 → ¬ (110 ≤ a ∧ a ≤ 112) → ¬ (116 ≤ a ∧ a ≤ 120) → M5 a = M2 a := fun a a1 a2 a3 a4 a5 => by rw [c5 a a2]; exact hF.1 a a1 a3 a4 a5
        have q4 : ∀ k, ¬ (4 ≤ k ∧ k ≤ 5) → ¬ (7 ≤ k ∧ k ≤ 11) → k ≠ 19 → k ≠ 33 → ¬ (42 ≤ k ∧ k ≤ 47) → M5 98 k = M2 98 k := fun k k1 k2 k3 k4 k5 => by rw [c5 98 (by decide)]; exact hF.2.2.2 k k1 k2 k3 k4 k5
        have hQ5 : FrRm M M5 := by rw [← hM5]; exact (hQ2.tr hF.toRm).tr (FrRm.uA _ (by omega) (by unfold lowH; omega))
        have e105 : M5 105 = va_up (M2 105) (8 + o) ((sLk s + (fU r).length - 1 : Nat) : Int) := by rw [← hM5, upM_self, hF.1 105 (by decide) (by decide) (by decide) (by decide)]
        have hup : ∀ a, 110 ≤ a → a ≤ 112 → ∀ q, q < sLk s → upH M5 a q = upH M2 a q := fun a a1 a2 q hq => by
          show M5 a (64 + q) = M2 a (64 + q)
          rw [c5 a (by omega)]; exact hF.2.2.1.1 a a1 a2 (64 + q) (by rw [h33]; omega)
        have hup5 : ∀ a, 110 ≤ a → a ≤ 112 → upH M5 a = upH M4 a := fun a a1 a2 => by unfold upH; rw [c5 a (by omega)]
        have hno2 : ∀ e, e ∈ sLf s → e.1 ≠ o := by
          intro e he z
          have := hlo o
          rw [hb] at this
          unfold lnOf at this
          rw [eq_comm, List.any_eq_false] at this
          exact this _ he (by simp [z])
        have h19 : M5 98 19 = M2 98 19 := by rw [c5 98 (by decide)]; exact g1.2.2.2
        refine HO _ rfl M5 hQ5 (by rw [c5 98 (by decide), g1.2.1, d1.2.1, b1.2 4 (by decide)]) (by rw [c5 98 (by decide), g1.2.2.1, d1.2.2.1, b1.2 5 (by decide)]) ⟨?_, r1.of (fun q _ _ => by rw [c5 98 (by decide)]), ⟨?_, hn, ?_, fun l hl => ?_⟩, fun l hl1 hl2 => ?_, ?_, r8.of (c5 106 (by decide)), ?_, ?_, ?_, fun k hk => ?_, fun e he => ?_, ⟨?_, ?_, ?_⟩⟩
        · unfold TPm; rw [q4 6 (by decide) (by decide) (by decide) (by decide) (by decide), c4 99 (by decide) (by decide) (by decide) (by decide) (by decide), c4 100 (by decide) (by decide) (by decide) (by decide) (by decide)]; exact p1
        · rw [q4 16 (by decide) (by decide) (by decide) (by decide) (by decide)]; exact hN2.1
        · intro l hl; rw [c4 103 (by decide) (by decide) (by decide) (by decide) (by decide)]; exact hN2.2.2.1 l hl
        · show if (sLn s ||| 2 ^ o).testBit l = true then M5 105 (8 + l) = ((upN (sRt s) o (sLk s + (fU r).length - 1) l : Nat) : Int) ∧ upN (sRt s) o (sLk s + (fU r).length - 1) l < 64 else M5 105 (8 + l) = -1
          rw [e105, Nat.testBit_or, Nat.testBit_two_pow]
          by_cases e : l = o
          · rw [e, upN_self, va_up_self]
            simp
            omega
          · have e' : ¬ o = l := fun z => e z.symm
            rw [upN_ne _ _ e, va_up_neq _ _ (by omega)]
            simp only [e', decide_false, Bool.or_false]
            exact hN2.2.2.2 l hl
        · have hl2' : (sLn s ||| 2 ^ o).testBit l = false := hl2
          rw [Nat.testBit_or, Nat.testBit_two_pow] at hl2'
          have hlo2 : l ≠ o := fun y => by rw [y] at hl2'; simp at hl2'
          have hlb : (sLn s).testBit l = false := by
            cases hy : (sLn s).testBit l
            · rfl
            · rw [hy] at hl2'; simp at hl2'
          rw [e105, va_up_neq _ _ (by omega)]; exact p4 l hl1 hlb
        · rw [c4 104 (by decide) (by decide) (by decide) (by decide) (by decide)]; exact p5
        · rw [q4 17 (by decide) (by decide) (by decide) (by decide) (by decide), c4 107 (by decide) (by decide) (by decide) (by decide) (by decide), c4 108 (by decide) (by decide) (by decide) (by decide) (by decide)]; exact p7
        · rw [q4 18 (by decide) (by decide) (by decide) (by decide) (by decide), c4 109 (by decide) (by decide) (by decide) (by decide) (by decide)]; exact p8
        · rw [c4 102 (by decide) (by decide) (by decide) (by decide) (by decide), c4 101 (by decide) (by decide) (by decide) (by decide) (by decide)]; exact p9
        · rw [c4 113 (by decide) (by decide) (by decide) (by decide) (by decide), c4 114 (by decide) (by decide) (by decide) (by decide) (by decide), c4 115 (by decide) (by decide) (by decide) (by decide) (by decide)]
          rcases p10 k hk with z | ⟨z1, z2, z3, z4, z5⟩
          · exact Or.inl z
          · have hw9 := hI.2.2.2.2.2.2.2.2.1 k hk z1
            have hk19 : M2 98 19 = (sWk s : Int) := p12.2.1
            have hupw : ∀ a, 116 ≤ a → a ≤ 118 → ∀ q, q < sWk s → upH M5 a q = upH M2 a q := fun a a1 a2 q hq => by
              show M5 a (64 + q) = M2 a (64 + q)
              rw [c5 a (by omega)]; exact hF.2.2.1.2.1 a a1 a2 (64 + q) (by rw [hk19]; omega)
            refine Or.inr ⟨z1, z2, z3, z4, ND_mon2 _ _ _ (fun q k' v G q1 q2 _ hnd => ?_) z5⟩
            have q2' : q < sWb s k + (sWf s k).length := q2
            unfold ndW at hnd ⊢
            rw [hupw 116 (by decide) (by decide) q (by omega), hupw 117 (by decide) (by decide) q (by omega), hupw 118 (by decide) (by decide) q (by omega)]
            exact hnd
        · have he' : e ∈ sLf s ++ [(o, fU r, (sAl s).length, sLk s)] := he
          rcases mem_sn he' with z | z
          · obtain ⟨m1, m2, m3, m4, m5, m6⟩ := h7 e z
            obtain ⟨i, hi⟩ := List.getElem?_of_mem z
            have k8 := h8 i e.1 e.2.1 e.2.2.1 e.2.2.2 hi
            refine ND_mon2 _ _ _ (fun q k' v G q1 q2 hm hnd => ?_) (p11 e z)
            show ndL (upN (sRt s) o (sLk s + (fU r).length - 1)) (upH M5 110) (upH M5 111) (upH M5 112) q k' v G
            unfold ndL at hnd ⊢
            rw [hup 110 (by decide) (by decide) q (by omega), hup 111 (by decide) (by decide) q (by omega), hup 112 (by decide) (by decide) q (by omega)]
            rcases hnd with y | ⟨y1, y2, y3⟩ | y | y
            · exact Or.inl y
            · refine Or.inr (Or.inl ⟨y1, y2, ?_⟩)
              obtain ⟨l0, a1, a2⟩ := k8.1 (k', v) hm
              have hvo : v.toNat ≠ o := by
                intro hvo
                rcases a1 with ⟨x1, -⟩ | ⟨x1, -⟩ | ⟨-, x1 | x1 | x1⟩
                · have x1' : rk k' ≠ 0 := x1
                  rw [y1] at x1'; exact absurd (by decide) x1'
                · exact x1
                · have x1' := x1.1; simp only at x1'; omega
                · have x1' := x1.1; simp only at x1'; omega
                · have := a2 _ x1.2.2.2
                  have h3 : lnOf (sLf s) v.toNat = true := by
                    unfold lnOf at this ⊢
                    rw [List.any_eq_true] at this ⊢
                    obtain ⟨e2, n1, n2⟩ := this
                    exact ⟨e2, List.mem_of_mem_take n1, n2⟩
                  rw [← hlo, hvo, hb] at h3
                  exact absurd h3 (by decide)
              rw [upN_ne _ _ hvo]; exact y3
            · exact Or.inr (Or.inr (Or.inl y))
            · exact Or.inr (Or.inr (Or.inr y))
          · rw [z]
            show ND (ndL (upN (sRt s) o (sLk s + (fU r).length - 1)) (upH M5 110) (upH M5 111) (upH M5 112)) (sLk s) [] (fU r)
            rw [hup5 110 (by decide) (by decide), hup5 111 (by decide) (by decide), hup5 112 (by decide) (by decide)]
            have k8 := g0.2.2.2.2.2.2.2.1
            refine ND_mon2 _ _ _ (fun q k' v G q1 q2 hm hnd => ?_) r7
            unfold ndL at hnd ⊢
            rcases hnd with y | ⟨y1, y2, y3⟩ | y | y
            · exact Or.inl y
            · refine Or.inr (Or.inl ⟨y1, y2, ?_⟩)
              have a1 := k8 (k', v) hm
              have hvo : v.toNat ≠ o := by
                intro hvo
                rcases a1 with ⟨x1, -⟩ | ⟨x1, -⟩ | ⟨-, x1 | x1 | x1⟩
                · have x1' : rk k' ≠ 0 := x1
                  rw [y1] at x1'; exact absurd (by decide) x1'
                · omega
                · have x1' := x1.1; simp only at x1'; omega
                · have x1' := x1.1; simp only at x1'; omega
                · have := x1.2.2.2
                  simp only at this
                  rw [hvo, hb] at this
                  exact absurd this (by decide)
              rw [upN_ne _ _ hvo]; exact y3
            · exact Or.inr (Or.inr (Or.inl y))
            · exact Or.inr (Or.inr (Or.inr y))
        · rw [c5 98 (by decide)]; exact r5
        · rw [h19]; exact p12.2.1
        · rw [c5 98 (by decide)]; exact r4
    · have hb : (sLn s).testBit o = true := by
        cases hz : (sLn s).testBit o with
        | true => rfl
        | false => rw [hz, if_neg (by decide)] at hno; omega
      rw [if_pos hb] at HE
      refine c_wrong (st := tS t1) (by decide) (by rw [upM_self, va_up_self]) (fun M' a1 a2 a3 => ⟨Or.inl rfl, HE 3 (tS t1) rfl M' ((hQ2.tr (FrRm.u98 _ (by omega))).tr a1.toRm) a2 a3⟩)
  · rcases hw with ⟨z1, z2⟩ | ⟨z1, z2, z3⟩
    · rw [if_pos z1, z2]
    · have z2' : findN (sM s) (tV t1) (sN s) 0 = -1 := z2
      rw [if_neg (fun z => z z1), if_pos z2', z3]
end LINESM3
