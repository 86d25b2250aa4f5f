/-! the tape's words -/
def tpL : Nat → Nat → Nat → Nat → List Int → List Int
  | 0, _, _, _, ws => ws
  | j + 1, i, w, k, ws => if chN i = 32 then tpL j (i + 1) (w + 1) 0 ws else if w < 24 then tpL j (i + 1) w (k + 1) (ws.set w (bOr (ws.getD w 0) (lbF (chN i : Int) k))) else tpL j (i + 1) w k ws
theorem tpL_ok : tpL 116 0 0 0 (List.replicate 24 0) = wcL.map (fun q : Nat => (q : Int)) := by decide +kernel
section TAPE
variable {E : Scr} {S : Nat → Prop} {Q : Post} {T : Shp} {R : Rfs} {u v a wd : Nat}
theorem tape_loop {M0 : Mem} (hTw : T[wd]? = some (20, 24)) (hTa : T[a]? = some (8, 0)) (hRa : R a 1 = some wd) (hS : ∀ b, S b → b < T.length) (hu : u ≤ 2 ∧ v ≤ 724)
    (H : ∀ M' : Mem, (∀ b, b ≠ wd → M' b = M0 b) → (∀ j, j < 24 → M' wd j = (wcN j : Int)) → Q none T R M') :
    ∀ (j i w k : Nat) (ws : List Int) (M : Mem), i + j = 116 → k ≤ i → w ≤ i → ws.length = 24 → (∀ b, b ≠ wd → M b = M0 b) → (∀ q, q < 24 → M wd q = ws.getD q 0) → tpL j i w k ws = wcL.map (fun q : Nat => (q : Int)) →
      MW E mX8_init S Q T R M u v 27 [(0, pR a), (1, pI (w : Int)), (2, pI (k : Int)), (3, pI (i : Int))] [] := by
  have hbw : wd < T.length := (List.getElem?_eq_some_iff.mp hTw).1
  have hba : a < T.length := (List.getElem?_eq_some_iff.mp hTa).1
  intro j
  induction j with
  | zero =>
    intro i w k ws M hij hki hwi hws hF hM ht
    have e116 : i = 116 := by omega
    subst e116
    refine w_iload_n dX8_init_27 rfl ?_
    refine w_ldcS (j := 0) (by decide) rfl dX8_init_28 ?_
    refine w_callX (j := 0) (as := []) dX8_init_30 oJ0_length_8abf5 ⟨iJ0_length_8abf5.1, iJ0_length_8abf5.2, rfl, kX8_20⟩ ⟨⟨Nat.le_of_ble_eq_true rfl, hu.1, hu.2⟩, Nat.le_of_ble_eq_true rfl⟩ (by decide) rfl (Nat.le_of_ble_eq_true rfl) (S2 := Top) (fun _ _ => trivial) Stb_top (i_length ?_)
    show MW E mX8_init S Q T R M u v 33 [(0, pR a), (1, pI (w : Int)), (2, pI (k : Int)), (3, pI ((116 : Nat) : Int))] [pI 116, pI ((116 : Nat) : Int)]
    refine w_icmp_ge dX8_init_33 rfl ⟨⟨by omega, by omega⟩, ⟨by decide, by decide⟩⟩ (fun _ => ?_) (fun c => absurd c (by omega))
    refine w_vret dX8_init_89 rfl ⟨hu.1, hu.2⟩ (H M hF (fun q hq => ?_))
    have ht2 : ws = wcL.map (fun q : Nat => (q : Int)) := ht
    rw [hM q hq, ht2, List.getD_eq_getElem?_getD, List.getElem?_map]
    unfold wcN
    rw [List.getD_eq_getElem?_getD]
    cases hq9 : wcL[q]? with
    | none => rfl
    | some x9 => rfl
  | succ j ih =>
    intro i w k ws M hij hki hwi hws hF hM ht
    have hi : i < 116 := by omega
    have h2 := (chN_ok i hi).2.1
    refine w_iload_n dX8_init_27 rfl ?_
    refine w_ldcS (j := 0) (by decide) rfl dX8_init_28 ?_
    refine w_callX (j := 0) (as := []) dX8_init_30 oJ0_length_8abf5 ⟨iJ0_length_8abf5.1, iJ0_length_8abf5.2, rfl, kX8_20⟩ ⟨⟨Nat.le_of_ble_eq_true rfl, hu.1, hu.2⟩, Nat.le_of_ble_eq_true rfl⟩ (by decide) rfl (Nat.le_of_ble_eq_true rfl) (S2 := Top) (fun _ _ => trivial) Stb_top (i_length ?_)
    show MW E mX8_init S Q T R M u v 33 [(0, pR a), (1, pI (w : Int)), (2, pI (k : Int)), (3, pI (i : Int))] [pI 116, pI (i : Int)]
    refine w_icmp_ge dX8_init_33 rfl ⟨⟨by omega, by omega⟩, ⟨by decide, by decide⟩⟩ (fun c => absurd c (by omega)) (fun _ => ?_)
    refine w_ldcS (j := 0) (by decide) rfl dX8_init_36 ?_
    refine w_iload_n dX8_init_38 rfl ?_
    refine w_callX (j := 0) (as := [pI (i : Int)]) (st := []) dX8_init_39 oJ0_charAt_5068e ⟨iJ0_charAt_5068e.1, iJ0_charAt_5068e.2, rfl, kX8_26⟩ ⟨⟨Nat.le_of_ble_eq_true rfl, hu.1, hu.2⟩, Nat.le_of_ble_eq_true rfl⟩ (by decide) rfl (Nat.le_of_ble_eq_true rfl) (S2 := Top) (fun _ _ => trivial) Stb_top (i_charAt hi ?_)
    show MW E mX8_init S Q T R M u v 42 [(0, pR a), (1, pI (w : Int)), (2, pI (k : Int)), (3, pI (i : Int))] [pI (chN i : Int)]
    refine w_bipush dX8_init_42 (by decide) ?_
    have back : ∀ (w' k' : Nat) (ws' : List Int) (M' : Mem), k' ≤ i + 1 → w' ≤ i + 1 → ws'.length = 24 → (∀ b, b ≠ wd → M' b = M0 b) → (∀ q, q < 24 → M' wd q = ws'.getD q 0) → tpL j (i + 1) w' k' ws' = wcL.map (fun q : Nat => (q : Int)) → MW E mX8_init S Q T R M' u v 83 [(0, pR a), (1, pI (w' : Int)), (2, pI (k' : Int)), (3, pI (i : Int))] [] := by
      intro w' k' ws' M' a1 a2 a3 a4 a5 a6
      refine w_iinc dX8_init_83 rfl (by decide) ?_
      refine w_goto dX8_init_86 rfl ?_
      refine w_ls (ls' := [(0, pR a), (1, pI (w' : Int)), (2, pI (k' : Int)), (3, pI ((i : Int) + 1))]) (fun q hq => ?_) ?_
      · simp only [List.mem_cons, List.not_mem_nil, or_false] at hq
        rcases hq with rfl | rfl | rfl | rfl <;> simp [lset1, p2]
      · rw [show (i : Int) + 1 = ((i + 1 : Nat) : Int) by omega]
        exact ih (i + 1) w' k' ws' M' (by omega) a1 a2 a3 a4 a5 a6
    simp only [tpL] at ht
    refine w_icmp_ne dX8_init_44 rfl ⟨⟨by omega, by omega⟩, ⟨by decide, by decide⟩⟩ (fun c => ?_) (fun c => ?_)
    · rw [if_neg (by omega)] at ht
      refine w_iload_n dX8_init_55 rfl ?_
      refine w_bipush dX8_init_56 (by decide) ?_
      refine w_icmp_ge dX8_init_58 rfl ⟨⟨by omega, by omega⟩, ⟨by decide, by decide⟩⟩ (fun c2 => ?_) (fun c2 => ?_)
      · rw [if_neg (by omega)] at ht
        exact back w k ws M (by omega) (by omega) hws hF hM ht
      · rw [if_pos (by omega)] at ht
        have hwl : w < 24 := by omega
        refine w_aload_n dX8_init_61 rfl ?_
        refine w_getR (ci := 8) (k := 1) dX8_init_62 fX8_15 hTa rfl hRa ?_
        refine w_iload_n dX8_init_65 rfl ?_
        refine w_dup2 dX8_init_66 ⟨rfl, rfl⟩ ?_
        refine w_iald (x := ws.getD w 0) dX8_init_67 hTw ⟨by omega, by omega⟩ (by rw [Int.toNat_natCast]; exact hM w hwl) (fun gx => ?_)
        refine w_ldcS (j := 0) (by decide) rfl dX8_init_68 ?_
        refine w_iload_n dX8_init_70 rfl ?_
        refine w_callX (j := 0) (as := [pI (i : Int)]) dX8_init_71 oJ0_charAt_5068e ⟨iJ0_charAt_5068e.1, iJ0_charAt_5068e.2, rfl, kX8_26⟩ ⟨⟨Nat.le_of_ble_eq_true rfl, hu.1, hu.2⟩, Nat.le_of_ble_eq_true rfl⟩ (by decide) rfl (Nat.le_of_ble_eq_true rfl) (S2 := Top) (fun _ _ => trivial) Stb_top (i_charAt hi ?_)
        show MW E mX8_init S Q T R M u v 74 [(0, pR a), (1, pI (w : Int)), (2, pI (k : Int)), (3, pI (i : Int))] [pI (chN i : Int), pI (ws.getD w 0), pI (w : Int), pR wd]
        refine w_iload_n dX8_init_74 rfl ?_
        refine w_callS (as := [pI (chN i : Int), pI (k : Int)]) dX8_init_75 kX8_30 ⟨⟨Nat.le_of_ble_eq_true rfl, hu.1, hu.2⟩, Nat.le_of_ble_eq_true rfl⟩ rfl (Nat.le_of_ble_eq_true rfl) (S2 := Top) (fun _ _ => trivial) Stb_top (i_bits (by omega) ?_)
        show MW E mX8_init S Q T R M u v 78 [(0, pR a), (1, pI (w : Int)), (2, pI (k : Int)), (3, pI (i : Int))] [pI (lbF (chN i : Int) k), pI (ws.getD w 0), pI (w : Int), pR wd]
        refine w_ior dX8_init_78 ?_
        refine w_iast dX8_init_79 hTw ⟨by omega, by omega⟩ (bOr_r _ _) ?_
        rw [Int.toNat_natCast]
        refine w_iinc dX8_init_80 rfl (by decide) ?_
        refine w_ls (ls' := [(0, pR a), (1, pI (w : Int)), (2, pI ((k : Int) + 1)), (3, pI (i : Int))]) (fun q hq => ?_) ?_
        · simp only [List.mem_cons, List.not_mem_nil, or_false] at hq
          rcases hq with rfl | rfl | rfl | rfl <;> simp [lset1, p2]
        · rw [show (k : Int) + 1 = ((k + 1 : Nat) : Int) by omega]
          refine back w (k + 1) _ _ (by omega) (by omega) (by rw [List.length_set]; exact hws) (fun b hb => by rw [upM_ne _ _ _ hb]; exact hF b hb) (fun q hq => ?_) ht
          rw [upM_self]
          by_cases e9 : q = w
          · subst e9
            rw [va_up_self]
            generalize bOr (ws.getD q 0) (lbF (chN i : Int) k) = x9
            rw [List.getD_eq_getElem?_getD, List.getElem?_set_self (by omega)]; rfl
          · rw [va_up_neq _ _ e9, List.getD_eq_getElem?_getD, List.getElem?_set_ne (Ne.symm e9), ← List.getD_eq_getElem?_getD]; exact hM q hq
    · rw [if_pos (by omega)] at ht
      refine w_iinc dX8_init_47 rfl (by decide) ?_
      refine w_iconst dX8_init_50 ?_
      refine w_istore_n dX8_init_51 (by decide) ?_
      refine w_goto dX8_init_52 rfl ?_
      refine w_ls (ls' := [(0, pR a), (1, pI ((w : Int) + 1)), (2, pI 0), (3, pI (i : Int))]) (fun q hq => ?_) ?_
      · simp only [List.mem_cons, List.not_mem_nil, or_false] at hq
        rcases hq with rfl | rfl | rfl | rfl <;> simp [lset1, p2]
      · rw [show (w : Int) + 1 = ((w + 1 : Nat) : Int) by omega]
        exact back (w + 1) 0 ws M (by omega) (by omega) hws hF hM ht
end TAPE
/-! the concrete world, as far as it is made -/
theorem tkL {m : Nat} (h : m ≤ 144) : (T0.take m).length = m := by rw [List.length_take, T0_len]; omega
theorem tkS {m : Nat} {t : Nat × Nat} (h : T0[m]? = some t) : T0.take m ++ [t] = T0.take (m + 1) := by rw [List.take_succ, h]; rfl
theorem tkG {m a : Nat} {t : Nat × Nat} (h : a < m) (h2 : T0[a]? = some t) : (T0.take m)[a]? = some t := by rw [List.getElem?_take, if_pos h]; exact h2
section TAPE2
variable {E : Scr} {Q : Post} {R : Rfs} {M : Mem}
theorem i_Tape (hz : Fr0 3 R M) (h : ∀ M8 : Mem, (∀ b, b ≠ 4 → M8 b = M b) → (∀ j, j < 24 → M8 4 j = (wcN j : Int)) → Q none (T0.take 5) (upR (upR R 2 0 (some 3)) 2 1 (some 4)) M8) : MW E mX8_init (fun b => b < 3) Q (T0.take 3) R M 0 0 0 [(0, pR 2)] [] := by
  refine w_aload_n dX8_init_0 rfl ?_
  refine w_objInit dX8_init_1 kX8_3 ⟨Nat.le_of_ble_eq_true rfl, Nat.le_of_ble_eq_true rfl⟩ ?_
  refine w_aload_n dX8_init_4 rfl ?_
  refine w_sipush dX8_init_5 (by decide) ?_
  refine w_newI (n := 700) dX8_init_8 rfl (by decide) arr_int (fun b (hb : b < 3) => by rw [tkL (by decide)]; exact hb) (okL (by rw [tkL (by decide)]; decide)) (okR (by rw [tkL (by decide)]; decide) rfl) (fun k => by rw [tkL (by decide)]; exact (hz _ (Nat.le_refl _) k).1) ⟨Nat.le_of_ble_eq_true rfl, Nat.le_of_ble_eq_true rfl⟩ ?_
  rw [tkL (by decide), tkS rfl]
  refine w_putR (ci := 8) (k := 0) dX8_init_10 (Or.inr ⟨⟨rfl, rfl, rfl⟩, ⟨by decide, by decide⟩, (wgt1 99 rfl rfl)⟩) (tkG (by decide) rfl) rfl rfl (by rw [tkL (by decide)]; decide) ?_
  have z1 := (hz.le (show 3 ≤ 4 by decide)).uR (a := 2) (k := 0) (v := some 3) (by decide)
  refine w_aload_n dX8_init_13 rfl ?_
  refine w_bipush dX8_init_14 (by decide) ?_
  refine w_newI (n := 24) dX8_init_16 rfl (by decide) arr_int (fun b (hb : b < 3) => by rw [tkL (by decide)]; omega) (okL (by rw [tkL (by decide)]; decide)) (okR (by rw [tkL (by decide)]; decide) rfl) (fun k => by rw [tkL (by decide)]; exact (z1 _ (Nat.le_refl _) k).1) ⟨Nat.le_of_ble_eq_true rfl, Nat.le_of_ble_eq_true rfl⟩ ?_
  rw [tkL (by decide), tkS rfl]
  refine w_putR (ci := 8) (k := 1) dX8_init_18 (Or.inr ⟨⟨rfl, rfl, rfl⟩, ⟨by decide, by decide⟩, (wgt1 100 rfl rfl)⟩) (tkG (by decide) rfl) rfl rfl (by rw [tkL (by decide)]; decide) ?_
  refine w_iconst dX8_init_21 ?_
  refine w_istore_n dX8_init_22 (by decide) ?_
  refine w_iconst dX8_init_23 ?_
  refine w_istore_n dX8_init_24 (by decide) ?_
  refine w_iconst dX8_init_25 ?_
  refine w_istore_n dX8_init_26 (by decide) ?_
  refine w_ls (ls' := [(0, pR 2), (1, pI ((0 : Nat) : Int)), (2, pI ((0 : Nat) : Int)), (3, pI ((0 : Nat) : Int))]) (fun q hq => ?_) ?_
  · simp only [List.mem_cons, List.not_mem_nil, or_false] at hq
    rcases hq with rfl | rfl | rfl | rfl <;> simp [lset1, p2] <;> decide
  · exact tape_loop (wd := 4) (M0 := M) (tkG (by decide) rfl) (tkG (by decide) rfl) rfl (fun b (hb : b < 3) => by rw [tkL (by decide)]; omega) ⟨Nat.le_of_ble_eq_true rfl, Nat.le_of_ble_eq_true rfl⟩ h 116 0 0 0 (List.replicate 24 0) M rfl (Nat.le_refl _) (Nat.le_refl _) rfl (fun _ _ => rfl) (fun q hq => by
      rw [(hz 4 (by decide) q).1, List.getD_eq_getElem?_getD, List.getElem?_replicate, if_pos hq]; rfl) tpL_ok
/-- the numbers that are left out -/
theorem T0_no : T0.take 86 = T0.take 50 ++ List.replicate 36 (30, 0) := by decide +kernel
theorem w_ghost {mi : Mi} {S : Nat → Prop} {u v pc : Nat} {ls : List (Nat × PV)} {st : List PV} (hz : Fr0 50 R M) (h : MW E mi S Q (T0.take 86) R M u v pc ls st) : MW E mi S Q (T0.take 50) R M u v pc ls st := by
  refine w_none (n := 36) (fun a ha k => (hz a (by rw [tkL (by decide)] at ha; exact ha) k).1) ?_
  rw [← T0_no]; exact h
end TAPE2
