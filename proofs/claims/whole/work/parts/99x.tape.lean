/-! the tape's words -/
def tpL : Nat → Nat → Nat → Nat → List Int → List Int
  | 0, _, _, _, ws => ws
  | j + 1, i, w, k, ws => if chN i = 32 then tpL j (i + 1) (w + 1) 0 ws else if w < 24 then tpL j (i + 1) w (k + 1) (ws.set w (bOr (ws.getD w 0) (lbF (chN i : Int) k))) else tpL j (i + 1) w k ws
theorem tpL_ok : tpL 116 0 0 0 (List.replicate 24 0) = wcL.map (fun q : Nat => (q : Int)) := by decide +kernel
section TAPE
variable {E : Scr} {S : Nat → Prop} {Q : Post} {T : Shp} {R : Rfs} {u v a wd : Nat}
theorem tape_loop {M0 : Mem} (hTw : T[wd]? = some (20, 24)) (hTa : T[a]? = some (8, 0)) (hRa : R a 1 = some wd) (hS : ∀ b, S b → b < T.length) (hu : u ≤ 2 ∧ v ≤ 724)
    (H : ∀ M' : Mem, (∀ b, b ≠ wd → M' b = M0 b) → (∀ j, j < 24 → M' wd j = (wcN j : Int)) → Q none T R M') :
    ∀ (j i w k : Nat) (ws : List Int) (M : Mem), i + j = 116 → k ≤ i → w ≤ i → ws.length = 24 → (∀ b, b ≠ wd → M b = M0 b) → (∀ q, q < 24 → M wd q = ws.getD q 0) → tpL j i w k ws = wcL.map (fun q : Nat => (q : Int)) →
      MW E mX8_init S Q T R M u v 27 [(0, pR a), (1, pI (w : Int)), (2, pI (k : Int)), (3, pI (i : Int))] [] := by
  have hbw : wd < T.length := (List.getElem?_eq_some_iff.mp hTw).1
  have hba : a < T.length := (List.getElem?_eq_some_iff.mp hTa).1
  intro j
  induction j with
  | zero =>
    intro i w k ws M hij hki hwi hws hF hM ht
    have e116 : i = 116 := by omega
    subst e116
    refine w_iload_n dX8_init_27 rfl ?_
    refine w_ldcS (j := 0) (by decide) rfl dX8_init_28 ?_
    refine w_callX (j := 0) (as := []) dX8_init_30 oJ0_length_8abf5 ⟨iJ0_length_8abf5.1, iJ0_length_8abf5.2, rfl, kX8_20⟩ ⟨⟨Nat.le_of_ble_eq_true rfl, hu.1, hu.2⟩, Nat.le_of_ble_eq_true rfl⟩ (by decide) rfl (Nat.le_of_ble_eq_true rfl) (S2 := Top) (fun _ _ => trivial) Stb_top (i_length ?_)
    show MW E mX8_init S Q T R M u v 33 [(0, pR a), (1, pI (w : Int)), (2, pI (k : Int)), (3, pI ((116 : Nat) : Int))] [pI 116, pI ((116 : Nat) : Int)]
    refine w_icmp_ge dX8_init_33 rfl ⟨⟨by omega, by omega⟩, ⟨by decide, by decide⟩⟩ (fun _ => ?_) (fun c => absurd c (by omega))
    refine w_vret dX8_init_89 rfl ⟨hu.1, hu.2⟩ (H M hF (fun q hq => ?_))
    have ht2 : ws = wcL.map (fun q : Nat => (q : Int)) := ht
    rw [hM q hq, ht2, List.getD_eq_getElem?_getD, List.getElem?_map]
    unfold wcN
    rw [List.getD_eq_getElem?_getD]
    cases hq9 : wcL[q]? with
    | none => rfl
    | some x9 => rfl
  | succ j ih =>
    intro i w k ws M hij hki hwi hws hF hM ht
    have hi : i < 116 := by omega
    have h2 := (chN_ok i hi).2.1
    refine w_iload_n dX8_init_27 rfl ?_
    refine w_ldcS (j := 0) (by decide) rfl dX8_init_28 ?_
    refine w_callX (j := 0) (as := []) dX8_init_30 oJ0_length_8abf5 ⟨iJ0_length_8abf5.1, iJ0_length_8abf5.2, rfl, kX8_20⟩ ⟨⟨Nat.le_of_ble_eq_true rfl, hu.1, hu.2⟩, Nat.le_of_ble_eq_true rfl⟩ (by decide) rfl (Nat.le_of_ble_eq_true rfl) (S2 := Top) (fun _ _ => trivial) Stb_top (i_length ?_)
    show MW E mX8_init S Q T R M u v 33 [(0, pR a), (1, pI (w : Int)), (2, pI (k : Int)), (3, pI (i : Int))] [pI 116, pI (i : Int)]
    refine w_icmp_ge dX8_init_33 rfl ⟨⟨by omega, by omega⟩, ⟨by decide, by decide⟩⟩ (fun c => absurd c (by omega)) (fun _ => ?_)
    refine w_ldcS (j := 0) (by decide) rfl dX8_init_36 ?_
    refine w_iload_n dX8_init_38 rfl ?_
    refine w_callX (j := 0) (as := [pI (i : Int)]) (st := []) dX8_init_39 oJ0_charAt_5068e ⟨iJ0_charAt_5068e.1, iJ0_charAt_5068e.2, rfl, kX8_26⟩ ⟨⟨Nat.le_of_ble_eq_true rfl, hu.1, hu.2⟩, Nat.le_of_ble_eq_true rfl⟩ (by decide) rfl (Nat.le_of_ble_eq_true rfl) (S2 := Top) (fun _ _ => trivial) Stb_top (i_charAt hi ?_)
    show MW E mX8_init S Q T R M u v 42 [(0, pR a), (1, pI (w : Int)), (2, pI (k : Int)), (3, pI (i : Int))] [pI (chN i : Int)]
    refine w_bipush dX8_init_42 (by decide) ?_
    have back : ∀ (w' k' : Nat) (ws' : List Int) (M' : Mem), k' ≤ i + 1 → w' ≤ i + 1 → ws'.length = 24 → (∀ b, b ≠ wd → M' b = M0 b) → (∀ q, q < 24 → M' wd q = ws'.getD q 0) → tpL j (i + 1) w' k' ws' = wcL.map (fun q : Nat => (q : Int)) → MW E mX8_init S Q T R M' u v 83 [(0, pR a), (1, pI (w' : Int)), (2, pI (k' : Int)), (3, pI (i : Int))] [] := by
      intro w' k' ws' M' a1 a2 a3 a4 a5 a6
      refine w_iinc dX8_init_83 rfl (by decide) ?_
      refine w_goto dX8_init_86 rfl ?_
      refine w_ls (ls' := [(0, pR a), (1, pI (w' : Int)), (2, pI (k' : Int)), (3, pI ((i : Int) + 1))]) (fun q hq => ?_) ?_
      · simp only [List.mem_cons, List.not_mem_nil, or_false] at hq
        rcases hq with rfl | rfl | rfl | rfl <;> simp [lset1, p2]
      · rw [show (i : Int) + 1 = ((i + 1 : Nat) : Int) by omega]
        exact ih (i + 1) w' k' ws' M' (by omega) a1 a2 a3 a4 a5 a6
    simp only [tpL] at ht
    refine w_icmp_ne dX8_init_44 rfl ⟨⟨by omega, by omega⟩, ⟨by decide, by decide⟩⟩ (fun c => ?_) (fun c => ?_)
    · rw [if_neg (by omega)] at ht
      refine w_iload_n dX8_init_55 rfl ?_
      refine w_bipush dX8_init_56 (by decide) ?_
      refine w_icmp_ge dX8_init_58 rfl ⟨⟨by omega, by omega⟩, ⟨by decide, by decide⟩⟩ (fun c2 => ?_) (fun c2 => ?_)
      · rw [if_neg (by omega)] at ht
        exact back w k ws M (by omega) (by omega) hws hF hM ht
      · rw [if_pos (by omega)] at ht
        have hwl : w < 24 := by omega
        refine w_aload_n dX8_init_61 rfl ?_
        refine w_getR (ci := 8) (k := 1) dX8_init_62 fX8_15 hTa rfl hRa ?_
        refine w_iload_n dX8_init_65 rfl ?_
        refine w_dup2 dX8_init_66 ⟨rfl, rfl⟩ ?_
        refine w_iald (x := ws.getD w 0) dX8_init_67 hTw ⟨by omega, by omega⟩ (by rw [Int.toNat_natCast]; exact hM w hwl) (fun gx => ?_)
        refine w_ldcS (j := 0) (by decide) rfl dX8_init_68 ?_
        refine w_iload_n dX8_init_70 rfl ?_
        refine w_callX (j := 0) (as := [pI (i : Int)]) dX8_init_71 oJ0_charAt_5068e ⟨iJ0_charAt_5068e.1, iJ0_charAt_5068e.2, rfl, kX8_26⟩ ⟨⟨Nat.le_of_ble_eq_true rfl, hu.1, hu.2⟩, Nat.le_of_ble_eq_true rfl⟩ (by decide) rfl (Nat.le_of_ble_eq_true rfl) (S2 := Top) (fun _ _ => trivial) Stb_top (i_charAt hi ?_)
        show MW E mX8_init S Q T R M u v 74 [(0, pR a), (1, pI (w : Int)), (2, pI (k : Int)), (3, pI (i : Int))] [pI (chN i : Int), pI (ws.getD w 0), pI (w : Int), pR wd]
        refine w_iload_n dX8_init_74 rfl ?_
        refine w_callS (as := [pI (chN i : Int), pI (k : Int)]) dX8_init_75 kX8_30 ⟨⟨Nat.le_of_ble_eq_true rfl, hu.1, hu.2⟩, Nat.le_of_ble_eq_true rfl⟩ rfl (Nat.le_of_ble_eq_true rfl) (S2 := Top) (fun _ _ => trivial) Stb_top (i_bits (by omega) ?_)
        show MW E mX8_init S Q T R M u v 78 [(0, pR a), (1, pI (w : Int)), (2, pI (k : Int)), (3, pI (i : Int))] [pI (lbF (chN i : Int) k), pI (ws.getD w 0), pI (w : Int), pR wd]
        refine w_ior dX8_init_78 ?_
        refine w_iast dX8_init_79 hTw ⟨by omega, by omega⟩ (bOr_r _ _) ?_
        rw [Int.toNat_natCast]
        refine w_iinc dX8_init_80 rfl (by decide) ?_
        refine w_ls (ls' := [(0, pR a), (1, pI (w : Int)), (2, pI ((k : Int) + 1)), (3, pI (i : Int))]) (fun q hq => ?_) ?_
        · simp only [List.mem_cons, List.not_mem_nil, or_false] at hq
          rcases hq with rfl | rfl | rfl | rfl <;> simp [lset1, p2]
        · rw [show (k : Int) + 1 = ((k + 1 : Nat) : Int) by omega]
          refine back w (k + 1) _ _ (by omega) (by omega) (by rw [List.length_set]; exact hws) (fun b hb => by rw [upM_ne _ _ _ hb]; exact hF b hb) (fun q hq => ?_) ht
          rw [upM_self]
          by_cases e9 : q = w
          · subst e9
            rw [va_up_self]
            generalize bOr (ws.getD q 0) (lbF (chN i : Int) k) = x9
            rw [List.getD_eq_getElem?_getD, List.getElem?_set_self (by omega)]; rfl
          · rw [va_up_neq _ _ e9, List.getD_eq_getElem?_getD, List.getElem?_set_ne (Ne.symm e9), ← List.getD_eq_getElem?_getD]; exact hM q hq
    · rw [if_pos (by omega)] at ht
      refine w_iinc dX8_init_47 rfl (by decide) ?_
      refine w_iconst dX8_init_50 ?_
      refine w_istore_n dX8_init_51 (by decide) ?_
      refine w_goto dX8_init_52 rfl ?_
      refine w_ls (ls' := [(0, pR a), (1, pI ((w : Int) + 1)), (2, pI 0), (3, pI (i : Int))]) (fun q hq => ?_) ?_
      · simp only [List.mem_cons, List.not_mem_nil, or_false] at hq
        rcases hq with rfl | rfl | rfl | rfl <;> simp [lset1, p2]
      · rw [show (w : Int) + 1 = ((w + 1 : Nat) : Int) by omega]
        exact back (w + 1) 0 ws M (by omega) (by omega) hws hF hM ht
end TAPE
/-! the concrete world, as far as it is made -/
theorem tkL {m : Nat} (h : m ≤ 144) : (T0.take m).length = m := by rw [List.length_take, T0_len]; omega
theorem tkS {m : Nat} {t : Nat × Nat} (h : T0[m]? = some t) : T0.take m ++ [t] = T0.take (m + 1) := by rw [List.take_succ, h]; rfl
theorem tkG {m a : Nat} {t : Nat × Nat} (h : a < m) (h2 : T0[a]? = some t) : (T0.take m)[a]? = some t := by rw [List.getElem?_take, if_pos h]; exact h2
section TAPE2
variable {E : Scr} {Q : Post} {R : Rfs} {M : Mem}
theorem i_Tape (hz : Fr0 3 R M) (h : ∀ M8 : Mem, (∀ b, b ≠ 4 → M8 b = M b) → (∀ j, j < 24 → M8 4 j = (wcN j : Int)) → Q none (T0.take 5) (upR (upR R 2 0 (some 3)) 2 1 (some 4)) M8) : MW E mX8_init (fun b => b < 3) Q (T0.take 3) R M 0 0 0 [(0, pR 2)] [] := by
  refine w_aload_n dX8_init_0 rfl ?_
  refine w_objInit dX8_init_1 kX8_3 ⟨Nat.le_of_ble_eq_true rfl, Nat.le_of_ble_eq_true rfl⟩ ?_
  refine w_aload_n dX8_init_4 rfl ?_
  refine w_sipush dX8_init_5 (by decide) ?_
  refine w_newI (n := 700) dX8_init_8 rfl (by decide) arr_int (fun b (hb : b < 3) => by rw [tkL (by decide)]; exact hb) (okL (by rw [tkL (by decide)]; decide)) (okR (by rw [tkL (by decide)]; decide) rfl) (fun k => by rw [tkL (by decide)]; exact (hz _ (Nat.le_refl _) k).1) ⟨Nat.le_of_ble_eq_true rfl, Nat.le_of_ble_eq_true rfl⟩ ?_
  rw [tkL (by decide), tkS rfl]
  refine w_putR (ci := 8) (k := 0) dX8_init_10 (Or.inr ⟨⟨rfl, rfl, rfl⟩, ⟨by decide, by decide⟩, (wgt1 99 rfl rfl)⟩) (tkG (by decide) rfl) rfl rfl (by rw [tkL (by decide)]; decide) ?_
  have z1 := (hz.le (show 3 ≤ 4 by decide)).uR (a := 2) (k := 0) (v := some 3) (by decide)
  refine w_aload_n dX8_init_13 rfl ?_
  refine w_bipush dX8_init_14 (by decide) ?_
  refine w_newI (n := 24) dX8_init_16 rfl (by decide) arr_int (fun b (hb : b < 3) => by rw [tkL (by decide)]; omega) (okL (by rw [tkL (by decide)]; decide)) (okR (by rw [tkL (by decide)]; decide) rfl) (fun k => by rw [tkL (by decide)]; exact (z1 _ (Nat.le_refl _) k).1) ⟨Nat.le_of_ble_eq_true rfl, Nat.le_of_ble_eq_true rfl⟩ ?_
  rw [tkL (by decide), tkS rfl]
  refine w_putR (ci := 8) (k := 1) dX8_init_18 (Or.inr ⟨⟨rfl, rfl, rfl⟩, ⟨by decide, by decide⟩, (wgt1 100 rfl rfl)⟩) (tkG (by decide) rfl) rfl rfl (by rw [tkL (by decide)]; decide) ?_
  refine w_iconst dX8_init_21 ?_
  refine w_istore_n dX8_init_22 (by decide) ?_
  refine w_iconst dX8_init_23 ?_
  refine w_istore_n dX8_init_24 (by decide) ?_
  refine w_iconst dX8_init_25 ?_
  refine w_istore_n dX8_init_26 (by decide) ?_
  refine w_ls (ls' := [(0, pR 2), (1, pI ((0 : Nat) : Int)), (2, pI ((0 : Nat) : Int)), (3, pI ((0 : Nat) : Int))]) (fun q hq => ?_) ?_
  · simp only [List.mem_cons, List.not_mem_nil, or_false] at hq
    rcases hq with rfl | rfl | rfl | rfl <;> simp [lset1, p2] <;> decide
  · exact tape_loop (wd := 4) (M0 := M) (tkG (by decide) rfl) (tkG (by decide) rfl) rfl (fun b (hb : b < 3) => by rw [tkL (by decide)]; omega) ⟨Nat.le_of_ble_eq_true rfl, Nat.le_of_ble_eq_true rfl⟩ h 116 0 0 0 (List.replicate 24 0) M rfl (Nat.le_refl _) (Nat.le_refl _) rfl (fun _ _ => rfl) (fun q hq => by
      rw [(hz 4 (by decide) q).1, List.getD_eq_getElem?_getD, List.getElem?_replicate, if_pos hq]; rfl) tpL_ok
/-- the undos' rows -/
def rU (R : Rfs) : Nat → Rfs
  | 0 => upR R 44 0 (some 45)
  | i + 1 => upR (upR (rU R i) (46 + 2 * i) 6 (some (47 + 2 * i))) 45 i (some (46 + 2 * i))
theorem T0_un : ∀ i, i < 20 → T0[46 + 2 * i]? = some (7, 0) ∧ T0[47 + 2 * i]? = some (20, 8) := by decide +kernel
theorem rU_fr {n i : Nat} (hz : Fr0 n R M) (hn : 46 + 2 * i ≤ n) : Fr0 n (rU R i) M := by
  induction i with
  | zero => exact hz.uR (by omega)
  | succ i ih => exact ((ih (by omega)).uR (by omega)).uR (by omega)
theorem rU_44 : ∀ i, rU R i 44 0 = some 45 := by
  intro i
  induction i with
  | zero => rfl
  | succ i ih => show upR (upR (rU R i) (46 + 2 * i) 6 (some (47 + 2 * i))) 45 i (some (46 + 2 * i)) 44 0 = some 45; rw [upR_ne _ _ _ (by decide), upR_ne _ _ _ (by omega)]; exact ih
theorem i_Undos (hz : Fr0 45 R M) (h : Q none (T0.take 86) (rU R 20) M) : MW E mX9_init (fun b => b < 45) Q (T0.take 45) R M 0 0 0 [(0, pR 44)] [] := by
  refine w_aload_n dX9_init_0 rfl ?_
  refine w_objInit dX9_init_1 kX9_3 ⟨Nat.le_of_ble_eq_true rfl, Nat.le_of_ble_eq_true rfl⟩ ?_
  refine w_aload_n dX9_init_4 rfl ?_
  refine w_bipush dX9_init_5 (by decide) ?_
  refine w_newS (n := 20) dX9_init_7 rfl (by decide) ⟨nX9_9.1, arr_State⟩ (fun b (hb : b < 45) => by rw [tkL (by decide)]; exact hb) (okL (by rw [tkL (by decide)]; decide)) (okR (by rw [tkL (by decide)]; decide) rfl) (fun k => by rw [tkL (by decide)]; exact (hz _ (Nat.le_refl _) k).1) (fun k => by rw [tkL (by decide)]; exact (hz _ (Nat.le_refl _) k).2) ⟨Nat.le_of_ble_eq_true rfl, Nat.le_of_ble_eq_true rfl⟩ ?_
  rw [tkL (by decide), tkS rfl]
  refine w_putR (ci := 9) (k := 0) dX9_init_10 (Or.inr ⟨⟨rfl, rfl, rfl⟩, ⟨by decide, by decide⟩, (wgt2 154 rfl rfl)⟩) (tkG (by decide) rfl) rfl rfl (by rw [tkL (by decide)]; decide) ?_
  refine w_iconst dX9_init_13 ?_
  refine w_istore_n dX9_init_14 (by decide) ?_
  have key : ∀ (j i u v : Nat), i + j = 20 → u = 1 + 2 * i → v = 20 + 15 * i → MW E mX9_init (fun b => b < 45) Q (T0.take (46 + 2 * i)) (rU R i) M u v 15 [(0, pR 44), (1, pI (i : Int))] [] := by
    intro j
    induction j with
    | zero =>
      intro i u v hij hu hv
      have e20 : i = 20 := by omega
      subst e20
      refine w_iload_n dX9_init_15 rfl ?_
      refine w_bipush dX9_init_16 (by decide) ?_
      refine w_icmp_ge dX9_init_18 rfl ⟨⟨by omega, by omega⟩, ⟨by decide, by decide⟩⟩ (fun _ => ?_) (fun c => absurd c (by omega))
      exact w_vret dX9_init_40 rfl ⟨show u ≤ 41 by omega, show v ≤ 320 by omega⟩ h
    | succ j ih =>
      intro i u v hij hu hv
      obtain ⟨t1, t2⟩ := T0_un i (by omega)
      have hl1 : (T0.take (46 + 2 * i)).length = 46 + 2 * i := tkL (by omega)
      have hl2 : (T0.take (46 + 2 * i + 1)).length = 46 + 2 * i + 1 := tkL (by omega)
      have zi : Fr0 (46 + 2 * i) (rU R i) M := rU_fr (hz.le (by omega)) (Nat.le_refl _)
      refine w_iload_n dX9_init_15 rfl ?_
      refine w_bipush dX9_init_16 (by decide) ?_
      refine w_icmp_ge dX9_init_18 rfl ⟨⟨by omega, by omega⟩, ⟨by decide, by decide⟩⟩ (fun c => absurd c (by omega)) (fun _ => ?_)
      refine w_aload_n dX9_init_21 rfl ?_
      refine w_getR (ci := 9) (k := 0) dX9_init_22 fX9_11 (tkG (by omega) rfl) rfl (rU_44 i) ?_
      refine w_iload_n dX9_init_25 rfl ?_
      refine w_new (ci := 7) (N := 7) dX9_init_26 (by decide) ⟨_, rfl⟩ nX9_9 (fun b (hb : b < 45) => by rw [hl1]; omega) (by simp only [List.all_cons, List.all_nil, rfOk, hl1, Bool.and_true, decide_eq_true_eq]; omega) (okI (okR (by rw [hl1]; omega) rfl)) (fun k => by rw [hl1]; exact (zi _ (Nat.le_refl _) k).1) (fun k => by rw [hl1]; exact (zi _ (Nat.le_refl _) k).2) ⟨show u + 1 ≤ 41 by omega, show v + 7 ≤ 320 by omega⟩ ?_
      rw [hl1, tkS t1]
      refine w_dup dX9_init_29 rfl ?_
      refine w_callI (as := []) dX9_init_30 kX9_17 ⟨⟨Nat.le_of_ble_eq_true rfl, show u + 1 + 1 ≤ 41 by omega, show v + 7 + 8 ≤ 320 by omega⟩, Nat.le_of_ble_eq_true rfl⟩ rfl (Nat.le_of_ble_eq_true rfl) (S2 := fun b => b < 46 + 2 * i + 1) (fun b (hb : b < 45) => show b < 46 + 2 * i + 1 by omega) (Stb_lt (by simp only [List.all_cons, List.all_nil, rfOk, Bool.and_true, decide_eq_true_eq]; omega) (okR (by omega) (okI (okR (by omega) rfl)))) (i_X7_init (n := 46 + 2 * i + 1) hl2 (tkG (by omega) t1) (zi.le (by omega)) ?_)
      rw [tkS (show T0[46 + 2 * i + 1]? = some (20, 8) by rw [show 46 + 2 * i + 1 = 47 + 2 * i by omega]; exact t2)]
      show MW E mX9_init (fun b => b < 45) Q (T0.take (46 + 2 * i + 1 + 1)) (upR (rU R i) (46 + 2 * i) 6 (some (46 + 2 * i + 1))) M (u + 1 + 1) (v + 7 + 8) 33 [(0, pR 44), (1, pI (i : Int))] [pR (46 + 2 * i), pI (i : Int), pR 45]
      refine w_aast (n := 20) (nb := 0) dX9_init_33 (tkG (by omega) rfl) (tkG (by omega) t1) ⟨by omega, by omega⟩ ?_
      refine w_iinc dX9_init_34 rfl (by decide) ?_
      refine w_goto dX9_init_37 rfl ?_
      refine w_ls (ls' := [(0, pR 44), (1, pI ((i : Int) + 1))]) (fun q hq => ?_) ?_
      · simp only [List.mem_cons, List.not_mem_nil, or_false] at hq
        rcases hq with rfl | rfl <;> simp [lset1, p2] <;> decide
      · have k9 := ih (i + 1) (u + 1 + 1) (v + 7 + 8) (by omega) (by omega) (by omega)
        have e2 : 46 + 2 * (i + 1) = 46 + 2 * i + 1 + 1 := by omega
        have e3 : 46 + 2 * i + 1 = 47 + 2 * i := by omega
        rw [e2] at k9
        rw [show (i : Int) + 1 = ((i + 1 : Nat) : Int) by omega, Int.toNat_natCast, e3]
        rw [e3] at k9
        exact k9
  refine w_ls (ls' := [(0, pR 44), (1, pI ((0 : Nat) : Int))]) (fun q hq => ?_) ?_
  · simp only [List.mem_cons, List.not_mem_nil, or_false] at hq
    rcases hq with rfl | rfl <;> simp [lset1, p2] <;> decide
  · exact key 20 0 _ _ rfl rfl rfl
end TAPE2
