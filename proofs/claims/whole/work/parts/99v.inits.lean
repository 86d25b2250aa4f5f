/-! constructors: each over a growing world (by a program) -/
section INITS
variable {E : Scr} {Q : Post} {T : Shp} {R : Rfs} {M : Mem}
set_option maxHeartbeats 16000000 in
theorem i_X6_init {a n : Nat} (hn : T.length = n) (ha : T[a]? = some (6, 0)) (hz : Fr0 n R M) (h : Q none T R M) : MW E mX6_init (fun b => b < n) Q T R M 0 0 0 [(0, pR a)] [] := by
  have l0 := hn
  have han : a < n := by rw [← hn]; exact (List.getElem?_eq_some_iff.mp ha).1
  have z0 := hz
  refine w_aload_n dX6_init_0 rfl ?_
  refine w_objInit dX6_init_1 kX6_3 ⟨Nat.le_of_ble_eq_true rfl, Nat.le_of_ble_eq_true rfl⟩ ?_
  exact w_vret dX6_init_4 rfl ⟨Nat.le_of_ble_eq_true rfl, Nat.le_of_ble_eq_true rfl⟩ h
set_option maxHeartbeats 16000000 in
theorem i_X7_init {a n : Nat} (hn : T.length = n) (ha : T[a]? = some (7, 0)) (hz : Fr0 n R M) (h : Q none (T ++ [(20, 8)]) (upR R a 6 (some n)) M) : MW E mX7_init (fun b => b < n) Q T R M 0 0 0 [(0, pR a)] [] := by
  have l0 := hn
  have han : a < n := by rw [← hn]; exact (List.getElem?_eq_some_iff.mp ha).1
  have z0 := hz
  refine w_aload_n dX7_init_0 rfl ?_
  refine w_objInit dX7_init_1 kX7_3 ⟨Nat.le_of_ble_eq_true rfl, Nat.le_of_ble_eq_true rfl⟩ ?_
  refine w_aload_n dX7_init_4 rfl ?_
  refine w_bipush dX7_init_5 (by decide) ?_
  refine w_newI (n := 8) dX7_init_7 rfl (by decide) arr_int (fun b (hb : b < n) => by rw [l0]; omega) (okL (by rw [l0]; omega)) (okR (by rw [l0]; omega) rfl) (fun k => by rw [l0]; exact (z0 _ (Nat.le_refl _) k).1) ⟨Nat.le_of_ble_eq_true rfl, Nat.le_of_ble_eq_true rfl⟩ ?_
  have l1 : (T ++ [(20, 8)]).length = n + 1 := by rw [List.length_append, l0]; rfl
  rw [l0]
  have z1 := z0.le (show n ≤ n + 1 by omega)
  refine w_putR (ci := 7) (k := 6) dX7_init_9 (Or.inr ⟨⟨rfl, rfl, rfl⟩, ⟨by decide, by decide⟩, (wgt2 108 rfl rfl)⟩) (gA ha) rfl rfl (by rw [l1]; omega) ?_
  have z2 := z1.uR (k := 6) (v := some n) (show a < n + 1 by omega)
  exact w_vret dX7_init_12 rfl ⟨Nat.le_of_ble_eq_true rfl, Nat.le_of_ble_eq_true rfl⟩ h
set_option maxHeartbeats 16000000 in
theorem i_X2_init {a n : Nat} (hn : T.length = n) (ha : T[a]? = some (2, 0)) (hz : Fr0 n R M) (h : Q none (((T ++ [(20, 64)]) ++ [(20, 64)]) ++ [(21, 64)]) (upR (upR (upR R a 0 (some n)) a 1 (some (n + 1))) a 2 (some (n + 2))) M) : MW E mX2_init (fun b => b < n) Q T R M 0 0 0 [(0, pR a)] [] := by
  have l0 := hn
  have han : a < n := by rw [← hn]; exact (List.getElem?_eq_some_iff.mp ha).1
  have z0 := hz
  refine w_aload_n dX2_init_0 rfl ?_
  refine w_objInit dX2_init_1 kX2_3 ⟨Nat.le_of_ble_eq_true rfl, Nat.le_of_ble_eq_true rfl⟩ ?_
  refine w_aload_n dX2_init_4 rfl ?_
  refine w_bipush dX2_init_5 (by decide) ?_
  refine w_newI (n := 64) dX2_init_7 rfl (by decide) arr_int (fun b (hb : b < n) => by rw [l0]; omega) (okL (by rw [l0]; omega)) (okR (by rw [l0]; omega) rfl) (fun k => by rw [l0]; exact (z0 _ (Nat.le_refl _) k).1) ⟨Nat.le_of_ble_eq_true rfl, Nat.le_of_ble_eq_true rfl⟩ ?_
  have l1 : (T ++ [(20, 64)]).length = n + 1 := by rw [List.length_append, l0]; rfl
  rw [l0]
  have z1 := z0.le (show n ≤ n + 1 by omega)
  refine w_putR (ci := 2) (k := 0) dX2_init_9 (Or.inr ⟨⟨rfl, rfl, rfl⟩, ⟨by decide, by decide⟩, (wgt1 142 rfl rfl)⟩) (gA ha) rfl rfl (by rw [l1]; omega) ?_
  have z2 := z1.uR (k := 0) (v := some n) (show a < n + 1 by omega)
  refine w_aload_n dX2_init_12 rfl ?_
  refine w_bipush dX2_init_13 (by decide) ?_
  refine w_newI (n := 64) dX2_init_15 rfl (by decide) arr_int (fun b (hb : b < n) => by rw [l1]; omega) (okL (by rw [l1]; omega)) (okR (by rw [l1]; omega) rfl) (fun k => by rw [l1]; exact (z2 _ (Nat.le_refl _) k).1) ⟨Nat.le_of_ble_eq_true rfl, Nat.le_of_ble_eq_true rfl⟩ ?_
  have l2 : ((T ++ [(20, 64)]) ++ [(20, 64)]).length = n + 2 := by rw [List.length_append, l1]; rfl
  rw [l1]
  have z3 := z2.le (show n + 1 ≤ n + 2 by omega)
  refine w_putR (ci := 2) (k := 1) dX2_init_17 (Or.inr ⟨⟨rfl, rfl, rfl⟩, ⟨by decide, by decide⟩, (wgt1 143 rfl rfl)⟩) (gA (gA ha)) rfl rfl (by rw [l2]; omega) ?_
  have z4 := z3.uR (k := 1) (v := some (n + 1)) (show a < n + 2 by omega)
  refine w_aload_n dX2_init_20 rfl ?_
  refine w_bipush dX2_init_21 (by decide) ?_
  refine w_newL (n := 64) dX2_init_23 rfl (by decide) arr_long (fun b (hb : b < n) => by rw [l2]; omega) (okL (by rw [l2]; omega)) (okR (by rw [l2]; omega) rfl) (fun k => by rw [l2]; exact (z4 _ (Nat.le_refl _) k).1) ⟨Nat.le_of_ble_eq_true rfl, Nat.le_of_ble_eq_true rfl⟩ ?_
  have l3 : (((T ++ [(20, 64)]) ++ [(20, 64)]) ++ [(21, 64)]).length = n + 3 := by rw [List.length_append, l2]; rfl
  rw [l2]
  have z5 := z4.le (show n + 2 ≤ n + 3 by omega)
  refine w_putR (ci := 2) (k := 2) dX2_init_25 (Or.inr ⟨⟨rfl, rfl, rfl⟩, ⟨by decide, by decide⟩, (wgt1 144 rfl rfl)⟩) (gA (gA (gA ha))) rfl rfl (by rw [l3]; omega) ?_
  have z6 := z5.uR (k := 2) (v := some (n + 2)) (show a < n + 3 by omega)
  exact w_vret dX2_init_28 rfl ⟨Nat.le_of_ble_eq_true rfl, Nat.le_of_ble_eq_true rfl⟩ h
set_option maxHeartbeats 16000000 in
theorem i_X1_init {a n : Nat} (hn : T.length = n) (ha : T[a]? = some (1, 0)) (hz : Fr0 n R M) (h : Q none ((((((((((((((T ++ [(20, 8)]) ++ [(20, 8)]) ++ [(20, 16)]) ++ [(20, 8)]) ++ [(20, 256)]) ++ [(20, 16)]) ++ [(20, 16)]) ++ [(20, 4)]) ++ [(20, 6)]) ++ [(2, 0)]) ++ [(20, 64)]) ++ [(20, 64)]) ++ [(21, 64)]) ++ [(6, 0)]) (upR (upR (upR (upR (upR (upR (upR (upR (upR (upR (upR (upR (upR (upR R a 3 (some n)) a 6 (some (n + 1))) a 7 (some (n + 2))) a 8 (some (n + 3))) a 9 (some (n + 4))) a 11 (some (n + 5))) a 12 (some (n + 6))) a 14 (some (n + 7))) a 17 (some (n + 8))) (n + 9) 0 (some (n + 10))) (n + 9) 1 (some (n + 10 + 1))) (n + 9) 2 (some (n + 10 + 2))) a 18 (some (n + 9))) a 19 (some (n + 13))) M) : MW E mX1_init (fun b => b < n) Q T R M 0 0 0 [(0, pR a)] [] := by
  have l0 := hn
  have han : a < n := by rw [← hn]; exact (List.getElem?_eq_some_iff.mp ha).1
  have z0 := hz
  refine w_aload_n dX1_init_0 rfl ?_
  refine w_objInit dX1_init_1 kX1_3 ⟨Nat.le_of_ble_eq_true rfl, Nat.le_of_ble_eq_true rfl⟩ ?_
  refine w_aload_n dX1_init_4 rfl ?_
  refine w_bipush dX1_init_5 (by decide) ?_
  refine w_newI (n := 8) dX1_init_7 rfl (by decide) arr_int (fun b (hb : b < n) => by rw [l0]; omega) (okL (by rw [l0]; omega)) (okR (by rw [l0]; omega) rfl) (fun k => by rw [l0]; exact (z0 _ (Nat.le_refl _) k).1) ⟨Nat.le_of_ble_eq_true rfl, Nat.le_of_ble_eq_true rfl⟩ ?_
  have l1 : (T ++ [(20, 8)]).length = n + 1 := by rw [List.length_append, l0]; rfl
  rw [l0]
  have z1 := z0.le (show n ≤ n + 1 by omega)
  refine w_putR (ci := 1) (k := 3) dX1_init_9 (Or.inr ⟨⟨rfl, rfl, rfl⟩, ⟨by decide, by decide⟩, (wgt1 202 rfl rfl)⟩) (gA ha) rfl rfl (by rw [l1]; omega) ?_
  have z2 := z1.uR (k := 3) (v := some n) (show a < n + 1 by omega)
  refine w_aload_n dX1_init_12 rfl ?_
  refine w_bipush dX1_init_13 (by decide) ?_
  refine w_newI (n := 8) dX1_init_15 rfl (by decide) arr_int (fun b (hb : b < n) => by rw [l1]; omega) (okL (by rw [l1]; omega)) (okR (by rw [l1]; omega) rfl) (fun k => by rw [l1]; exact (z2 _ (Nat.le_refl _) k).1) ⟨Nat.le_of_ble_eq_true rfl, Nat.le_of_ble_eq_true rfl⟩ ?_
  have l2 : ((T ++ [(20, 8)]) ++ [(20, 8)]).length = n + 2 := by rw [List.length_append, l1]; rfl
  rw [l1]
  have z3 := z2.le (show n + 1 ≤ n + 2 by omega)
  refine w_putR (ci := 1) (k := 6) dX1_init_17 (Or.inr ⟨⟨rfl, rfl, rfl⟩, ⟨by decide, by decide⟩, (wgt1 207 rfl rfl)⟩) (gA (gA ha)) rfl rfl (by rw [l2]; omega) ?_
  have z4 := z3.uR (k := 6) (v := some (n + 1)) (show a < n + 2 by omega)
  refine w_aload_n dX1_init_20 rfl ?_
  refine w_bipush dX1_init_21 (by decide) ?_
  refine w_newI (n := 16) dX1_init_23 rfl (by decide) arr_int (fun b (hb : b < n) => by rw [l2]; omega) (okL (by rw [l2]; omega)) (okR (by rw [l2]; omega) rfl) (fun k => by rw [l2]; exact (z4 _ (Nat.le_refl _) k).1) ⟨Nat.le_of_ble_eq_true rfl, Nat.le_of_ble_eq_true rfl⟩ ?_
  have l3 : (((T ++ [(20, 8)]) ++ [(20, 8)]) ++ [(20, 16)]).length = n + 3 := by rw [List.length_append, l2]; rfl
  rw [l2]
  have z5 := z4.le (show n + 2 ≤ n + 3 by omega)
  refine w_putR (ci := 1) (k := 7) dX1_init_25 (Or.inr ⟨⟨rfl, rfl, rfl⟩, ⟨by decide, by decide⟩, (wgt1 208 rfl rfl)⟩) (gA (gA (gA ha))) rfl rfl (by rw [l3]; omega) ?_
  have z6 := z5.uR (k := 7) (v := some (n + 2)) (show a < n + 3 by omega)
  refine w_aload_n dX1_init_28 rfl ?_
  refine w_bipush dX1_init_29 (by decide) ?_
  refine w_newI (n := 8) dX1_init_31 rfl (by decide) arr_int (fun b (hb : b < n) => by rw [l3]; omega) (okL (by rw [l3]; omega)) (okR (by rw [l3]; omega) rfl) (fun k => by rw [l3]; exact (z6 _ (Nat.le_refl _) k).1) ⟨Nat.le_of_ble_eq_true rfl, Nat.le_of_ble_eq_true rfl⟩ ?_
  have l4 : ((((T ++ [(20, 8)]) ++ [(20, 8)]) ++ [(20, 16)]) ++ [(20, 8)]).length = n + 4 := by rw [List.length_append, l3]; rfl
  rw [l3]
  have z7 := z6.le (show n + 3 ≤ n + 4 by omega)
  refine w_putR (ci := 1) (k := 8) dX1_init_33 (Or.inr ⟨⟨rfl, rfl, rfl⟩, ⟨by decide, by decide⟩, (wgt1 209 rfl rfl)⟩) (gA (gA (gA (gA ha)))) rfl rfl (by rw [l4]; omega) ?_
  have z8 := z7.uR (k := 8) (v := some (n + 3)) (show a < n + 4 by omega)
  refine w_aload_n dX1_init_36 rfl ?_
  refine w_sipush dX1_init_37 (by decide) ?_
  refine w_newI (n := 256) dX1_init_40 rfl (by decide) arr_int (fun b (hb : b < n) => by rw [l4]; omega) (okL (by rw [l4]; omega)) (okR (by rw [l4]; omega) rfl) (fun k => by rw [l4]; exact (z8 _ (Nat.le_refl _) k).1) ⟨Nat.le_of_ble_eq_true rfl, Nat.le_of_ble_eq_true rfl⟩ ?_
  have l5 : (((((T ++ [(20, 8)]) ++ [(20, 8)]) ++ [(20, 16)]) ++ [(20, 8)]) ++ [(20, 256)]).length = n + 5 := by rw [List.length_append, l4]; rfl
  rw [l4]
  have z9 := z8.le (show n + 4 ≤ n + 5 by omega)
  refine w_putR (ci := 1) (k := 9) dX1_init_42 (Or.inr ⟨⟨rfl, rfl, rfl⟩, ⟨by decide, by decide⟩, (wgt1 210 rfl rfl)⟩) (gA (gA (gA (gA (gA ha))))) rfl rfl (by rw [l5]; omega) ?_
  have z10 := z9.uR (k := 9) (v := some (n + 4)) (show a < n + 5 by omega)
  refine w_aload_n dX1_init_45 rfl ?_
  refine w_bipush dX1_init_46 (by decide) ?_
  refine w_newI (n := 16) dX1_init_48 rfl (by decide) arr_int (fun b (hb : b < n) => by rw [l5]; omega) (okL (by rw [l5]; omega)) (okR (by rw [l5]; omega) rfl) (fun k => by rw [l5]; exact (z10 _ (Nat.le_refl _) k).1) ⟨Nat.le_of_ble_eq_true rfl, Nat.le_of_ble_eq_true rfl⟩ ?_
  have l6 : ((((((T ++ [(20, 8)]) ++ [(20, 8)]) ++ [(20, 16)]) ++ [(20, 8)]) ++ [(20, 256)]) ++ [(20, 16)]).length = n + 6 := by rw [List.length_append, l5]; rfl
  rw [l5]
  have z11 := z10.le (show n + 5 ≤ n + 6 by omega)
  refine w_putR (ci := 1) (k := 11) dX1_init_50 (Or.inr ⟨⟨rfl, rfl, rfl⟩, ⟨by decide, by decide⟩, (wgt1 215 rfl rfl)⟩) (gA (gA (gA (gA (gA (gA ha)))))) rfl rfl (by rw [l6]; omega) ?_
  have z12 := z11.uR (k := 11) (v := some (n + 5)) (show a < n + 6 by omega)
  refine w_aload_n dX1_init_53 rfl ?_
  refine w_bipush dX1_init_54 (by decide) ?_
  refine w_newI (n := 16) dX1_init_56 rfl (by decide) arr_int (fun b (hb : b < n) => by rw [l6]; omega) (okL (by rw [l6]; omega)) (okR (by rw [l6]; omega) rfl) (fun k => by rw [l6]; exact (z12 _ (Nat.le_refl _) k).1) ⟨Nat.le_of_ble_eq_true rfl, Nat.le_of_ble_eq_true rfl⟩ ?_
  have l7 : (((((((T ++ [(20, 8)]) ++ [(20, 8)]) ++ [(20, 16)]) ++ [(20, 8)]) ++ [(20, 256)]) ++ [(20, 16)]) ++ [(20, 16)]).length = n + 7 := by rw [List.length_append, l6]; rfl
  rw [l6]
  have z13 := z12.le (show n + 6 ≤ n + 7 by omega)
  refine w_putR (ci := 1) (k := 12) dX1_init_58 (Or.inr ⟨⟨rfl, rfl, rfl⟩, ⟨by decide, by decide⟩, (wgt1 217 rfl rfl)⟩) (gA (gA (gA (gA (gA (gA (gA ha))))))) rfl rfl (by rw [l7]; omega) ?_
  have z14 := z13.uR (k := 12) (v := some (n + 6)) (show a < n + 7 by omega)
  refine w_aload_n dX1_init_61 rfl ?_
  refine w_iconst dX1_init_62 ?_
  refine w_newI (n := 4) dX1_init_63 rfl (by decide) arr_int (fun b (hb : b < n) => by rw [l7]; omega) (okL (by rw [l7]; omega)) (okR (by rw [l7]; omega) rfl) (fun k => by rw [l7]; exact (z14 _ (Nat.le_refl _) k).1) ⟨Nat.le_of_ble_eq_true rfl, Nat.le_of_ble_eq_true rfl⟩ ?_
  have l8 : ((((((((T ++ [(20, 8)]) ++ [(20, 8)]) ++ [(20, 16)]) ++ [(20, 8)]) ++ [(20, 256)]) ++ [(20, 16)]) ++ [(20, 16)]) ++ [(20, 4)]).length = n + 8 := by rw [List.length_append, l7]; rfl
  rw [l7]
  have z15 := z14.le (show n + 7 ≤ n + 8 by omega)
  refine w_putR (ci := 1) (k := 14) dX1_init_65 (Or.inr ⟨⟨rfl, rfl, rfl⟩, ⟨by decide, by decide⟩, (wgt1 221 rfl rfl)⟩) (gA (gA (gA (gA (gA (gA (gA (gA ha)))))))) rfl rfl (by rw [l8]; omega) ?_
  have z16 := z15.uR (k := 14) (v := some (n + 7)) (show a < n + 8 by omega)
  refine w_aload_n dX1_init_68 rfl ?_
  refine w_bipush dX1_init_69 (by decide) ?_
  refine w_newI (n := 6) dX1_init_71 rfl (by decide) arr_int (fun b (hb : b < n) => by rw [l8]; omega) (okL (by rw [l8]; omega)) (okR (by rw [l8]; omega) rfl) (fun k => by rw [l8]; exact (z16 _ (Nat.le_refl _) k).1) ⟨Nat.le_of_ble_eq_true rfl, Nat.le_of_ble_eq_true rfl⟩ ?_
  have l9 : (((((((((T ++ [(20, 8)]) ++ [(20, 8)]) ++ [(20, 16)]) ++ [(20, 8)]) ++ [(20, 256)]) ++ [(20, 16)]) ++ [(20, 16)]) ++ [(20, 4)]) ++ [(20, 6)]).length = n + 9 := by rw [List.length_append, l8]; rfl
  rw [l8]
  have z17 := z16.le (show n + 8 ≤ n + 9 by omega)
  refine w_putR (ci := 1) (k := 17) dX1_init_73 (Or.inr ⟨⟨rfl, rfl, rfl⟩, ⟨by decide, by decide⟩, (wgt1 229 rfl rfl)⟩) (gA (gA (gA (gA (gA (gA (gA (gA (gA ha))))))))) rfl rfl (by rw [l9]; omega) ?_
  have z18 := z17.uR (k := 17) (v := some (n + 8)) (show a < n + 9 by omega)
  refine w_aload_n dX1_init_76 rfl ?_
  refine w_new (ci := 2) (N := 4) dX1_init_77 (by decide) ⟨_, rfl⟩ nX1_39 (fun b (hb : b < n) => by rw [l9]; omega) (okL (by rw [l9]; omega)) (okR (by rw [l9]; omega) rfl) (fun k => by rw [l9]; exact (z18 _ (Nat.le_refl _) k).1) (fun k => by rw [l9]; exact (z18 _ (Nat.le_refl _) k).2) ⟨Nat.le_of_ble_eq_true rfl, Nat.le_of_ble_eq_true rfl⟩ ?_
  have l10 : ((((((((((T ++ [(20, 8)]) ++ [(20, 8)]) ++ [(20, 16)]) ++ [(20, 8)]) ++ [(20, 256)]) ++ [(20, 16)]) ++ [(20, 16)]) ++ [(20, 4)]) ++ [(20, 6)]) ++ [(2, 0)]).length = n + 10 := by rw [List.length_append, l9]; rfl
  rw [l9]
  have z19 := z18.le (show n + 9 ≤ n + 10 by omega)
  refine w_dup dX1_init_80 rfl ?_
  refine w_callI (as := []) dX1_init_81 kX1_41 ⟨⟨Nat.le_of_ble_eq_true rfl, Nat.le_of_ble_eq_true rfl, Nat.le_of_ble_eq_true rfl⟩, Nat.le_of_ble_eq_true rfl⟩ rfl (Nat.le_of_ble_eq_true rfl) (S2 := fun b => b < n + 10) (fun b (hb : b < n) => show b < n + 10 by omega) (Stb_lt (okL (by omega)) (okR (by omega) (okR (by omega) rfl))) (i_X2_init (n := n + 10) l10 (gN l9) z19 ?_)
  have l11 : (((((((((((T ++ [(20, 8)]) ++ [(20, 8)]) ++ [(20, 16)]) ++ [(20, 8)]) ++ [(20, 256)]) ++ [(20, 16)]) ++ [(20, 16)]) ++ [(20, 4)]) ++ [(20, 6)]) ++ [(2, 0)]) ++ [(20, 64)]).length = n + 11 := by rw [List.length_append, l10]; rfl
  have l12 : ((((((((((((T ++ [(20, 8)]) ++ [(20, 8)]) ++ [(20, 16)]) ++ [(20, 8)]) ++ [(20, 256)]) ++ [(20, 16)]) ++ [(20, 16)]) ++ [(20, 4)]) ++ [(20, 6)]) ++ [(2, 0)]) ++ [(20, 64)]) ++ [(20, 64)]).length = n + 12 := by rw [List.length_append, l11]; rfl
  have l13 : (((((((((((((T ++ [(20, 8)]) ++ [(20, 8)]) ++ [(20, 16)]) ++ [(20, 8)]) ++ [(20, 256)]) ++ [(20, 16)]) ++ [(20, 16)]) ++ [(20, 4)]) ++ [(20, 6)]) ++ [(2, 0)]) ++ [(20, 64)]) ++ [(20, 64)]) ++ [(21, 64)]).length = n + 13 := by rw [List.length_append, l12]; rfl
  have z20 := (z19.le (show n + 10 ≤ n + 13 by omega)).uR (a := (n + 9)) (k := 0) (v := some (n + 10)) (show (n + 9) < n + 13 by omega)
  have z21 := z20.uR (a := (n + 9)) (k := 1) (v := some (n + 10 + 1)) (show (n + 9) < n + 13 by omega)
  have z22 := z21.uR (a := (n + 9)) (k := 2) (v := some (n + 10 + 2)) (show (n + 9) < n + 13 by omega)
  show MW E mX1_init (fun b => b < n) Q (((((((((((((T ++ [(20, 8)]) ++ [(20, 8)]) ++ [(20, 16)]) ++ [(20, 8)]) ++ [(20, 256)]) ++ [(20, 16)]) ++ [(20, 16)]) ++ [(20, 4)]) ++ [(20, 6)]) ++ [(2, 0)]) ++ [(20, 64)]) ++ [(20, 64)]) ++ [(21, 64)]) (upR (upR (upR (upR (upR (upR (upR (upR (upR (upR (upR (upR R a 3 (some n)) a 6 (some (n + 1))) a 7 (some (n + 2))) a 8 (some (n + 3))) a 9 (some (n + 4))) a 11 (some (n + 5))) a 12 (some (n + 6))) a 14 (some (n + 7))) a 17 (some (n + 8))) (n + 9) 0 (some (n + 10))) (n + 9) 1 (some (n + 10 + 1))) (n + 9) 2 (some (n + 10 + 2))) M _ _ 84 [(0, pR a)] [pR (n + 9), pR a]
  refine w_putR (ci := 1) (k := 18) dX1_init_84 (Or.inr ⟨⟨rfl, rfl, rfl⟩, ⟨by decide, by decide⟩, (wgt1 231 rfl rfl)⟩) (gA (gA (gA (gA (gA (gA (gA (gA (gA (gA (gA (gA (gA ha))))))))))))) rfl rfl (by rw [l13]; omega) ?_
  have z23 := z22.uR (k := 18) (v := some (n + 9)) (show a < n + 13 by omega)
  refine w_aload_n dX1_init_87 rfl ?_
  refine w_new (ci := 6) (N := 8) dX1_init_88 (by decide) ⟨_, rfl⟩ nX1_46 (fun b (hb : b < n) => by rw [l13]; omega) (okL (by rw [l13]; omega)) (okR (by rw [l13]; omega) rfl) (fun k => by rw [l13]; exact (z23 _ (Nat.le_refl _) k).1) (fun k => by rw [l13]; exact (z23 _ (Nat.le_refl _) k).2) ⟨Nat.le_of_ble_eq_true rfl, Nat.le_of_ble_eq_true rfl⟩ ?_
  have l14 : ((((((((((((((T ++ [(20, 8)]) ++ [(20, 8)]) ++ [(20, 16)]) ++ [(20, 8)]) ++ [(20, 256)]) ++ [(20, 16)]) ++ [(20, 16)]) ++ [(20, 4)]) ++ [(20, 6)]) ++ [(2, 0)]) ++ [(20, 64)]) ++ [(20, 64)]) ++ [(21, 64)]) ++ [(6, 0)]).length = n + 14 := by rw [List.length_append, l13]; rfl
  rw [l13]
  have z24 := z23.le (show n + 13 ≤ n + 14 by omega)
  refine w_dup dX1_init_91 rfl ?_
  refine w_callI (as := []) dX1_init_92 kX1_48 ⟨⟨Nat.le_of_ble_eq_true rfl, Nat.le_of_ble_eq_true rfl, Nat.le_of_ble_eq_true rfl⟩, Nat.le_of_ble_eq_true rfl⟩ rfl (Nat.le_of_ble_eq_true rfl) (S2 := fun b => b < n + 14) (fun b (hb : b < n) => show b < n + 14 by omega) (Stb_lt (okL (by omega)) (okR (by omega) (okR (by omega) rfl))) (i_X6_init (n := n + 14) l14 (gN l13) z24 ?_)
  show MW E mX1_init (fun b => b < n) Q ((((((((((((((T ++ [(20, 8)]) ++ [(20, 8)]) ++ [(20, 16)]) ++ [(20, 8)]) ++ [(20, 256)]) ++ [(20, 16)]) ++ [(20, 16)]) ++ [(20, 4)]) ++ [(20, 6)]) ++ [(2, 0)]) ++ [(20, 64)]) ++ [(20, 64)]) ++ [(21, 64)]) ++ [(6, 0)]) (upR (upR (upR (upR (upR (upR (upR (upR (upR (upR (upR (upR (upR R a 3 (some n)) a 6 (some (n + 1))) a 7 (some (n + 2))) a 8 (some (n + 3))) a 9 (some (n + 4))) a 11 (some (n + 5))) a 12 (some (n + 6))) a 14 (some (n + 7))) a 17 (some (n + 8))) (n + 9) 0 (some (n + 10))) (n + 9) 1 (some (n + 10 + 1))) (n + 9) 2 (some (n + 10 + 2))) a 18 (some (n + 9))) M _ _ 95 [(0, pR a)] [pR (n + 13), pR a]
  refine w_putR (ci := 1) (k := 19) dX1_init_95 (Or.inr ⟨⟨rfl, rfl, rfl⟩, ⟨by decide, by decide⟩, (wgt1 235 rfl rfl)⟩) (gA (gA (gA (gA (gA (gA (gA (gA (gA (gA (gA (gA (gA (gA ha)))))))))))))) rfl rfl (by rw [l14]; omega) ?_
  have z25 := z24.uR (k := 19) (v := some (n + 13)) (show a < n + 14 by omega)
  exact w_vret dX1_init_98 rfl ⟨Nat.le_of_ble_eq_true rfl, Nat.le_of_ble_eq_true rfl⟩ h
set_option maxHeartbeats 16000000 in
theorem i_X0_init {a n : Nat} (hn : T.length = n) (ha : T[a]? = some (0, 0)) (hz : Fr0 n R M) (h : Q none (T ++ [(6, 0)]) (upR R a 0 (some n)) (upM (upM M a 2 (-1)) a 3 (-1))) : MW E mX0_init (fun b => b < n) Q T R M 0 0 0 [(0, pR a)] [] := by
  have l0 := hn
  have han : a < n := by rw [← hn]; exact (List.getElem?_eq_some_iff.mp ha).1
  have z0 := hz
  refine w_aload_n dX0_init_0 rfl ?_
  refine w_objInit dX0_init_1 kX0_3 ⟨Nat.le_of_ble_eq_true rfl, Nat.le_of_ble_eq_true rfl⟩ ?_
  refine w_aload_n dX0_init_4 rfl ?_
  refine w_new (ci := 6) (N := 8) dX0_init_5 (by decide) ⟨_, rfl⟩ nX0_9 (fun b (hb : b < n) => by rw [l0]; omega) (okL (by rw [l0]; omega)) (okR (by rw [l0]; omega) rfl) (fun k => by rw [l0]; exact (z0 _ (Nat.le_refl _) k).1) (fun k => by rw [l0]; exact (z0 _ (Nat.le_refl _) k).2) ⟨Nat.le_of_ble_eq_true rfl, Nat.le_of_ble_eq_true rfl⟩ ?_
  have l1 : (T ++ [(6, 0)]).length = n + 1 := by rw [List.length_append, l0]; rfl
  rw [l0]
  have z1 := z0.le (show n ≤ n + 1 by omega)
  refine w_dup dX0_init_8 rfl ?_
  refine w_callI (as := []) dX0_init_9 kX0_11 ⟨⟨Nat.le_of_ble_eq_true rfl, Nat.le_of_ble_eq_true rfl, Nat.le_of_ble_eq_true rfl⟩, Nat.le_of_ble_eq_true rfl⟩ rfl (Nat.le_of_ble_eq_true rfl) (S2 := fun b => b < n + 1) (fun b (hb : b < n) => show b < n + 1 by omega) (Stb_lt (okL (by omega)) (okR (by omega) (okR (by omega) rfl))) (i_X6_init (n := n + 1) l1 (gN l0) z1 ?_)
  show MW E mX0_init (fun b => b < n) Q (T ++ [(6, 0)]) R M _ _ 12 [(0, pR a)] [pR n, pR a]
  refine w_putR (ci := 0) (k := 0) dX0_init_12 (Or.inr ⟨⟨rfl, rfl, rfl⟩, ⟨by decide, by decide⟩, (wgt2 132 rfl rfl)⟩) (gA ha) rfl rfl (by rw [l1]; omega) ?_
  have z2 := z1.uR (k := 0) (v := some n) (show a < n + 1 by omega)
  refine w_aload_n dX0_init_15 rfl ?_
  refine w_iconst dX0_init_16 ?_
  refine w_putI (ci := 0) (k := 2) dX0_init_17 (Or.inl ⟨rfl, fX0_18⟩) (gA ha) rfl (by decide) ?_
  have z3 := z2.uM (k := 2) (v := (-1)) (show a < n + 1 by omega)
  refine w_aload_n dX0_init_20 rfl ?_
  refine w_iconst dX0_init_21 ?_
  refine w_putI (ci := 0) (k := 3) dX0_init_22 (Or.inl ⟨rfl, fX0_22⟩) (gA ha) rfl (by decide) ?_
  have z4 := z3.uM (k := 3) (v := (-1)) (show a < n + 1 by omega)
  exact w_vret dX0_init_25 rfl ⟨Nat.le_of_ble_eq_true rfl, Nat.le_of_ble_eq_true rfl⟩ h
set_option maxHeartbeats 16000000 in
theorem i_X9_init {a n : Nat} (hn : T.length = n) (ha : T[a]? = some (9, 0)) (hz : Fr0 n R M) (h : Q none (((((T ++ [(20, 20)]) ++ [(20, 20)]) ++ [(20, 20)]) ++ [(20, 20)]) ++ [(20, 20)]) (upR (upR (upR (upR (upR R a 0 (some n)) a 1 (some (n + 1))) a 2 (some (n + 2))) a 3 (some (n + 3))) a 4 (some (n + 4))) M) : MW E mX9_init (fun b => b < n) Q T R M 0 0 0 [(0, pR a)] [] := by
  have l0 := hn
  have han : a < n := by rw [← hn]; exact (List.getElem?_eq_some_iff.mp ha).1
  have z0 := hz
  refine w_aload_n dX9_init_0 rfl ?_
  refine w_objInit dX9_init_1 kX9_3 ⟨Nat.le_of_ble_eq_true rfl, Nat.le_of_ble_eq_true rfl⟩ ?_
  refine w_aload_n dX9_init_4 rfl ?_
  refine w_bipush dX9_init_5 (by decide) ?_
  refine w_newI (n := 20) dX9_init_7 rfl (by decide) arr_int (fun b (hb : b < n) => by rw [l0]; omega) (okL (by rw [l0]; omega)) (okR (by rw [l0]; omega) rfl) (fun k => by rw [l0]; exact (z0 _ (Nat.le_refl _) k).1) ⟨Nat.le_of_ble_eq_true rfl, Nat.le_of_ble_eq_true rfl⟩ ?_
  have l1 : (T ++ [(20, 20)]).length = n + 1 := by rw [List.length_append, l0]; rfl
  rw [l0]
  have z1 := z0.le (show n ≤ n + 1 by omega)
  refine w_putR (ci := 9) (k := 0) dX9_init_9 (Or.inr ⟨⟨rfl, rfl, rfl⟩, ⟨by decide, by decide⟩, (wgt2 151 rfl rfl)⟩) (gA ha) rfl rfl (by rw [l1]; omega) ?_
  have z2 := z1.uR (k := 0) (v := some n) (show a < n + 1 by omega)
  refine w_aload_n dX9_init_12 rfl ?_
  refine w_bipush dX9_init_13 (by decide) ?_
  refine w_newI (n := 20) dX9_init_15 rfl (by decide) arr_int (fun b (hb : b < n) => by rw [l1]; omega) (okL (by rw [l1]; omega)) (okR (by rw [l1]; omega) rfl) (fun k => by rw [l1]; exact (z2 _ (Nat.le_refl _) k).1) ⟨Nat.le_of_ble_eq_true rfl, Nat.le_of_ble_eq_true rfl⟩ ?_
  have l2 : ((T ++ [(20, 20)]) ++ [(20, 20)]).length = n + 2 := by rw [List.length_append, l1]; rfl
  rw [l1]
  have z3 := z2.le (show n + 1 ≤ n + 2 by omega)
  refine w_putR (ci := 9) (k := 1) dX9_init_17 (Or.inr ⟨⟨rfl, rfl, rfl⟩, ⟨by decide, by decide⟩, (wgt2 152 rfl rfl)⟩) (gA (gA ha)) rfl rfl (by rw [l2]; omega) ?_
  have z4 := z3.uR (k := 1) (v := some (n + 1)) (show a < n + 2 by omega)
  refine w_aload_n dX9_init_20 rfl ?_
  refine w_bipush dX9_init_21 (by decide) ?_
  refine w_newI (n := 20) dX9_init_23 rfl (by decide) arr_int (fun b (hb : b < n) => by rw [l2]; omega) (okL (by rw [l2]; omega)) (okR (by rw [l2]; omega) rfl) (fun k => by rw [l2]; exact (z4 _ (Nat.le_refl _) k).1) ⟨Nat.le_of_ble_eq_true rfl, Nat.le_of_ble_eq_true rfl⟩ ?_
  have l3 : (((T ++ [(20, 20)]) ++ [(20, 20)]) ++ [(20, 20)]).length = n + 3 := by rw [List.length_append, l2]; rfl
  rw [l2]
  have z5 := z4.le (show n + 2 ≤ n + 3 by omega)
  refine w_putR (ci := 9) (k := 2) dX9_init_25 (Or.inr ⟨⟨rfl, rfl, rfl⟩, ⟨by decide, by decide⟩, (wgt2 153 rfl rfl)⟩) (gA (gA (gA ha))) rfl rfl (by rw [l3]; omega) ?_
  have z6 := z5.uR (k := 2) (v := some (n + 2)) (show a < n + 3 by omega)
  refine w_aload_n dX9_init_28 rfl ?_
  refine w_bipush dX9_init_29 (by decide) ?_
  refine w_newI (n := 20) dX9_init_31 rfl (by decide) arr_int (fun b (hb : b < n) => by rw [l3]; omega) (okL (by rw [l3]; omega)) (okR (by rw [l3]; omega) rfl) (fun k => by rw [l3]; exact (z6 _ (Nat.le_refl _) k).1) ⟨Nat.le_of_ble_eq_true rfl, Nat.le_of_ble_eq_true rfl⟩ ?_
  have l4 : ((((T ++ [(20, 20)]) ++ [(20, 20)]) ++ [(20, 20)]) ++ [(20, 20)]).length = n + 4 := by rw [List.length_append, l3]; rfl
  rw [l3]
  have z7 := z6.le (show n + 3 ≤ n + 4 by omega)
  refine w_putR (ci := 9) (k := 3) dX9_init_33 (Or.inr ⟨⟨rfl, rfl, rfl⟩, ⟨by decide, by decide⟩, (wgt2 154 rfl rfl)⟩) (gA (gA (gA (gA ha)))) rfl rfl (by rw [l4]; omega) ?_
  have z8 := z7.uR (k := 3) (v := some (n + 3)) (show a < n + 4 by omega)
  refine w_aload_n dX9_init_36 rfl ?_
  refine w_bipush dX9_init_37 (by decide) ?_
  refine w_newI (n := 20) dX9_init_39 rfl (by decide) arr_int (fun b (hb : b < n) => by rw [l4]; omega) (okL (by rw [l4]; omega)) (okR (by rw [l4]; omega) rfl) (fun k => by rw [l4]; exact (z8 _ (Nat.le_refl _) k).1) ⟨Nat.le_of_ble_eq_true rfl, Nat.le_of_ble_eq_true rfl⟩ ?_
  have l5 : (((((T ++ [(20, 20)]) ++ [(20, 20)]) ++ [(20, 20)]) ++ [(20, 20)]) ++ [(20, 20)]).length = n + 5 := by rw [List.length_append, l4]; rfl
  rw [l4]
  have z9 := z8.le (show n + 4 ≤ n + 5 by omega)
  refine w_putR (ci := 9) (k := 4) dX9_init_41 (Or.inr ⟨⟨rfl, rfl, rfl⟩, ⟨by decide, by decide⟩, (wgt2 155 rfl rfl)⟩) (gA (gA (gA (gA (gA ha))))) rfl rfl (by rw [l5]; omega) ?_
  have z10 := z9.uR (k := 4) (v := some (n + 4)) (show a < n + 5 by omega)
  exact w_vret dX9_init_44 rfl ⟨Nat.le_of_ble_eq_true rfl, Nat.le_of_ble_eq_true rfl⟩ h
set_option maxHeartbeats 16000000 in
theorem i_X4_init {a n : Nat} (hn : T.length = n) (ha : T[a]? = some (4, 0)) (hz : Fr0 n R M) (h : Q none ((((((T ++ [(20, 256)]) ++ [(20, 256)]) ++ [(20, 256)]) ++ [(20, 256)]) ++ [(21, 256)]) ++ [(21, 256)]) (upR (upR (upR (upR (upR (upR R a 0 (some n)) a 1 (some (n + 1))) a 2 (some (n + 2))) a 3 (some (n + 3))) a 4 (some (n + 4))) a 5 (some (n + 5))) (upM M a 10 (-1))) : MW E mX4_init (fun b => b < n) Q T R M 0 0 0 [(0, pR a)] [] := by
  have l0 := hn
  have han : a < n := by rw [← hn]; exact (List.getElem?_eq_some_iff.mp ha).1
  have z0 := hz
  refine w_aload_n dX4_init_0 rfl ?_
  refine w_objInit dX4_init_1 kX4_3 ⟨Nat.le_of_ble_eq_true rfl, Nat.le_of_ble_eq_true rfl⟩ ?_
  refine w_aload_n dX4_init_4 rfl ?_
  refine w_sipush dX4_init_5 (by decide) ?_
  refine w_newI (n := 256) dX4_init_8 rfl (by decide) arr_int (fun b (hb : b < n) => by rw [l0]; omega) (okL (by rw [l0]; omega)) (okR (by rw [l0]; omega) rfl) (fun k => by rw [l0]; exact (z0 _ (Nat.le_refl _) k).1) ⟨Nat.le_of_ble_eq_true rfl, Nat.le_of_ble_eq_true rfl⟩ ?_
  have l1 : (T ++ [(20, 256)]).length = n + 1 := by rw [List.length_append, l0]; rfl
  rw [l0]
  have z1 := z0.le (show n ≤ n + 1 by omega)
  refine w_putR (ci := 4) (k := 0) dX4_init_10 (Or.inr ⟨⟨rfl, rfl, rfl⟩, ⟨by decide, by decide⟩, (wgt2 180 rfl rfl)⟩) (gA ha) rfl rfl (by rw [l1]; omega) ?_
  have z2 := z1.uR (k := 0) (v := some n) (show a < n + 1 by omega)
  refine w_aload_n dX4_init_13 rfl ?_
  refine w_sipush dX4_init_14 (by decide) ?_
  refine w_newI (n := 256) dX4_init_17 rfl (by decide) arr_int (fun b (hb : b < n) => by rw [l1]; omega) (okL (by rw [l1]; omega)) (okR (by rw [l1]; omega) rfl) (fun k => by rw [l1]; exact (z2 _ (Nat.le_refl _) k).1) ⟨Nat.le_of_ble_eq_true rfl, Nat.le_of_ble_eq_true rfl⟩ ?_
  have l2 : ((T ++ [(20, 256)]) ++ [(20, 256)]).length = n + 2 := by rw [List.length_append, l1]; rfl
  rw [l1]
  have z3 := z2.le (show n + 1 ≤ n + 2 by omega)
  refine w_putR (ci := 4) (k := 1) dX4_init_19 (Or.inr ⟨⟨rfl, rfl, rfl⟩, ⟨by decide, by decide⟩, (wgt2 181 rfl rfl)⟩) (gA (gA ha)) rfl rfl (by rw [l2]; omega) ?_
  have z4 := z3.uR (k := 1) (v := some (n + 1)) (show a < n + 2 by omega)
  refine w_aload_n dX4_init_22 rfl ?_
  refine w_sipush dX4_init_23 (by decide) ?_
  refine w_newI (n := 256) dX4_init_26 rfl (by decide) arr_int (fun b (hb : b < n) => by rw [l2]; omega) (okL (by rw [l2]; omega)) (okR (by rw [l2]; omega) rfl) (fun k => by rw [l2]; exact (z4 _ (Nat.le_refl _) k).1) ⟨Nat.le_of_ble_eq_true rfl, Nat.le_of_ble_eq_true rfl⟩ ?_
  have l3 : (((T ++ [(20, 256)]) ++ [(20, 256)]) ++ [(20, 256)]).length = n + 3 := by rw [List.length_append, l2]; rfl
  rw [l2]
  have z5 := z4.le (show n + 2 ≤ n + 3 by omega)
  refine w_putR (ci := 4) (k := 2) dX4_init_28 (Or.inr ⟨⟨rfl, rfl, rfl⟩, ⟨by decide, by decide⟩, (wgt2 182 rfl rfl)⟩) (gA (gA (gA ha))) rfl rfl (by rw [l3]; omega) ?_
  have z6 := z5.uR (k := 2) (v := some (n + 2)) (show a < n + 3 by omega)
  refine w_aload_n dX4_init_31 rfl ?_
  refine w_sipush dX4_init_32 (by decide) ?_
  refine w_newI (n := 256) dX4_init_35 rfl (by decide) arr_int (fun b (hb : b < n) => by rw [l3]; omega) (okL (by rw [l3]; omega)) (okR (by rw [l3]; omega) rfl) (fun k => by rw [l3]; exact (z6 _ (Nat.le_refl _) k).1) ⟨Nat.le_of_ble_eq_true rfl, Nat.le_of_ble_eq_true rfl⟩ ?_
  have l4 : ((((T ++ [(20, 256)]) ++ [(20, 256)]) ++ [(20, 256)]) ++ [(20, 256)]).length = n + 4 := by rw [List.length_append, l3]; rfl
  rw [l3]
  have z7 := z6.le (show n + 3 ≤ n + 4 by omega)
  refine w_putR (ci := 4) (k := 3) dX4_init_37 (Or.inr ⟨⟨rfl, rfl, rfl⟩, ⟨by decide, by decide⟩, (wgt2 183 rfl rfl)⟩) (gA (gA (gA (gA ha)))) rfl rfl (by rw [l4]; omega) ?_
  have z8 := z7.uR (k := 3) (v := some (n + 3)) (show a < n + 4 by omega)
  refine w_aload_n dX4_init_40 rfl ?_
  refine w_sipush dX4_init_41 (by decide) ?_
  refine w_newL (n := 256) dX4_init_44 rfl (by decide) arr_long (fun b (hb : b < n) => by rw [l4]; omega) (okL (by rw [l4]; omega)) (okR (by rw [l4]; omega) rfl) (fun k => by rw [l4]; exact (z8 _ (Nat.le_refl _) k).1) ⟨Nat.le_of_ble_eq_true rfl, Nat.le_of_ble_eq_true rfl⟩ ?_
  have l5 : (((((T ++ [(20, 256)]) ++ [(20, 256)]) ++ [(20, 256)]) ++ [(20, 256)]) ++ [(21, 256)]).length = n + 5 := by rw [List.length_append, l4]; rfl
  rw [l4]
  have z9 := z8.le (show n + 4 ≤ n + 5 by omega)
  refine w_putR (ci := 4) (k := 4) dX4_init_46 (Or.inr ⟨⟨rfl, rfl, rfl⟩, ⟨by decide, by decide⟩, (wgt2 184 rfl rfl)⟩) (gA (gA (gA (gA (gA ha))))) rfl rfl (by rw [l5]; omega) ?_
  have z10 := z9.uR (k := 4) (v := some (n + 4)) (show a < n + 5 by omega)
  refine w_aload_n dX4_init_49 rfl ?_
  refine w_sipush dX4_init_50 (by decide) ?_
  refine w_newL (n := 256) dX4_init_53 rfl (by decide) arr_long (fun b (hb : b < n) => by rw [l5]; omega) (okL (by rw [l5]; omega)) (okR (by rw [l5]; omega) rfl) (fun k => by rw [l5]; exact (z10 _ (Nat.le_refl _) k).1) ⟨Nat.le_of_ble_eq_true rfl, Nat.le_of_ble_eq_true rfl⟩ ?_
  have l6 : ((((((T ++ [(20, 256)]) ++ [(20, 256)]) ++ [(20, 256)]) ++ [(20, 256)]) ++ [(21, 256)]) ++ [(21, 256)]).length = n + 6 := by rw [List.length_append, l5]; rfl
  rw [l5]
  have z11 := z10.le (show n + 5 ≤ n + 6 by omega)
  refine w_putR (ci := 4) (k := 5) dX4_init_55 (Or.inr ⟨⟨rfl, rfl, rfl⟩, ⟨by decide, by decide⟩, (wgt2 185 rfl rfl)⟩) (gA (gA (gA (gA (gA (gA ha)))))) rfl rfl (by rw [l6]; omega) ?_
  have z12 := z11.uR (k := 5) (v := some (n + 5)) (show a < n + 6 by omega)
  refine w_aload_n dX4_init_58 rfl ?_
  refine w_iconst dX4_init_59 ?_
  refine w_putI (ci := 4) (k := 10) dX4_init_60 (Or.inl ⟨rfl, fX4_31⟩) (gA (gA (gA (gA (gA (gA ha)))))) rfl (by decide) ?_
  have z13 := z12.uM (k := 10) (v := (-1)) (show a < n + 6 by omega)
  exact w_vret dX4_init_63 rfl ⟨Nat.le_of_ble_eq_true rfl, Nat.le_of_ble_eq_true rfl⟩ h
set_option maxHeartbeats 16000000 in
theorem i_X3_init {a n : Nat} (hn : T.length = n) (ha : T[a]? = some (3, 0)) (hz : Fr0 n R M) (h : Q none ((((T ++ [(20, 24)]) ++ [(20, 24)]) ++ [(22, 24)]) ++ [(22, 24)]) (upR (upR (upR (upR R a 0 (some n)) a 1 (some (n + 1))) a 2 (some (n + 2))) a 3 (some (n + 3))) (upM M a 5 (-1))) : MW E mX3_init (fun b => b < n) Q T R M 0 0 0 [(0, pR a)] [] := by
  have l0 := hn
  have han : a < n := by rw [← hn]; exact (List.getElem?_eq_some_iff.mp ha).1
  have z0 := hz
  refine w_aload_n dX3_init_0 rfl ?_
  refine w_objInit dX3_init_1 kX3_3 ⟨Nat.le_of_ble_eq_true rfl, Nat.le_of_ble_eq_true rfl⟩ ?_
  refine w_aload_n dX3_init_4 rfl ?_
  refine w_bipush dX3_init_5 (by decide) ?_
  refine w_newI (n := 24) dX3_init_7 rfl (by decide) arr_int (fun b (hb : b < n) => by rw [l0]; omega) (okL (by rw [l0]; omega)) (okR (by rw [l0]; omega) rfl) (fun k => by rw [l0]; exact (z0 _ (Nat.le_refl _) k).1) ⟨Nat.le_of_ble_eq_true rfl, Nat.le_of_ble_eq_true rfl⟩ ?_
  have l1 : (T ++ [(20, 24)]).length = n + 1 := by rw [List.length_append, l0]; rfl
  rw [l0]
  have z1 := z0.le (show n ≤ n + 1 by omega)
  refine w_putR (ci := 3) (k := 0) dX3_init_9 (Or.inr ⟨⟨rfl, rfl, rfl⟩, ⟨by decide, by decide⟩, (wgt2 227 rfl rfl)⟩) (gA ha) rfl rfl (by rw [l1]; omega) ?_
  have z2 := z1.uR (k := 0) (v := some n) (show a < n + 1 by omega)
  refine w_aload_n dX3_init_12 rfl ?_
  refine w_bipush dX3_init_13 (by decide) ?_
  refine w_newI (n := 24) dX3_init_15 rfl (by decide) arr_int (fun b (hb : b < n) => by rw [l1]; omega) (okL (by rw [l1]; omega)) (okR (by rw [l1]; omega) rfl) (fun k => by rw [l1]; exact (z2 _ (Nat.le_refl _) k).1) ⟨Nat.le_of_ble_eq_true rfl, Nat.le_of_ble_eq_true rfl⟩ ?_
  have l2 : ((T ++ [(20, 24)]) ++ [(20, 24)]).length = n + 2 := by rw [List.length_append, l1]; rfl
  rw [l1]
  have z3 := z2.le (show n + 1 ≤ n + 2 by omega)
  refine w_putR (ci := 3) (k := 1) dX3_init_17 (Or.inr ⟨⟨rfl, rfl, rfl⟩, ⟨by decide, by decide⟩, (wgt2 228 rfl rfl)⟩) (gA (gA ha)) rfl rfl (by rw [l2]; omega) ?_
  have z4 := z3.uR (k := 1) (v := some (n + 1)) (show a < n + 2 by omega)
  refine w_aload_n dX3_init_20 rfl ?_
  refine w_bipush dX3_init_21 (by decide) ?_
  refine w_newZ (n := 24) dX3_init_23 rfl (by decide) arr_boolean (fun b (hb : b < n) => by rw [l2]; omega) (okL (by rw [l2]; omega)) (okR (by rw [l2]; omega) rfl) (fun k => by rw [l2]; exact (z4 _ (Nat.le_refl _) k).1) ⟨Nat.le_of_ble_eq_true rfl, Nat.le_of_ble_eq_true rfl⟩ ?_
  have l3 : (((T ++ [(20, 24)]) ++ [(20, 24)]) ++ [(22, 24)]).length = n + 3 := by rw [List.length_append, l2]; rfl
  rw [l2]
  have z5 := z4.le (show n + 2 ≤ n + 3 by omega)
  refine w_putR (ci := 3) (k := 2) dX3_init_25 (Or.inr ⟨⟨rfl, rfl, rfl⟩, ⟨by decide, by decide⟩, (wgt2 229 rfl rfl)⟩) (gA (gA (gA ha))) rfl rfl (by rw [l3]; omega) ?_
  have z6 := z5.uR (k := 2) (v := some (n + 2)) (show a < n + 3 by omega)
  refine w_aload_n dX3_init_28 rfl ?_
  refine w_bipush dX3_init_29 (by decide) ?_
  refine w_newZ (n := 24) dX3_init_31 rfl (by decide) arr_boolean (fun b (hb : b < n) => by rw [l3]; omega) (okL (by rw [l3]; omega)) (okR (by rw [l3]; omega) rfl) (fun k => by rw [l3]; exact (z6 _ (Nat.le_refl _) k).1) ⟨Nat.le_of_ble_eq_true rfl, Nat.le_of_ble_eq_true rfl⟩ ?_
  have l4 : ((((T ++ [(20, 24)]) ++ [(20, 24)]) ++ [(22, 24)]) ++ [(22, 24)]).length = n + 4 := by rw [List.length_append, l3]; rfl
  rw [l3]
  have z7 := z6.le (show n + 3 ≤ n + 4 by omega)
  refine w_putR (ci := 3) (k := 3) dX3_init_33 (Or.inr ⟨⟨rfl, rfl, rfl⟩, ⟨by decide, by decide⟩, (wgt2 230 rfl rfl)⟩) (gA (gA (gA (gA ha)))) rfl rfl (by rw [l4]; omega) ?_
  have z8 := z7.uR (k := 3) (v := some (n + 3)) (show a < n + 4 by omega)
  refine w_aload_n dX3_init_36 rfl ?_
  refine w_iconst dX3_init_37 ?_
  refine w_putI (ci := 3) (k := 5) dX3_init_38 (Or.inl ⟨rfl, fX3_25⟩) (gA (gA (gA (gA ha)))) rfl (by decide) ?_
  have z9 := z8.uM (k := 5) (v := (-1)) (show a < n + 4 by omega)
  exact w_vret dX3_init_41 rfl ⟨Nat.le_of_ble_eq_true rfl, Nat.le_of_ble_eq_true rfl⟩ h
end INITS
