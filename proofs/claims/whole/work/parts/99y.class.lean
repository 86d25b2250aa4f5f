/-! the class's own constructor (by a program) -/
theorem Fr0.m8 {n c : Nat} {R : Rfs} {M M8 : Mem} (h : Fr0 n R M) (hc : c < n) (h8 : ∀ b, b ≠ c → M8 b = M b) : Fr0 n R M8 := fun b hb k => ⟨by rw [h8 b (by omega)]; exact (h b hb k).1, (h b hb k).2⟩
section INIT2
variable {E : Scr} {Q : Post} {R : Rfs} {M : Mem}
set_option maxHeartbeats 16000000 in
theorem i_X5_init (hz : Fr0 2 R M) (h : ∀ M8 : Mem, (∀ b, b ≠ 4 → M8 b = M b) → (∀ j, j < 24 → M8 4 j = (wcN j : Int)) → Q none (T0.take 21) (upR (upR (upR (upR (upR (upR (upR (upR (upR (upR (upR (upR (upR (upR (upR (upR (upR (upR (upR R 2 0 (some 3)) 2 1 (some 4)) 1 0 (some 2)) 5 3 (some 6)) 5 6 (some 7)) 5 7 (some 8)) 5 8 (some 9)) 5 9 (some 10)) 5 11 (some 11)) 5 12 (some 12)) 5 14 (some 13)) 5 17 (some 14)) 15 0 (some 16)) 15 1 (some 17)) 15 2 (some 18)) 5 18 (some 15)) 5 19 (some 19)) 1 1 (some 5)) 1 2 (some 20)) (upM (upM M8 1 5 (-1)) 1 10 (-1))) : MW E mX5_init (fun b => b < 2) Q (T0.take 2) R M 0 0 0 [(0, pR 1)] [] := by
  refine w_aload_n dX5_init_0 rfl ?_
  refine w_objInit dX5_init_1 kX5_3 ⟨Nat.le_of_ble_eq_true rfl, Nat.le_of_ble_eq_true rfl⟩ ?_
  refine w_aload_n dX5_init_4 rfl ?_
  refine w_new (ci := 8) (N := 8) dX5_init_5 (by decide) ⟨_, rfl⟩ nX5_9 (fun b (hb : b < 2) => by rw [tkL (by decide)]; omega) (okL (by rw [tkL (by decide)]; decide)) (okR (by rw [tkL (by decide)]; decide) rfl) (fun k => by rw [tkL (by decide)]; exact (hz _ (Nat.le_refl _) k).1) (fun k => by rw [tkL (by decide)]; exact (hz _ (Nat.le_refl _) k).2) ⟨Nat.le_of_ble_eq_true rfl, Nat.le_of_ble_eq_true rfl⟩ ?_
  rw [tkL (m := 2) (by decide), tkS (m := 2) (t := (8, 0)) rfl]
  have z1 := hz.le (show 2 ≤ 3 by decide)
  refine w_dup dX5_init_8 rfl ?_
  refine w_callI (as := []) dX5_init_9 kX5_11 ⟨⟨Nat.le_of_ble_eq_true rfl, Nat.le_of_ble_eq_true rfl, Nat.le_of_ble_eq_true rfl⟩, Nat.le_of_ble_eq_true rfl⟩ rfl (Nat.le_of_ble_eq_true rfl) (S2 := fun b => b < 3) (fun b (hb : b < 2) => show b < 3 by omega) (Stb_lt (okL (by decide)) (okR (by decide) (okR (by decide) rfl))) (i_Tape z1 ?_)
  intro M8 h8a h8b
  have z2 := (z1.le (show 3 ≤ 5 by decide)).m8 (c := 4) (by decide) h8a
  have z3 := z2.uR (a := 2) (k := 0) (v := some 3) (by decide)
  have z4 := z3.uR (a := 2) (k := 1) (v := some 4) (by decide)
  show MW E mX5_init (fun b => b < 2) Q (T0.take 5) (upR (upR R 2 0 (some 3)) 2 1 (some 4)) M8 _ _ 12 [(0, pR 1)] [pR 2, pR 1]
  refine w_putR (ci := 5) (k := 0) dX5_init_12 (Or.inr ⟨⟨rfl, rfl, rfl⟩, ⟨by decide, by decide⟩, (wgt2 37 rfl rfl)⟩) (tkG (by decide) rfl) rfl rfl (by rw [tkL (by decide)]; decide) ?_
  have z5 := z4.uR (a := 1) (k := 0) (v := some 2) (by decide)
  refine w_aload_n dX5_init_15 rfl ?_
  refine w_new (ci := 1) (N := 20) dX5_init_16 (by decide) ⟨_, rfl⟩ nX5_18 (fun b (hb : b < 2) => by rw [tkL (by decide)]; omega) (okL (by rw [tkL (by decide)]; decide)) (okR (by rw [tkL (by decide)]; decide) rfl) (fun k => by rw [tkL (by decide)]; exact (z5 _ (Nat.le_refl _) k).1) (fun k => by rw [tkL (by decide)]; exact (z5 _ (Nat.le_refl _) k).2) ⟨Nat.le_of_ble_eq_true rfl, Nat.le_of_ble_eq_true rfl⟩ ?_
  rw [tkL (m := 5) (by decide), tkS (m := 5) (t := (1, 0)) rfl]
  have z6 := z5.le (show 5 ≤ 6 by decide)
  refine w_dup dX5_init_19 rfl ?_
  refine w_callI (as := []) dX5_init_20 kX5_20 ⟨⟨Nat.le_of_ble_eq_true rfl, Nat.le_of_ble_eq_true rfl, Nat.le_of_ble_eq_true rfl⟩, Nat.le_of_ble_eq_true rfl⟩ rfl (Nat.le_of_ble_eq_true rfl) (S2 := fun b => b < 6) (fun b (hb : b < 2) => show b < 6 by omega) (Stb_lt (okL (by decide)) (okR (by decide) (okR (by decide) rfl))) (i_X1_init (n := 6) (tkL (by decide)) (tkG (by decide) rfl) z6 ?_)
  rw [tkS (m := 6) (t := (20, 8)) rfl, tkS (m := 7) (t := (20, 8)) rfl, tkS (m := 8) (t := (20, 16)) rfl, tkS (m := 9) (t := (20, 8)) rfl, tkS (m := 10) (t := (20, 256)) rfl, tkS (m := 11) (t := (20, 16)) rfl, tkS (m := 12) (t := (20, 16)) rfl, tkS (m := 13) (t := (20, 4)) rfl, tkS (m := 14) (t := (20, 6)) rfl, tkS (m := 15) (t := (2, 0)) rfl, tkS (m := 16) (t := (20, 64)) rfl, tkS (m := 17) (t := (20, 64)) rfl, tkS (m := 18) (t := (21, 64)) rfl, tkS (m := 19) (t := (6, 0)) rfl]
  have z7 := z6.le (show 6 ≤ 20 by decide)
  have z8 := z7.uR (a := 5) (k := 3) (v := some 6) (by decide)
  have z9 := z8.uR (a := 5) (k := 6) (v := some 7) (by decide)
  have z10 := z9.uR (a := 5) (k := 7) (v := some 8) (by decide)
  have z11 := z10.uR (a := 5) (k := 8) (v := some 9) (by decide)
  have z12 := z11.uR (a := 5) (k := 9) (v := some 10) (by decide)
  have z13 := z12.uR (a := 5) (k := 11) (v := some 11) (by decide)
  have z14 := z13.uR (a := 5) (k := 12) (v := some 12) (by decide)
  have z15 := z14.uR (a := 5) (k := 14) (v := some 13) (by decide)
  have z16 := z15.uR (a := 5) (k := 17) (v := some 14) (by decide)
  have z17 := z16.uR (a := 15) (k := 0) (v := some 16) (by decide)
  have z18 := z17.uR (a := 15) (k := 1) (v := some 17) (by decide)
  have z19 := z18.uR (a := 15) (k := 2) (v := some 18) (by decide)
  have z20 := z19.uR (a := 5) (k := 18) (v := some 15) (by decide)
  have z21 := z20.uR (a := 5) (k := 19) (v := some 19) (by decide)
  show MW E mX5_init (fun b => b < 2) Q (T0.take 20) (upR (upR (upR (upR (upR (upR (upR (upR (upR (upR (upR (upR (upR (upR (upR (upR (upR R 2 0 (some 3)) 2 1 (some 4)) 1 0 (some 2)) 5 3 (some 6)) 5 6 (some 7)) 5 7 (some 8)) 5 8 (some 9)) 5 9 (some 10)) 5 11 (some 11)) 5 12 (some 12)) 5 14 (some 13)) 5 17 (some 14)) 15 0 (some 16)) 15 1 (some 17)) 15 2 (some 18)) 5 18 (some 15)) 5 19 (some 19)) M8 _ _ 23 [(0, pR 1)] [pR 5, pR 1]
  refine w_putR (ci := 5) (k := 1) dX5_init_23 (Or.inl ⟨rfl, fX5_21⟩) (tkG (by decide) rfl) rfl rfl (by rw [tkL (by decide)]; decide) ?_
  have z22 := z21.uR (a := 1) (k := 1) (v := some 5) (by decide)
  refine w_aload_n dX5_init_26 rfl ?_
  refine w_bipush dX5_init_27 (by decide) ?_
  refine w_newI (n := 72) dX5_init_29 rfl (by decide) arr_int (fun b (hb : b < 2) => by rw [tkL (by decide)]; omega) (okL (by rw [tkL (by decide)]; decide)) (okR (by rw [tkL (by decide)]; decide) rfl) (fun k => by rw [tkL (by decide)]; exact (z22 _ (Nat.le_refl _) k).1) ⟨Nat.le_of_ble_eq_true rfl, Nat.le_of_ble_eq_true rfl⟩ ?_
  rw [tkL (m := 20) (by decide), tkS (m := 20) (t := (20, 72)) rfl]
  have z23 := z22.le (show 20 ≤ 21 by decide)
  refine w_putR (ci := 5) (k := 2) dX5_init_31 (Or.inr ⟨⟨rfl, rfl, rfl⟩, ⟨by decide, by decide⟩, (wgt2 41 rfl rfl)⟩) (tkG (by decide) rfl) rfl rfl (by rw [tkL (by decide)]; decide) ?_
  have z24 := z23.uR (a := 1) (k := 2) (v := some 20) (by decide)
  refine w_aload_n dX5_init_34 rfl ?_
  refine w_iconst dX5_init_35 ?_
  refine w_putI (ci := 5) (k := 5) dX5_init_36 (Or.inl ⟨rfl, fX5_29⟩) (tkG (by decide) rfl) rfl (by decide) ?_
  have z25 := z24.uM (a := 1) (k := 5) (v := (-1)) (by decide)
  refine w_aload_n dX5_init_39 rfl ?_
  refine w_iconst dX5_init_40 ?_
  refine w_putI (ci := 5) (k := 10) dX5_init_41 (Or.inl ⟨rfl, fX5_33⟩) (tkG (by decide) rfl) rfl (by decide) ?_
  have z26 := z25.uM (a := 1) (k := 10) (v := (-1)) (by decide)
  exact w_vret dX5_init_44 rfl ⟨Nat.le_of_ble_eq_true rfl, Nat.le_of_ble_eq_true rfl⟩ (h M8 h8a h8b)
set_option maxHeartbeats 64000000 in
theorem i_X10_init (hz : Fr0 1 R M) (h : ∀ M8 : Mem, (∀ b, b ≠ 4 → M8 b = M b) → (∀ j, j < 24 → M8 4 j = (wcN j : Int)) → Q none (T0.take 98) (upR (upR (upR (upR (upR (upR (upR (upR (upR (upR (upR (upR (upR (upR (upR (upR (upR (upR (upR (upR (upR (upR (upR (upR (upR (upR (upR (upR (upR (upR (upR (upR (upR (upR (upR (upR (upR (upR (upR (upR (upR (upR (upR (upR (upR (upR (upR (upR (upR (upR (upR (upR (upR (upR (upR (upR (upR (upR (upR (upR (upR R 2 0 (some 3)) 2 1 (some 4)) 1 0 (some 2)) 5 3 (some 6)) 5 6 (some 7)) 5 7 (some 8)) 5 8 (some 9)) 5 9 (some 10)) 5 11 (some 11)) 5 12 (some 12)) 5 14 (some 13)) 5 17 (some 14)) 15 0 (some 16)) 15 1 (some 17)) 15 2 (some 18)) 5 18 (some 15)) 5 19 (some 19)) 1 1 (some 5)) 1 2 (some 20)) 0 0 (some 1)) 21 3 (some 22)) 21 6 (some 23)) 21 7 (some 24)) 21 8 (some 25)) 21 9 (some 26)) 21 11 (some 27)) 21 12 (some 28)) 21 14 (some 29)) 21 17 (some 30)) 31 0 (some 32)) 31 1 (some 33)) 31 2 (some 34)) 21 18 (some 31)) 21 19 (some 35)) 0 1 (some 21)) 36 6 (some 37)) 0 2 (some 36)) 38 6 (some 39)) 0 3 (some 38)) 40 6 (some 41)) 0 4 (some 40)) 42 0 (some 43)) 0 6 (some 42)) 44 0 (some 45)) 44 1 (some 46)) 44 2 (some 47)) 44 3 (some 48)) 44 4 (some 49)) 0 7 (some 44)) 86 0 (some 87)) 86 1 (some 88)) 86 2 (some 89)) 86 3 (some 90)) 86 4 (some 91)) 86 5 (some 92)) 0 8 (some 86)) 93 0 (some 94)) 93 1 (some 95)) 93 2 (some 96)) 93 3 (some 97)) 0 9 (some 93)) (upM (upM (upM (upM (upM (upM M8 1 5 (-1)) 1 10 (-1)) 42 2 (-1)) 42 3 (-1)) 86 10 (-1)) 93 5 (-1))) : MW E mX10_init (fun b => b < 1) Q (T0.take 1) R M 0 0 0 [(0, pR 0)] [] := by
  refine w_aload_n dX10_init_0 rfl ?_
  refine w_objInit dX10_init_1 kX10_3 ⟨Nat.le_of_ble_eq_true rfl, Nat.le_of_ble_eq_true rfl⟩ ?_
  refine w_aload_n dX10_init_4 rfl ?_
  refine w_new (ci := 5) (N := 11) dX10_init_5 (by decide) ⟨_, rfl⟩ nX10_9 (fun b (hb : b < 1) => by rw [tkL (by decide)]; omega) (okL (by rw [tkL (by decide)]; decide)) (okR (by rw [tkL (by decide)]; decide) rfl) (fun k => by rw [tkL (by decide)]; exact (hz _ (Nat.le_refl _) k).1) (fun k => by rw [tkL (by decide)]; exact (hz _ (Nat.le_refl _) k).2) ⟨Nat.le_of_ble_eq_true rfl, Nat.le_of_ble_eq_true rfl⟩ ?_
  rw [tkL (m := 1) (by decide), tkS (m := 1) (t := (5, 0)) rfl]
  have z1 := hz.le (show 1 ≤ 2 by decide)
  refine w_dup dX10_init_8 rfl ?_
  refine w_callI (as := []) dX10_init_9 kX10_11 ⟨⟨Nat.le_of_ble_eq_true rfl, Nat.le_of_ble_eq_true rfl, Nat.le_of_ble_eq_true rfl⟩, Nat.le_of_ble_eq_true rfl⟩ rfl (Nat.le_of_ble_eq_true rfl) (S2 := fun b => b < 2) (fun b (hb : b < 1) => show b < 2 by omega) (Stb_lt (okL (by decide)) (okR (by decide) (okR (by decide) rfl))) (i_X5_init z1 ?_)
  intro M8 h8a h8b
  have z2 := (z1.le (show 2 ≤ 21 by decide)).m8 (c := 4) (by decide) h8a
  have z3 := z2.uR (a := 2) (k := 0) (v := some 3) (by decide)
  have z4 := z3.uR (a := 2) (k := 1) (v := some 4) (by decide)
  have z5 := z4.uR (a := 1) (k := 0) (v := some 2) (by decide)
  have z6 := z5.uR (a := 5) (k := 3) (v := some 6) (by decide)
  have z7 := z6.uR (a := 5) (k := 6) (v := some 7) (by decide)
  have z8 := z7.uR (a := 5) (k := 7) (v := some 8) (by decide)
  have z9 := z8.uR (a := 5) (k := 8) (v := some 9) (by decide)
  have z10 := z9.uR (a := 5) (k := 9) (v := some 10) (by decide)
  have z11 := z10.uR (a := 5) (k := 11) (v := some 11) (by decide)
  have z12 := z11.uR (a := 5) (k := 12) (v := some 12) (by decide)
  have z13 := z12.uR (a := 5) (k := 14) (v := some 13) (by decide)
  have z14 := z13.uR (a := 5) (k := 17) (v := some 14) (by decide)
  have z15 := z14.uR (a := 15) (k := 0) (v := some 16) (by decide)
  have z16 := z15.uR (a := 15) (k := 1) (v := some 17) (by decide)
  have z17 := z16.uR (a := 15) (k := 2) (v := some 18) (by decide)
  have z18 := z17.uR (a := 5) (k := 18) (v := some 15) (by decide)
  have z19 := z18.uR (a := 5) (k := 19) (v := some 19) (by decide)
  have z20 := z19.uR (a := 1) (k := 1) (v := some 5) (by decide)
  have z21 := z20.uR (a := 1) (k := 2) (v := some 20) (by decide)
  have z22 := z21.uM (a := 1) (k := 5) (v := (-1)) (by decide)
  have z23 := z22.uM (a := 1) (k := 10) (v := (-1)) (by decide)
  show MW E mX10_init (fun b => b < 1) Q (T0.take 21) (upR (upR (upR (upR (upR (upR (upR (upR (upR (upR (upR (upR (upR (upR (upR (upR (upR (upR (upR R 2 0 (some 3)) 2 1 (some 4)) 1 0 (some 2)) 5 3 (some 6)) 5 6 (some 7)) 5 7 (some 8)) 5 8 (some 9)) 5 9 (some 10)) 5 11 (some 11)) 5 12 (some 12)) 5 14 (some 13)) 5 17 (some 14)) 15 0 (some 16)) 15 1 (some 17)) 15 2 (some 18)) 5 18 (some 15)) 5 19 (some 19)) 1 1 (some 5)) 1 2 (some 20)) (upM (upM M8 1 5 (-1)) 1 10 (-1)) _ _ 12 [(0, pR 0)] [pR 1, pR 0]
  refine w_putR (ci := 10) (k := 0) dX10_init_12 (Or.inr ⟨⟨rfl, rfl, rfl⟩, ⟨by decide, by decide⟩, (wgt3 9 rfl rfl)⟩) (tkG (by decide) rfl) rfl rfl (by rw [tkL (by decide)]; decide) ?_
  have z24 := z23.uR (a := 0) (k := 0) (v := some 1) (by decide)
  refine w_aload_n dX10_init_15 rfl ?_
  refine w_new (ci := 1) (N := 20) dX10_init_16 (by decide) ⟨_, rfl⟩ nX10_18 (fun b (hb : b < 1) => by rw [tkL (by decide)]; omega) (okL (by rw [tkL (by decide)]; decide)) (okR (by rw [tkL (by decide)]; decide) rfl) (fun k => by rw [tkL (by decide)]; exact (z24 _ (Nat.le_refl _) k).1) (fun k => by rw [tkL (by decide)]; exact (z24 _ (Nat.le_refl _) k).2) ⟨Nat.le_of_ble_eq_true rfl, Nat.le_of_ble_eq_true rfl⟩ ?_
  rw [tkL (m := 21) (by decide), tkS (m := 21) (t := (1, 0)) rfl]
  have z25 := z24.le (show 21 ≤ 22 by decide)
  refine w_dup dX10_init_19 rfl ?_
  refine w_callI (as := []) dX10_init_20 kX10_20 ⟨⟨Nat.le_of_ble_eq_true rfl, Nat.le_of_ble_eq_true rfl, Nat.le_of_ble_eq_true rfl⟩, Nat.le_of_ble_eq_true rfl⟩ rfl (Nat.le_of_ble_eq_true rfl) (S2 := fun b => b < 22) (fun b (hb : b < 1) => show b < 22 by omega) (Stb_lt (okL (by decide)) (okR (by decide) (okR (by decide) rfl))) (i_X1_init (n := 22) (tkL (by decide)) (tkG (by decide) rfl) z25 ?_)
  rw [tkS (m := 22) (t := (20, 8)) rfl, tkS (m := 23) (t := (20, 8)) rfl, tkS (m := 24) (t := (20, 16)) rfl, tkS (m := 25) (t := (20, 8)) rfl, tkS (m := 26) (t := (20, 256)) rfl, tkS (m := 27) (t := (20, 16)) rfl, tkS (m := 28) (t := (20, 16)) rfl, tkS (m := 29) (t := (20, 4)) rfl, tkS (m := 30) (t := (20, 6)) rfl, tkS (m := 31) (t := (2, 0)) rfl, tkS (m := 32) (t := (20, 64)) rfl, tkS (m := 33) (t := (20, 64)) rfl, tkS (m := 34) (t := (21, 64)) rfl, tkS (m := 35) (t := (6, 0)) rfl]
  have z26 := z25.le (show 22 ≤ 36 by decide)
  have z27 := z26.uR (a := 21) (k := 3) (v := some 22) (by decide)
  have z28 := z27.uR (a := 21) (k := 6) (v := some 23) (by decide)
  have z29 := z28.uR (a := 21) (k := 7) (v := some 24) (by decide)
  have z30 := z29.uR (a := 21) (k := 8) (v := some 25) (by decide)
  have z31 := z30.uR (a := 21) (k := 9) (v := some 26) (by decide)
  have z32 := z31.uR (a := 21) (k := 11) (v := some 27) (by decide)
  have z33 := z32.uR (a := 21) (k := 12) (v := some 28) (by decide)
  have z34 := z33.uR (a := 21) (k := 14) (v := some 29) (by decide)
  have z35 := z34.uR (a := 21) (k := 17) (v := some 30) (by decide)
  have z36 := z35.uR (a := 31) (k := 0) (v := some 32) (by decide)
  have z37 := z36.uR (a := 31) (k := 1) (v := some 33) (by decide)
  have z38 := z37.uR (a := 31) (k := 2) (v := some 34) (by decide)
  have z39 := z38.uR (a := 21) (k := 18) (v := some 31) (by decide)
  have z40 := z39.uR (a := 21) (k := 19) (v := some 35) (by decide)
  show MW E mX10_init (fun b => b < 1) Q (T0.take 36) (upR (upR (upR (upR (upR (upR (upR (upR (upR (upR (upR (upR (upR (upR (upR (upR (upR (upR (upR (upR (upR (upR (upR (upR (upR (upR (upR (upR (upR (upR (upR (upR (upR (upR R 2 0 (some 3)) 2 1 (some 4)) 1 0 (some 2)) 5 3 (some 6)) 5 6 (some 7)) 5 7 (some 8)) 5 8 (some 9)) 5 9 (some 10)) 5 11 (some 11)) 5 12 (some 12)) 5 14 (some 13)) 5 17 (some 14)) 15 0 (some 16)) 15 1 (some 17)) 15 2 (some 18)) 5 18 (some 15)) 5 19 (some 19)) 1 1 (some 5)) 1 2 (some 20)) 0 0 (some 1)) 21 3 (some 22)) 21 6 (some 23)) 21 7 (some 24)) 21 8 (some 25)) 21 9 (some 26)) 21 11 (some 27)) 21 12 (some 28)) 21 14 (some 29)) 21 17 (some 30)) 31 0 (some 32)) 31 1 (some 33)) 31 2 (some 34)) 21 18 (some 31)) 21 19 (some 35)) (upM (upM M8 1 5 (-1)) 1 10 (-1)) _ _ 23 [(0, pR 0)] [pR 21, pR 0]
  refine w_putR (ci := 10) (k := 1) dX10_init_23 (Or.inl ⟨rfl, fX10_21⟩) (tkG (by decide) rfl) rfl rfl (by rw [tkL (by decide)]; decide) ?_
  have z41 := z40.uR (a := 0) (k := 1) (v := some 21) (by decide)
  refine w_aload_n dX10_init_26 rfl ?_
  refine w_new (ci := 7) (N := 7) dX10_init_27 (by decide) ⟨_, rfl⟩ nX10_25 (fun b (hb : b < 1) => by rw [tkL (by decide)]; omega) (okL (by rw [tkL (by decide)]; decide)) (okR (by rw [tkL (by decide)]; decide) rfl) (fun k => by rw [tkL (by decide)]; exact (z41 _ (Nat.le_refl _) k).1) (fun k => by rw [tkL (by decide)]; exact (z41 _ (Nat.le_refl _) k).2) ⟨Nat.le_of_ble_eq_true rfl, Nat.le_of_ble_eq_true rfl⟩ ?_
  rw [tkL (m := 36) (by decide), tkS (m := 36) (t := (7, 0)) rfl]
  have z42 := z41.le (show 36 ≤ 37 by decide)
  refine w_dup dX10_init_30 rfl ?_
  refine w_callI (as := []) dX10_init_31 kX10_27 ⟨⟨Nat.le_of_ble_eq_true rfl, Nat.le_of_ble_eq_true rfl, Nat.le_of_ble_eq_true rfl⟩, Nat.le_of_ble_eq_true rfl⟩ rfl (Nat.le_of_ble_eq_true rfl) (S2 := fun b => b < 37) (fun b (hb : b < 1) => show b < 37 by omega) (Stb_lt (okL (by decide)) (okR (by decide) (okR (by decide) rfl))) (i_X7_init (n := 37) (tkL (by decide)) (tkG (by decide) rfl) z42 ?_)
  rw [tkS (m := 37) (t := (20, 8)) rfl]
  have z43 := z42.le (show 37 ≤ 38 by decide)
  have z44 := z43.uR (a := 36) (k := 6) (v := some 37) (by decide)
  show MW E mX10_init (fun b => b < 1) Q (T0.take 38) (upR (upR (upR (upR (upR (upR (upR (upR (upR (upR (upR (upR (upR (upR (upR (upR (upR (upR (upR (upR (upR (upR (upR (upR (upR (upR (upR (upR (upR (upR (upR (upR (upR (upR (upR (upR R 2 0 (some 3)) 2 1 (some 4)) 1 0 (some 2)) 5 3 (some 6)) 5 6 (some 7)) 5 7 (some 8)) 5 8 (some 9)) 5 9 (some 10)) 5 11 (some 11)) 5 12 (some 12)) 5 14 (some 13)) 5 17 (some 14)) 15 0 (some 16)) 15 1 (some 17)) 15 2 (some 18)) 5 18 (some 15)) 5 19 (some 19)) 1 1 (some 5)) 1 2 (some 20)) 0 0 (some 1)) 21 3 (some 22)) 21 6 (some 23)) 21 7 (some 24)) 21 8 (some 25)) 21 9 (some 26)) 21 11 (some 27)) 21 12 (some 28)) 21 14 (some 29)) 21 17 (some 30)) 31 0 (some 32)) 31 1 (some 33)) 31 2 (some 34)) 21 18 (some 31)) 21 19 (some 35)) 0 1 (some 21)) 36 6 (some 37)) (upM (upM M8 1 5 (-1)) 1 10 (-1)) _ _ 34 [(0, pR 0)] [pR 36, pR 0]
  refine w_putR (ci := 10) (k := 2) dX10_init_34 (Or.inr ⟨⟨rfl, rfl, rfl⟩, ⟨by decide, by decide⟩, (wgt3 11 rfl rfl)⟩) (tkG (by decide) rfl) rfl rfl (by rw [tkL (by decide)]; decide) ?_
  have z45 := z44.uR (a := 0) (k := 2) (v := some 36) (by decide)
  refine w_aload_n dX10_init_37 rfl ?_
  refine w_new (ci := 7) (N := 7) dX10_init_38 (by decide) ⟨_, rfl⟩ nX10_25 (fun b (hb : b < 1) => by rw [tkL (by decide)]; omega) (okL (by rw [tkL (by decide)]; decide)) (okR (by rw [tkL (by decide)]; decide) rfl) (fun k => by rw [tkL (by decide)]; exact (z45 _ (Nat.le_refl _) k).1) (fun k => by rw [tkL (by decide)]; exact (z45 _ (Nat.le_refl _) k).2) ⟨Nat.le_of_ble_eq_true rfl, Nat.le_of_ble_eq_true rfl⟩ ?_
  rw [tkL (m := 38) (by decide), tkS (m := 38) (t := (7, 0)) rfl]
  have z46 := z45.le (show 38 ≤ 39 by decide)
  refine w_dup dX10_init_41 rfl ?_
  refine w_callI (as := []) dX10_init_42 kX10_27 ⟨⟨Nat.le_of_ble_eq_true rfl, Nat.le_of_ble_eq_true rfl, Nat.le_of_ble_eq_true rfl⟩, Nat.le_of_ble_eq_true rfl⟩ rfl (Nat.le_of_ble_eq_true rfl) (S2 := fun b => b < 39) (fun b (hb : b < 1) => show b < 39 by omega) (Stb_lt (okL (by decide)) (okR (by decide) (okR (by decide) rfl))) (i_X7_init (n := 39) (tkL (by decide)) (tkG (by decide) rfl) z46 ?_)
  rw [tkS (m := 39) (t := (20, 8)) rfl]
  have z47 := z46.le (show 39 ≤ 40 by decide)
  have z48 := z47.uR (a := 38) (k := 6) (v := some 39) (by decide)
  show MW E mX10_init (fun b => b < 1) Q (T0.take 40) (upR (upR (upR (upR (upR (upR (upR (upR (upR (upR (upR (upR (upR (upR (upR (upR (upR (upR (upR (upR (upR (upR (upR (upR (upR (upR (upR (upR (upR (upR (upR (upR (upR (upR (upR (upR (upR (upR R 2 0 (some 3)) 2 1 (some 4)) 1 0 (some 2)) 5 3 (some 6)) 5 6 (some 7)) 5 7 (some 8)) 5 8 (some 9)) 5 9 (some 10)) 5 11 (some 11)) 5 12 (some 12)) 5 14 (some 13)) 5 17 (some 14)) 15 0 (some 16)) 15 1 (some 17)) 15 2 (some 18)) 5 18 (some 15)) 5 19 (some 19)) 1 1 (some 5)) 1 2 (some 20)) 0 0 (some 1)) 21 3 (some 22)) 21 6 (some 23)) 21 7 (some 24)) 21 8 (some 25)) 21 9 (some 26)) 21 11 (some 27)) 21 12 (some 28)) 21 14 (some 29)) 21 17 (some 30)) 31 0 (some 32)) 31 1 (some 33)) 31 2 (some 34)) 21 18 (some 31)) 21 19 (some 35)) 0 1 (some 21)) 36 6 (some 37)) 0 2 (some 36)) 38 6 (some 39)) (upM (upM M8 1 5 (-1)) 1 10 (-1)) _ _ 45 [(0, pR 0)] [pR 38, pR 0]
  refine w_putR (ci := 10) (k := 3) dX10_init_45 (Or.inr ⟨⟨rfl, rfl, rfl⟩, ⟨by decide, by decide⟩, (wgt3 12 rfl rfl)⟩) (tkG (by decide) rfl) rfl rfl (by rw [tkL (by decide)]; decide) ?_
  have z49 := z48.uR (a := 0) (k := 3) (v := some 38) (by decide)
  refine w_aload_n dX10_init_48 rfl ?_
  refine w_new (ci := 7) (N := 7) dX10_init_49 (by decide) ⟨_, rfl⟩ nX10_25 (fun b (hb : b < 1) => by rw [tkL (by decide)]; omega) (okL (by rw [tkL (by decide)]; decide)) (okR (by rw [tkL (by decide)]; decide) rfl) (fun k => by rw [tkL (by decide)]; exact (z49 _ (Nat.le_refl _) k).1) (fun k => by rw [tkL (by decide)]; exact (z49 _ (Nat.le_refl _) k).2) ⟨Nat.le_of_ble_eq_true rfl, Nat.le_of_ble_eq_true rfl⟩ ?_
  rw [tkL (m := 40) (by decide), tkS (m := 40) (t := (7, 0)) rfl]
  have z50 := z49.le (show 40 ≤ 41 by decide)
  refine w_dup dX10_init_52 rfl ?_
  refine w_callI (as := []) dX10_init_53 kX10_27 ⟨⟨Nat.le_of_ble_eq_true rfl, Nat.le_of_ble_eq_true rfl, Nat.le_of_ble_eq_true rfl⟩, Nat.le_of_ble_eq_true rfl⟩ rfl (Nat.le_of_ble_eq_true rfl) (S2 := fun b => b < 41) (fun b (hb : b < 1) => show b < 41 by omega) (Stb_lt (okL (by decide)) (okR (by decide) (okR (by decide) rfl))) (i_X7_init (n := 41) (tkL (by decide)) (tkG (by decide) rfl) z50 ?_)
  rw [tkS (m := 41) (t := (20, 8)) rfl]
  have z51 := z50.le (show 41 ≤ 42 by decide)
  have z52 := z51.uR (a := 40) (k := 6) (v := some 41) (by decide)
  show MW E mX10_init (fun b => b < 1) Q (T0.take 42) (upR (upR (upR (upR (upR (upR (upR (upR (upR (upR (upR (upR (upR (upR (upR (upR (upR (upR (upR (upR (upR (upR (upR (upR (upR (upR (upR (upR (upR (upR (upR (upR (upR (upR (upR (upR (upR (upR (upR (upR R 2 0 (some 3)) 2 1 (some 4)) 1 0 (some 2)) 5 3 (some 6)) 5 6 (some 7)) 5 7 (some 8)) 5 8 (some 9)) 5 9 (some 10)) 5 11 (some 11)) 5 12 (some 12)) 5 14 (some 13)) 5 17 (some 14)) 15 0 (some 16)) 15 1 (some 17)) 15 2 (some 18)) 5 18 (some 15)) 5 19 (some 19)) 1 1 (some 5)) 1 2 (some 20)) 0 0 (some 1)) 21 3 (some 22)) 21 6 (some 23)) 21 7 (some 24)) 21 8 (some 25)) 21 9 (some 26)) 21 11 (some 27)) 21 12 (some 28)) 21 14 (some 29)) 21 17 (some 30)) 31 0 (some 32)) 31 1 (some 33)) 31 2 (some 34)) 21 18 (some 31)) 21 19 (some 35)) 0 1 (some 21)) 36 6 (some 37)) 0 2 (some 36)) 38 6 (some 39)) 0 3 (some 38)) 40 6 (some 41)) (upM (upM M8 1 5 (-1)) 1 10 (-1)) _ _ 56 [(0, pR 0)] [pR 40, pR 0]
  refine w_putR (ci := 10) (k := 4) dX10_init_56 (Or.inr ⟨⟨rfl, rfl, rfl⟩, ⟨by decide, by decide⟩, (wgt3 13 rfl rfl)⟩) (tkG (by decide) rfl) rfl rfl (by rw [tkL (by decide)]; decide) ?_
  have z53 := z52.uR (a := 0) (k := 4) (v := some 40) (by decide)
  refine w_aload_n dX10_init_59 rfl ?_
  refine w_new (ci := 0) (N := 4) dX10_init_60 (by decide) ⟨_, rfl⟩ nX10_38 (fun b (hb : b < 1) => by rw [tkL (by decide)]; omega) (okL (by rw [tkL (by decide)]; decide)) (okR (by rw [tkL (by decide)]; decide) rfl) (fun k => by rw [tkL (by decide)]; exact (z53 _ (Nat.le_refl _) k).1) (fun k => by rw [tkL (by decide)]; exact (z53 _ (Nat.le_refl _) k).2) ⟨Nat.le_of_ble_eq_true rfl, Nat.le_of_ble_eq_true rfl⟩ ?_
  rw [tkL (m := 42) (by decide), tkS (m := 42) (t := (0, 0)) rfl]
  have z54 := z53.le (show 42 ≤ 43 by decide)
  refine w_dup dX10_init_63 rfl ?_
  refine w_callI (as := []) dX10_init_64 kX10_40 ⟨⟨Nat.le_of_ble_eq_true rfl, Nat.le_of_ble_eq_true rfl, Nat.le_of_ble_eq_true rfl⟩, Nat.le_of_ble_eq_true rfl⟩ rfl (Nat.le_of_ble_eq_true rfl) (S2 := fun b => b < 43) (fun b (hb : b < 1) => show b < 43 by omega) (Stb_lt (okL (by decide)) (okR (by decide) (okR (by decide) rfl))) (i_X0_init (n := 43) (tkL (by decide)) (tkG (by decide) rfl) z54 ?_)
  rw [tkS (m := 43) (t := (6, 0)) rfl]
  have z55 := z54.le (show 43 ≤ 44 by decide)
  have z56 := z55.uR (a := 42) (k := 0) (v := some 43) (by decide)
  have z57 := z56.uM (a := 42) (k := 2) (v := (-1)) (by decide)
  have z58 := z57.uM (a := 42) (k := 3) (v := (-1)) (by decide)
  show MW E mX10_init (fun b => b < 1) Q (T0.take 44) (upR (upR (upR (upR (upR (upR (upR (upR (upR (upR (upR (upR (upR (upR (upR (upR (upR (upR (upR (upR (upR (upR (upR (upR (upR (upR (upR (upR (upR (upR (upR (upR (upR (upR (upR (upR (upR (upR (upR (upR (upR (upR R 2 0 (some 3)) 2 1 (some 4)) 1 0 (some 2)) 5 3 (some 6)) 5 6 (some 7)) 5 7 (some 8)) 5 8 (some 9)) 5 9 (some 10)) 5 11 (some 11)) 5 12 (some 12)) 5 14 (some 13)) 5 17 (some 14)) 15 0 (some 16)) 15 1 (some 17)) 15 2 (some 18)) 5 18 (some 15)) 5 19 (some 19)) 1 1 (some 5)) 1 2 (some 20)) 0 0 (some 1)) 21 3 (some 22)) 21 6 (some 23)) 21 7 (some 24)) 21 8 (some 25)) 21 9 (some 26)) 21 11 (some 27)) 21 12 (some 28)) 21 14 (some 29)) 21 17 (some 30)) 31 0 (some 32)) 31 1 (some 33)) 31 2 (some 34)) 21 18 (some 31)) 21 19 (some 35)) 0 1 (some 21)) 36 6 (some 37)) 0 2 (some 36)) 38 6 (some 39)) 0 3 (some 38)) 40 6 (some 41)) 0 4 (some 40)) 42 0 (some 43)) (upM (upM (upM (upM M8 1 5 (-1)) 1 10 (-1)) 42 2 (-1)) 42 3 (-1)) _ _ 67 [(0, pR 0)] [pR 42, pR 0]
  refine w_putR (ci := 10) (k := 6) dX10_init_67 (Or.inr ⟨⟨rfl, rfl, rfl⟩, ⟨by decide, by decide⟩, (wgt3 15 rfl rfl)⟩) (tkG (by decide) rfl) rfl rfl (by rw [tkL (by decide)]; decide) ?_
  have z59 := z58.uR (a := 0) (k := 6) (v := some 42) (by decide)
  refine w_aload_n dX10_init_70 rfl ?_
  refine w_new (ci := 9) (N := 7) dX10_init_71 (by decide) ⟨_, rfl⟩ nX10_45 (fun b (hb : b < 1) => by rw [tkL (by decide)]; omega) (okL (by rw [tkL (by decide)]; decide)) (okR (by rw [tkL (by decide)]; decide) rfl) (fun k => by rw [tkL (by decide)]; exact (z59 _ (Nat.le_refl _) k).1) (fun k => by rw [tkL (by decide)]; exact (z59 _ (Nat.le_refl _) k).2) ⟨Nat.le_of_ble_eq_true rfl, Nat.le_of_ble_eq_true rfl⟩ ?_
  rw [tkL (m := 44) (by decide), tkS (m := 44) (t := (9, 0)) rfl]
  have z60 := z59.le (show 44 ≤ 45 by decide)
  refine w_dup dX10_init_74 rfl ?_
  refine w_callI (as := []) dX10_init_75 kX10_47 ⟨⟨Nat.le_of_ble_eq_true rfl, Nat.le_of_ble_eq_true rfl, Nat.le_of_ble_eq_true rfl⟩, Nat.le_of_ble_eq_true rfl⟩ rfl (Nat.le_of_ble_eq_true rfl) (S2 := fun b => b < 45) (fun b (hb : b < 1) => show b < 45 by omega) (Stb_lt (okL (by decide)) (okR (by decide) (okR (by decide) rfl))) (i_X9_init (n := 45) (tkL (by decide)) (tkG (by decide) rfl) z60 ?_)
  rw [tkS (m := 45) (t := (20, 20)) rfl, tkS (m := 46) (t := (20, 20)) rfl, tkS (m := 47) (t := (20, 20)) rfl, tkS (m := 48) (t := (20, 20)) rfl, tkS (m := 49) (t := (20, 20)) rfl]
  have z61 := z60.le (show 45 ≤ 50 by decide)
  have z62 := z61.uR (a := 44) (k := 0) (v := some 45) (by decide)
  have z63 := z62.uR (a := 44) (k := 1) (v := some 46) (by decide)
  have z64 := z63.uR (a := 44) (k := 2) (v := some 47) (by decide)
  have z65 := z64.uR (a := 44) (k := 3) (v := some 48) (by decide)
  have z66 := z65.uR (a := 44) (k := 4) (v := some 49) (by decide)
  show MW E mX10_init (fun b => b < 1) Q (T0.take 50) (upR (upR (upR (upR (upR (upR (upR (upR (upR (upR (upR (upR (upR (upR (upR (upR (upR (upR (upR (upR (upR (upR (upR (upR (upR (upR (upR (upR (upR (upR (upR (upR (upR (upR (upR (upR (upR (upR (upR (upR (upR (upR (upR (upR (upR (upR (upR (upR R 2 0 (some 3)) 2 1 (some 4)) 1 0 (some 2)) 5 3 (some 6)) 5 6 (some 7)) 5 7 (some 8)) 5 8 (some 9)) 5 9 (some 10)) 5 11 (some 11)) 5 12 (some 12)) 5 14 (some 13)) 5 17 (some 14)) 15 0 (some 16)) 15 1 (some 17)) 15 2 (some 18)) 5 18 (some 15)) 5 19 (some 19)) 1 1 (some 5)) 1 2 (some 20)) 0 0 (some 1)) 21 3 (some 22)) 21 6 (some 23)) 21 7 (some 24)) 21 8 (some 25)) 21 9 (some 26)) 21 11 (some 27)) 21 12 (some 28)) 21 14 (some 29)) 21 17 (some 30)) 31 0 (some 32)) 31 1 (some 33)) 31 2 (some 34)) 21 18 (some 31)) 21 19 (some 35)) 0 1 (some 21)) 36 6 (some 37)) 0 2 (some 36)) 38 6 (some 39)) 0 3 (some 38)) 40 6 (some 41)) 0 4 (some 40)) 42 0 (some 43)) 0 6 (some 42)) 44 0 (some 45)) 44 1 (some 46)) 44 2 (some 47)) 44 3 (some 48)) 44 4 (some 49)) (upM (upM (upM (upM M8 1 5 (-1)) 1 10 (-1)) 42 2 (-1)) 42 3 (-1)) _ _ 78 [(0, pR 0)] [pR 44, pR 0]
  refine w_ghost z66 ?_
  have z67 := z66.le (show 50 ≤ 86 by decide)
  refine w_putR (ci := 10) (k := 7) dX10_init_78 (Or.inr ⟨⟨rfl, rfl, rfl⟩, ⟨by decide, by decide⟩, (wgt3 16 rfl rfl)⟩) (tkG (by decide) rfl) rfl rfl (by rw [tkL (by decide)]; decide) ?_
  have z68 := z67.uR (a := 0) (k := 7) (v := some 44) (by decide)
  refine w_aload_n dX10_init_81 rfl ?_
  refine w_new (ci := 4) (N := 13) dX10_init_82 (by decide) ⟨_, rfl⟩ nX10_52 (fun b (hb : b < 1) => by rw [tkL (by decide)]; omega) (okL (by rw [tkL (by decide)]; decide)) (okR (by rw [tkL (by decide)]; decide) rfl) (fun k => by rw [tkL (by decide)]; exact (z68 _ (Nat.le_refl _) k).1) (fun k => by rw [tkL (by decide)]; exact (z68 _ (Nat.le_refl _) k).2) ⟨Nat.le_of_ble_eq_true rfl, Nat.le_of_ble_eq_true rfl⟩ ?_
  rw [tkL (m := 86) (by decide), tkS (m := 86) (t := (4, 0)) rfl]
  have z69 := z68.le (show 86 ≤ 87 by decide)
  refine w_dup dX10_init_85 rfl ?_
  refine w_callI (as := []) dX10_init_86 kX10_54 ⟨⟨Nat.le_of_ble_eq_true rfl, Nat.le_of_ble_eq_true rfl, Nat.le_of_ble_eq_true rfl⟩, Nat.le_of_ble_eq_true rfl⟩ rfl (Nat.le_of_ble_eq_true rfl) (S2 := fun b => b < 87) (fun b (hb : b < 1) => show b < 87 by omega) (Stb_lt (okL (by decide)) (okR (by decide) (okR (by decide) rfl))) (i_X4_init (n := 87) (tkL (by decide)) (tkG (by decide) rfl) z69 ?_)
  rw [tkS (m := 87) (t := (20, 256)) rfl, tkS (m := 88) (t := (20, 256)) rfl, tkS (m := 89) (t := (20, 256)) rfl, tkS (m := 90) (t := (20, 256)) rfl, tkS (m := 91) (t := (21, 256)) rfl, tkS (m := 92) (t := (21, 256)) rfl]
  have z70 := z69.le (show 87 ≤ 93 by decide)
  have z71 := z70.uR (a := 86) (k := 0) (v := some 87) (by decide)
  have z72 := z71.uR (a := 86) (k := 1) (v := some 88) (by decide)
  have z73 := z72.uR (a := 86) (k := 2) (v := some 89) (by decide)
  have z74 := z73.uR (a := 86) (k := 3) (v := some 90) (by decide)
  have z75 := z74.uR (a := 86) (k := 4) (v := some 91) (by decide)
  have z76 := z75.uR (a := 86) (k := 5) (v := some 92) (by decide)
  have z77 := z76.uM (a := 86) (k := 10) (v := (-1)) (by decide)
  show MW E mX10_init (fun b => b < 1) Q (T0.take 93) (upR (upR (upR (upR (upR (upR (upR (upR (upR (upR (upR (upR (upR (upR (upR (upR (upR (upR (upR (upR (upR (upR (upR (upR (upR (upR (upR (upR (upR (upR (upR (upR (upR (upR (upR (upR (upR (upR (upR (upR (upR (upR (upR (upR (upR (upR (upR (upR (upR (upR (upR (upR (upR (upR (upR R 2 0 (some 3)) 2 1 (some 4)) 1 0 (some 2)) 5 3 (some 6)) 5 6 (some 7)) 5 7 (some 8)) 5 8 (some 9)) 5 9 (some 10)) 5 11 (some 11)) 5 12 (some 12)) 5 14 (some 13)) 5 17 (some 14)) 15 0 (some 16)) 15 1 (some 17)) 15 2 (some 18)) 5 18 (some 15)) 5 19 (some 19)) 1 1 (some 5)) 1 2 (some 20)) 0 0 (some 1)) 21 3 (some 22)) 21 6 (some 23)) 21 7 (some 24)) 21 8 (some 25)) 21 9 (some 26)) 21 11 (some 27)) 21 12 (some 28)) 21 14 (some 29)) 21 17 (some 30)) 31 0 (some 32)) 31 1 (some 33)) 31 2 (some 34)) 21 18 (some 31)) 21 19 (some 35)) 0 1 (some 21)) 36 6 (some 37)) 0 2 (some 36)) 38 6 (some 39)) 0 3 (some 38)) 40 6 (some 41)) 0 4 (some 40)) 42 0 (some 43)) 0 6 (some 42)) 44 0 (some 45)) 44 1 (some 46)) 44 2 (some 47)) 44 3 (some 48)) 44 4 (some 49)) 0 7 (some 44)) 86 0 (some 87)) 86 1 (some 88)) 86 2 (some 89)) 86 3 (some 90)) 86 4 (some 91)) 86 5 (some 92)) (upM (upM (upM (upM (upM M8 1 5 (-1)) 1 10 (-1)) 42 2 (-1)) 42 3 (-1)) 86 10 (-1)) _ _ 89 [(0, pR 0)] [pR 86, pR 0]
  refine w_putR (ci := 10) (k := 8) dX10_init_89 (Or.inr ⟨⟨rfl, rfl, rfl⟩, ⟨by decide, by decide⟩, (wgt3 17 rfl rfl)⟩) (tkG (by decide) rfl) rfl rfl (by rw [tkL (by decide)]; decide) ?_
  have z78 := z77.uR (a := 0) (k := 8) (v := some 86) (by decide)
  refine w_aload_n dX10_init_92 rfl ?_
  refine w_new (ci := 3) (N := 6) dX10_init_93 (by decide) ⟨_, rfl⟩ nX10_59 (fun b (hb : b < 1) => by rw [tkL (by decide)]; omega) (okL (by rw [tkL (by decide)]; decide)) (okR (by rw [tkL (by decide)]; decide) rfl) (fun k => by rw [tkL (by decide)]; exact (z78 _ (Nat.le_refl _) k).1) (fun k => by rw [tkL (by decide)]; exact (z78 _ (Nat.le_refl _) k).2) ⟨Nat.le_of_ble_eq_true rfl, Nat.le_of_ble_eq_true rfl⟩ ?_
  rw [tkL (m := 93) (by decide), tkS (m := 93) (t := (3, 0)) rfl]
  have z79 := z78.le (show 93 ≤ 94 by decide)
  refine w_dup dX10_init_96 rfl ?_
  refine w_callI (as := []) dX10_init_97 kX10_61 ⟨⟨Nat.le_of_ble_eq_true rfl, Nat.le_of_ble_eq_true rfl, Nat.le_of_ble_eq_true rfl⟩, Nat.le_of_ble_eq_true rfl⟩ rfl (Nat.le_of_ble_eq_true rfl) (S2 := fun b => b < 94) (fun b (hb : b < 1) => show b < 94 by omega) (Stb_lt (okL (by decide)) (okR (by decide) (okR (by decide) rfl))) (i_X3_init (n := 94) (tkL (by decide)) (tkG (by decide) rfl) z79 ?_)
  rw [tkS (m := 94) (t := (20, 24)) rfl, tkS (m := 95) (t := (20, 24)) rfl, tkS (m := 96) (t := (22, 24)) rfl, tkS (m := 97) (t := (22, 24)) rfl]
  have z80 := z79.le (show 94 ≤ 98 by decide)
  have z81 := z80.uR (a := 93) (k := 0) (v := some 94) (by decide)
  have z82 := z81.uR (a := 93) (k := 1) (v := some 95) (by decide)
  have z83 := z82.uR (a := 93) (k := 2) (v := some 96) (by decide)
  have z84 := z83.uR (a := 93) (k := 3) (v := some 97) (by decide)
  have z85 := z84.uM (a := 93) (k := 5) (v := (-1)) (by decide)
  show MW E mX10_init (fun b => b < 1) Q (T0.take 98) (upR (upR (upR (upR (upR (upR (upR (upR (upR (upR (upR (upR (upR (upR (upR (upR (upR (upR (upR (upR (upR (upR (upR (upR (upR (upR (upR (upR (upR (upR (upR (upR (upR (upR (upR (upR (upR (upR (upR (upR (upR (upR (upR (upR (upR (upR (upR (upR (upR (upR (upR (upR (upR (upR (upR (upR (upR (upR (upR (upR R 2 0 (some 3)) 2 1 (some 4)) 1 0 (some 2)) 5 3 (some 6)) 5 6 (some 7)) 5 7 (some 8)) 5 8 (some 9)) 5 9 (some 10)) 5 11 (some 11)) 5 12 (some 12)) 5 14 (some 13)) 5 17 (some 14)) 15 0 (some 16)) 15 1 (some 17)) 15 2 (some 18)) 5 18 (some 15)) 5 19 (some 19)) 1 1 (some 5)) 1 2 (some 20)) 0 0 (some 1)) 21 3 (some 22)) 21 6 (some 23)) 21 7 (some 24)) 21 8 (some 25)) 21 9 (some 26)) 21 11 (some 27)) 21 12 (some 28)) 21 14 (some 29)) 21 17 (some 30)) 31 0 (some 32)) 31 1 (some 33)) 31 2 (some 34)) 21 18 (some 31)) 21 19 (some 35)) 0 1 (some 21)) 36 6 (some 37)) 0 2 (some 36)) 38 6 (some 39)) 0 3 (some 38)) 40 6 (some 41)) 0 4 (some 40)) 42 0 (some 43)) 0 6 (some 42)) 44 0 (some 45)) 44 1 (some 46)) 44 2 (some 47)) 44 3 (some 48)) 44 4 (some 49)) 0 7 (some 44)) 86 0 (some 87)) 86 1 (some 88)) 86 2 (some 89)) 86 3 (some 90)) 86 4 (some 91)) 86 5 (some 92)) 0 8 (some 86)) 93 0 (some 94)) 93 1 (some 95)) 93 2 (some 96)) 93 3 (some 97)) (upM (upM (upM (upM (upM (upM M8 1 5 (-1)) 1 10 (-1)) 42 2 (-1)) 42 3 (-1)) 86 10 (-1)) 93 5 (-1)) _ _ 100 [(0, pR 0)] [pR 93, pR 0]
  refine w_putR (ci := 10) (k := 9) dX10_init_100 (Or.inr ⟨⟨rfl, rfl, rfl⟩, ⟨by decide, by decide⟩, (wgt3 18 rfl rfl)⟩) (tkG (by decide) rfl) rfl rfl (by rw [tkL (by decide)]; decide) ?_
  have z86 := z85.uR (a := 0) (k := 9) (v := some 93) (by decide)
  exact w_vret dX10_init_103 rfl ⟨Nat.le_of_ble_eq_true rfl, Nat.le_of_ble_eq_true rfl⟩ (h M8 h8a h8b)
end INIT2
