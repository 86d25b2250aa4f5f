/-! the law: its latch case, its loop -/
section LAT4
variable {E : Scr} {Q : Post} {z : ZT} {s : PSt} {y : YS} {no : NS} {M : Mem} {u v i : Nat} {x w : Int}
theorem x_argG {mi : Mi} {S : Nat → Prop} {T : Shp} {R : Rfs} {pc : Nat} {ls : List (Nat × PV)} {st : List PV} {k : Nat} (g0 : lget ls 0 = some (pX 0)) (g4 : lget ls 4 = some (pI (i : Int))) (d0 : decode (miC mi) pc = .ok (.aload_n 0, 1)) (d1 : decode (miC mi) (pc + 1) = .ok (.iload 4, 2)) (d3 : decode (miC mi) (pc + 3) = .ok (.iconst (k : Int), 1)) (d4 : decode (miC mi) (pc + 4) = .ok (.iadd, 1)) (d5 : decode (miC mi) (pc + 5) = .ok (.iaload, 1)) (hi : i + k < E.1)
    (h : iR (E.2 (i + k)) → MW E mi S Q T R M u v (pc + 6) ls (pI (E.2 (i + k)) :: st)) : MW E mi S Q T R M u v pc ls st := by
  refine w_xload_n d0 g0 ?_
  refine w_iload d1 g4 ?_
  refine w_iconst d3 ?_
  refine w_iadd d4 ?_
  refine w_sld d5 ⟨by omega, by omega⟩ ?_
  rw [show ((i : Int) + (k : Int)).toNat = i + k by omega]
  exact h
theorem latch_M (hx : iR x) (hw : iR w) (h : Inv z s y no M) : CI E mX11_latch [pR 98, pI x, pI w] M (fun r M2 => M2 98 2 = (latK (sN s) x w : Int) ∧ (latK (sN s) x w = 0 → r = latV (mayP s) x w y.1) ∧ Iv M2) := by
  obtain ⟨L, h9⟩ := h.1.2.1
  have hn : sN s ≤ 8 := h9.2.1.1
  have hd := h.1.hw.1.1
  have hpw : 2 ^ sN s ≤ 256 := pw8' hn
  have R2 := IM.u2 h.2.2
  have hi2 : Inv z s y no (upM M 98 2 0) := h.u2
  obtain ⟨v0, v1, v2, v3, v4, v5, v6⟩ := R2.2.1.1
  have hu : ∀ c : Int, Iv (upM (upM M 98 2 0) 98 2 c) := fun c => ⟨z, s, y, no, hi2.1, Inv.ref hi2.2.1 (fun a ha => upM_ne _ _ _ (by omega)), by
    have hc : ∀ a, a ≠ 98 → upM (upM M 98 2 0) 98 2 c a = upM M 98 2 0 a := fun a ha => upM_ne _ _ _ ha
    have hk : ∀ k, k ≠ 2 → upM (upM M 98 2 0) 98 2 c 98 k = upM M 98 2 0 98 k := fun k k2 => by rw [upM_self, va_up_neq _ _ k2]
    exact ⟨hi2.2.2.1.of (fun a _ => hc a (by omega)) (fun k _ => hk k (by omega)), hi2.2.2.2.1.ofK (fun a _ => hc a (by omega)) (fun k _ => hk k (by omega)), hi2.2.2.2.2.of (hc 140 (by decide)) (hk 76 (by decide)) (hk 77 (by decide))⟩⟩
  have iv2 : Iv (upM M 98 2 0) := ⟨z, s, y, no, hi2⟩
  have t0 : upM M 98 2 0 98 2 = 0 := by rw [upM_self, va_up_self]
  apply vX11_latch_0
  refine c_isLatch hx R2.1.2.2.1.1 (fun l e hl => ?_) (fun c1 => ?_)
  · have c1 : 0 ≤ x ∧ x < (sN s : Int) := by omega
    refine ⟨⟨by decide, by decide⟩, fun _ => ⟨hw, fun e0 _ => ?_, fun e0 _ => ?_, fun e0 => ?_, fun e0 => ⟨⟨by omega, by omega⟩, fun _ => ?_⟩, fun e0 => ?_⟩, fun q => absurd q (by decide)⟩
    · have hk : latK (sN s) x w = 0 := by unfold latK; rw [if_pos c1, if_pos (by omega)]
      exact ⟨by rw [hk]; exact t0, fun _ => by unfold latV; rw [if_pos e0, v1], iv2⟩
    · have hk : latK (sN s) x w = 0 := by unfold latK; rw [if_pos c1, if_pos (by omega)]
      exact ⟨by rw [hk]; exact t0, fun _ => by unfold latV; rw [if_neg (by omega), if_pos e0, v2], iv2⟩
    · have hk : latK (sN s) x w = 0 := by unfold latK; rw [if_pos c1, if_pos (by omega)]
      refine c_canNow (b := 0) (row := dRo y.1) (mm := mayP s (dRo y.1)) (s := dSe y.1) (by decide) R2.2.1.2.2.2.2 v1 (by have := hd.1; omega) (R2.1.2.2.1.2.2.1 _ hd.1).1 (by have := (R2.1.2.2.1.2.2.1 _ hd.1).2; omega) v2 (by have := hd.2.1; omega) ?_
      exact ⟨by rw [hk]; exact t0, fun _ => by unfold latV; rw [if_neg (by omega), if_neg (by omega), if_pos e0], iv2⟩
    · have hk : latK (sN s) x w = 0 := by unfold latK; rw [if_pos c1, if_pos (by omega)]
      refine ⟨by rw [hk]; exact t0, fun _ => ?_, iv2⟩
      unfold latV
      rw [if_neg (by omega), if_neg (by omega), if_neg (by omega)]
      have := v6 x.toNat (by omega)
      rw [Nat.mul_zero, Nat.zero_add] at this
      exact this
    · have hk : latK (sN s) x w = 2 := by unfold latK; rw [if_pos c1, if_neg (by omega)]
      apply vX11_fails_0
      exact ⟨⟨by decide, by decide⟩, by rw [hk, upM_self, va_up_self]; rfl, fun q => absurd q (by rw [hk]; decide), hu 2⟩
  · have hk : latK (sN s) x w = 1 := by unfold latK; rw [if_neg c1]
    refine ⟨⟨by decide, by decide⟩, fun q => absurd rfl q, fun _ => ?_⟩
    apply vX11_fails_0
    exact ⟨⟨by decide, by decide⟩, by rw [hk, upM_self, va_up_self]; rfl, fun q => absurd q (by rw [hk]; decide), hu 1⟩
theorem MLl_lt {k : Nat} {v9 : Int} : ∀ a, a < 144 → MLl k v9 M a = M a := fun a ha => by
  unfold MLl
  by_cases c : k = 0
  · rw [if_pos c, upM_ne _ _ _ (by omega)]
  · rw [if_neg c]
theorem latK_r {n : Nat} : latK n x w ≤ 2 := by
  unfold latK
  by_cases c1 : 0 ≤ x ∧ x < (n : Int)
  · rw [if_pos c1]
    by_cases c2 : 0 ≤ w ∧ w ≤ 3
    · rw [if_pos c2]; decide
    · rw [if_neg c2]; exact Nat.le_refl _
  · rw [if_neg c1]; decide
theorem lc_4 (hI : Inv z s y no M) (hi : i + 6 ≤ E.1) (hu : u + 1 ≤ 1135 ∧ v + 6 ≤ 17040) (hN : ∀ M', Iv M' → MW E mLaw Sn Q T1 R0 M' (u + 1) (v + 6) 1393 (LwS i) []) : MW E mLaw Sn Q T1 R0 M u v 360 (LwS i) [] := by
  refine w_aload_n dL_law_360 rfl ?_
  refine x_arg (k := 1) dL_law_361 dL_law_362 dL_law_364 dL_law_365 dL_law_366 (by omega) (fun g1 => ?_)
  refine x_arg (k := 2) dL_law_367 dL_law_368 dL_law_370 dL_law_371 dL_law_372 (by omega) (fun g2 => ?_)
  refine w_aload_n dL_law_373 rfl ?_
  refine x_lat g1 g2 hI dL_law_374 hu ?_
  generalize hk : latK (sN s) (E.2 (i + 1)) (E.2 (i + 2)) = kk
  generalize hv : latV (mayP s) (E.2 (i + 1)) (E.2 (i + 2)) y.1 = vv
  have hk2 : kk ≤ 2 := by rw [← hk]; exact latK_r
  have hI2 : Inv z s y no (MLl kk vv M) := hI.cong MLl_lt
  refine w_istore (k := 5) dL_law_377 (by decide) ?_
  show MW E mLaw Sn Q T1 R0 (MLl kk vv M) (u + 1) (v + 6) 379 ((5, pI (kk : Int)) :: LwS i) []
  refine w_aload_n dL_law_379 rfl ?_
  refine x_argG (k := 1) rfl rfl dL_law_380 dL_law_381 dL_law_383 dL_law_384 dL_law_385 (by omega) (fun _ => ?_)
  refine x_argG (k := 2) rfl rfl dL_law_386 dL_law_387 dL_law_389 dL_law_390 dL_law_391 (by omega) (fun _ => ?_)
  refine x_call (as := [pI (E.2 (i + 1)), pI (E.2 (i + 2))]) (q := qI _) (S2 := Top) dL_law_392 kL_44 ⟨⟨Nat.le_of_ble_eq_true rfl, hu.1, hu.2⟩, Nat.le_of_ble_eq_true rfl⟩ ⟨rfl, rfl⟩ rfl (by decide) rfl (Nat.le_of_ble_eq_true rfl) qI_ok (fun _ h9 => h9.elim) stbT (latch_M g1 g2 hI2) ?_
  rintro r1 M2 ⟨x1, rfl, h2, h3, h4⟩
  rw [hk] at h2 h3
  rw [hv] at h3
  refine w_istore (k := 6) dL_law_395 (by decide) ?_
  show MW E mLaw Sn Q T1 R0 (ov (MLl kk vv M) M2) (u + 1) (v + 6) 397 ((6, pI x1) :: (5, pI (kk : Int)) :: LwS i) []
  generalize hMo : ov (MLl kk vv M) M2 = Mo
  have ho2 : Mo 98 2 = (kk : Int) := by rw [← hMo, ov_ne _ _ (by decide)]; exact h2
  have ho4 : Iv Mo := by rw [← hMo]; exact h4.ov
  refine w_aload_n dL_law_397 rfl ?_
  refine x_call (as := []) (q := qI _) (S2 := Top) dL_law_398 kL_45 ⟨⟨Nat.le_of_ble_eq_true rfl, hu.1, hu.2⟩, Nat.le_of_ble_eq_true rfl⟩ ⟨rfl, rfl⟩ rfl (by decide) rfl (Nat.le_of_ble_eq_true rfl) qI_ok (fun _ h9 => h9.elim) stbT (vX11_thrown_0 (f := fun r M3 => r = (kk : Int) ∧ M3 = Mo) (fun _ => ⟨ho2, rfl⟩)) ?_
  rintro r2 M3 ⟨x2, rfl, rfl, e3⟩
  rw [e3, ov_self]
  refine w_iload dL_law_401 rfl ?_
  refine w_ieqS dL_law_403 rfl ?_
  refine w_iload dL_law_408 rfl ?_
  have fin : MW E mLaw Sn Q T1 R0 Mo (u + 1) (v + 6) 425 ((6, pI x1) :: (5, pI (kk : Int)) :: LwS i) [] := by
    refine w_goto dL_law_425 rfl ?_
    exact w_ls (fun q hq => List.mem_cons_of_mem _ (List.mem_cons_of_mem _ hq)) (hN Mo ho4)
  refine w_if_ne dL_law_410 rfl ⟨by omega, by omega⟩ (fun _ => fin) (fun c0 => ?_)
  have k0 : kk = 0 := by omega
  have hc1 : 0 ≤ E.2 (i + 1) ∧ E.2 (i + 1) < (sN s : Int) := by
    by_cases c1 : 0 ≤ E.2 (i + 1) ∧ E.2 (i + 1) < (sN s : Int)
    · exact c1
    · unfold latK at hk; rw [if_neg c1] at hk; omega
  have hvr : iR vv := by rw [← hv]; exact latV_r hI hc1
  refine w_aload_n dL_law_413 rfl ?_
  refine w_iconst dL_law_414 ?_
  refine w_lald (n := 1) (x := vv) dL_law_415 rfl ⟨by decide, by decide⟩ (by rw [← hMo, ov_144]; unfold MLl; rw [if_pos k0, upM_self]; rfl) (fun _ => ?_)
  refine w_iload dL_law_416 rfl ?_
  rw [h3 k0]
  refine w_i2l dL_law_418 hvr ?_
  rw [h3 k0] at fin
  exact w_leqS dL_law_419 dL_law_420 rfl fin
end LAT4
section LOOP
variable {E : Scr}
def QF : Post := fun r _ _ _ => r = some (pI 1)
theorem law_exit {M : Mem} {u v i : Nat} {ls : List (Nat × PV)} (hu : u ≤ 1135 ∧ v ≤ 17040) : MW E mLaw Sn QF T1 R0 M u v 1399 ls [] := by
  refine w_iconst dL_law_1399 ?_
  exact w_zret dL_law_1400 rfl (Or.inr rfl) hu rfl
theorem law_loop (hE : E.1 ≤ 3072) : ∀ (j i q : Nat) (M : Mem), E.1 < i + 6 * j → 6 * q ≤ i → i ≤ 3078 → Iv M → MW E mLaw Sn QF T1 R0 M (109 + q) (8836 + 6 * q) 23 (LwS i) [] := by
  intro j
  induction j with
  | zero =>
    intro i q M hj hq hi3 hI
    refine w_iload dL_law_23 rfl ?_
    refine w_xload_n dL_law_25 rfl ?_
    refine w_slen dL_law_26 (fun _ => ?_)
    refine w_bipush dL_law_27 (by decide) ?_
    refine w_isub dL_law_29 ?_
    exact w_icmp_gt dL_law_30 rfl ⟨⟨by omega, by omega⟩, ⟨by omega, by omega⟩⟩ (fun _ => law_exit (i := i) ⟨by omega, by omega⟩) (fun c => absurd c (by omega))
  | succ j ih =>
    intro i q M hj hq hi3 hI
    refine w_iload dL_law_23 rfl ?_
    refine w_xload_n dL_law_25 rfl ?_
    refine w_slen dL_law_26 (fun _ => ?_)
    refine w_bipush dL_law_27 (by decide) ?_
    refine w_isub dL_law_29 ?_
    refine w_icmp_gt dL_law_30 rfl ⟨⟨by omega, by omega⟩, ⟨by omega, by omega⟩⟩ (fun _ => law_exit (i := i) ⟨by omega, by omega⟩) (fun c => ?_)
    have hi : i + 6 ≤ E.1 := by omega
    refine w_xload_n dL_law_33 rfl ?_
    refine w_iload dL_law_34 rfl ?_
    refine w_sld dL_law_36 ⟨by omega, by omega⟩ (fun _ => ?_)
    refine w_bipush dL_law_37 (by decide) ?_
    refine w_iand dL_law_39 ?_
    have back : ∀ (q' : Nat), 6 * q' ≤ i + 6 → ∀ M', Iv M' → MW E mLaw Sn QF T1 R0 M' (109 + q') (8836 + 6 * q') 1393 (LwS i) [] := by
      intro q' hq' M' h'
      refine w_iinc dL_law_1393 rfl (by decide) ?_
      refine w_goto dL_law_1396 rfl ?_
      refine w_ls (ls' := LwS (i + 6)) (fun p hp => ?_) (ih (i + 6) q' M' (by omega) hq' (by omega) h')
      have e6 : ((i + 6 : Nat) : Int) = (i : Int) + 6 := by omega
      simp only [List.mem_cons, List.not_mem_nil, or_false, e6] at hp
      rcases hp with rfl | rfl | rfl | rfl | rfl <;> simp [lset1, p2]
    have hu : 109 + q ≤ 1135 ∧ 8836 + 6 * q ≤ 17040 := ⟨by omega, by omega⟩
    have hN := back q (by omega)
    have hN1 : ∀ M', Iv M' → MW E mLaw Sn QF T1 R0 M' (109 + q + 1) (8836 + 6 * q + 6) 1393 (LwS i) [] := by
      intro M' h'
      have := back (q + 1) (by omega) M' h'
      rw [show 109 + (q + 1) = 109 + q + 1 by omega, show 8836 + 6 * (q + 1) = 8836 + 6 * q + 6 by omega] at this
      exact this
    obtain ⟨z, s, y, no, hI⟩ := hI
    refine w_tsw (tgs := [212, 285, 310, 335, 360, 428, 453, 490, 528, 553, 578, 603, 628, 665, 690, 715, 740, 765, 778, 803, 816, 829, 866, 891, 916, 941, 966, 1016, 1054, 1119, 1144, 1169, 1194, 1231, 1280, 1329, 1342, 1355, 1368]) (td := 1393) dL_law_40 (bAnd_r _ _) rfl (by decide) rfl ?_ (fun _ => hN M ⟨z, s, y, no, hI⟩)
    intro jj hjj _
    match jj, hjj with
    | 0, _ => exact lc_0 hI hi hu hN
    | 1, _ => exact lc_1 hI hi hu hN
    | 2, _ => exact lc_2 hI hi hu hN
    | 3, _ => exact lc_3 hI hi hu hN
    | 4, _ => exact lc_4 hI hi ⟨by omega, by omega⟩ hN1
    | 5, _ => exact lc_5 hI hi hu hN
    | 6, _ => exact lc_6 hI hi hu hN
    | 7, _ => exact lc_7 hI hi hu hN
    | 8, _ => exact lc_8 hI hi hu hN
    | 9, _ => exact lc_9 hI hi hu hN
    | 10, _ => exact lc_10 hI hi hu hN
    | 11, _ => exact lc_11 hI hi hu hN
    | 12, _ => exact lc_12 hI hi hu hN
    | 13, _ => exact lc_13 hI hi hu hN
    | 14, _ => exact lc_14 hI hi hu hN
    | 15, _ => exact lc_15 hI hi hu hN
    | 16, _ => exact lc_16 hI hi hu hN
    | 17, _ => exact lc_17 hI hi hu hN
    | 18, _ => exact lc_18 hI hi hu hN
    | 19, _ => exact lc_19 hI hi hu hN
    | 20, _ => exact lc_20 hI hi hu hN
    | 21, _ => exact lc_21 hI hi hu hN
    | 22, _ => exact lc_22 hI hi hu hN
    | 23, _ => exact lc_23 hI hi hu hN
    | 24, _ => exact lc_24 hI hi hu hN
    | 25, _ => exact lc_25 hI hi hu hN
    | 26, _ => exact lc_26 hI hi hu hN
    | 27, _ => exact lc_27 hI hi hu hN
    | 28, _ => exact lc_28 hI hi hu hN
    | 29, _ => exact lc_29 hI hi hu hN
    | 30, _ => exact lc_30 hI hi hu hN
    | 31, _ => exact lc_31 hI hi hu hN
    | 32, _ => exact lc_32 hI hi hu hN
    | 33, _ => exact lc_33 hI hi hu hN
    | 34, _ => exact lc_34 hI hi hu hN
    | 35, _ => exact lc_35 hI hi hu hN
    | 36, _ => exact lc_36 hI hi hu hN
    | 37, _ => exact lc_37 hI hi hu hN
    | 38, _ => exact lc_38 hI hi hu hN
    | n + 39, h9 => exact absurd h9 (by simp)
end LOOP
