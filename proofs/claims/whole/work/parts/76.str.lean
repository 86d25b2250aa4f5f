/-! text constants: length, indexOf -/
theorem w_i2bW {E : Scr} {mi : Mi} {S : Nat → Prop} {Q : Post} {T : Shp} {R : Rfs} {M : Mem} {u v pc : Nat} {ls : List (Nat × PV)} {st : List PV} {x : Int} (hd : decode (miC mi) pc = .ok (.i2b, 1)) (hxr : 128 ≤ x ∧ x < 256) (h : MW E mi S Q T R M u v (pc + 1) ls (pI (x - 256) :: st)) : MW E mi S Q T R M u v pc ls (pI x :: st) := by
  intro l p e s m args below meth c H locs la D ar A φ ex B hl
  obtain ⟨⟨hx, hb, hr, hml, hts, hown, hlocks, hnm⟩, ⟨hN, hEx, hK, hA⟩, ⟨hP, hD, hS⟩, hR, hRC⟩ := id B
  refine lv_i2b hx hb hd ?_ (h l p e s m args below meth c H locs la D ar A φ ex B hl)
  rw [← Int32.toInt_inj, Int8.toInt_toInt32, Int32.toInt_toInt8, i32_toInt ⟨by omega, by omega⟩, i32_toInt ⟨by omega, by omega⟩, Int.bmod_def]
  omega
theorem w_bret0 {E : Scr} {mi : Mi} {S : Nat → Prop} {Q : Post} {T : Shp} {R : Rfs} {M : Mem} {u v pc : Nat} {ls : List (Nat × PV)} (hd : decode (miC mi) pc = .ok (.ireturn, 1)) (hrt : miT mi = some .byte) (hc : u ≤ miMc mi ∧ v ≤ miMs mi) (h : Q (some (pI 0)) T R M) : MW E mi S Q T R M u v pc ls [pI 0] := by
  intro l p e s m args below meth c H locs la D ar A φ ex B hl
  obtain ⟨⟨hx, hb, hr, hml, hts, hown, hlocks, hnm⟩, ⟨hN, hEx, hK, hA⟩, ⟨hP, hD, hS⟩, hR, hRC⟩ := id B
  refine W.widen hc.1 hc.2 ?_
  have hn : narrow .byte (.int (Int32.ofInt 0)) = .int (Int32.ofInt 0) := rfl
  exact W.zret hx hb (hr.trans hrt) hn (fun t ht hW => ⟨⟨some (pI 0), T, R, M, φ, rfl, h, fun _ _ => rfl, by rw [ht]; exact hP, va_K.moved hW.alike hK, hD, hR, hRC⟩, hS.F ht⟩) hS.2.2 hd
theorem k_bret0 {E : Scr} {mi : Mi} {M : Mem} {pc : Nat} {ls : List (Nat × PV)} {f : Int → Mem → Prop} (hd : decode (miC mi) pc = .ok (.ireturn, 1)) (hrt : miT mi = some .byte) (h : f 0 M) : KW E mi (qI f) M pc ls [pI 0] := w_bret0 hd hrt ⟨Nat.zero_le _, Nat.zero_le _⟩ ⟨rfl, rfl, 0, rfl, h⟩
theorem vJ0_isLatin1_aae02b_0 {E : Scr} {f : Int → Mem → Prop} {M : Mem} (h : f 1 M) : CI E mJ0_isLatin1_aae02 [pX 2] M f := by
  refine (show KW E mJ0_isLatin1_aae02 (qI f) M 0 [(0, pX 2)] [] from ?_)
  refine w_compact dJ0_isLatin1_aae02_0 (wgt1 56 rfl rfl) ?_
  refine w_if_eq dJ0_isLatin1_aae02_3 rfl (by decide) (fun c => absurd c (by decide)) (fun _ => ?_)
  refine w_xload_n dJ0_isLatin1_aae02_6 rfl ?_
  refine w_xcod (j := 1) (by decide) dJ0_isLatin1_aae02_7 (wgt9 143 rfl rfl) ?_
  refine w_if_ne dJ0_isLatin1_aae02_10 rfl (by decide) (fun c => absurd c (by decide)) (fun _ => ?_)
  refine w_iconst dJ0_isLatin1_aae02_13 ?_
  refine w_goto dJ0_isLatin1_aae02_14 rfl ?_
  exact k_zret dJ0_isLatin1_aae02_18 rfl (by decide) h
theorem vJ0_isLatin1_aae02a_0 {E : Scr} {f : Int → Mem → Prop} {M : Mem} (h : f 1 M) : CI E mJ0_isLatin1_aae02 [pX 1] M f := by
  refine (show KW E mJ0_isLatin1_aae02 (qI f) M 0 [(0, pX 1)] [] from ?_)
  refine w_compact dJ0_isLatin1_aae02_0 (wgt1 56 rfl rfl) ?_
  refine w_if_eq dJ0_isLatin1_aae02_3 rfl (by decide) (fun c => absurd c (by decide)) (fun _ => ?_)
  refine w_xload_n dJ0_isLatin1_aae02_6 rfl ?_
  refine w_xcod (j := 0) (by decide) dJ0_isLatin1_aae02_7 (wgt9 143 rfl rfl) ?_
  refine w_if_ne dJ0_isLatin1_aae02_10 rfl (by decide) (fun c => absurd c (by decide)) (fun _ => ?_)
  refine w_iconst dJ0_isLatin1_aae02_13 ?_
  refine w_goto dJ0_isLatin1_aae02_14 rfl ?_
  exact k_zret dJ0_isLatin1_aae02_18 rfl (by decide) h
theorem vJ0_coder_7d493b_0 {E : Scr} {f : Int → Mem → Prop} {M : Mem} (h : f 0 M) : CI E mJ0_coder_7d493 [pX 2] M f := by
  refine (show KW E mJ0_coder_7d493 (qI f) M 0 [(0, pX 2)] [] from ?_)
  refine w_compact dJ0_coder_7d493_0 (wgt1 56 rfl rfl) ?_
  refine w_if_eq dJ0_coder_7d493_3 rfl (by decide) (fun c => absurd c (by decide)) (fun _ => ?_)
  refine w_xload_n dJ0_coder_7d493_6 rfl ?_
  refine w_xcod (j := 1) (by decide) dJ0_coder_7d493_7 (wgt9 143 rfl rfl) ?_
  refine w_goto dJ0_coder_7d493_10 rfl ?_
  exact k_bret0 dJ0_coder_7d493_14 rfl h
theorem vJ0_coder_7d493a_0 {E : Scr} {f : Int → Mem → Prop} {M : Mem} (h : f 0 M) : CI E mJ0_coder_7d493 [pX 1] M f := by
  refine (show KW E mJ0_coder_7d493 (qI f) M 0 [(0, pX 1)] [] from ?_)
  refine w_compact dJ0_coder_7d493_0 (wgt1 56 rfl rfl) ?_
  refine w_if_eq dJ0_coder_7d493_3 rfl (by decide) (fun c => absurd c (by decide)) (fun _ => ?_)
  refine w_xload_n dJ0_coder_7d493_6 rfl ?_
  refine w_xcod (j := 0) (by decide) dJ0_coder_7d493_7 (wgt9 143 rfl rfl) ?_
  refine w_goto dJ0_coder_7d493_10 rfl ?_
  exact k_bret0 dJ0_coder_7d493_14 rfl h
theorem vJ0_length_8abf5b_0 {E : Scr} {f : Int → Mem → Prop} {M : Mem} (h : (CI E mJ0_coder_7d493 [pX 2] M (fun r1 M2 => f (bShr 10 r1) M2))) : CI E mJ0_length_8abf5 [pX 2] M f := by
  refine (show KW E mJ0_length_8abf5 (qI f) M 0 [(0, pX 2)] [] from ?_)
  refine w_xload_n dJ0_length_8abf5_0 rfl ?_
  refine w_xval (j := 1) (by decide) dJ0_length_8abf5_1 (wgt9 142 rfl rfl) ?_
  refine w_xlen (j := 1) (n := 10) (by decide) rfl dJ0_length_8abf5_4 ?_
  refine w_xload_n dJ0_length_8abf5_5 rfl ?_
  refine k_xI (j := 1) (as := []) dJ0_length_8abf5_6 oJ0_coder_7d493 iJ0_coder_7d493 rfl kJ0_335 ⟨⟨Nat.le_of_ble_eq_true rfl, rfl, rfl⟩, Nat.le_of_ble_eq_true rfl⟩ (by decide) rfl (Nat.le_of_ble_eq_true rfl) h ?_
  intro r1 M2 h
  refine w_ishr dJ0_length_8abf5_9 ?_
  exact k_iret dJ0_length_8abf5_10 rfl h
theorem vJ0_length_8abf5a_0 {E : Scr} {f : Int → Mem → Prop} {M : Mem} (h : (CI E mJ0_coder_7d493 [pX 1] M (fun r1 M2 => f (bShr 116 r1) M2))) : CI E mJ0_length_8abf5 [pX 1] M f := by
  refine (show KW E mJ0_length_8abf5 (qI f) M 0 [(0, pX 1)] [] from ?_)
  refine w_xload_n dJ0_length_8abf5_0 rfl ?_
  refine w_xval (j := 0) (by decide) dJ0_length_8abf5_1 (wgt9 142 rfl rfl) ?_
  refine w_xlen (j := 0) (n := 116) (by decide) rfl dJ0_length_8abf5_4 ?_
  refine w_xload_n dJ0_length_8abf5_5 rfl ?_
  refine k_xI (j := 0) (as := []) dJ0_length_8abf5_6 oJ0_coder_7d493 iJ0_coder_7d493 rfl kJ0_335 ⟨⟨Nat.le_of_ble_eq_true rfl, rfl, rfl⟩, Nat.le_of_ble_eq_true rfl⟩ (by decide) rfl (Nat.le_of_ble_eq_true rfl) h ?_
  intro r1 M2 h
  refine w_ishr dJ0_length_8abf5_9 ?_
  exact k_iret dJ0_length_8abf5_10 rfl h
theorem vJ1_canEncode_9a6ad_0 {E : Scr} {f : Int → Mem → Prop} {M : Mem} (x0 : Int) (h : (iR x0) ∧ ((x0 < 0 → f 0 M) ∧ (x0 ≥ 0 → (iR x0) ∧ ((x0 > 255 → f 0 M) ∧ (x0 ≤ 255 → f 1 M))))) : CI E mJ1_canEncode_9a6ad [pI x0] M f := by
  refine (show KW E mJ1_canEncode_9a6ad (qI f) M 0 [(0, pI x0)] [] from ?_)
  refine w_iload_n dJ1_canEncode_9a6ad_0 rfl ?_
  obtain ⟨o1, h⟩ := h
  refine w_if_lt dJ1_canEncode_9a6ad_1 rfl o1 (fun c => ?_) (fun c => ?_)
  · have h := h.1 c
    refine w_iconst dJ1_canEncode_9a6ad_15 ?_
    exact k_zret dJ1_canEncode_9a6ad_16 rfl (by decide) h
  · have h := h.2 c
    refine w_iload_n dJ1_canEncode_9a6ad_4 rfl ?_
    refine w_sipush dJ1_canEncode_9a6ad_5 (by decide) ?_
    obtain ⟨o2, h⟩ := h
    refine w_icmp_gt dJ1_canEncode_9a6ad_8 rfl ⟨o2, (by decide)⟩ (fun c => ?_) (fun c => ?_)
    · have h := h.1 c
      refine w_iconst dJ1_canEncode_9a6ad_15 ?_
      exact k_zret dJ1_canEncode_9a6ad_16 rfl (by decide) h
    · have h := h.2 c
      refine w_iconst dJ1_canEncode_9a6ad_11 ?_
      refine w_goto dJ1_canEncode_9a6ad_12 rfl ?_
      exact k_zret dJ1_canEncode_9a6ad_16 rfl (by decide) h
theorem vJ1_indexOfChar_4cfef_0 {E : Scr} {f : Int → Mem → Prop} {M : Mem} (x1 x2 x3 : Int) (hb : 0 ≤ x1 ∧ x1 < 256) (h : KW E mJ1_indexOfChar_4cfef (qI f) M 7 [(0, pX 6), (3, pI x3), (4, pI (if x1 < 128 then x1 else x1 - 256)), (5, pI x2)] []) : CI E mJ1_indexOfChar_4cfef [pX 6, pI x1, pI x2, pI x3] M f := by
  refine (show KW E mJ1_indexOfChar_4cfef (qI f) M 0 [(0, pX 6), (1, pI x1), (2, pI x2), (3, pI x3)] [] from ?_)
  refine w_iload_n dJ1_indexOfChar_4cfef_0 rfl ?_
  by_cases c : x1 < 128
  · rw [if_pos c] at h
    refine w_i2b dJ1_indexOfChar_4cfef_1 ⟨by omega, c⟩ ?_
    refine w_istore dJ1_indexOfChar_4cfef_2 (by decide) ?_
    refine w_iload_n dJ1_indexOfChar_4cfef_4 rfl ?_
    refine w_istore dJ1_indexOfChar_4cfef_5 (by decide) ?_
    exact k_pick [2, 5, 1, 0] rfl h
  · rw [if_neg c] at h
    refine w_i2bW dJ1_indexOfChar_4cfef_1 ⟨by omega, hb.2⟩ ?_
    refine w_istore dJ1_indexOfChar_4cfef_2 (by decide) ?_
    refine w_iload_n dJ1_indexOfChar_4cfef_4 rfl ?_
    refine w_istore dJ1_indexOfChar_4cfef_5 (by decide) ?_
    exact k_pick [2, 5, 1, 0] rfl h
theorem vJ1_indexOfChar_4cfef_7 {E : Scr} {f : Int → Mem → Prop} {M : Mem} (x3 x4 x5 : Int) (h : (iR x5) ∧ (iR x3) ∧ ((x5 ≥ x3 → f (-1) M) ∧ (x5 < x3 → (0 ≤ x5 ∧ x5 < 10) ∧ (iR x4) ∧ (((strZ 1 x5) ≠ x4 → (KW E mJ1_indexOfChar_4cfef (qI f) M 7 [(0, pX 6), (3, pI x3), (4, pI x4), (5, pI (x5 + 1))] [])) ∧ ((strZ 1 x5) = x4 → f x5 M))))) : KW E mJ1_indexOfChar_4cfef (qI f) M 7 [(0, pX 6), (3, pI x3), (4, pI x4), (5, pI x5)] [] := by
  refine w_iload dJ1_indexOfChar_4cfef_7 rfl ?_
  refine w_iload_n dJ1_indexOfChar_4cfef_9 rfl ?_
  obtain ⟨o1, h⟩ := h
  obtain ⟨o2, h⟩ := h
  refine w_icmp_ge dJ1_indexOfChar_4cfef_10 rfl ⟨o1, o2⟩ (fun c => ?_) (fun c => ?_)
  · have h := h.1 c
    refine w_iconst dJ1_indexOfChar_4cfef_31 ?_
    exact k_iret dJ1_indexOfChar_4cfef_32 rfl h
  · have h := h.2 c
    refine w_xload_n dJ1_indexOfChar_4cfef_13 rfl ?_
    refine w_iload dJ1_indexOfChar_4cfef_14 rfl ?_
    obtain ⟨o3, h⟩ := h
    refine w_xald (j := 1) (n := 10) (x := (strZ 1 x5)) (by decide) rfl (by decide) dJ1_indexOfChar_4cfef_16 o3 (strZ_ok _ _) ?_
    refine w_iload dJ1_indexOfChar_4cfef_17 rfl ?_
    obtain ⟨o4, h⟩ := h
    refine w_icmp_ne dJ1_indexOfChar_4cfef_19 rfl ⟨(strZ_r _ _), o4⟩ (fun c => ?_) (fun c => ?_)
    · have h := h.1 c
      refine w_iinc dJ1_indexOfChar_4cfef_25 rfl (by decide) ?_
      refine w_goto dJ1_indexOfChar_4cfef_28 rfl ?_
      exact k_pick [1, 2, 3, 0] rfl h
    · have h := h.2 c
      refine w_iload dJ1_indexOfChar_4cfef_22 rfl ?_
      exact k_iret dJ1_indexOfChar_4cfef_24 rfl h
theorem vJ1_indexOf_4cfef_0 {E : Scr} {f : Int → Mem → Prop} {M : Mem} (x1 x2 x3 : Int) (h : (CI E mJ1_canEncode_9a6ad [pI x1] M (fun r1 M2 => (iR r1) ∧ ((r1 ≠ 0 → (iR x2) ∧ (iR x3) ∧ (((max x2 0) < (min x3 10) → (CI E mJ1_indexOfChar_4cfef [pX 6, pI x1, pI (max x2 0), pI (min x3 10)] M2 (fun r6 M7 => f r6 M7))) ∧ ((max x2 0) ≥ (min x3 10) → f (-1) M2))) ∧ (r1 = 0 → f (-1) M2))))) : CI E mJ1_indexOf_4cfef [pX 6, pI x1, pI x2, pI x3] M f := by
  refine (show KW E mJ1_indexOf_4cfef (qI f) M 0 [(0, pX 6), (1, pI x1), (2, pI x2), (3, pI x3)] [] from ?_)
  refine w_iload_n dJ1_indexOf_4cfef_0 rfl ?_
  refine k_sI (as := [pI x1]) dJ1_indexOf_4cfef_1 kJ1_88 ⟨⟨Nat.le_of_ble_eq_true rfl, rfl, rfl⟩, Nat.le_of_ble_eq_true rfl⟩ rfl (Nat.le_of_ble_eq_true rfl) h ?_
  intro r1 M2 h
  obtain ⟨o3, h⟩ := h
  refine w_if_ne dJ1_indexOf_4cfef_4 rfl o3 (fun c => ?_) (fun c => ?_)
  · have h := h.1 c
    refine w_iload_n dJ1_indexOf_4cfef_9 rfl ?_
    refine w_iconst dJ1_indexOf_4cfef_10 ?_
    obtain ⟨o4, h⟩ := h
    refine w_imax dJ1_indexOf_4cfef_11 kJ1_92 ⟨by decide, Nat.le_of_ble_eq_true rfl⟩ ⟨by decide, by decide⟩ ⟨o4, (by decide)⟩ ?_
    refine w_istore_n dJ1_indexOf_4cfef_14 (by decide) ?_
    refine w_iload_n dJ1_indexOf_4cfef_15 rfl ?_
    refine w_xload_n dJ1_indexOf_4cfef_16 rfl ?_
    refine w_xlen (j := 1) (n := 10) (by decide) rfl dJ1_indexOf_4cfef_17 ?_
    obtain ⟨o5, h⟩ := h
    refine w_imin dJ1_indexOf_4cfef_18 kJ1_38 ⟨by decide, Nat.le_of_ble_eq_true rfl⟩ ⟨by decide, by decide⟩ ⟨o5, (by decide)⟩ ?_
    refine w_istore_n dJ1_indexOf_4cfef_21 (by decide) ?_
    refine w_iload_n dJ1_indexOf_4cfef_22 rfl ?_
    refine w_iload_n dJ1_indexOf_4cfef_23 rfl ?_
    refine w_icmp_lt dJ1_indexOf_4cfef_24 rfl ⟨(max_r o4 (by decide)), (min_r o5 (by decide))⟩ (fun c => ?_) (fun c => ?_)
    · have h := h.1 c
      refine w_xload_n dJ1_indexOf_4cfef_29 rfl ?_
      refine w_iload_n dJ1_indexOf_4cfef_30 rfl ?_
      refine w_iload_n dJ1_indexOf_4cfef_31 rfl ?_
      refine w_iload_n dJ1_indexOf_4cfef_32 rfl ?_
      refine k_sI (as := [pX 6, pI x1, pI (max x2 0), pI (min x3 10)]) dJ1_indexOf_4cfef_33 kJ1_95 ⟨⟨Nat.le_of_ble_eq_true rfl, rfl, rfl⟩, Nat.le_of_ble_eq_true rfl⟩ rfl (Nat.le_of_ble_eq_true rfl) h ?_
      intro r6 M7 h
      exact k_iret dJ1_indexOf_4cfef_36 rfl h
    · have h := h.2 c
      refine w_iconst dJ1_indexOf_4cfef_27 ?_
      exact k_iret dJ1_indexOf_4cfef_28 rfl h
  · have h := h.2 c
    refine w_iconst dJ1_indexOf_4cfef_7 ?_
    exact k_iret dJ1_indexOf_4cfef_8 rfl h
theorem vJ0_indexOf_7cf53_0 {E : Scr} {f : Int → Mem → Prop} {M : Mem} (x1 x2 : Int) (h : (CI E mJ0_isLatin1_aae02 [pX 2] M (fun r1 M2 => (iR r1) ∧ ((r1 = 0 → False) ∧ (r1 ≠ 0 → (CI E mJ0_length_8abf5 [pX 2] M2 (fun r8 M9 => (CI E mJ1_indexOf_4cfef [pX 6, pI x1, pI x2, pI r8] M9 (fun r10 M11 => f r10 M11))))))))) : CI E mJ0_indexOf_7cf53 [pX 2, pI x1, pI x2] M f := by
  refine (show KW E mJ0_indexOf_7cf53 (qI f) M 0 [(0, pX 2), (1, pI x1), (2, pI x2)] [] from ?_)
  refine w_xload_n dJ0_indexOf_7cf53_0 rfl ?_
  refine k_xI (j := 1) (as := []) dJ0_indexOf_7cf53_1 oJ0_isLatin1_aae02 iJ0_isLatin1_aae02 rfl kJ0_492 ⟨⟨Nat.le_of_ble_eq_true rfl, rfl, rfl⟩, Nat.le_of_ble_eq_true rfl⟩ (by decide) rfl (Nat.le_of_ble_eq_true rfl) h ?_
  intro r1 M2 h
  obtain ⟨o3, h⟩ := h
  refine w_if_eq dJ0_indexOf_7cf53_4 rfl o3 (fun c => ?_) (fun c => ?_)
  · exact absurd (h.1 c) id
  · have h := h.2 c
    refine w_xload_n dJ0_indexOf_7cf53_7 rfl ?_
    refine w_xval (j := 1) (by decide) dJ0_indexOf_7cf53_8 (wgt9 142 rfl rfl) ?_
    refine w_iload_n dJ0_indexOf_7cf53_11 rfl ?_
    refine w_iload_n dJ0_indexOf_7cf53_12 rfl ?_
    refine w_xload_n dJ0_indexOf_7cf53_13 rfl ?_
    refine k_xI (j := 1) (as := []) dJ0_indexOf_7cf53_14 oJ0_length_8abf5 iJ0_length_8abf5 rfl kJ0_505 ⟨⟨Nat.le_of_ble_eq_true rfl, rfl, rfl⟩, Nat.le_of_ble_eq_true rfl⟩ (by decide) rfl (Nat.le_of_ble_eq_true rfl) h ?_
    intro r8 M9 h
    refine k_sI (as := [pX 6, pI x1, pI x2, pI r8]) dJ0_indexOf_7cf53_17 kJ0_637 ⟨⟨Nat.le_of_ble_eq_true rfl, rfl, rfl⟩, Nat.le_of_ble_eq_true rfl⟩ rfl (Nat.le_of_ble_eq_true rfl) h ?_
    intro r10 M11 h
    refine w_goto dJ0_indexOf_7cf53_20 rfl ?_
    exact k_iret dJ0_indexOf_7cf53_36 rfl h
theorem vJ0_indexOf_0f7a4_0 {E : Scr} {f : Int → Mem → Prop} {M : Mem} (x1 : Int) (h : (CI E mJ0_indexOf_7cf53 [pX 2, pI x1, pI 0] M (fun r1 M2 => f r1 M2))) : CI E mJ0_indexOf_0f7a4 [pX 2, pI x1] M f := by
  refine (show KW E mJ0_indexOf_0f7a4 (qI f) M 0 [(0, pX 2), (1, pI x1)] [] from ?_)
  refine w_xload_n dJ0_indexOf_0f7a4_0 rfl ?_
  refine w_iload_n dJ0_indexOf_0f7a4_1 rfl ?_
  refine w_iconst dJ0_indexOf_0f7a4_2 ?_
  refine k_xI (j := 1) (as := [pI x1, pI 0]) dJ0_indexOf_0f7a4_3 oJ0_indexOf_7cf53 iJ0_indexOf_7cf53 rfl kJ0_633 ⟨⟨Nat.le_of_ble_eq_true rfl, rfl, rfl⟩, Nat.le_of_ble_eq_true rfl⟩ (by decide) rfl (Nat.le_of_ble_eq_true rfl) h ?_
  intro r1 M2 h
  exact k_iret dJ0_indexOf_0f7a4_6 rfl h
theorem c_lengthB {E : Scr} {f : Int → Mem → Prop} {M : Mem} (H : f 10 M) : CI E mJ0_length_8abf5 [pX 2] M f := vJ0_length_8abf5b_0 (vJ0_coder_7d493b_0 (show f (bShr 10 0) M from H))
theorem c_lengthA {E : Scr} {f : Int → Mem → Prop} {M : Mem} (H : f 116 M) : CI E mJ0_length_8abf5 [pX 1] M f := vJ0_length_8abf5a_0 (vJ0_coder_7d493a_0 (show f (bShr 116 0) M from H))
def sgL : List Int := [59, 40, 41, 60, 61, 62, 43, 45, 42, 47]
/-- which sign, from the k-th on -/
def sgF (c : Int) : Nat → Nat → Int
  | 0, _ => -1
  | j + 1, k => if sgL.getD k 0 = c then (k : Int) else sgF c j (k + 1)
theorem strZ1 : ∀ k, k < 10 → strZ 1 ((k : Nat) : Int) = sgL.getD k 0 ∧ 0 < sgL.getD k 0 := by decide
theorem c_indexOf {E : Scr} {f : Int → Mem → Prop} {M : Mem} {c : Int} (hc : 0 ≤ c ∧ c < 256) (H : f (sgF c 10 0) M) : CI E mJ0_indexOf_0f7a4 [pX 2, pI c] M f := by
  refine vJ0_indexOf_0f7a4_0 _ (vJ0_indexOf_7cf53_0 _ _ (vJ0_isLatin1_aae02b_0 ⟨⟨by decide, by decide⟩, fun z => absurd z (by decide), fun _ => c_lengthB (vJ1_indexOf_4cfef_0 _ _ _ (vJ1_canEncode_9a6ad_0 _ ⟨⟨by omega, by omega⟩, fun z => absurd z (by omega), fun _ => ⟨⟨by omega, by omega⟩, fun z => absurd z (by omega), fun _ => ?_⟩⟩))⟩))
  refine ⟨⟨by decide, by decide⟩, fun _ => ⟨⟨by decide, by decide⟩, ⟨by decide, by decide⟩, fun _ => ?_, fun z => absurd z (by decide)⟩, fun z => absurd z (by decide)⟩
  have loop : ∀ (j k : Nat), k + j = 10 → f (sgF c j k) M → KW E mJ1_indexOfChar_4cfef (qI f) M 7 [(0, pX 6), (3, pI 10), (4, pI (if c < 128 then c else c - 256)), (5, pI (k : Int))] [] := by
    intro j
    induction j with
    | zero =>
      intro k hk hf
      exact vJ1_indexOfChar_4cfef_7 _ _ _ ⟨⟨by omega, by omega⟩, ⟨by decide, by decide⟩, fun _ => hf, fun z => absurd z (by omega)⟩
    | succ j ih =>
      intro k hk hf
      simp only [sgF] at hf
      have hs := strZ1 k (by omega)
      apply vJ1_indexOfChar_4cfef_7
      rw [hs.1]
      have hle : sgL.getD k 0 ≤ 62 := by
        have : ∀ k, k < 10 → sgL.getD k 0 ≤ 62 := by decide
        exact this k (by omega)
      refine ⟨⟨by omega, by omega⟩, ⟨by decide, by decide⟩, fun z => absurd z (by omega), fun _ => ⟨⟨by omega, by omega⟩, by split <;> exact ⟨by omega, by omega⟩, fun z => ?_, fun z => ?_⟩⟩
      · have hne : ¬ sgL.getD k 0 = c := fun e => z (by rw [if_pos (by omega)]; exact e)
        rw [if_neg hne] at hf
        exact ih (k + 1) (by omega) hf
      · have he : sgL.getD k 0 = c := by
          by_cases q : c < 128
          · rw [if_pos q] at z; exact z
          · rw [if_neg q] at z; omega
        rw [if_pos he] at hf
        exact hf
  exact vJ1_indexOfChar_4cfef_0 _ _ _ hc (loop 10 0 (by omega) H)
