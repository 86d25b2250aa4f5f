/-! text constants in any world: length, charAt; the tape's words -/
def chN (i : Nat) : Nat := ((strB.getD 0 []).getD i 0).toInt.toNat
theorem chN_ok : ∀ i, i < 116 → (strB.getD 0 []).getD i 0 = Int32.ofInt (chN i : Int) ∧ chN i < 128 ∧ chN i &&& 255 = chN i := by decide +kernel
theorem stb0 {S : Nat → Prop} {ls : List (Nat × PV)} {st : List PV} (h1 : ∀ φ φ' ex : Nat → Nat, lsV φ' ex ls = lsV φ ex ls) (h2 : ∀ φ φ' ex : Nat → Nat, st.map (toV φ' ex) = st.map (toV φ ex)) : Stb S ls st := fun φ φ' ex _ => ⟨h1 φ φ' ex, h2 φ φ' ex⟩
section CHARS
variable {E : Scr} {mi : Mi} {S : Nat → Prop} {Q : Post} {T : Shp} {R : Rfs} {M : Mem} {u v pc : Nat} {ls : List (Nat × PV)} {st : List PV}
theorem w_pick {ls' : List (Nat × PV)} (ks : List Nat) (hp : lpick ls ks = ls') (h : MW E mi S Q T R M u v pc ls' st) : MW E mi S Q T R M u v pc ls st := by
  refine w_ls (fun z hz => ?_) h
  rw [← hp] at hz
  obtain ⟨k, -, hk⟩ := List.mem_filterMap.mp hz
  exact List.mem_of_getElem? hk
theorem w_fmt {idx : Nat} (hd : decode (miC mi) pc = .ok (.getstatic idx, 3)) (hw : Cond.fieldLink (miY mi).cls idx "jdk/internal/util/Preconditions" "SIOOBE_FORMATTER" "Ljava/util/function/BiFunction;" ∈ wgT) (h : ∀ x : PV, (x = pQ none ∨ x = pX 9) → MW E mi S Q T R M u v (pc + 3) ls (x :: st)) : MW E mi S Q T R M u v pc ls st := by
  intro l p e s m args below meth c H locs la D ar A φ ex B hl
  obtain ⟨⟨hx, hb, hr, hml, hts, hown, hlocks, hnm⟩, ⟨hN, hEx, hK, hA⟩, ⟨hP, hD, hS⟩, hR, hRC⟩ := id B
  rcases hEx.2.2.2.2.2.2.2 with hz | hz
  · exact va_gets hx hb hz hS hown (hts _ hw) (fun _ z => z) hd (h (pQ none) (Or.inl rfl) l p e s m args below meth c H locs la D ar A φ ex B hl)
  · exact va_gets hx hb hz hS hown (hts _ hw) (fun _ z => z) hd (h (pX 9) (Or.inr rfl) l p e s m args below meth c H locs la D ar A φ ex B hl)
theorem i_check3 {i n : Nat} {x : PV} (hi : i < n) (hn : n < 1000) (h : Q (some (pI (i : Int))) T R M) : MW E mJ3_checkIndex_8e157 S Q T R M 0 0 0 [(0, pI (i : Int)), (1, pI (n : Int)), (2, x)] [] := by
  refine w_iload_n dJ3_checkIndex_8e157_0 rfl ?_
  refine w_if_lt dJ3_checkIndex_8e157_1 rfl ⟨by omega, by omega⟩ (fun c => absurd c (by omega)) (fun _ => ?_)
  refine w_iload_n dJ3_checkIndex_8e157_4 rfl ?_
  refine w_iload_n dJ3_checkIndex_8e157_5 rfl ?_
  refine w_icmp_lt dJ3_checkIndex_8e157_6 rfl ⟨⟨by omega, by omega⟩, ⟨by omega, by omega⟩⟩ (fun _ => ?_) (fun c => absurd c (by omega))
  refine w_iload_n dJ3_checkIndex_8e157_16 rfl ?_
  exact w_iret dJ3_checkIndex_8e157_17 rfl ⟨Nat.zero_le _, Nat.zero_le _⟩ h
theorem i_check2 {i n : Nat} (hi : i < n) (hn : n < 1000) (h : Q none T R M) : MW E mJ0_checkIndex_df160 S Q T R M 0 0 0 [(0, pI (i : Int)), (1, pI (n : Int))] [] := by
  refine w_iload_n dJ0_checkIndex_df160_0 rfl ?_
  refine w_iload_n dJ0_checkIndex_df160_1 rfl ?_
  refine w_fmt dJ0_checkIndex_df160_2 (wgt1 72 rfl rfl) (fun x hx => ?_)
  have fin : MW E mJ0_checkIndex_df160 S Q T R M (0 + miMc mJ3_checkIndex_8e157) (0 + miMs mJ3_checkIndex_8e157) 8 [(0, pI (i : Int)), (1, pI (n : Int))] [pI (i : Int)] := by
    refine w_pop dJ0_checkIndex_df160_8 rfl ?_
    exact w_vret dJ0_checkIndex_df160_9 rfl ⟨Nat.zero_le _, Nat.zero_le _⟩ h
  rcases hx with rfl | rfl
  · exact w_callS (as := [pI (i : Int), pI (n : Int), pQ none]) (st := []) dJ0_checkIndex_df160_5 kJ0_1059 ⟨⟨Nat.le_of_ble_eq_true rfl, Nat.zero_le _, Nat.zero_le _⟩, Nat.le_of_ble_eq_true rfl⟩ rfl (Nat.le_of_ble_eq_true rfl) (S2 := S) (fun _ q => q) (stb0 (fun _ _ _ => rfl) (fun _ _ _ => rfl)) (i_check3 hi hn fin)
  · exact w_callS (as := [pI (i : Int), pI (n : Int), pX 9]) (st := []) dJ0_checkIndex_df160_5 kJ0_1059 ⟨⟨Nat.le_of_ble_eq_true rfl, Nat.zero_le _, Nat.zero_le _⟩, Nat.le_of_ble_eq_true rfl⟩ rfl (Nat.le_of_ble_eq_true rfl) (S2 := S) (fun _ q => q) (stb0 (fun _ _ _ => rfl) (fun _ _ _ => rfl)) (i_check3 hi hn fin)
theorem i_charL {i : Nat} (hi : i < 116) (h : Q (some (pI (chN i : Int))) T R M) : MW E mJ1_charAt_3b067 S Q T R M 0 0 0 [(0, pX 5), (1, pI (i : Int))] [] := by
  obtain ⟨h1, h2, h3⟩ := chN_ok i hi
  refine w_iload_n dJ1_charAt_3b067_0 rfl ?_
  refine w_xload_n dJ1_charAt_3b067_1 rfl ?_
  refine w_xlen (j := 0) (n := 116) (by decide) rfl dJ1_charAt_3b067_2 ?_
  refine w_callS (as := [pI (i : Int), pI ((116 : Nat) : Int)]) (st := []) dJ1_charAt_3b067_3 kJ1_9 ⟨⟨Nat.le_of_ble_eq_true rfl, Nat.zero_le _, Nat.zero_le _⟩, Nat.le_of_ble_eq_true rfl⟩ rfl (Nat.le_of_ble_eq_true rfl) (S2 := S) (fun _ q => q) (stb0 (fun _ _ _ => rfl) (fun _ _ _ => rfl)) (i_check2 hi (by decide) ?_)
  show MW E mJ1_charAt_3b067 S Q T R M _ _ 6 [(0, pX 5), (1, pI (i : Int))] []
  refine w_xload_n dJ1_charAt_3b067_6 rfl ?_
  refine w_iload_n dJ1_charAt_3b067_7 rfl ?_
  refine w_xald (j := 0) (n := 116) (x := (chN i : Int)) (by decide) rfl (by decide) dJ1_charAt_3b067_8 ⟨by omega, by omega⟩ (by rw [Int.toNat_natCast]; exact h1) ?_
  refine w_sipush dJ1_charAt_3b067_9 (by decide) ?_
  refine w_iand dJ1_charAt_3b067_12 ?_
  rw [show bAnd (chN i : Int) 255 = (chN i : Int) by rw [show (255 : Int) = ((255 : Nat) : Int) from rfl, bAnd_nat (by omega) (by decide), h3]]
  refine w_i2c dJ1_charAt_3b067_13 ⟨by omega, by omega⟩ ?_
  exact w_cret dJ1_charAt_3b067_14 rfl ⟨by omega, by omega⟩ ⟨Nat.zero_le _, Nat.zero_le _⟩ h
theorem i_latin (h : Q (some (pI 1)) T R M) : MW E mJ0_isLatin1_aae02 S Q T R M 0 0 0 [(0, pX 1)] [] := by
  refine w_compact dJ0_isLatin1_aae02_0 (wgt1 56 rfl rfl) ?_
  refine w_if_eq dJ0_isLatin1_aae02_3 rfl (by decide) (fun c => absurd c (by decide)) (fun _ => ?_)
  refine w_xload_n dJ0_isLatin1_aae02_6 rfl ?_
  refine w_xcod (j := 0) (by decide) dJ0_isLatin1_aae02_7 (wgt9 143 rfl rfl) ?_
  refine w_if_ne dJ0_isLatin1_aae02_10 rfl (by decide) (fun c => absurd c (by decide)) (fun _ => ?_)
  refine w_iconst dJ0_isLatin1_aae02_13 ?_
  refine w_goto dJ0_isLatin1_aae02_14 rfl ?_
  exact w_zret dJ0_isLatin1_aae02_18 rfl (by decide) ⟨Nat.zero_le _, Nat.zero_le _⟩ h
theorem i_coder (h : Q (some (pI 0)) T R M) : MW E mJ0_coder_7d493 S Q T R M 0 0 0 [(0, pX 1)] [] := by
  refine w_compact dJ0_coder_7d493_0 (wgt1 56 rfl rfl) ?_
  refine w_if_eq dJ0_coder_7d493_3 rfl (by decide) (fun c => absurd c (by decide)) (fun _ => ?_)
  refine w_xload_n dJ0_coder_7d493_6 rfl ?_
  refine w_xcod (j := 0) (by decide) dJ0_coder_7d493_7 (wgt9 143 rfl rfl) ?_
  refine w_goto dJ0_coder_7d493_10 rfl ?_
  exact w_bret0 dJ0_coder_7d493_14 rfl ⟨Nat.zero_le _, Nat.zero_le _⟩ h
theorem i_length (h : Q (some (pI 116)) T R M) : MW E mJ0_length_8abf5 S Q T R M 0 0 0 [(0, pX 1)] [] := by
  refine w_xload_n dJ0_length_8abf5_0 rfl ?_
  refine w_xval (j := 0) (by decide) dJ0_length_8abf5_1 (wgt9 142 rfl rfl) ?_
  refine w_xlen (j := 0) (n := 116) (by decide) rfl dJ0_length_8abf5_4 ?_
  refine w_xload_n dJ0_length_8abf5_5 rfl ?_
  refine w_callX (j := 0) (as := []) (st := [pI ((116 : Nat) : Int)]) dJ0_length_8abf5_6 oJ0_coder_7d493 ⟨iJ0_coder_7d493.1, iJ0_coder_7d493.2, rfl, kJ0_335⟩ ⟨⟨Nat.le_of_ble_eq_true rfl, Nat.zero_le _, Nat.zero_le _⟩, Nat.le_of_ble_eq_true rfl⟩ (by decide) rfl (Nat.le_of_ble_eq_true rfl) (S2 := S) (fun _ q => q) (stb0 (fun _ _ _ => rfl) (fun _ _ _ => rfl)) (i_coder ?_)
  show MW E mJ0_length_8abf5 S Q T R M _ _ 9 [(0, pX 1)] [pI 0, pI ((116 : Nat) : Int)]
  refine w_ishr dJ0_length_8abf5_9 ?_
  rw [show bShr ((116 : Nat) : Int) 0 = 116 by decide +kernel]
  exact w_iret dJ0_length_8abf5_10 rfl ⟨Nat.zero_le _, Nat.zero_le _⟩ h
theorem i_charAt {i : Nat} (hi : i < 116) (h : Q (some (pI (chN i : Int))) T R M) : MW E mJ0_charAt_5068e S Q T R M 0 0 0 [(0, pX 1), (1, pI (i : Int))] [] := by
  have h2 := (chN_ok i hi).2.1
  refine w_xload_n dJ0_charAt_5068e_0 rfl ?_
  refine w_callX (j := 0) (as := []) (st := []) dJ0_charAt_5068e_1 oJ0_isLatin1_aae02 ⟨iJ0_isLatin1_aae02.1, iJ0_isLatin1_aae02.2, rfl, kJ0_492⟩ ⟨⟨Nat.le_of_ble_eq_true rfl, Nat.zero_le _, Nat.zero_le _⟩, Nat.le_of_ble_eq_true rfl⟩ (by decide) rfl (Nat.le_of_ble_eq_true rfl) (S2 := S) (fun _ q => q) (stb0 (fun _ _ _ => rfl) (fun _ _ _ => rfl)) (i_latin ?_)
  show MW E mJ0_charAt_5068e S Q T R M _ _ 4 [(0, pX 1), (1, pI (i : Int))] [pI 1]
  refine w_if_eq dJ0_charAt_5068e_4 rfl (by decide) (fun c => absurd c (by decide)) (fun _ => ?_)
  refine w_xload_n dJ0_charAt_5068e_7 rfl ?_
  refine w_xval (j := 0) (by decide) dJ0_charAt_5068e_8 (wgt9 142 rfl rfl) ?_
  refine w_iload_n dJ0_charAt_5068e_11 rfl ?_
  refine w_callS (as := [pX 5, pI (i : Int)]) (st := []) dJ0_charAt_5068e_12 kJ0_495 ⟨⟨Nat.le_of_ble_eq_true rfl, Nat.zero_le _, Nat.zero_le _⟩, Nat.le_of_ble_eq_true rfl⟩ rfl (Nat.le_of_ble_eq_true rfl) (S2 := S) (fun _ q => q) (stb0 (fun _ _ _ => rfl) (fun _ _ _ => rfl)) (i_charL hi ?_)
  show MW E mJ0_charAt_5068e S Q T R M _ _ 15 [(0, pX 1), (1, pI (i : Int))] [pI (chN i : Int)]
  exact w_cret dJ0_charAt_5068e_15 rfl ⟨by omega, by omega⟩ ⟨Nat.zero_le _, Nat.zero_le _⟩ h
def lbF (c : Int) (k : Nat) : Int := if k < 6 then bShl (c - 97 + 1) (5 * (5 - (k : Int))) else 0
theorem i_bits {c : Int} {k : Nat} (hk : k < 1000) (h : Q (some (pI (lbF c k))) T R M) : MW E mX8_letterBits S Q T R M 0 0 0 [(0, pI c), (1, pI (k : Int))] [] := by
  refine w_iload_n dX8_letterBits_0 rfl ?_
  refine w_bipush dX8_letterBits_1 (by decide) ?_
  refine w_icmp_ge dX8_letterBits_3 rfl ⟨⟨by omega, by omega⟩, ⟨by decide, by decide⟩⟩ (fun q => ?_) (fun q => ?_)
  · refine w_iconst dX8_letterBits_21 ?_
    unfold lbF at h; rw [if_neg (by omega)] at h
    exact w_iret dX8_letterBits_22 rfl ⟨Nat.zero_le _, Nat.zero_le _⟩ h
  · refine w_iload_n dX8_letterBits_6 rfl ?_
    refine w_bipush dX8_letterBits_7 (by decide) ?_
    refine w_isub dX8_letterBits_9 ?_
    refine w_iconst dX8_letterBits_10 ?_
    refine w_iadd dX8_letterBits_11 ?_
    refine w_iconst dX8_letterBits_12 ?_
    refine w_iconst dX8_letterBits_13 ?_
    refine w_iload_n dX8_letterBits_14 rfl ?_
    refine w_isub dX8_letterBits_15 ?_
    refine w_imul dX8_letterBits_16 ?_
    refine w_ishl dX8_letterBits_17 ?_
    refine w_goto dX8_letterBits_18 rfl ?_
    unfold lbF at h; rw [if_pos (by omega)] at h
    exact w_iret dX8_letterBits_22 rfl ⟨Nat.zero_le _, Nat.zero_le _⟩ h
end CHARS
