/-! how many bits are set: Integer.bitCount, the reference's manyOf -/
theorem bUshr_nat {m k : Nat} (hm : m < 2147483648) (hk : k < 32) : bUshr (m : Int) (k : Int) = ((m >>> k : Nat) : Int) := by
  have h1 : m >>> k ≤ m := by rw [Nat.shiftRight_eq_div_pow]; exact Nat.div_le_self _ _
  have e1 : ∀ k, k < 32 → (Int32.ofInt ((k : Nat) : Int)).toUInt32 &&& Int32.toUInt32 31 = UInt32.ofNat k := by decide
  unfold bUshr
  rw [e1 k hk]
  have e2 : (Int32.ofInt (m : Int)).toUInt32 = UInt32.ofNat m := by
    apply UInt32.toBitVec_inj.mp
    show (Int32.ofInt (m : Int)).toBitVec = _
    rw [bv32 hm]; rfl
  rw [e2]
  show (UInt32.ofNat m >>> UInt32.ofNat k).toBitVec.toInt = _
  rw [UInt32.toBitVec_shiftRight]
  have e3 : (UInt32.ofNat m).toBitVec >>> ((UInt32.ofNat k).toBitVec % 32) = BitVec.ofNat 32 (m >>> k) := by
    apply BitVec.eq_of_toNat_eq
    simp
    rw [Nat.mod_eq_of_lt (a := m) (by omega), Nat.mod_eq_of_lt hk, Nat.mod_eq_of_lt (by omega)]
  rw [e3, bvI (by omega)]
def popN : Nat → Nat → Nat
  | 0, _ => 0
  | m + 1, x => popN m x + bt x m
abbrev pop (x : Nat) : Nat := popN 17 x
theorem popN_le (m x : Nat) : popN m x ≤ m := by
  induction m with
  | zero => exact Nat.le_refl _
  | succ m ih => have := bt_lt x m; simp only [popN]; omega
def bcN (x : Nat) : Nat :=
  let a := x - ((x >>> 1) &&& 1431655765)
  let b := (a &&& 858993459) + ((a >>> 2) &&& 858993459)
  let c := (b + (b >>> 4)) &&& 252645135
  let d := c + (c >>> 8)
  let e := d + (d >>> 16)
  e &&& 63
theorem bt_half (x m : Nat) : bt x (m + 1) = bt (x / 2) m := by
  unfold bt
  rw [Nat.div_div_eq_div_mul, Nat.pow_succ, Nat.mul_comm]
theorem popN_half (m x : Nat) : popN (m + 1) x = popN m (x / 2) + x % 2 := by
  induction m with
  | zero => simp [popN, bt]
  | succ m ih =>
    show popN (m + 1) x + bt x (m + 1) = popN m (x / 2) + bt (x / 2) m + x % 2
    rw [ih, bt_half]; omega
theorem popN_small {m x : Nat} (h : x < 2 ^ m) : popN (m + 1) x = popN m x := by
  show popN m x + bt x m = popN m x
  unfold bt
  rw [Nat.div_eq_of_lt h]; rfl
theorem popN_ext {m x : Nat} (h : x < 2 ^ m) (j : Nat) : popN (m + j) x = popN m x := by
  induction j with
  | zero => rfl
  | succ j ih => rw [← Nat.add_assoc, popN_small (Nat.lt_of_lt_of_le h (Nat.pow_le_pow_right (by decide) (Nat.le_add_right _ _))), ih]
def bcChk : Nat → Nat → Bool
  | 0, _ => true
  | m + 1, x => Nat.beq (bcN (x + m)) (bcN ((x + m) >>> 1) + ((x + m) &&& 1)) && bcChk m x
theorem bcChk_ok {m x : Nat} (h : bcChk m x = true) : ∀ y, x ≤ y → y < x + m → bcN y = bcN (y >>> 1) + (y &&& 1) := by
  induction m with
  | zero => intro y h1 h2; omega
  | succ m ih =>
    simp only [bcChk, Bool.and_eq_true] at h
    intro y h1 h2
    by_cases hy : y = x + m
    · subst hy; exact Nat.eq_of_beq_eq_true h.1
    · exact ih h.2 y h1 (by omega)
theorem bc_0 : bcChk 16384 0 = true := by decide +kernel
theorem bc_1 : bcChk 16384 16384 = true := by decide +kernel
theorem bc_2 : bcChk 16384 32768 = true := by decide +kernel
theorem bc_3 : bcChk 16384 49152 = true := by decide +kernel
theorem bc_4 : bcChk 16384 65536 = true := by decide +kernel
theorem bc_5 : bcChk 16384 81920 = true := by decide +kernel
theorem bc_6 : bcChk 16384 98304 = true := by decide +kernel
theorem bc_7 : bcChk 16384 114688 = true := by decide +kernel
theorem bc_all {y : Nat} (h : y < 131072) : bcN y = bcN (y >>> 1) + (y &&& 1) := by
  rcases Nat.lt_or_ge y 65536 with h1 | h1
  · rcases Nat.lt_or_ge y 32768 with h2 | h2
    · rcases Nat.lt_or_ge y 16384 with h3 | h3
      · exact bcChk_ok bc_0 y (by omega) (by omega)
      · exact bcChk_ok bc_1 y (by omega) (by omega)
    · rcases Nat.lt_or_ge y 49152 with h3 | h3
      · exact bcChk_ok bc_2 y (by omega) (by omega)
      · exact bcChk_ok bc_3 y (by omega) (by omega)
  · rcases Nat.lt_or_ge y 98304 with h2 | h2
    · rcases Nat.lt_or_ge y 81920 with h3 | h3
      · exact bcChk_ok bc_4 y (by omega) (by omega)
      · exact bcChk_ok bc_5 y (by omega) (by omega)
    · rcases Nat.lt_or_ge y 114688 with h3 | h3
      · exact bcChk_ok bc_6 y (by omega) (by omega)
      · exact bcChk_ok bc_7 y (by omega) (by omega)
theorem bc_pop : ∀ m y : Nat, m ≤ 17 → y < 2 ^ m → bcN y = popN m y := by
  intro m
  induction m with
  | zero =>
    intro y _ h
    have : y = 0 := by simpa using h
    subst this; decide
  | succ m ih =>
    intro y hm h
    have hy : y < 131072 := Nat.lt_of_lt_of_le h (by have : 2 ^ (m + 1) ≤ 2 ^ 17 := Nat.pow_le_pow_right (by decide) hm; simpa using this)
    have e1 : y >>> 1 = y / 2 := by rw [Nat.shiftRight_eq_div_pow]
    rw [bc_all hy, e1, Nat.and_one_is_mod, popN_half, ih (y / 2) (by omega) (by rw [Nat.pow_succ] at h; omega)]
theorem bcN_pop {y : Nat} (h : y < 131072) : bcN y = pop y := bc_pop 17 y (by decide) (by simpa using h)
theorem nsub {a b : Nat} (h : b ≤ a) : (a : Int) - (b : Int) = ((a - b : Nat) : Int) := by omega
theorem nadd (a b : Nat) : (a : Int) + (b : Int) = ((a + b : Nat) : Int) := by omega
theorem shr_le (a k : Nat) : a >>> k ≤ a := by rw [Nat.shiftRight_eq_div_pow]; exact Nat.div_le_self _ _
theorem c_bitCount {E : Scr} {f : Int → Mem → Prop} {M : Mem} {x : Nat} (hx : x < 131072) (h : f ((pop x : Nat) : Int) M) : CI E mJ6_bitCount_0f7a4 [pI (x : Int)] M f := by
  apply vJ6_bitCount_0f7a4_0
  rw [← bcN_pop hx] at h
  have a0 : x >>> 1 ≤ x := shr_le _ _
  have a1 : (x >>> 1) &&& 1431655765 ≤ x >>> 1 := Nat.and_le_left
  rw [show bUshr (x : Int) 1 = ((x >>> 1 : Nat) : Int) from bUshr_nat (k := 1) (by omega) (by decide), show bAnd ((x >>> 1 : Nat) : Int) 1431655765 = _ from bAnd_nat (b := 1431655765) (by omega) (by decide), nsub (by omega)]
  generalize ha : x - ((x >>> 1) &&& 1431655765) = a
  have a2 : a ≤ x := by omega
  have a3 : a &&& 858993459 ≤ a := Nat.and_le_left
  have a4 : a >>> 2 ≤ a := shr_le _ _
  have a5 : (a >>> 2) &&& 858993459 ≤ a >>> 2 := Nat.and_le_left
  rw [show bAnd (a : Int) 858993459 = _ from bAnd_nat (b := 858993459) (by omega) (by decide), show bUshr (a : Int) 2 = ((a >>> 2 : Nat) : Int) from bUshr_nat (k := 2) (by omega) (by decide), show bAnd ((a >>> 2 : Nat) : Int) 858993459 = _ from bAnd_nat (b := 858993459) (by omega) (by decide), nadd]
  generalize hb : (a &&& 858993459) + ((a >>> 2) &&& 858993459) = b
  have b1 : b ≤ 2 * x := by omega
  have b2 : b >>> 4 ≤ b := shr_le _ _
  have b3 : (b + (b >>> 4)) &&& 252645135 ≤ b + (b >>> 4) := Nat.and_le_left
  rw [show bUshr (b : Int) 4 = ((b >>> 4 : Nat) : Int) from bUshr_nat (k := 4) (by omega) (by decide), nadd, show bAnd ((b + (b >>> 4) : Nat) : Int) 252645135 = _ from bAnd_nat (b := 252645135) (by omega) (by decide)]
  generalize hc : (b + (b >>> 4)) &&& 252645135 = c
  have c1 : c ≤ 4 * x := by omega
  have c2 : c >>> 8 ≤ c := shr_le _ _
  rw [show bUshr (c : Int) 8 = ((c >>> 8 : Nat) : Int) from bUshr_nat (k := 8) (by omega) (by decide), nadd]
  generalize hd : c + (c >>> 8) = d
  have d2 : d >>> 16 ≤ d := shr_le _ _
  rw [show bUshr (d : Int) 16 = ((d >>> 16 : Nat) : Int) from bUshr_nat (k := 16) (by omega) (by decide), nadd, show bAnd ((d + (d >>> 16) : Nat) : Int) 63 = _ from bAnd_nat (b := 63) (by omega) (by decide)]
  have e9 : bcN x = (d + (d >>> 16)) &&& 63 := by
    unfold bcN
    simp only [ha, hb, hc, hd]
  rw [← e9]
  exact h
theorem c_manyOf_loop {E : Scr} {f : Int → Mem → Prop} {M : Mem} {x : Nat} (hx : x < 2147483648) (h : f ((pop x : Nat) : Int) M) : ∀ j k : Nat, k + j = 17 → KW E mX11_manyOf (qI f) M 4 [(0, pI (x : Int)), (1, pI ((popN k x : Nat) : Int)), (2, pI (k : Int))] [] := by
  intro j
  induction j with
  | zero =>
    intro k hk
    have : k = 17 := by omega
    subst this
    exact vX11_manyOf_4 _ _ _ ⟨⟨by omega, by omega⟩, fun _ => h, fun c => absurd c (by omega)⟩
  | succ j ih =>
    intro k hk
    refine vX11_manyOf_4 _ _ _ ⟨⟨by omega, by omega⟩, fun c => absurd c (by omega), fun c => ?_⟩
    rw [bBit_nat hx (by omega)]
    exact ih (k + 1) (by omega)
theorem c_manyOf {E : Scr} {f : Int → Mem → Prop} {M : Mem} {x : Nat} (hx : x < 2147483648) (h : f ((pop x : Nat) : Int) M) : CI E mX11_manyOf [pI (x : Int)] M f :=
  vX11_manyOf_0 _ (c_manyOf_loop hx h 17 0 rfl)
