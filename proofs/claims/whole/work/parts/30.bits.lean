/-! bits of naturals below 2^31 -/
theorem bv32 {m : Nat} (h : m < 2147483648) : (Int32.ofInt (m : Int)).toBitVec = BitVec.ofNat 32 m := by
  have : Int32.ofInt (m : Int) = Int32.ofNat m := (ofNat_ofInt m).symm
  rw [this]; rfl
theorem bvI {m : Nat} (h : m < 2147483648) : (BitVec.ofNat 32 m).toInt = (m : Int) := by
  rw [BitVec.toInt_eq_toNat_bmod, BitVec.toNat_ofNat, Nat.mod_eq_of_lt (by omega), Int.bmod_def]; omega
theorem bAnd_nat {a b : Nat} (ha : a < 2147483648) (hb : b < 2147483648) : bAnd (a : Int) (b : Int) = ((a &&& b : Nat) : Int) := by
  have h1 : a &&& b ≤ a := Nat.and_le_left
  show (Int32.ofInt (a : Int) &&& Int32.ofInt (b : Int)).toBitVec.toInt = _
  rw [Int32.toBitVec_and, bv32 ha, bv32 hb, ← BitVec.ofNat_and, bvI (by omega)]
theorem bOr_nat {a b : Nat} (ha : a < 2147483648) (hb : b < 2147483648) : bOr (a : Int) (b : Int) = ((a ||| b : Nat) : Int) := by
  have h1 : a ||| b < 2 ^ 31 := Nat.or_lt_two_pow ha hb
  show (Int32.ofInt (a : Int) ||| Int32.ofInt (b : Int)).toBitVec.toInt = _
  rw [Int32.toBitVec_or, bv32 ha, bv32 hb, ← BitVec.ofNat_or, bvI (by omega)]
theorem bXor_nat {a b : Nat} (ha : a < 2147483648) (hb : b < 2147483648) : bXor (a : Int) (b : Int) = ((a ^^^ b : Nat) : Int) := by
  have h1 : a ^^^ b < 2 ^ 31 := Nat.xor_lt_two_pow ha hb
  show (Int32.ofInt (a : Int) ^^^ Int32.ofInt (b : Int)).toBitVec.toInt = _
  rw [Int32.toBitVec_xor, bv32 ha, bv32 hb, ← BitVec.ofNat_xor, bvI (by omega)]
theorem sh31 {k : Nat} (hk : k < 32) : (Int32.ofInt (k : Int) &&& 31) = Int32.ofInt (k : Int) := by
  have : ∀ k, k < 32 → (Int32.ofInt ((k : Nat) : Int) &&& 31) = Int32.ofInt ((k : Nat) : Int) := by decide
  exact this k hk
theorem shT {k : Nat} (hk : k < 32) : ((Int32.ofInt (k : Int)).toBitVec.smod 32).toNat = k := by
  have : ∀ k, k < 32 → ((Int32.ofInt ((k : Nat) : Int)).toBitVec.smod 32).toNat = k := by decide
  exact this k hk
theorem bShr_nat {m k : Nat} (hm : m < 2147483648) (hk : k < 32) : bShr (m : Int) (k : Int) = ((m / 2 ^ k : Nat) : Int) := by
  show (Int32.ofInt (m : Int) >>> (Int32.ofInt (k : Int) &&& 31)).toBitVec.toInt = _
  rw [sh31 hk, Int32.toBitVec_shiftRight, bv32 hm]
  have e1 : ((Int32.ofInt (k : Int)).toBitVec.smod 32) = BitVec.ofNat 32 k := by
    apply BitVec.eq_of_toNat_eq
    rw [shT hk]; simp; omega
  rw [e1, BitVec.sshiftRight_eq', BitVec.toInt_sshiftRight, bvI hm]
  simp only [BitVec.toNat_ofNat]
  rw [Nat.mod_eq_of_lt (by omega), Int.shiftRight_eq_div_pow]
  norm_cast
theorem bShl_nat {m k : Nat} (hk : k < 32) (hm : m * 2 ^ k < 2147483648) : bShl (m : Int) (k : Int) = ((m * 2 ^ k : Nat) : Int) := by
  have hm0 : m < 2147483648 := Nat.lt_of_le_of_lt (Nat.le_mul_of_pos_right m (Nat.two_pow_pos k)) hm
  show (Int32.ofInt (m : Int) <<< (Int32.ofInt (k : Int) &&& 31)).toBitVec.toInt = _
  rw [sh31 hk, Int32.toBitVec_shiftLeft, bv32 hm0]
  have e1 : ((Int32.ofInt (k : Int)).toBitVec.smod 32) = BitVec.ofNat 32 k := by
    apply BitVec.eq_of_toNat_eq
    rw [shT hk]; simp; omega
  have e2 : BitVec.ofNat 32 m <<< BitVec.ofNat 32 k = BitVec.ofNat 32 (m * 2 ^ k) := by
    apply BitVec.eq_of_toNat_eq
    simp [Nat.shiftLeft_eq]
    rw [Nat.mod_eq_of_lt (a := k) (by omega)]
  rw [e1, e2, bvI hm]
/-- x without the bits of s -/
def andN (x s : Nat) : Nat := x &&& (x ^^^ s)
theorem andN_le (x s : Nat) : andN x s ≤ x := Nat.and_le_left
theorem andN_tb (x s i : Nat) : (andN x s).testBit i = (x.testBit i && !s.testBit i) := by
  unfold andN
  rw [Nat.testBit_and, Nat.testBit_xor]
  cases x.testBit i <;> cases s.testBit i <;> rfl
theorem bXor_m1 {s : Nat} (hs : s < 2147483648) : Int32.ofInt (bXor (s : Int) (-1)) = Int32.ofInt (s : Int) ^^^ Int32.ofInt (-1) := by
  unfold bXor; rw [Int32.ofInt_toInt]
theorem bAndN_nat {x s : Nat} (hx : x < 2147483648) (hs : s < 2147483648) : bAnd (x : Int) (bXor (s : Int) (-1)) = ((andN x s : Nat) : Int) := by
  have h1 := andN_le x s
  unfold bAnd
  rw [bXor_m1 hs]
  show (Int32.ofInt (x : Int) &&& (Int32.ofInt (s : Int) ^^^ Int32.ofInt (-1))).toBitVec.toInt = _
  rw [Int32.toBitVec_and, Int32.toBitVec_xor, bv32 hx, bv32 hs]
  have e1 : BitVec.ofNat 32 x &&& (BitVec.ofNat 32 s ^^^ (Int32.ofInt (-1)).toBitVec) = BitVec.ofNat 32 (andN x s) := by
    have e2 : (Int32.ofInt (-1)).toBitVec = BitVec.allOnes 32 := by decide
    rw [e2]
    apply BitVec.eq_of_getLsbD_eq
    intro i hi
    simp only [BitVec.getLsbD_and, BitVec.getLsbD_xor, BitVec.getLsbD_ofNat, BitVec.getLsbD_allOnes, andN_tb, hi, decide_true, Bool.true_and]
    cases x.testBit i <;> cases s.testBit i <;> rfl
  rw [e1, bvI (by omega)]
/-- bit k of x, as the code asks for it -/
def bt (x k : Nat) : Nat := x / 2 ^ k % 2
theorem bt_lt (x k : Nat) : bt x k < 2 := Nat.mod_lt _ (by decide)
theorem bt_tb (x k : Nat) : bt x k = if x.testBit k = true then 1 else 0 := by
  unfold bt
  rw [Nat.testBit_eq_decide_div_mod_eq]
  have := Nat.mod_lt (x / 2 ^ k) (show 2 > 0 by decide)
  by_cases h : x / 2 ^ k % 2 = 1
  · simp [h]
  · simp [h]; omega
theorem bBit_nat {x k : Nat} (hx : x < 2147483648) (hk : k < 32) : bAnd (bShr (x : Int) (k : Int)) 1 = ((bt x k : Nat) : Int) := by
  have h1 : x / 2 ^ k ≤ x := Nat.div_le_self _ _
  rw [bShr_nat hx hk, show (1 : Int) = ((1 : Nat) : Int) from rfl, bAnd_nat (by omega) (by decide), Nat.and_one_is_mod]
  rfl
theorem pw31 {k : Nat} (hk : k < 31) : 2 ^ k < 2147483648 := by
  have : 2 ^ k < 2 ^ 31 := Nat.pow_lt_pow_right (by decide) hk
  simpa using this
theorem bOne_nat {k : Nat} (hk : k < 31) : bShl 1 (k : Int) = ((2 ^ k : Nat) : Int) := by
  have := bShl_nat (m := 1) (k := k) (by omega) (by have := pw31 hk; omega)
  simpa using this
