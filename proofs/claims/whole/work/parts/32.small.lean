/-! small methods of the reference -/
theorem lAnd_mask (z : Int) : lAnd z 2147483647 = z % 2147483648 := by
  unfold lAnd
  have h1 : (Int64.ofInt z &&& Int64.ofInt 2147483647).toInt = ((Int64.ofInt z).toBitVec &&& (Int64.ofInt 2147483647).toBitVec).toInt := rfl
  rw [h1]
  have h2 : (Int64.ofInt 2147483647).toBitVec = BitVec.ofNat 64 2147483647 := by decide
  have h3 : (Int64.ofInt z).toBitVec = BitVec.ofInt 64 z := rfl
  rw [h2, h3]
  have h4 : (BitVec.ofInt 64 z &&& BitVec.ofNat 64 2147483647).toNat = (z % 2147483648).toNat := by
    rw [BitVec.toNat_and, BitVec.toNat_ofInt, BitVec.toNat_ofNat]
    have : (2147483647 % 2 ^ 64 : Nat) = 2 ^ 31 - 1 := by decide
    rw [this, Nat.and_two_pow_sub_one_eq_mod]
    omega
  have h5 : (BitVec.ofInt 64 z &&& BitVec.ofNat 64 2147483647).toNat < 2 ^ 63 := by rw [h4]; omega
  rw [BitVec.toInt_eq_toNat_of_lt (by omega), h4]
  omega
theorem c_isOf {E : Scr} {f : Int → Mem → Prop} {M : Mem} {x k : Nat} (hx : x < 2147483648) (hk : k < 32) (h : f ((bt x k : Nat) : Int) M) : CI E mX11_isOf [pI (x : Int), pI (k : Int)] M f := by
  apply vX11_isOf_0
  rw [bBit_nat hx hk]
  have hb := bt_lt x k
  refine ⟨fun c => ?_, fun c => ?_⟩
  · have e : bt x k = 0 := by omega
    rw [e] at h; exact h
  · have e : bt x k = 1 := by omega
    rw [e] at h; exact h
theorem c_isIn {E : Scr} {f : Int → Mem → Prop} {M : Mem} {x lo hi : Int} (hx : iR x) (hl : iR lo) (hh : iR hi) (h1 : lo ≤ x ∧ x ≤ hi → f 1 M) (h0 : ¬ (lo ≤ x ∧ x ≤ hi) → f 0 M) : CI E mX11_isIn [pI x, pI lo, pI hi] M f :=
  vX11_isIn_0 _ _ _ ⟨hx, hl, fun c => h0 (by omega), fun c => ⟨hx, hh, fun d => h0 (by omega), fun d => h1 (by omega)⟩⟩
theorem c_isLatch {E : Scr} {f : Int → Mem → Prop} {M : Mem} {x : Int} {n : Nat} (hx : iR x) (hn : M 98 12 = (n : Int)) (h1 : ∀ l : Nat, x = (l : Int) → l < n → f 1 M) (h0 : ¬ (0 ≤ x ∧ x < n) → f 0 M) : CI E mX11_isLatch [pR 98, pI x] M f := by
  apply vX11_isLatch_0
  rw [hn]
  exact ⟨hx, fun c => h0 (by omega), fun c _ => ⟨hx, fun d => h0 (by omega), fun d => h1 x.toNat (by omega) (by omega)⟩⟩
theorem c_isRow {E : Scr} {f : Int → Mem → Prop} {M : Mem} {x : Int} {n : Nat} (hx : iR x) (hn : M 98 12 = (n : Int)) (hn8 : n ≤ 8) (h1 : ∀ r : Nat, x = (r : Int) → r < 2 ^ n → f 1 M) (h0 : ¬ (0 ≤ x ∧ x < ((2 ^ n : Nat) : Int)) → f 0 M) : CI E mX11_isRow [pR 98, pI x] M f := by
  apply vX11_isRow_0
  rw [hn, bOne_nat (by omega)]
  exact ⟨hx, fun c => h0 (by omega), fun c _ => ⟨hx, fun d => h0 (by omega), fun d => h1 x.toNat (by omega) (by omega)⟩⟩
theorem pw8 {n : Nat} (h : n ≤ 8) : 2 ^ n ≤ 256 := by
  have : 2 ^ n ≤ 2 ^ 8 := Nat.pow_le_pow_right (by decide) h
  simpa using this
theorem c_canNow {E : Scr} {f : Int → Mem → Prop} {M : Mem} {b row mm s : Nat} (hb : b < 2) (h62 : M 98 62 = 0) (hr : M 125 b = (row : Int)) (hrow : row < 256) (hm : M 123 row = (mm : Int)) (hmm : mm < 256) (hs : M 126 b = (s : Int)) (hs2 : s < 256) (h : f ((andN mm s : Nat) : Int) M) : CI E mX11_canNow [pR 98, pI (b : Int)] M f := by
  apply vX11_canNow_0
  intro _
  refine ⟨fun _ => ⟨⟨by omega, by omega⟩, fun _ => ?_⟩, fun c => absurd h62 c⟩
  rw [Int.toNat_natCast, hr, Int.toNat_natCast]
  refine ⟨⟨by omega, by omega⟩, fun _ => ⟨⟨by omega, by omega⟩, fun _ => ?_⟩⟩
  rw [hm, hs, bAndN_nat (by omega) (by omega)]
  exact h
theorem c_canNowF {E : Scr} {f : Int → Mem → Prop} {M : Mem} {b s : Nat} (hb : b < 2) (h62 : M 98 62 = 1) (hs : M 126 b = (s : Int)) (hs2 : s < 256) (h : f ((andN 255 s : Nat) : Int) M) : CI E mX11_canNow [pR 98, pI (b : Int)] M f := by
  apply vX11_canNow_0
  intro _
  refine ⟨fun c => absurd (h62.symm.trans c) (by decide), fun _ => ⟨⟨by omega, by omega⟩, fun _ => ?_⟩⟩
  rw [Int.toNat_natCast, hs, show (255 : Int) = ((255 : Nat) : Int) from rfl, bAndN_nat (by omega) (by omega)]
  exact h
def drawN (x : Int) : Int := (x * 1103515245 + 12345) % 2147483648
theorem c_number1 {E : Scr} {f : Int → Mem → Prop} {M : Mem} (h : f (drawN (M 98 59) / 65536 % 100) (upM M 98 59 (drawN (M 98 59)))) : CI E mX11_number1 [pR 98, pI 100] M f := by
  apply vX11_number1_0
  intro _ _
  have hr : 0 ≤ drawN (M 98 59) ∧ drawN (M 98 59) < 2147483648 := by unfold drawN; omega
  rw [lAnd_mask]
  change _ ∧ lR (Int.tdiv (drawN (M 98 59)) 65536) ∧ _ ∧ lR (Int.tmod (Int.tdiv (drawN (M 98 59)) 65536) 100) ∧ f (Int.tmod (Int.tdiv (drawN (M 98 59)) 65536) 100) (upM M 98 59 (drawN (M 98 59)))
  rw [Int.tdiv_eq_ediv_of_nonneg hr.1, Int.tmod_eq_emod_of_nonneg (by omega)]
  exact ⟨⟨by omega, by omega⟩, ⟨by omega, by omega⟩, by omega, ⟨by omega, by omega⟩, h⟩
