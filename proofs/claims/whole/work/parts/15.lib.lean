/-! a few facts of the world that the printed conditions use -/
def isSt (s : Nat) : Prop := T0[s]? = some (7, 0) ∧ R0 s 6 = some (s + 1) ∧ T0[s + 1]? = some (20, 8)
theorem st_all : ∀ j, j < 20 → R0 45 j = some (46 + 2 * j) ∧ T0[46 + 2 * j]? = some (7, 0) ∧ R0 (46 + 2 * j) 6 = some (46 + 2 * j + 1) ∧ T0[46 + 2 * j + 1]? = some (20, 8) := by decide +kernel
theorem R0_before {i : Int} (h : 0 ≤ i ∧ i < 20) : R0 45 i.toNat = some (46 + 2 * i.toNat) := (st_all i.toNat (by omega)).1
theorem isSt_b {i : Int} (h : 0 ≤ i ∧ i < 20) : isSt (46 + 2 * i.toNat) := (st_all i.toNat (by omega)).2
theorem isSt_36 : isSt 36 := ⟨rfl, rfl, rfl⟩
theorem isSt_38 : isSt 38 := ⟨rfl, rfl, rfl⟩
theorem isSt_40 : isSt 40 := ⟨rfl, rfl, rfl⟩
def strZ (j : Nat) (i : Int) : Int := ((strB.getD j []).getD i.toNat 0).toInt
theorem strZ_ok (j : Nat) (i : Int) : (strB.getD j []).getD i.toNat 0 = Int32.ofInt (strZ j i) := by rw [strZ, Int32.ofInt_toInt]
theorem strZ_r (j : Nat) (i : Int) : iR (strZ j i) := i32_rg _
