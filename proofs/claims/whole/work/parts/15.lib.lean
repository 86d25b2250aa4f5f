/-! a few facts of the world that the printed conditions use -/
def isSt (s : Nat) : Prop := T0[s]? = some (7, 0) ∧ R0 s 6 = some (s + 1) ∧ T0[s + 1]? = some (20, 8)
theorem isSt_36 : isSt 36 := ⟨rfl, rfl, rfl⟩
theorem isSt_38 : isSt 38 := ⟨rfl, rfl, rfl⟩
theorem isSt_40 : isSt 40 := ⟨rfl, rfl, rfl⟩
def strZ (j : Nat) (i : Int) : Int := ((strB.getD j []).getD i.toNat 0).toInt
theorem strZ_ok (j : Nat) (i : Int) : (strB.getD j []).getD i.toNat 0 = Int32.ofInt (strZ j i) := by rw [strZ, Int32.ofInt_toInt]
theorem strZ_r (j : Nat) (i : Int) : iR (strZ j i) := i32_rg _
