/-! a growing world -/
def Fr0 (n : Nat) (R : Rfs) (M : Mem) : Prop := ∀ b, n ≤ b → ∀ k, M b k = 0 ∧ R b k = none
theorem Fr0.le {n n' : Nat} {R : Rfs} {M : Mem} (h : Fr0 n R M) (hn : n ≤ n') : Fr0 n' R M := fun b hb k => h b (by omega) k
theorem Fr0.uR {n a k : Nat} {v : Option Nat} {R : Rfs} {M : Mem} (h : Fr0 n R M) (ha : a < n) : Fr0 n (upR R a k v) M := fun b hb j => ⟨(h b hb j).1, by rw [upR_ne _ _ _ (by omega)]; exact (h b hb j).2⟩
theorem Fr0.uM {n a k : Nat} {v : Int} {R : Rfs} {M : Mem} (h : Fr0 n R M) (ha : a < n) : Fr0 n R (upM M a k v) := fun b hb j => ⟨by rw [upM_ne _ _ _ (by omega)]; exact (h b hb j).1, (h b hb j).2⟩
theorem gA {T : Shp} {a : Nat} {t1 t2 : Nat × Nat} (h : T[a]? = some t1) : (T ++ [t2])[a]? = some t1 := by
  rw [List.getElem?_append_left (List.getElem?_eq_some_iff.mp h).1]; exact h
theorem gN {T : Shp} {n : Nat} {t2 : Nat × Nat} (h : T.length = n) : (T ++ [t2])[n]? = some t2 := by
  subst h
  rw [List.getElem?_append_right (Nat.le_refl _), Nat.sub_self]; rfl
theorem okL {n a : Nat} (h : a < n) : ([(0, pR a)] : List (Nat × PV)).all (fun q => rfOk n q.2) = true := by simp [rfOk, h]
theorem okR {n b : Nat} {st : List PV} (h : b < n) (t : st.all (rfOk n) = true) : (pR b :: st).all (rfOk n) = true := by simp only [List.all_cons, t, Bool.and_true, rfOk, decide_eq_true_eq]; exact h
theorem okI {n : Nat} {x : Int} {st : List PV} (t : st.all (rfOk n) = true) : (pI x :: st).all (rfOk n) = true := by simp only [List.all_cons, t, Bool.and_true, rfOk]
