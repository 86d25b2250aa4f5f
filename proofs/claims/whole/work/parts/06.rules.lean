section RULES
variable {E : Scr} {mi : Mi} {S : Nat → Prop} {Q : Post} {T : Shp} {R : Rfs} {M : Mem} {u v pc : Nat} {ls : List (Nat × PV)} {st : List PV}
/-- the index of a local -/
def lget (ls : List (Nat × PV)) (k : Nat) : Option PV := match ls.find? (fun q => q.1 == k) with
  | some q => some q.2
  | none => none
theorem lget_in {ls : List (Nat × PV)} {k : Nat} {x : PV} (h : lget ls k = some x) : (k, x) ∈ ls := by
  unfold lget at h
  split at h
  · rename_i q hq
    have h1 := List.mem_of_find?_eq_some hq
    have h2 := List.find?_some hq
    simp at h2 h
    obtain ⟨q1, q2⟩ := q
    simp at h2 h
    subst h2; subst h
    exact h1
  · cases h
theorem lget_at {ls : List (Nat × PV)} {k n : Nat} {x : PV} {la : Array Slot} {φ ex : Nat → Nat} (hl : lv_has la n (lsV φ ex ls)) (h : lget ls k = some x) : la[k]? = some (.val (toV φ ex x)) :=
  hl.2.2 (k, toV φ ex x) (List.mem_map.mpr ⟨(k, x), lget_in h, rfl⟩)
def p2 : PV → Bool
  | Sum.inr (Sum.inl _) => true
  | _ => false
theorem toV_cat (φ ex : Nat → Nat) (x : PV) : ((toV φ ex x).category == 2) = p2 x := by
  rcases x with x | x | x | x
  · rfl
  · rfl
  · cases x <;> rfl
  · rfl
/-- a local is written: what it overlaps goes -/
def lset1 (ls : List (Nat × PV)) (k : Nat) (x : PV) : List (Nat × PV) := (k, x) :: ls.filter (fun q => !(q.1 == k) && !(q.1 + 1 == k && p2 q.2))
def lset2 (ls : List (Nat × PV)) (k : Nat) (x : PV) : List (Nat × PV) := (k, x) :: ls.filter (fun q => !(q.1 == k) && (!(q.1 == k + 1) && !(q.1 + 1 == k && p2 q.2)))
theorem lset1_V (φ ex : Nat → Nat) (ls : List (Nat × PV)) (k : Nat) (x : PV) : (k, toV φ ex x) :: (lsV φ ex ls).filter (fun q => !(q.1 == k) && !(q.1 + 1 == k && q.2.category == 2)) = lsV φ ex (lset1 ls k x) := by
  simp only [lsV, lset1, List.map_cons, List.filter_map]
  congr 2
  apply List.filter_congr
  intro q _
  simp only [Function.comp, toV_cat]
theorem lset2_V (φ ex : Nat → Nat) (ls : List (Nat × PV)) (k : Nat) (x : PV) : (k, toV φ ex x) :: (lsV φ ex ls).filter (fun q => !(q.1 == k) && (!(q.1 == k + 1) && !(q.1 + 1 == k && q.2.category == 2))) = lsV φ ex (lset2 ls k x) := by
  simp only [lsV, lset2, List.map_cons, List.filter_map]
  congr 2
  apply List.filter_congr
  intro q _
  simp only [Function.comp, toV_cat]
/-- other locals, each among those that are there -/
theorem w_ls {ls' : List (Nat × PV)} (hs : ∀ q ∈ ls', q ∈ ls) (h : MW E mi S Q T R M u v pc ls' st) : MW E mi S Q T R M u v pc ls st := by
  intro l p e s m args below meth c H locs la D ar A φ ex B hl
  obtain ⟨⟨hx, hb, hr, hml, hts, hown, hlocks, hnm⟩, ⟨hN, hEx, hK, hA⟩, ⟨hP, hD, hS⟩, hR, hRC⟩ := id B
  refine h l p e s m args below meth c H locs la D ar A φ ex B ⟨hl.1, hl.2.1, fun q hq => ?_⟩
  obtain ⟨q0, h0, rfl⟩ := List.mem_map.mp hq
  exact hl.2.2 _ (List.mem_map.mpr ⟨q0, hs q0 h0, rfl⟩)

theorem w_iconst {n : Int} (hd : decode (miC mi) pc = .ok (.iconst n, 1)) (h : MW E mi S Q T R M u v (pc + 1) ls (pI n :: st)) : MW E mi S Q T R M u v pc ls st := by
  intro l p e s m args below meth c H locs la D ar A φ ex B hl
  obtain ⟨⟨hx, hb, hr, hml, hts, hown, hlocks, hnm⟩, ⟨hN, hEx, hK, hA⟩, ⟨hP, hD, hS⟩, hR, hRC⟩ := id B
  exact lv_iconst hx hb hd rfl (h l p e s m args below meth c H locs la D ar A φ ex B hl)
theorem w_bipush {n : Int} (hd : decode (miC mi) pc = .ok (.bipush n, 2)) (hn : -128 ≤ n ∧ n < 128) (h : MW E mi S Q T R M u v (pc + 2) ls (pI n :: st)) : MW E mi S Q T R M u v pc ls st := by
  intro l p e s m args below meth c H locs la D ar A φ ex B hl
  obtain ⟨⟨hx, hb, hr, hml, hts, hown, hlocks, hnm⟩, ⟨hN, hEx, hK, hA⟩, ⟨hP, hD, hS⟩, hR, hRC⟩ := id B
  refine lv_bipush hx hb hd (v := Int32.ofInt n) ?_ (h l p e s m args below meth c H locs la D ar A φ ex B hl)
  rw [← Int32.toInt_inj, Int8.toInt_toInt32, i32_toInt ⟨by omega, by omega⟩, Int8.toInt_ofInt, Int.bmod_def]
  simp only [Int8.size]
  omega
theorem w_sipush {n : Int} (hd : decode (miC mi) pc = .ok (.sipush n, 3)) (hn : -32768 ≤ n ∧ n < 32768) (h : MW E mi S Q T R M u v (pc + 3) ls (pI n :: st)) : MW E mi S Q T R M u v pc ls st := by
  intro l p e s m args below meth c H locs la D ar A φ ex B hl
  obtain ⟨⟨hx, hb, hr, hml, hts, hown, hlocks, hnm⟩, ⟨hN, hEx, hK, hA⟩, ⟨hP, hD, hS⟩, hR, hRC⟩ := id B
  refine lv_sipush hx hb hd (v := Int32.ofInt n) ?_ (h l p e s m args below meth c H locs la D ar A φ ex B hl)
  rw [← Int32.toInt_inj, Int16.toInt_toInt32, i32_toInt ⟨by omega, by omega⟩, Int16.toInt_ofInt, Int.bmod_def]
  simp only [Int16.size]
  omega
theorem w_lconst {n : Fin 2} {x : Int} (hd : decode (miC mi) pc = .ok (.lconst n, 1)) (hx0 : x = ((n : Nat) : Int)) (h : MW E mi S Q T R M u v (pc + 1) ls (pL x :: st)) : MW E mi S Q T R M u v pc ls st := by
  intro l p e s m args below meth c H locs la D ar A φ ex B hl
  obtain ⟨⟨hx, hb, hr, hml, hts, hown, hlocks, hnm⟩, ⟨hN, hEx, hK, hA⟩, ⟨hP, hD, hS⟩, hR, hRC⟩ := id B
  subst hx0
  exact lv_lconst hx hb hd (v := Int64.ofInt ((n : Nat) : Int)) (by rw [Int64.ofInt_eq_ofNat]) (h l p e s m args below meth c H locs la D ar A φ ex B hl)
theorem w_ldc {i : Nat} {n : Int} (hd : decode (miC mi) pc = .ok (.ldc i, 2)) (hw : Cond.constant (miY mi).cls i (Int32.ofInt n) ∈ wgT) (h : MW E mi S Q T R M u v (pc + 2) ls (pI n :: st)) : MW E mi S Q T R M u v pc ls st := by
  intro l p e s m args below meth c H locs la D ar A φ ex B hl
  obtain ⟨⟨hx, hb, hr, hml, hts, hown, hlocks, hnm⟩, ⟨hN, hEx, hK, hA⟩, ⟨hP, hD, hS⟩, hR, hRC⟩ := id B
  exact lv_ldc hx hb hown (hts _ hw) hd (h l p e s m args below meth c H locs la D ar A φ ex B hl)
theorem w_ldcw {i : Nat} {n : Int} (hd : decode (miC mi) pc = .ok (.ldc_w i, 3)) (hw : Cond.constant (miY mi).cls i (Int32.ofInt n) ∈ wgT) (h : MW E mi S Q T R M u v (pc + 3) ls (pI n :: st)) : MW E mi S Q T R M u v pc ls st := by
  intro l p e s m args below meth c H locs la D ar A φ ex B hl
  obtain ⟨⟨hx, hb, hr, hml, hts, hown, hlocks, hnm⟩, ⟨hN, hEx, hK, hA⟩, ⟨hP, hD, hS⟩, hR, hRC⟩ := id B
  exact lv_ldcw hx hb hown (hts _ hw) hd (h l p e s m args below meth c H locs la D ar A φ ex B hl)
theorem w_ldc2 {i : Nat} {n : Int} (hd : decode (miC mi) pc = .ok (.ldc2_w i, 3)) (hw : Cond.constantLong (miY mi).cls i (Int64.ofInt n) ∈ wgT) (h : MW E mi S Q T R M u v (pc + 3) ls (pL n :: st)) : MW E mi S Q T R M u v pc ls st := by
  intro l p e s m args below meth c H locs la D ar A φ ex B hl
  obtain ⟨⟨hx, hb, hr, hml, hts, hown, hlocks, hnm⟩, ⟨hN, hEx, hK, hA⟩, ⟨hP, hD, hS⟩, hR, hRC⟩ := id B
  exact lv_ldc2 hx hb hown (hts _ hw) hd (h l p e s m args below meth c H locs la D ar A φ ex B hl)
theorem w_iload_n {k : Fin 4} {x : Int} (hd : decode (miC mi) pc = .ok (.iload_n k, 1)) (hg : lget ls k = some (pI x)) (h : MW E mi S Q T R M u v (pc + 1) ls (pI x :: st)) : MW E mi S Q T R M u v pc ls st := by
  intro l p e s m args below meth c H locs la D ar A φ ex B hl
  obtain ⟨⟨hx, hb, hr, hml, hts, hown, hlocks, hnm⟩, ⟨hN, hEx, hK, hA⟩, ⟨hP, hD, hS⟩, hR, hRC⟩ := id B
  exact lv_iload_n hx hb hd rfl (lget_at hl hg) (h l p e s m args below meth c H locs la D ar A φ ex B hl)
theorem w_iload {k : Nat} {x : Int} (hd : decode (miC mi) pc = .ok (.iload k, 2)) (hg : lget ls k = some (pI x)) (h : MW E mi S Q T R M u v (pc + 2) ls (pI x :: st)) : MW E mi S Q T R M u v pc ls st := by
  intro l p e s m args below meth c H locs la D ar A φ ex B hl
  obtain ⟨⟨hx, hb, hr, hml, hts, hown, hlocks, hnm⟩, ⟨hN, hEx, hK, hA⟩, ⟨hP, hD, hS⟩, hR, hRC⟩ := id B
  exact lv_iload hx hb hd (lget_at hl hg) (h l p e s m args below meth c H locs la D ar A φ ex B hl)
theorem w_lload_n {k : Fin 4} {x : Int} (hd : decode (miC mi) pc = .ok (.lload_n k, 1)) (hg : lget ls k = some (pL x)) (h : MW E mi S Q T R M u v (pc + 1) ls (pL x :: st)) : MW E mi S Q T R M u v pc ls st := by
  intro l p e s m args below meth c H locs la D ar A φ ex B hl
  obtain ⟨⟨hx, hb, hr, hml, hts, hown, hlocks, hnm⟩, ⟨hN, hEx, hK, hA⟩, ⟨hP, hD, hS⟩, hR, hRC⟩ := id B
  exact lv_lload_n hx hb hd rfl (lget_at hl hg) (h l p e s m args below meth c H locs la D ar A φ ex B hl)
theorem w_lload {k : Nat} {x : Int} (hd : decode (miC mi) pc = .ok (.lload k, 2)) (hg : lget ls k = some (pL x)) (h : MW E mi S Q T R M u v (pc + 2) ls (pL x :: st)) : MW E mi S Q T R M u v pc ls st := by
  intro l p e s m args below meth c H locs la D ar A φ ex B hl
  obtain ⟨⟨hx, hb, hr, hml, hts, hown, hlocks, hnm⟩, ⟨hN, hEx, hK, hA⟩, ⟨hP, hD, hS⟩, hR, hRC⟩ := id B
  exact lv_lload hx hb hd (lget_at hl hg) (h l p e s m args below meth c H locs la D ar A φ ex B hl)
theorem w_aload_n {k : Fin 4} {x : Nat} (hd : decode (miC mi) pc = .ok (.aload_n k, 1)) (hg : lget ls k = some (pR x)) (h : MW E mi S Q T R M u v (pc + 1) ls (pR x :: st)) : MW E mi S Q T R M u v pc ls st := by
  intro l p e s m args below meth c H locs la D ar A φ ex B hl
  obtain ⟨⟨hx, hb, hr, hml, hts, hown, hlocks, hnm⟩, ⟨hN, hEx, hK, hA⟩, ⟨hP, hD, hS⟩, hR, hRC⟩ := id B
  exact lv_aload_n hx hb hd rfl (lget_at hl hg) (h l p e s m args below meth c H locs la D ar A φ ex B hl)
theorem w_aload {k : Nat} {x : Nat} (hd : decode (miC mi) pc = .ok (.aload k, 2)) (hg : lget ls k = some (pR x)) (h : MW E mi S Q T R M u v (pc + 2) ls (pR x :: st)) : MW E mi S Q T R M u v pc ls st := by
  intro l p e s m args below meth c H locs la D ar A φ ex B hl
  obtain ⟨⟨hx, hb, hr, hml, hts, hown, hlocks, hnm⟩, ⟨hN, hEx, hK, hA⟩, ⟨hP, hD, hS⟩, hR, hRC⟩ := id B
  exact lv_aload hx hb hd (lget_at hl hg) (h l p e s m args below meth c H locs la D ar A φ ex B hl)
theorem w_xload_n {k : Fin 4} {x : Nat} (hd : decode (miC mi) pc = .ok (.aload_n k, 1)) (hg : lget ls k = some (pX x)) (h : MW E mi S Q T R M u v (pc + 1) ls (pX x :: st)) : MW E mi S Q T R M u v pc ls st := by
  intro l p e s m args below meth c H locs la D ar A φ ex B hl
  obtain ⟨⟨hx, hb, hr, hml, hts, hown, hlocks, hnm⟩, ⟨hN, hEx, hK, hA⟩, ⟨hP, hD, hS⟩, hR, hRC⟩ := id B
  exact lv_aload_n hx hb hd rfl (lget_at hl hg) (h l p e s m args below meth c H locs la D ar A φ ex B hl)
theorem w_xload {k : Nat} {x : Nat} (hd : decode (miC mi) pc = .ok (.aload k, 2)) (hg : lget ls k = some (pX x)) (h : MW E mi S Q T R M u v (pc + 2) ls (pX x :: st)) : MW E mi S Q T R M u v pc ls st := by
  intro l p e s m args below meth c H locs la D ar A φ ex B hl
  obtain ⟨⟨hx, hb, hr, hml, hts, hown, hlocks, hnm⟩, ⟨hN, hEx, hK, hA⟩, ⟨hP, hD, hS⟩, hR, hRC⟩ := id B
  exact lv_aload hx hb hd (lget_at hl hg) (h l p e s m args below meth c H locs la D ar A φ ex B hl)
theorem w_istore_n {k : Fin 4} {x : Int} (hd : decode (miC mi) pc = .ok (.istore_n k, 1)) (hk : (k : Nat) < miL mi) (h : MW E mi S Q T R M u v (pc + 1) (lset1 ls k (pI x)) st) : MW E mi S Q T R M u v pc ls (pI x :: st) := by
  intro l p e s m args below meth c H locs la D ar A φ ex B hl
  obtain ⟨⟨hx, hb, hr, hml, hts, hown, hlocks, hnm⟩, ⟨hN, hEx, hK, hA⟩, ⟨hP, hD, hS⟩, hR, hRC⟩ := id B
  exact lv_istore_n hx hb hd rfl hl hk (lset1_V φ ex ls k (pI x)) (fun la hl => h l p e s m args below meth c H locs la D ar A φ ex B hl)
theorem w_istore {k : Nat} {x : Int} (hd : decode (miC mi) pc = .ok (.istore k, 2)) (hk : (k : Nat) < miL mi) (h : MW E mi S Q T R M u v (pc + 2) (lset1 ls k (pI x)) st) : MW E mi S Q T R M u v pc ls (pI x :: st) := by
  intro l p e s m args below meth c H locs la D ar A φ ex B hl
  obtain ⟨⟨hx, hb, hr, hml, hts, hown, hlocks, hnm⟩, ⟨hN, hEx, hK, hA⟩, ⟨hP, hD, hS⟩, hR, hRC⟩ := id B
  exact lv_istore hx hb hd hl hk (lset1_V φ ex ls k (pI x)) (fun la hl => h l p e s m args below meth c H locs la D ar A φ ex B hl)
theorem w_lstore_n {k : Fin 4} {x : Int} (hd : decode (miC mi) pc = .ok (.lstore_n k, 1)) (hk : (k : Nat) + 1 < miL mi) (h : MW E mi S Q T R M u v (pc + 1) (lset2 ls k (pL x)) st) : MW E mi S Q T R M u v pc ls (pL x :: st) := by
  intro l p e s m args below meth c H locs la D ar A φ ex B hl
  obtain ⟨⟨hx, hb, hr, hml, hts, hown, hlocks, hnm⟩, ⟨hN, hEx, hK, hA⟩, ⟨hP, hD, hS⟩, hR, hRC⟩ := id B
  exact lv_lstore_n hx hb hd rfl hl hk (lset2_V φ ex ls k (pL x)) (fun la hl => h l p e s m args below meth c H locs la D ar A φ ex B hl)
theorem w_lstore {k : Nat} {x : Int} (hd : decode (miC mi) pc = .ok (.lstore k, 2)) (hk : (k : Nat) + 1 < miL mi) (h : MW E mi S Q T R M u v (pc + 2) (lset2 ls k (pL x)) st) : MW E mi S Q T R M u v pc ls (pL x :: st) := by
  intro l p e s m args below meth c H locs la D ar A φ ex B hl
  obtain ⟨⟨hx, hb, hr, hml, hts, hown, hlocks, hnm⟩, ⟨hN, hEx, hK, hA⟩, ⟨hP, hD, hS⟩, hR, hRC⟩ := id B
  exact lv_lstore hx hb hd hl hk (lset2_V φ ex ls k (pL x)) (fun la hl => h l p e s m args below meth c H locs la D ar A φ ex B hl)
theorem w_astore_n {k : Fin 4} {x : Nat} (hd : decode (miC mi) pc = .ok (.astore_n k, 1)) (hk : (k : Nat) < miL mi) (h : MW E mi S Q T R M u v (pc + 1) (lset1 ls k (pR x)) st) : MW E mi S Q T R M u v pc ls (pR x :: st) := by
  intro l p e s m args below meth c H locs la D ar A φ ex B hl
  obtain ⟨⟨hx, hb, hr, hml, hts, hown, hlocks, hnm⟩, ⟨hN, hEx, hK, hA⟩, ⟨hP, hD, hS⟩, hR, hRC⟩ := id B
  exact lv_astore_n hx hb hd rfl hl hk (lset1_V φ ex ls k (pR x)) (fun la hl => h l p e s m args below meth c H locs la D ar A φ ex B hl)
theorem w_astore {k : Nat} {x : Nat} (hd : decode (miC mi) pc = .ok (.astore k, 2)) (hk : (k : Nat) < miL mi) (h : MW E mi S Q T R M u v (pc + 2) (lset1 ls k (pR x)) st) : MW E mi S Q T R M u v pc ls (pR x :: st) := by
  intro l p e s m args below meth c H locs la D ar A φ ex B hl
  obtain ⟨⟨hx, hb, hr, hml, hts, hown, hlocks, hnm⟩, ⟨hN, hEx, hK, hA⟩, ⟨hP, hD, hS⟩, hR, hRC⟩ := id B
  exact lv_astore hx hb hd hl hk (lset1_V φ ex ls k (pR x)) (fun la hl => h l p e s m args below meth c H locs la D ar A φ ex B hl)
theorem w_iinc {k : Nat} {n x : Int} (hd : decode (miC mi) pc = .ok (.iinc k n, 3)) (hg : lget ls k = some (pI x)) (hk : k < miL mi) (h : MW E mi S Q T R M u v (pc + 3) (lset1 ls k (pI (x + n))) st) : MW E mi S Q T R M u v pc ls st := by
  intro l p e s m args below meth c H locs la D ar A φ ex B hl
  obtain ⟨⟨hx, hb, hr, hml, hts, hown, hlocks, hnm⟩, ⟨hN, hEx, hK, hA⟩, ⟨hP, hD, hS⟩, hR, hRC⟩ := id B
  have h1 : (k, Value.int (Int32.ofInt x)) ∈ lsV φ ex ls := List.mem_map.mpr ⟨(k, pI x), lget_in hg, rfl⟩
  obtain ⟨j, hj⟩ := List.getElem?_of_mem h1
  exact lv_iinc hx hb hd hl hj (v := Int32.ofInt (x + n)) (Int32.ofInt_add x n).symm hk (lset1_V φ ex ls k (pI (x + n))) (fun la hl => h l p e s m args below meth c H locs la D ar A φ ex B hl)
theorem w_iadd {x y : Int} (hd : decode (miC mi) pc = .ok (.iadd, 1)) (h : MW E mi S Q T R M u v (pc + 1) ls (pI (x + y) :: st)) : MW E mi S Q T R M u v pc ls (pI y :: pI x :: st) := by
  intro l p e s m args below meth c H locs la D ar A φ ex B hl
  obtain ⟨⟨hx, hb, hr, hml, hts, hown, hlocks, hnm⟩, ⟨hN, hEx, hK, hA⟩, ⟨hP, hD, hS⟩, hR, hRC⟩ := id B
  refine lv_iadd hx hb hd ?_
  rw [← Int32.ofInt_add]
  exact (h l p e s m args below meth c H locs la D ar A φ ex B hl)
theorem w_isub {x y : Int} (hd : decode (miC mi) pc = .ok (.isub, 1)) (h : MW E mi S Q T R M u v (pc + 1) ls (pI (x - y) :: st)) : MW E mi S Q T R M u v pc ls (pI y :: pI x :: st) := by
  intro l p e s m args below meth c H locs la D ar A φ ex B hl
  obtain ⟨⟨hx, hb, hr, hml, hts, hown, hlocks, hnm⟩, ⟨hN, hEx, hK, hA⟩, ⟨hP, hD, hS⟩, hR, hRC⟩ := id B
  refine lv_isub hx hb hd ?_
  rw [← Int32.ofInt_sub]
  exact (h l p e s m args below meth c H locs la D ar A φ ex B hl)
theorem w_imul {x y : Int} (hd : decode (miC mi) pc = .ok (.imul, 1)) (h : MW E mi S Q T R M u v (pc + 1) ls (pI (x * y) :: st)) : MW E mi S Q T R M u v pc ls (pI y :: pI x :: st) := by
  intro l p e s m args below meth c H locs la D ar A φ ex B hl
  obtain ⟨⟨hx, hb, hr, hml, hts, hown, hlocks, hnm⟩, ⟨hN, hEx, hK, hA⟩, ⟨hP, hD, hS⟩, hR, hRC⟩ := id B
  refine lv_imul hx hb hd ?_
  rw [← Int32.ofInt_mul]
  exact (h l p e s m args below meth c H locs la D ar A φ ex B hl)
theorem w_ladd {x y : Int} (hd : decode (miC mi) pc = .ok (.ladd, 1)) (h : MW E mi S Q T R M u v (pc + 1) ls (pL (x + y) :: st)) : MW E mi S Q T R M u v pc ls (pL y :: pL x :: st) := by
  intro l p e s m args below meth c H locs la D ar A φ ex B hl
  obtain ⟨⟨hx, hb, hr, hml, hts, hown, hlocks, hnm⟩, ⟨hN, hEx, hK, hA⟩, ⟨hP, hD, hS⟩, hR, hRC⟩ := id B
  refine lv_ladd hx hb hd ?_
  rw [← Int64.ofInt_add]
  exact (h l p e s m args below meth c H locs la D ar A φ ex B hl)
theorem w_lsub {x y : Int} (hd : decode (miC mi) pc = .ok (.lsub, 1)) (h : MW E mi S Q T R M u v (pc + 1) ls (pL (x - y) :: st)) : MW E mi S Q T R M u v pc ls (pL y :: pL x :: st) := by
  intro l p e s m args below meth c H locs la D ar A φ ex B hl
  obtain ⟨⟨hx, hb, hr, hml, hts, hown, hlocks, hnm⟩, ⟨hN, hEx, hK, hA⟩, ⟨hP, hD, hS⟩, hR, hRC⟩ := id B
  refine lv_lsub hx hb hd ?_
  rw [← Int64.ofInt_sub]
  exact (h l p e s m args below meth c H locs la D ar A φ ex B hl)
theorem w_lmul {x y : Int} (hd : decode (miC mi) pc = .ok (.lmul, 1)) (h : MW E mi S Q T R M u v (pc + 1) ls (pL (x * y) :: st)) : MW E mi S Q T R M u v pc ls (pL y :: pL x :: st) := by
  intro l p e s m args below meth c H locs la D ar A φ ex B hl
  obtain ⟨⟨hx, hb, hr, hml, hts, hown, hlocks, hnm⟩, ⟨hN, hEx, hK, hA⟩, ⟨hP, hD, hS⟩, hR, hRC⟩ := id B
  refine lv_lmul hx hb hd ?_
  rw [← Int64.ofInt_mul]
  exact (h l p e s m args below meth c H locs la D ar A φ ex B hl)
theorem w_lneg {x : Int} (hd : decode (miC mi) pc = .ok (.lneg, 1)) (h : MW E mi S Q T R M u v (pc + 1) ls (pL (-x) :: st)) : MW E mi S Q T R M u v pc ls (pL x :: st) := by
  intro l p e s m args below meth c H locs la D ar A φ ex B hl
  obtain ⟨⟨hx, hb, hr, hml, hts, hown, hlocks, hnm⟩, ⟨hN, hEx, hK, hA⟩, ⟨hP, hD, hS⟩, hR, hRC⟩ := id B
  refine lv_lneg hx hb hd ?_
  rw [← Int64.ofInt_neg]
  exact (h l p e s m args below meth c H locs la D ar A φ ex B hl)
def bAnd (x y : Int) : Int := (Int32.ofInt x &&& Int32.ofInt y).toInt
def bOr (x y : Int) : Int := (Int32.ofInt x ||| Int32.ofInt y).toInt
def bXor (x y : Int) : Int := (Int32.ofInt x ^^^ Int32.ofInt y).toInt
def bShl (x y : Int) : Int := (Int32.ofInt x <<< (Int32.ofInt y &&& 31)).toInt
def bShr (x y : Int) : Int := (Int32.ofInt x >>> (Int32.ofInt y &&& 31)).toInt
def lAnd (x y : Int) : Int := (Int64.ofInt x &&& Int64.ofInt y).toInt
theorem i32_div {x y : Int} (hx : iR x) (hy : iR y) : Int32.ofInt (x.tdiv y) = Int32.ofInt x / Int32.ofInt y := by
  rw [← Int32.toInt_inj, Int32.toInt_ofInt, Int32.toInt_div, i32_toInt hx, i32_toInt hy]
theorem i64_div {x y : Int} (hx : lR x) (hy : lR y) : Int64.ofInt (x.tdiv y) = Int64.ofInt x / Int64.ofInt y := by
  rw [← Int64.toInt_inj, Int64.toInt_ofInt, Int64.toInt_div, i64_toInt hx, i64_toInt hy]
theorem i32_rem {x y : Int} (hx : iR x) (hy : iR y) : Int32.ofInt (x.tmod y) = Int32.ofInt x - Int32.ofInt x / Int32.ofInt y * Int32.ofInt y := by
  rw [← i32_div hx hy, ← Int32.ofInt_mul, ← Int32.ofInt_sub, Int.tmod_def, Int.mul_comm]
theorem i64_rem {x y : Int} (hx : lR x) (hy : lR y) : Int64.ofInt (x.tmod y) = Int64.ofInt x - Int64.ofInt x / Int64.ofInt y * Int64.ofInt y := by
  rw [← i64_div hx hy, ← Int64.ofInt_mul, ← Int64.ofInt_sub, Int.tmod_def, Int.mul_comm]
theorem w_iand {x y : Int} (hd : decode (miC mi) pc = .ok (.iand, 1)) (h : MW E mi S Q T R M u v (pc + 1) ls (pI (bAnd x y) :: st)) : MW E mi S Q T R M u v pc ls (pI y :: pI x :: st) := by
  intro l p e s m args below meth c H locs la D ar A φ ex B hl
  obtain ⟨⟨hx, hb, hr, hml, hts, hown, hlocks, hnm⟩, ⟨hN, hEx, hK, hA⟩, ⟨hP, hD, hS⟩, hR, hRC⟩ := id B
  refine lv_iand hx hb hd ?_
  have k := (h l p e s m args below meth c H locs la D ar A φ ex B hl)
  simp only [List.map_cons, toV, bAnd, Int32.ofInt_toInt] at k
  exact k
theorem w_ior {x y : Int} (hd : decode (miC mi) pc = .ok (.ior, 1)) (h : MW E mi S Q T R M u v (pc + 1) ls (pI (bOr x y) :: st)) : MW E mi S Q T R M u v pc ls (pI y :: pI x :: st) := by
  intro l p e s m args below meth c H locs la D ar A φ ex B hl
  obtain ⟨⟨hx, hb, hr, hml, hts, hown, hlocks, hnm⟩, ⟨hN, hEx, hK, hA⟩, ⟨hP, hD, hS⟩, hR, hRC⟩ := id B
  refine lv_ior hx hb hd ?_
  have k := (h l p e s m args below meth c H locs la D ar A φ ex B hl)
  simp only [List.map_cons, toV, bOr, Int32.ofInt_toInt] at k
  exact k
theorem w_ixor {x y : Int} (hd : decode (miC mi) pc = .ok (.ixor, 1)) (h : MW E mi S Q T R M u v (pc + 1) ls (pI (bXor x y) :: st)) : MW E mi S Q T R M u v pc ls (pI y :: pI x :: st) := by
  intro l p e s m args below meth c H locs la D ar A φ ex B hl
  obtain ⟨⟨hx, hb, hr, hml, hts, hown, hlocks, hnm⟩, ⟨hN, hEx, hK, hA⟩, ⟨hP, hD, hS⟩, hR, hRC⟩ := id B
  refine lv_ixor hx hb hd ?_
  have k := (h l p e s m args below meth c H locs la D ar A φ ex B hl)
  simp only [List.map_cons, toV, bXor, Int32.ofInt_toInt] at k
  exact k
theorem w_ishl {x y : Int} (hd : decode (miC mi) pc = .ok (.ishl, 1)) (h : MW E mi S Q T R M u v (pc + 1) ls (pI (bShl x y) :: st)) : MW E mi S Q T R M u v pc ls (pI y :: pI x :: st) := by
  intro l p e s m args below meth c H locs la D ar A φ ex B hl
  obtain ⟨⟨hx, hb, hr, hml, hts, hown, hlocks, hnm⟩, ⟨hN, hEx, hK, hA⟩, ⟨hP, hD, hS⟩, hR, hRC⟩ := id B
  refine lv_ishl hx hb hd ?_
  have k := (h l p e s m args below meth c H locs la D ar A φ ex B hl)
  simp only [List.map_cons, toV, bShl, Int32.ofInt_toInt] at k
  exact k
theorem w_ishr {x y : Int} (hd : decode (miC mi) pc = .ok (.ishr, 1)) (h : MW E mi S Q T R M u v (pc + 1) ls (pI (bShr x y) :: st)) : MW E mi S Q T R M u v pc ls (pI y :: pI x :: st) := by
  intro l p e s m args below meth c H locs la D ar A φ ex B hl
  obtain ⟨⟨hx, hb, hr, hml, hts, hown, hlocks, hnm⟩, ⟨hN, hEx, hK, hA⟩, ⟨hP, hD, hS⟩, hR, hRC⟩ := id B
  refine lv_ishr hx hb hd ?_
  have k := (h l p e s m args below meth c H locs la D ar A φ ex B hl)
  simp only [List.map_cons, toV, bShr, Int32.ofInt_toInt] at k
  exact k
theorem w_land {x y : Int} (hd : decode (miC mi) pc = .ok (.land, 1)) (h : MW E mi S Q T R M u v (pc + 1) ls (pL (lAnd x y) :: st)) : MW E mi S Q T R M u v pc ls (pL y :: pL x :: st) := by
  intro l p e s m args below meth c H locs la D ar A φ ex B hl
  obtain ⟨⟨hx, hb, hr, hml, hts, hown, hlocks, hnm⟩, ⟨hN, hEx, hK, hA⟩, ⟨hP, hD, hS⟩, hR, hRC⟩ := id B
  refine lv_land hx hb hd ?_
  have k := (h l p e s m args below meth c H locs la D ar A φ ex B hl)
  simp only [List.map_cons, toV, lAnd, Int64.ofInt_toInt] at k
  exact k
theorem w_idiv {x y : Int} (hd : decode (miC mi) pc = .ok (.idiv, 1)) (hxy : iR x ∧ iR y ∧ y ≠ 0) (h : MW E mi S Q T R M u v (pc + 1) ls (pI (x.tdiv y) :: st)) : MW E mi S Q T R M u v pc ls (pI y :: pI x :: st) := by
  intro l p e s m args below meth c H locs la D ar A φ ex B hl
  obtain ⟨⟨hx, hb, hr, hml, hts, hown, hlocks, hnm⟩, ⟨hN, hEx, hK, hA⟩, ⟨hP, hD, hS⟩, hR, hRC⟩ := id B
  refine lv_idiv hx hb hd (fun q => hxy.2.2 ((i32_eq hxy.2.1 ⟨by omega, by omega⟩).mp q)) ?_
  rw [← i32_div hxy.1 hxy.2.1]
  exact (h l p e s m args below meth c H locs la D ar A φ ex B hl)
theorem w_irem {x y : Int} (hd : decode (miC mi) pc = .ok (.irem, 1)) (hxy : iR x ∧ iR y ∧ y ≠ 0) (h : MW E mi S Q T R M u v (pc + 1) ls (pI (x.tmod y) :: st)) : MW E mi S Q T R M u v pc ls (pI y :: pI x :: st) := by
  intro l p e s m args below meth c H locs la D ar A φ ex B hl
  obtain ⟨⟨hx, hb, hr, hml, hts, hown, hlocks, hnm⟩, ⟨hN, hEx, hK, hA⟩, ⟨hP, hD, hS⟩, hR, hRC⟩ := id B
  refine lv_irem hx hb hd (fun q => hxy.2.2 ((i32_eq hxy.2.1 ⟨by omega, by omega⟩).mp q)) ?_
  rw [← i32_rem hxy.1 hxy.2.1]
  exact (h l p e s m args below meth c H locs la D ar A φ ex B hl)
theorem w_ldiv {x y : Int} (hd : decode (miC mi) pc = .ok (.ldiv, 1)) (hxy : lR x ∧ lR y ∧ y ≠ 0) (h : MW E mi S Q T R M u v (pc + 1) ls (pL (x.tdiv y) :: st)) : MW E mi S Q T R M u v pc ls (pL y :: pL x :: st) := by
  intro l p e s m args below meth c H locs la D ar A φ ex B hl
  obtain ⟨⟨hx, hb, hr, hml, hts, hown, hlocks, hnm⟩, ⟨hN, hEx, hK, hA⟩, ⟨hP, hD, hS⟩, hR, hRC⟩ := id B
  refine lv_ldiv hx hb hd (fun q => hxy.2.2 ((i64_eq hxy.2.1 ⟨by omega, by omega⟩).mp q)) ?_
  rw [← i64_div hxy.1 hxy.2.1]
  exact (h l p e s m args below meth c H locs la D ar A φ ex B hl)
theorem w_lrem {x y : Int} (hd : decode (miC mi) pc = .ok (.lrem, 1)) (hxy : lR x ∧ lR y ∧ y ≠ 0) (h : MW E mi S Q T R M u v (pc + 1) ls (pL (x.tmod y) :: st)) : MW E mi S Q T R M u v pc ls (pL y :: pL x :: st) := by
  intro l p e s m args below meth c H locs la D ar A φ ex B hl
  obtain ⟨⟨hx, hb, hr, hml, hts, hown, hlocks, hnm⟩, ⟨hN, hEx, hK, hA⟩, ⟨hP, hD, hS⟩, hR, hRC⟩ := id B
  refine lv_lrem hx hb hd (fun q => hxy.2.2 ((i64_eq hxy.2.1 ⟨by omega, by omega⟩).mp q)) ?_
  rw [← i64_rem hxy.1 hxy.2.1]
  exact (h l p e s m args below meth c H locs la D ar A φ ex B hl)
theorem w_i2l {x : Int} (hd : decode (miC mi) pc = .ok (.i2l, 1)) (hxr : iR x) (h : MW E mi S Q T R M u v (pc + 1) ls (pL x :: st)) : MW E mi S Q T R M u v pc ls (pI x :: st) := by
  intro l p e s m args below meth c H locs la D ar A φ ex B hl
  obtain ⟨⟨hx, hb, hr, hml, hts, hown, hlocks, hnm⟩, ⟨hN, hEx, hK, hA⟩, ⟨hP, hD, hS⟩, hR, hRC⟩ := id B
  refine lv_i2l hx hb hd (v := Int64.ofInt x) ?_ (h l p e s m args below meth c H locs la D ar A φ ex B hl)
  rw [← Int64.toInt_inj, Int32.toInt_toInt64, i32_toInt hxr, i64_toInt ⟨by omega, by omega⟩]
theorem w_l2i {x : Int} (hd : decode (miC mi) pc = .ok (.l2i, 1)) (hxr : lR x) (h : MW E mi S Q T R M u v (pc + 1) ls (pI x :: st)) : MW E mi S Q T R M u v pc ls (pL x :: st) := by
  intro l p e s m args below meth c H locs la D ar A φ ex B hl
  obtain ⟨⟨hx, hb, hr, hml, hts, hown, hlocks, hnm⟩, ⟨hN, hEx, hK, hA⟩, ⟨hP, hD, hS⟩, hR, hRC⟩ := id B
  refine lv_l2i hx hb hd (v := Int32.ofInt x) ?_ (h l p e s m args below meth c H locs la D ar A φ ex B hl)
  rw [← Int32.toInt_inj, Int64.toInt_toInt32, i64_toInt hxr, Int32.toInt_ofInt]
theorem w_i2c {x : Int} (hd : decode (miC mi) pc = .ok (.i2c, 1)) (hxr : 0 ≤ x ∧ x < 65536) (h : MW E mi S Q T R M u v (pc + 1) ls (pI x :: st)) : MW E mi S Q T R M u v pc ls (pI x :: st) := by
  intro l p e s m args below meth c H locs la D ar A φ ex B hl
  obtain ⟨⟨hx, hb, hr, hml, hts, hown, hlocks, hnm⟩, ⟨hN, hEx, hK, hA⟩, ⟨hP, hD, hS⟩, hR, hRC⟩ := id B
  exact lv_i2c hx hb hd (lg_i2c_word (by rw [i32_toInt ⟨by omega, by omega⟩]; omega) (by rw [i32_toInt ⟨by omega, by omega⟩]; omega)) (h l p e s m args below meth c H locs la D ar A φ ex B hl)
theorem w_dup {x : PV} (hd : decode (miC mi) pc = .ok (.dup, 1)) (hc : p2 x = false) (h : MW E mi S Q T R M u v (pc + 1) ls (x :: x :: st)) : MW E mi S Q T R M u v pc ls (x :: st) := by
  intro l p e s m args below meth c H locs la D ar A φ ex B hl
  obtain ⟨⟨hx, hb, hr, hml, hts, hown, hlocks, hnm⟩, ⟨hN, hEx, hK, hA⟩, ⟨hP, hD, hS⟩, hR, hRC⟩ := id B
  refine lv_dup hx hb hd ?_ (h l p e s m args below meth c H locs la D ar A φ ex B hl)
  have := toV_cat φ ex x
  rw [hc] at this
  rcases lv_cat (toV φ ex x) with q | q
  · exact q
  · rw [q] at this; exact absurd this (by decide)
theorem w_pop {x : PV} (hd : decode (miC mi) pc = .ok (.pop, 1)) (hc : p2 x = false) (h : MW E mi S Q T R M u v (pc + 1) ls st) : MW E mi S Q T R M u v pc ls (x :: st) := by
  intro l p e s m args below meth c H locs la D ar A φ ex B hl
  obtain ⟨⟨hx, hb, hr, hml, hts, hown, hlocks, hnm⟩, ⟨hN, hEx, hK, hA⟩, ⟨hP, hD, hS⟩, hR, hRC⟩ := id B
  refine lv_pop hx hb hd ?_ (h l p e s m args below meth c H locs la D ar A φ ex B hl)
  have := toV_cat φ ex x
  rw [hc] at this
  rcases lv_cat (toV φ ex x) with q | q
  · exact q
  · rw [q] at this; exact absurd this (by decide)
theorem w_dup2 {x y : PV} (hd : decode (miC mi) pc = .ok (.dup2, 1)) (hc : p2 x = false ∧ p2 y = false) (h : MW E mi S Q T R M u v (pc + 1) ls (x :: y :: x :: y :: st)) : MW E mi S Q T R M u v pc ls (x :: y :: st) := by
  intro l p e s m args below meth c H locs la D ar A φ ex B hl
  obtain ⟨⟨hx, hb, hr, hml, hts, hown, hlocks, hnm⟩, ⟨hN, hEx, hK, hA⟩, ⟨hP, hD, hS⟩, hR, hRC⟩ := id B
  have hcx : (toV φ ex x).category = 1 := by
    have := toV_cat φ ex x
    rw [hc.1] at this
    rcases lv_cat (toV φ ex x) with q | q
    · exact q
    · rw [q] at this; exact absurd this (by decide)
  have hcy : (toV φ ex y).category = 1 := by
    have := toV_cat φ ex y
    rw [hc.2] at this
    rcases lv_cat (toV φ ex y) with q | q
    · exact q
    · rw [q] at this; exact absurd this (by decide)
  exact lv_dup2_11 hx hb hd hcx hcy (h l p e s m args below meth c H locs la D ar A φ ex B hl)
theorem i32_z0 : iR 0 := ⟨by omega, by omega⟩
theorem cmp3 {x y : Int} (hx : lR x) (hy : lR y) : (x < y ∧ lg_cmp (Int64.ofInt x) (Int64.ofInt y) = -1) ∨ (x = y ∧ lg_cmp (Int64.ofInt x) (Int64.ofInt y) = 0) ∨ (y < x ∧ lg_cmp (Int64.ofInt x) (Int64.ofInt y) = 1) := by
  have e1 := i64_lt hy hx
  have e2 := i64_eq hx hy
  rcases Int.lt_trichotomy x y with h | h | h
  · refine Or.inl ⟨h, ?_⟩
    have a1 : ¬ Int64.ofInt y < Int64.ofInt x := fun q => by have := e1.mp q; omega
    have a2 : ¬ Int64.ofInt x = Int64.ofInt y := fun q => by have := e2.mp q; omega
    simp [lg_cmp, a1, a2]
  · refine Or.inr (Or.inl ⟨h, ?_⟩)
    subst h
    simp [lg_cmp]
  · refine Or.inr (Or.inr ⟨h, ?_⟩)
    have a1 : Int64.ofInt y < Int64.ofInt x := e1.mpr h
    simp [lg_cmp, a1]
theorem w_icmp_eq {x y : Int} {off : Int} {tgt : Nat} (hd : decode (miC mi) pc = .ok (.if_icmp .eq off, 3)) (ht : (pc : Int) + off = (tgt : Int)) (hxy : iR x ∧ iR y) (h1 : (x = y) → MW E mi S Q T R M u v tgt ls st) (h2 : (x ≠ y) → MW E mi S Q T R M u v (pc + 3) ls st) : MW E mi S Q T R M u v pc ls (pI y :: pI x :: st) := by
  intro l p e s m args below meth c H locs la D ar A φ ex B hl
  obtain ⟨⟨hx, hb, hr, hml, hts, hown, hlocks, hnm⟩, ⟨hN, hEx, hK, hA⟩, ⟨hP, hD, hS⟩, hR, hRC⟩ := id B
  exact lv_icmp_eq hx hb hd ht (fun q => h1 ((i32_eq hxy.1 hxy.2).mp q) l p e s m args below meth c H locs la D ar A φ ex B hl) (fun q => h2 (fun z => q ((i32_eq hxy.1 hxy.2).mpr z)) l p e s m args below meth c H locs la D ar A φ ex B hl)
theorem w_if_eq {x : Int} {off : Int} {tgt : Nat} (hd : decode (miC mi) pc = .ok (.ifCond .eq off, 3)) (ht : (pc : Int) + off = (tgt : Int)) (hxr : iR x) (h1 : (x = 0) → MW E mi S Q T R M u v tgt ls st) (h2 : (x ≠ 0) → MW E mi S Q T R M u v (pc + 3) ls st) : MW E mi S Q T R M u v pc ls (pI x :: st) := by
  intro l p e s m args below meth c H locs la D ar A φ ex B hl
  obtain ⟨⟨hx, hb, hr, hml, hts, hown, hlocks, hnm⟩, ⟨hN, hEx, hK, hA⟩, ⟨hP, hD, hS⟩, hR, hRC⟩ := id B
  exact lv_if_eq hx hb hd ht (fun q => h1 ((i32_eq hxr i32_z0).mp q) l p e s m args below meth c H locs la D ar A φ ex B hl) (fun q => h2 (fun z => q ((i32_eq hxr i32_z0).mpr z)) l p e s m args below meth c H locs la D ar A φ ex B hl)
theorem w_lcmp_eq {x y : Int} {off : Int} {tgt : Nat} (hd0 : decode (miC mi) pc = .ok (.lcmp, 1)) (hd : decode (miC mi) (pc + 1) = .ok (.ifCond .eq off, 3)) (ht : ((pc + 1 : Nat) : Int) + off = (tgt : Int)) (hxy : lR x ∧ lR y) (h1 : (x = y) → MW E mi S Q T R M u v tgt ls st) (h2 : (x ≠ y) → MW E mi S Q T R M u v (pc + 4) ls st) : MW E mi S Q T R M u v pc ls (pL y :: pL x :: st) := by
  intro l p e s m args below meth c H locs la D ar A φ ex B hl
  obtain ⟨⟨hx, hb, hr, hml, hts, hown, hlocks, hnm⟩, ⟨hN, hEx, hK, hA⟩, ⟨hP, hD, hS⟩, hR, hRC⟩ := id B
  refine W.lcmp hx hb hd0 ?_
  rcases cmp3 hxy.1 hxy.2 with ⟨hc, he⟩ | ⟨hc, he⟩ | ⟨hc, he⟩ <;> rw [he] <;> refine lv_if_eq hx hb hd ht (fun q => ?_) (fun q => ?_) <;> first
    | exact absurd q (by decide)
    | exact h1 (by omega) l p e s m args below meth c H locs la D ar A φ ex B hl
    | exact h2 (by omega) l p e s m args below meth c H locs la D ar A φ ex B hl
theorem w_icmp_ne {x y : Int} {off : Int} {tgt : Nat} (hd : decode (miC mi) pc = .ok (.if_icmp .ne off, 3)) (ht : (pc : Int) + off = (tgt : Int)) (hxy : iR x ∧ iR y) (h1 : (x ≠ y) → MW E mi S Q T R M u v tgt ls st) (h2 : (x = y) → MW E mi S Q T R M u v (pc + 3) ls st) : MW E mi S Q T R M u v pc ls (pI y :: pI x :: st) := by
  intro l p e s m args below meth c H locs la D ar A φ ex B hl
  obtain ⟨⟨hx, hb, hr, hml, hts, hown, hlocks, hnm⟩, ⟨hN, hEx, hK, hA⟩, ⟨hP, hD, hS⟩, hR, hRC⟩ := id B
  exact lv_icmp_ne hx hb hd ht (fun q => h1 (fun z => q ((i32_eq hxy.1 hxy.2).mpr z)) l p e s m args below meth c H locs la D ar A φ ex B hl) (fun q => h2 ((i32_eq hxy.1 hxy.2).mp q) l p e s m args below meth c H locs la D ar A φ ex B hl)
theorem w_if_ne {x : Int} {off : Int} {tgt : Nat} (hd : decode (miC mi) pc = .ok (.ifCond .ne off, 3)) (ht : (pc : Int) + off = (tgt : Int)) (hxr : iR x) (h1 : (x ≠ 0) → MW E mi S Q T R M u v tgt ls st) (h2 : (x = 0) → MW E mi S Q T R M u v (pc + 3) ls st) : MW E mi S Q T R M u v pc ls (pI x :: st) := by
  intro l p e s m args below meth c H locs la D ar A φ ex B hl
  obtain ⟨⟨hx, hb, hr, hml, hts, hown, hlocks, hnm⟩, ⟨hN, hEx, hK, hA⟩, ⟨hP, hD, hS⟩, hR, hRC⟩ := id B
  exact lv_if_ne hx hb hd ht (fun q => h1 (fun z => q ((i32_eq hxr i32_z0).mpr z)) l p e s m args below meth c H locs la D ar A φ ex B hl) (fun q => h2 ((i32_eq hxr i32_z0).mp q) l p e s m args below meth c H locs la D ar A φ ex B hl)
theorem w_lcmp_ne {x y : Int} {off : Int} {tgt : Nat} (hd0 : decode (miC mi) pc = .ok (.lcmp, 1)) (hd : decode (miC mi) (pc + 1) = .ok (.ifCond .ne off, 3)) (ht : ((pc + 1 : Nat) : Int) + off = (tgt : Int)) (hxy : lR x ∧ lR y) (h1 : (x ≠ y) → MW E mi S Q T R M u v tgt ls st) (h2 : (x = y) → MW E mi S Q T R M u v (pc + 4) ls st) : MW E mi S Q T R M u v pc ls (pL y :: pL x :: st) := by
  intro l p e s m args below meth c H locs la D ar A φ ex B hl
  obtain ⟨⟨hx, hb, hr, hml, hts, hown, hlocks, hnm⟩, ⟨hN, hEx, hK, hA⟩, ⟨hP, hD, hS⟩, hR, hRC⟩ := id B
  refine W.lcmp hx hb hd0 ?_
  rcases cmp3 hxy.1 hxy.2 with ⟨hc, he⟩ | ⟨hc, he⟩ | ⟨hc, he⟩ <;> rw [he] <;> refine lv_if_ne hx hb hd ht (fun q => ?_) (fun q => ?_) <;> first
    | exact absurd q (by decide)
    | exact h1 (by omega) l p e s m args below meth c H locs la D ar A φ ex B hl
    | exact h2 (by omega) l p e s m args below meth c H locs la D ar A φ ex B hl
theorem w_icmp_lt {x y : Int} {off : Int} {tgt : Nat} (hd : decode (miC mi) pc = .ok (.if_icmp .lt off, 3)) (ht : (pc : Int) + off = (tgt : Int)) (hxy : iR x ∧ iR y) (h1 : (x < y) → MW E mi S Q T R M u v tgt ls st) (h2 : (x ≥ y) → MW E mi S Q T R M u v (pc + 3) ls st) : MW E mi S Q T R M u v pc ls (pI y :: pI x :: st) := by
  intro l p e s m args below meth c H locs la D ar A φ ex B hl
  obtain ⟨⟨hx, hb, hr, hml, hts, hown, hlocks, hnm⟩, ⟨hN, hEx, hK, hA⟩, ⟨hP, hD, hS⟩, hR, hRC⟩ := id B
  exact lv_icmp_lt hx hb hd ht (fun q => h1 ((i32_lt hxy.1 hxy.2).mp q) l p e s m args below meth c H locs la D ar A φ ex B hl) (fun q => h2 (Int.not_lt.mp (fun z => q ((i32_lt hxy.1 hxy.2).mpr z))) l p e s m args below meth c H locs la D ar A φ ex B hl)
theorem w_if_lt {x : Int} {off : Int} {tgt : Nat} (hd : decode (miC mi) pc = .ok (.ifCond .lt off, 3)) (ht : (pc : Int) + off = (tgt : Int)) (hxr : iR x) (h1 : (x < 0) → MW E mi S Q T R M u v tgt ls st) (h2 : (x ≥ 0) → MW E mi S Q T R M u v (pc + 3) ls st) : MW E mi S Q T R M u v pc ls (pI x :: st) := by
  intro l p e s m args below meth c H locs la D ar A φ ex B hl
  obtain ⟨⟨hx, hb, hr, hml, hts, hown, hlocks, hnm⟩, ⟨hN, hEx, hK, hA⟩, ⟨hP, hD, hS⟩, hR, hRC⟩ := id B
  exact lv_if_lt hx hb hd ht (fun q => h1 ((i32_lt hxr i32_z0).mp q) l p e s m args below meth c H locs la D ar A φ ex B hl) (fun q => h2 (Int.not_lt.mp (fun z => q ((i32_lt hxr i32_z0).mpr z))) l p e s m args below meth c H locs la D ar A φ ex B hl)
theorem w_lcmp_lt {x y : Int} {off : Int} {tgt : Nat} (hd0 : decode (miC mi) pc = .ok (.lcmp, 1)) (hd : decode (miC mi) (pc + 1) = .ok (.ifCond .lt off, 3)) (ht : ((pc + 1 : Nat) : Int) + off = (tgt : Int)) (hxy : lR x ∧ lR y) (h1 : (x < y) → MW E mi S Q T R M u v tgt ls st) (h2 : (x ≥ y) → MW E mi S Q T R M u v (pc + 4) ls st) : MW E mi S Q T R M u v pc ls (pL y :: pL x :: st) := by
  intro l p e s m args below meth c H locs la D ar A φ ex B hl
  obtain ⟨⟨hx, hb, hr, hml, hts, hown, hlocks, hnm⟩, ⟨hN, hEx, hK, hA⟩, ⟨hP, hD, hS⟩, hR, hRC⟩ := id B
  refine W.lcmp hx hb hd0 ?_
  rcases cmp3 hxy.1 hxy.2 with ⟨hc, he⟩ | ⟨hc, he⟩ | ⟨hc, he⟩ <;> rw [he] <;> refine lv_if_lt hx hb hd ht (fun q => ?_) (fun q => ?_) <;> first
    | exact absurd q (by decide)
    | exact h1 (by omega) l p e s m args below meth c H locs la D ar A φ ex B hl
    | exact h2 (by omega) l p e s m args below meth c H locs la D ar A φ ex B hl
theorem w_icmp_ge {x y : Int} {off : Int} {tgt : Nat} (hd : decode (miC mi) pc = .ok (.if_icmp .ge off, 3)) (ht : (pc : Int) + off = (tgt : Int)) (hxy : iR x ∧ iR y) (h1 : (x ≥ y) → MW E mi S Q T R M u v tgt ls st) (h2 : (x < y) → MW E mi S Q T R M u v (pc + 3) ls st) : MW E mi S Q T R M u v pc ls (pI y :: pI x :: st) := by
  intro l p e s m args below meth c H locs la D ar A φ ex B hl
  obtain ⟨⟨hx, hb, hr, hml, hts, hown, hlocks, hnm⟩, ⟨hN, hEx, hK, hA⟩, ⟨hP, hD, hS⟩, hR, hRC⟩ := id B
  exact lv_icmp_ge hx hb hd ht (fun q => h1 ((i32_le hxy.2 hxy.1).mp q) l p e s m args below meth c H locs la D ar A φ ex B hl) (fun q => h2 (Int.not_le.mp (fun z => q ((i32_le hxy.2 hxy.1).mpr z))) l p e s m args below meth c H locs la D ar A φ ex B hl)
theorem w_if_ge {x : Int} {off : Int} {tgt : Nat} (hd : decode (miC mi) pc = .ok (.ifCond .ge off, 3)) (ht : (pc : Int) + off = (tgt : Int)) (hxr : iR x) (h1 : (x ≥ 0) → MW E mi S Q T R M u v tgt ls st) (h2 : (x < 0) → MW E mi S Q T R M u v (pc + 3) ls st) : MW E mi S Q T R M u v pc ls (pI x :: st) := by
  intro l p e s m args below meth c H locs la D ar A φ ex B hl
  obtain ⟨⟨hx, hb, hr, hml, hts, hown, hlocks, hnm⟩, ⟨hN, hEx, hK, hA⟩, ⟨hP, hD, hS⟩, hR, hRC⟩ := id B
  exact lv_if_ge hx hb hd ht (fun q => h1 ((i32_le i32_z0 hxr).mp q) l p e s m args below meth c H locs la D ar A φ ex B hl) (fun q => h2 (Int.not_le.mp (fun z => q ((i32_le i32_z0 hxr).mpr z))) l p e s m args below meth c H locs la D ar A φ ex B hl)
theorem w_lcmp_ge {x y : Int} {off : Int} {tgt : Nat} (hd0 : decode (miC mi) pc = .ok (.lcmp, 1)) (hd : decode (miC mi) (pc + 1) = .ok (.ifCond .ge off, 3)) (ht : ((pc + 1 : Nat) : Int) + off = (tgt : Int)) (hxy : lR x ∧ lR y) (h1 : (x ≥ y) → MW E mi S Q T R M u v tgt ls st) (h2 : (x < y) → MW E mi S Q T R M u v (pc + 4) ls st) : MW E mi S Q T R M u v pc ls (pL y :: pL x :: st) := by
  intro l p e s m args below meth c H locs la D ar A φ ex B hl
  obtain ⟨⟨hx, hb, hr, hml, hts, hown, hlocks, hnm⟩, ⟨hN, hEx, hK, hA⟩, ⟨hP, hD, hS⟩, hR, hRC⟩ := id B
  refine W.lcmp hx hb hd0 ?_
  rcases cmp3 hxy.1 hxy.2 with ⟨hc, he⟩ | ⟨hc, he⟩ | ⟨hc, he⟩ <;> rw [he] <;> refine lv_if_ge hx hb hd ht (fun q => ?_) (fun q => ?_) <;> first
    | exact absurd q (by decide)
    | exact h1 (by omega) l p e s m args below meth c H locs la D ar A φ ex B hl
    | exact h2 (by omega) l p e s m args below meth c H locs la D ar A φ ex B hl
theorem w_icmp_gt {x y : Int} {off : Int} {tgt : Nat} (hd : decode (miC mi) pc = .ok (.if_icmp .gt off, 3)) (ht : (pc : Int) + off = (tgt : Int)) (hxy : iR x ∧ iR y) (h1 : (x > y) → MW E mi S Q T R M u v tgt ls st) (h2 : (x ≤ y) → MW E mi S Q T R M u v (pc + 3) ls st) : MW E mi S Q T R M u v pc ls (pI y :: pI x :: st) := by
  intro l p e s m args below meth c H locs la D ar A φ ex B hl
  obtain ⟨⟨hx, hb, hr, hml, hts, hown, hlocks, hnm⟩, ⟨hN, hEx, hK, hA⟩, ⟨hP, hD, hS⟩, hR, hRC⟩ := id B
  exact lv_icmp_gt hx hb hd ht (fun q => h1 ((i32_lt hxy.2 hxy.1).mp q) l p e s m args below meth c H locs la D ar A φ ex B hl) (fun q => h2 (Int.not_lt.mp (fun z => q ((i32_lt hxy.2 hxy.1).mpr z))) l p e s m args below meth c H locs la D ar A φ ex B hl)
theorem w_if_gt {x : Int} {off : Int} {tgt : Nat} (hd : decode (miC mi) pc = .ok (.ifCond .gt off, 3)) (ht : (pc : Int) + off = (tgt : Int)) (hxr : iR x) (h1 : (x > 0) → MW E mi S Q T R M u v tgt ls st) (h2 : (x ≤ 0) → MW E mi S Q T R M u v (pc + 3) ls st) : MW E mi S Q T R M u v pc ls (pI x :: st) := by
  intro l p e s m args below meth c H locs la D ar A φ ex B hl
  obtain ⟨⟨hx, hb, hr, hml, hts, hown, hlocks, hnm⟩, ⟨hN, hEx, hK, hA⟩, ⟨hP, hD, hS⟩, hR, hRC⟩ := id B
  exact lv_if_gt hx hb hd ht (fun q => h1 ((i32_lt i32_z0 hxr).mp q) l p e s m args below meth c H locs la D ar A φ ex B hl) (fun q => h2 (Int.not_lt.mp (fun z => q ((i32_lt i32_z0 hxr).mpr z))) l p e s m args below meth c H locs la D ar A φ ex B hl)
theorem w_lcmp_gt {x y : Int} {off : Int} {tgt : Nat} (hd0 : decode (miC mi) pc = .ok (.lcmp, 1)) (hd : decode (miC mi) (pc + 1) = .ok (.ifCond .gt off, 3)) (ht : ((pc + 1 : Nat) : Int) + off = (tgt : Int)) (hxy : lR x ∧ lR y) (h1 : (x > y) → MW E mi S Q T R M u v tgt ls st) (h2 : (x ≤ y) → MW E mi S Q T R M u v (pc + 4) ls st) : MW E mi S Q T R M u v pc ls (pL y :: pL x :: st) := by
  intro l p e s m args below meth c H locs la D ar A φ ex B hl
  obtain ⟨⟨hx, hb, hr, hml, hts, hown, hlocks, hnm⟩, ⟨hN, hEx, hK, hA⟩, ⟨hP, hD, hS⟩, hR, hRC⟩ := id B
  refine W.lcmp hx hb hd0 ?_
  rcases cmp3 hxy.1 hxy.2 with ⟨hc, he⟩ | ⟨hc, he⟩ | ⟨hc, he⟩ <;> rw [he] <;> refine lv_if_gt hx hb hd ht (fun q => ?_) (fun q => ?_) <;> first
    | exact absurd q (by decide)
    | exact h1 (by omega) l p e s m args below meth c H locs la D ar A φ ex B hl
    | exact h2 (by omega) l p e s m args below meth c H locs la D ar A φ ex B hl
theorem w_icmp_le {x y : Int} {off : Int} {tgt : Nat} (hd : decode (miC mi) pc = .ok (.if_icmp .le off, 3)) (ht : (pc : Int) + off = (tgt : Int)) (hxy : iR x ∧ iR y) (h1 : (x ≤ y) → MW E mi S Q T R M u v tgt ls st) (h2 : (x > y) → MW E mi S Q T R M u v (pc + 3) ls st) : MW E mi S Q T R M u v pc ls (pI y :: pI x :: st) := by
  intro l p e s m args below meth c H locs la D ar A φ ex B hl
  obtain ⟨⟨hx, hb, hr, hml, hts, hown, hlocks, hnm⟩, ⟨hN, hEx, hK, hA⟩, ⟨hP, hD, hS⟩, hR, hRC⟩ := id B
  exact lv_icmp_le hx hb hd ht (fun q => h1 ((i32_le hxy.1 hxy.2).mp q) l p e s m args below meth c H locs la D ar A φ ex B hl) (fun q => h2 (Int.not_le.mp (fun z => q ((i32_le hxy.1 hxy.2).mpr z))) l p e s m args below meth c H locs la D ar A φ ex B hl)
theorem w_if_le {x : Int} {off : Int} {tgt : Nat} (hd : decode (miC mi) pc = .ok (.ifCond .le off, 3)) (ht : (pc : Int) + off = (tgt : Int)) (hxr : iR x) (h1 : (x ≤ 0) → MW E mi S Q T R M u v tgt ls st) (h2 : (x > 0) → MW E mi S Q T R M u v (pc + 3) ls st) : MW E mi S Q T R M u v pc ls (pI x :: st) := by
  intro l p e s m args below meth c H locs la D ar A φ ex B hl
  obtain ⟨⟨hx, hb, hr, hml, hts, hown, hlocks, hnm⟩, ⟨hN, hEx, hK, hA⟩, ⟨hP, hD, hS⟩, hR, hRC⟩ := id B
  exact lv_if_le hx hb hd ht (fun q => h1 ((i32_le hxr i32_z0).mp q) l p e s m args below meth c H locs la D ar A φ ex B hl) (fun q => h2 (Int.not_le.mp (fun z => q ((i32_le hxr i32_z0).mpr z))) l p e s m args below meth c H locs la D ar A φ ex B hl)
theorem w_lcmp_le {x y : Int} {off : Int} {tgt : Nat} (hd0 : decode (miC mi) pc = .ok (.lcmp, 1)) (hd : decode (miC mi) (pc + 1) = .ok (.ifCond .le off, 3)) (ht : ((pc + 1 : Nat) : Int) + off = (tgt : Int)) (hxy : lR x ∧ lR y) (h1 : (x ≤ y) → MW E mi S Q T R M u v tgt ls st) (h2 : (x > y) → MW E mi S Q T R M u v (pc + 4) ls st) : MW E mi S Q T R M u v pc ls (pL y :: pL x :: st) := by
  intro l p e s m args below meth c H locs la D ar A φ ex B hl
  obtain ⟨⟨hx, hb, hr, hml, hts, hown, hlocks, hnm⟩, ⟨hN, hEx, hK, hA⟩, ⟨hP, hD, hS⟩, hR, hRC⟩ := id B
  refine W.lcmp hx hb hd0 ?_
  rcases cmp3 hxy.1 hxy.2 with ⟨hc, he⟩ | ⟨hc, he⟩ | ⟨hc, he⟩ <;> rw [he] <;> refine lv_if_le hx hb hd ht (fun q => ?_) (fun q => ?_) <;> first
    | exact absurd q (by decide)
    | exact h1 (by omega) l p e s m args below meth c H locs la D ar A φ ex B hl
    | exact h2 (by omega) l p e s m args below meth c H locs la D ar A φ ex B hl
theorem w_goto {off : Int} {tgt : Nat} (hd : decode (miC mi) pc = .ok (.goto off, 3)) (ht : (pc : Int) + off = (tgt : Int)) (h : MW E mi S Q T R M u v tgt ls st) : MW E mi S Q T R M u v pc ls st := by
  intro l p e s m args below meth c H locs la D ar A φ ex B hl
  obtain ⟨⟨hx, hb, hr, hml, hts, hown, hlocks, hnm⟩, ⟨hN, hEx, hK, hA⟩, ⟨hP, hD, hS⟩, hR, hRC⟩ := id B
  exact lv_goto hx hb hd ht (h l p e s m args below meth c H locs la D ar A φ ex B hl)
theorem w_tsw {dflt lo hi x : Int} {offs : Array Int} {len td : Nat} {tgs : List Nat} (hd : decode (miC mi) pc = .ok (.tableswitch dflt lo hi offs, len)) (hxr : iR x) (hhi : hi = lo + tgs.length - 1) (ho : ∀ j : Nat, j < tgs.length → offs[j]? = some (((tgs.getD j 0 : Nat) : Int) - (pc : Int))) (ht : (pc : Int) + dflt = (td : Int))
    (h1 : ∀ j : Nat, j < tgs.length → x = lo + (j : Int) → MW E mi S Q T R M u v (tgs.getD j 0) ls st) (h2 : x < lo ∨ hi < x → MW E mi S Q T R M u v td ls st) : MW E mi S Q T R M u v pc ls (pI x :: st) := by
  intro l p e s m args below meth c H locs la D ar A φ ex B hl
  obtain ⟨⟨hx, hb, hr, hml, hts, hown, hlocks, hnm⟩, ⟨hN, hEx, hK, hA⟩, ⟨hP, hD, hS⟩, hR, hRC⟩ := id B
  by_cases hin : x < lo ∨ hi < x
  · exact lv_tableOut hx hb hd (by rw [i32_toInt hxr]; exact hin) ht (h2 hin l p e s m args below meth c H locs la D ar A φ ex B hl)
  · have h3 : lo ≤ x ∧ x ≤ hi := by omega
    have hj : (x - lo).toNat < tgs.length := by omega
    refine lv_tableIn hx hb hd (by rw [i32_toInt hxr]; omega) (by rw [i32_toInt hxr]; omega) (by rw [i32_toInt hxr]; exact ho _ hj) (tgt := tgs.getD (x - lo).toNat 0) (by omega) (h1 _ hj (by omega) l p e s m args below meth c H locs la D ar A φ ex B hl)
theorem w_iret {x : Int} (hd : decode (miC mi) pc = .ok (.ireturn, 1)) (hrt : miT mi = some .int) (hc : u ≤ miMc mi ∧ v ≤ miMs mi) (h : Q (some (pI x)) T R M) : MW E mi S Q T R M u v pc ls ([pI x]) := by
  intro l p e s m args below meth c H locs la D ar A φ ex B hl
  obtain ⟨⟨hx, hb, hr, hml, hts, hown, hlocks, hnm⟩, ⟨hN, hEx, hK, hA⟩, ⟨hP, hD, hS⟩, hR, hRC⟩ := id B
  refine W.widen hc.1 hc.2 ?_
  exact W.iret hx hb (hr.trans hrt) (fun t ht hW => ⟨⟨some (pI x), T, R, M, φ, rfl, h, fun _ _ => rfl, by rw [ht]; exact hP, va_K.moved hW.alike hK, hD, hR, hRC⟩, hS.F ht⟩) hS.2.2 hd
theorem w_lret {x : Int} (hd : decode (miC mi) pc = .ok (.lreturn, 1)) (hrt : miT mi = some .long) (hc : u ≤ miMc mi ∧ v ≤ miMs mi) (h : Q (some (pL x)) T R M) : MW E mi S Q T R M u v pc ls ([pL x]) := by
  intro l p e s m args below meth c H locs la D ar A φ ex B hl
  obtain ⟨⟨hx, hb, hr, hml, hts, hown, hlocks, hnm⟩, ⟨hN, hEx, hK, hA⟩, ⟨hP, hD, hS⟩, hR, hRC⟩ := id B
  refine W.widen hc.1 hc.2 ?_
  exact W.lret hx hb (hr.trans hrt) (fun t ht hW => ⟨⟨some (pL x), T, R, M, φ, rfl, h, fun _ _ => rfl, by rw [ht]; exact hP, va_K.moved hW.alike hK, hD, hR, hRC⟩, hS.F ht⟩) hS.2.2 hd
theorem w_vret (hd : decode (miC mi) pc = .ok (.return_, 1)) (hrt : miT mi = none) (hc : u ≤ miMc mi ∧ v ≤ miMs mi) (h : Q none T R M) : MW E mi S Q T R M u v pc ls [] := by
  intro l p e s m args below meth c H locs la D ar A φ ex B hl
  obtain ⟨⟨hx, hb, hr, hml, hts, hown, hlocks, hnm⟩, ⟨hN, hEx, hK, hA⟩, ⟨hP, hD, hS⟩, hR, hRC⟩ := id B
  refine W.widen hc.1 hc.2 ?_
  exact W.vret hx hb (hr.trans hrt) (fun t ht hW => ⟨⟨none, T, R, M, φ, rfl, h, fun _ _ => rfl, by rw [ht]; exact hP, va_K.moved hW.alike hK, hD, hR, hRC⟩, hS.F ht⟩) hS.2.2 hd
theorem w_zret {x : Int} (hd : decode (miC mi) pc = .ok (.ireturn, 1)) (hrt : miT mi = some .boolean) (hz : zR x) (hc : u ≤ miMc mi ∧ v ≤ miMs mi) (h : Q (some (pI x)) T R M) : MW E mi S Q T R M u v pc ls ([pI x]) := by
  intro l p e s m args below meth c H locs la D ar A φ ex B hl
  obtain ⟨⟨hx, hb, hr, hml, hts, hown, hlocks, hnm⟩, ⟨hN, hEx, hK, hA⟩, ⟨hP, hD, hS⟩, hR, hRC⟩ := id B
  refine W.widen hc.1 hc.2 ?_
  have hn : narrow .boolean (.int (Int32.ofInt x)) = .int (Int32.ofInt x) := by rcases hz with rfl | rfl <;> rfl
  exact W.zret hx hb (hr.trans hrt) hn (fun t ht hW => ⟨⟨some (pI x), T, R, M, φ, rfl, h, fun _ _ => rfl, by rw [ht]; exact hP, va_K.moved hW.alike hK, hD, hR, hRC⟩, hS.F ht⟩) hS.2.2 hd
end RULES
