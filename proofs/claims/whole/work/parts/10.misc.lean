/-! Object's constructor, Math, arraycopy, text constants -/
section MISC
variable {E : Scr} {mi mi2 : Mi} {S S2 : Nat → Prop} {Q : Post} {T : Shp} {R : Rfs} {M : Mem} {u v pc : Nat} {ls : List (Nat × PV)} {st : List PV}
theorem w_objInit {idx a : Nat} (hd : decode (miC mi) pc = .ok (.invokespecial idx, 3)) (hw : Cond.methodLink (miY mi).cls idx Lib.objectInit ∈ wgT ∧ Cond.instanceMethod Lib.objectInit ∈ wgT ∧ Cond.code Lib.objectInit ⟨#[0xb1]⟩ 1 none ∈ wgT) (hh : 1 ≤ miH mi ∧ pvW st ≤ 8) (h : MW E mi S Q T R M u v (pc + 3) ls st) : MW E mi S Q T R M u v pc ls (pR a :: st) := by
  intro l p e s m args below meth c H locs la D ar A φ ex B hl
  obtain ⟨⟨hx, hb, hr, hml, hts, hown, hlocks, hnm⟩, ⟨hN, hEx, hK, hA⟩, ⟨hP, hD, hS⟩, hR, hRC⟩ := id B
  have hw' : ∀ {w : Cond}, w ∈ wgT → w.before args s = true := fun z => hts _ z
  have h8 : 2 * (F0 m pc la ((pR a :: st).map (toV φ ex))).monitorRoom + ((st.map (toV φ ex)).map fun w => w.category).sum ≤ 8 := lv_room (by rw [pvW_C]; exact hh.2)
  refine W.objInit hx hb hown (hw' hw.1) (hw' hw.2.1) (hw' hw.2.2) rfl (by rw [hml]; exact hl.1) rfl hd hh.1 ?_ ?_
  · show _ ≤ 45 * miH mi
    have := hh.1
    omega
  · exact W.eq (g2 := F0 m (pc + 3) la (st.map (toV φ ex))) rfl (h l p e s m args below meth c H locs la D ar A φ ex B hl)
theorem w_imax {idx : Nat} {x y : Int} (hd : decode (miC mi) pc = .ok (.invokestatic idx, 3)) (hw : Cond.methodLink (miY mi).cls idx Lib.Math.max.name ∈ wgT ∧ Cond.static Lib.Math.max.name ∈ wgT ∧ Cond.initialized "java/lang/Math" ∈ wgT ∧ Cond.code Lib.Math.max.name Lib.Math.max.code 2 (some .int) ∈ wgT) (hh : 1 ≤ miH mi ∧ pvW st ≤ 8) (hc : u ≤ miMc mi ∧ v ≤ miMs mi) (hxy : iR x ∧ iR y) (h : MW E mi S Q T R M u v (pc + 3) ls (pI (max x y) :: st)) : MW E mi S Q T R M u v pc ls (pI y :: pI x :: st) := by
  intro l p e s m args below meth c H locs la D ar A φ ex B hl
  obtain ⟨⟨hx, hb, hr, hml, hts, hown, hlocks, hnm⟩, ⟨hN, hEx, hK, hA⟩, ⟨hP, hD, hS⟩, hR, hRC⟩ := id B
  have hw' : ∀ {w : Cond}, w ∈ wgT → w.before args s = true := fun z => hts _ z
  refine va_mmax hx hb (by rw [hml]; exact hl.1.symm) hown (hw' hw.1) (hw' hw.2.1) (hw' hw.2.2.1) (hw' hw.2.2.2) hh.1 (by rw [pvW_C]; show _ ≤ 45 * miH mi; have := hh.1; have := hh.2; omega) hc.1 hc.2 hd ?_
  have e9 : (if Int32.ofInt x < Int32.ofInt y then Int32.ofInt y else Int32.ofInt x) = Int32.ofInt (max x y) := by
    by_cases hlt : x < y
    · rw [if_pos ((i32_lt hxy.1 hxy.2).mpr hlt)]; congr 1; omega
    · rw [if_neg (fun z => hlt ((i32_lt hxy.1 hxy.2).mp z))]; congr 1; omega
  rw [e9]
  exact h l p e s m args below meth c H locs la D ar A φ ex B hl
theorem w_imin {idx : Nat} {x y : Int} (hd : decode (miC mi) pc = .ok (.invokestatic idx, 3)) (hw : Cond.methodLink (miY mi).cls idx Lib.Math.min.name ∈ wgT ∧ Cond.static Lib.Math.min.name ∈ wgT ∧ Cond.initialized "java/lang/Math" ∈ wgT ∧ Cond.code Lib.Math.min.name Lib.Math.min.code 2 (some .int) ∈ wgT) (hh : 1 ≤ miH mi ∧ pvW st ≤ 8) (hc : u ≤ miMc mi ∧ v ≤ miMs mi) (hxy : iR x ∧ iR y) (h : MW E mi S Q T R M u v (pc + 3) ls (pI (min x y) :: st)) : MW E mi S Q T R M u v pc ls (pI y :: pI x :: st) := by
  intro l p e s m args below meth c H locs la D ar A φ ex B hl
  obtain ⟨⟨hx, hb, hr, hml, hts, hown, hlocks, hnm⟩, ⟨hN, hEx, hK, hA⟩, ⟨hP, hD, hS⟩, hR, hRC⟩ := id B
  have hw' : ∀ {w : Cond}, w ∈ wgT → w.before args s = true := fun z => hts _ z
  refine va_mmin hx hb (by rw [hml]; exact hl.1.symm) hown (hw' hw.1) (hw' hw.2.1) (hw' hw.2.2.1) (hw' hw.2.2.2) hh.1 (by rw [pvW_C]; show _ ≤ 45 * miH mi; have := hh.1; have := hh.2; omega) hc.1 hc.2 hd ?_
  have e9 : (if Int32.ofInt y < Int32.ofInt x then Int32.ofInt y else Int32.ofInt x) = Int32.ofInt (min x y) := by
    by_cases hlt : y < x
    · rw [if_pos ((i32_lt hxy.2 hxy.1).mpr hlt)]; congr 1; omega
    · rw [if_neg (fun z => hlt ((i32_lt hxy.2 hxy.1).mp z))]; congr 1; omega
  rw [e9]
  exact h l p e s m args below meth c H locs la D ar A φ ex B hl
theorem w_lmax {idx : Nat} {x y : Int} (hd : decode (miC mi) pc = .ok (.invokestatic idx, 3)) (hw : Cond.methodLink (miY mi).cls idx Lib.MathLoose.max_long.x ∈ wgT ∧ Cond.static Lib.MathLoose.max_long.x ∈ wgT ∧ Cond.initialized "java/lang/Math" ∈ wgT ∧ Cond.code Lib.MathLoose.max_long.x Lib.MathLoose.max_long.code 4 (some .long) ∈ wgT) (hh : 1 ≤ miH mi ∧ pvW st ≤ 8) (hc : u ≤ miMc mi ∧ v ≤ miMs mi) (hxy : lR x ∧ lR y) (h : MW E mi S Q T R M u v (pc + 3) ls (pL (max x y) :: st)) : MW E mi S Q T R M u v pc ls (pL y :: pL x :: st) := by
  intro l p e s m args below meth c H locs la D ar A φ ex B hl
  obtain ⟨⟨hx, hb, hr, hml, hts, hown, hlocks, hnm⟩, ⟨hN, hEx, hK, hA⟩, ⟨hP, hD, hS⟩, hR, hRC⟩ := id B
  have hw' : ∀ {w : Cond}, w ∈ wgT → w.before args s = true := fun z => hts _ z
  refine va_mmax_long hx hb (by rw [hml]; exact hl.1.symm) hown (hw' hw.1) (hw' hw.2.1) (hw' hw.2.2.1) (hw' hw.2.2.2) hh.1 (by rw [pvW_C]; show _ ≤ 45 * miH mi; have := hh.1; have := hh.2; omega) hc.1 hc.2 hd ?_
  have e9 : (if Int64.ofInt y < Int64.ofInt x then Int64.ofInt x else Int64.ofInt y) = Int64.ofInt (max x y) := by
    by_cases hlt : y < x
    · rw [if_pos ((i64_lt hxy.2 hxy.1).mpr hlt)]; congr 1; omega
    · rw [if_neg (fun z => hlt ((i64_lt hxy.2 hxy.1).mp z))]; congr 1; omega
  rw [e9]
  exact h l p e s m args below meth c H locs la D ar A φ ex B hl
theorem w_lmin {idx : Nat} {x y : Int} (hd : decode (miC mi) pc = .ok (.invokestatic idx, 3)) (hw : Cond.methodLink (miY mi).cls idx Lib.MathLoose.min_long.x ∈ wgT ∧ Cond.static Lib.MathLoose.min_long.x ∈ wgT ∧ Cond.initialized "java/lang/Math" ∈ wgT ∧ Cond.code Lib.MathLoose.min_long.x Lib.MathLoose.min_long.code 4 (some .long) ∈ wgT) (hh : 1 ≤ miH mi ∧ pvW st ≤ 8) (hc : u ≤ miMc mi ∧ v ≤ miMs mi) (hxy : lR x ∧ lR y) (h : MW E mi S Q T R M u v (pc + 3) ls (pL (min x y) :: st)) : MW E mi S Q T R M u v pc ls (pL y :: pL x :: st) := by
  intro l p e s m args below meth c H locs la D ar A φ ex B hl
  obtain ⟨⟨hx, hb, hr, hml, hts, hown, hlocks, hnm⟩, ⟨hN, hEx, hK, hA⟩, ⟨hP, hD, hS⟩, hR, hRC⟩ := id B
  have hw' : ∀ {w : Cond}, w ∈ wgT → w.before args s = true := fun z => hts _ z
  refine va_mmin_long hx hb (by rw [hml]; exact hl.1.symm) hown (hw' hw.1) (hw' hw.2.1) (hw' hw.2.2.1) (hw' hw.2.2.2) hh.1 (by rw [pvW_C]; show _ ≤ 45 * miH mi; have := hh.1; have := hh.2; omega) hc.1 hc.2 hd ?_
  have e9 : (if Int64.ofInt y < Int64.ofInt x then Int64.ofInt y else Int64.ofInt x) = Int64.ofInt (min x y) := by
    by_cases hlt : y < x
    · rw [if_pos ((i64_lt hxy.2 hxy.1).mpr hlt)]; congr 1; omega
    · rw [if_neg (fun z => hlt ((i64_lt hxy.2 hxy.1).mp z))]; congr 1; omega
  rw [e9]
  exact h l p e s m args below meth c H locs la D ar A φ ex B hl
/-- arraycopy among the pure picture's cells -/
def cpM (M : Mem) (a d sp dp n : Nat) : Mem := fun b => if b = d then va_cpy (M a) (M d) sp dp n else M b
theorem cpM_self (M : Mem) (a d sp dp n : Nat) : cpM M a d sp dp n d = va_cpy (M a) (M d) sp dp n := by simp [cpM]
theorem cpM_ne (M : Mem) {a d sp dp n b : Nat} (h : b ≠ d) : cpM M a d sp dp n b = M b := by simp [cpM, h]
theorem cpM_rng {T : Shp} {M : Mem} {a d sp dp n : Nat} {t1 t2 : Nat × Nat} (hR : Rng T M) (h1 : T[a]? = some t1) (h2 : T[d]? = some t2) (hk : ∀ j k, sTy t2 j = sTy t1 k) : Rng T (cpM M a d sp dp n) := by
  intro b t ht
  refine ⟨(hR b t ht).1, fun k => ?_⟩
  by_cases hb : b = d
  · subst hb
    rw [h2] at ht
    cases ht
    rw [cpM_self]
    unfold va_cpy
    split
    · rw [hk k (sp + (k - dp))]; exact (hR a t1 h1).2 _
    · exact (hR b t2 h2).2 k
  · rw [cpM_ne M hb]; exact (hR b t ht).2 k
def acW (own : String) (idx : Nat) : Prop := Cond.methodLink own idx arraycopyName ∈ wgT ∧ Cond.native arraycopyName ∈ wgT ∧ Cond.static arraycopyName ∈ wgT ∧ Cond.initialized "java/lang/System" ∈ wgT
theorem i32_nneg {x : Int} (h : 0 ≤ x ∧ x < 2147483648) : ¬ Int32.ofInt x < 0 := by
  intro h2
  have h3 : Int32.ofInt x < Int32.ofInt 0 := h2
  rw [i32_lt ⟨by omega, by omega⟩ ⟨by omega, by omega⟩] at h3
  omega
theorem i32_tn {x : Int} (h : 0 ≤ x ∧ x < 2147483648) : (Int32.ofInt x).toNatClampNeg = x.toNat := by
  rw [Int32.toNatClampNeg, i32_toInt ⟨by omega, by omega⟩]
theorem w_copyI {idx a d n0 n1 : Nat} {sp dp n : Int} (hd : decode (miC mi) pc = .ok (.invokestatic idx, 3)) (hw : acW (miY mi).cls idx) (hh : 1 ≤ miH mi ∧ pvW st ≤ 8) (h0 : T[a]? = some (20, n0)) (h1 : T[d]? = some (20, n1)) (hb1 : 0 ≤ sp ∧ 0 ≤ n ∧ sp + n ≤ n0) (hb2 : 0 ≤ dp ∧ dp + n ≤ n1)
    (h : MW E mi S Q T R (cpM M a d sp.toNat dp.toNat n.toNat) u v (pc + 3) ls st) : MW E mi S Q T R M u v pc ls (pI n :: pI dp :: pR d :: pI sp :: pR a :: st) := by
  intro l p e s m args below meth c H locs la D ar A φ ex B hl
  obtain ⟨⟨hx, hb, hr, hml, hts, hown, hlocks, hnm⟩, ⟨hN, hEx, hK, hA⟩, ⟨hP, hD, hS⟩, hR, hRC⟩ := id B
  have hw' : ∀ {w : Cond}, w ∈ wgT → w.before args s = true := fun z => hts _ z
  have q0 : n0 < 2147483648 := (hR a _ h0).1
  have q1 : n1 < 2147483648 := (hR d _ h1).1
  have t1 := i32_tn (x := sp) ⟨by omega, by omega⟩
  have t2 := i32_tn (x := dp) ⟨by omega, by omega⟩
  have t3 := i32_tn (x := n) ⟨by omega, by omega⟩
  have hnf : nativeFrameWords "java/lang/System" "arraycopy" 5 ≤ 20 := by decide
  refine va_copyi hx hb (by rw [hml]; exact hl.1.symm) hown (hw' hw.1) (hw' hw.2.1) (hw' hw.2.2.1) (hw' hw.2.2.2) hK hP hD hS (gi T a) (gi T d) 0 0 (wsO_at h0 (by decide)) (wsO_at h1 (by decide)) rfl rfl rfl (i32_nneg ⟨by omega, by omega⟩) (i32_nneg ⟨by omega, by omega⟩) (i32_nneg ⟨by omega, by omega⟩) (by rw [t1, t3]; show _ ≤ n0; omega) (by rw [t2, t3]; show _ ≤ n1; omega) (fun _ _ => rfl) hh.1 (by rw [pvW_C]; show _ ≤ 45 * miH mi; have := hh.1; have := hh.2; omega) hd (w_st h B hl h1 (by decide) ?_ (fun _ _ => rfl) (fun b hb => cpM_ne M hb) (cpM_rng hR h0 h1 (fun _ _ => rfl)) hRC)
  rw [t1, t2, t3, cpM_self]
  simp only [cellE]
  congr 4
  funext j
  simp only [va_cpy]
  split <;> rfl
theorem w_copyL {idx a d n0 n1 : Nat} {sp dp n : Int} (hd : decode (miC mi) pc = .ok (.invokestatic idx, 3)) (hw : acW (miY mi).cls idx) (hh : 1 ≤ miH mi ∧ pvW st ≤ 8) (h0 : T[a]? = some (21, n0)) (h1 : T[d]? = some (21, n1)) (hb1 : 0 ≤ sp ∧ 0 ≤ n ∧ sp + n ≤ n0) (hb2 : 0 ≤ dp ∧ dp + n ≤ n1)
    (h : MW E mi S Q T R (cpM M a d sp.toNat dp.toNat n.toNat) u v (pc + 3) ls st) : MW E mi S Q T R M u v pc ls (pI n :: pI dp :: pR d :: pI sp :: pR a :: st) := by
  intro l p e s m args below meth c H locs la D ar A φ ex B hl
  obtain ⟨⟨hx, hb, hr, hml, hts, hown, hlocks, hnm⟩, ⟨hN, hEx, hK, hA⟩, ⟨hP, hD, hS⟩, hR, hRC⟩ := id B
  have hw' : ∀ {w : Cond}, w ∈ wgT → w.before args s = true := fun z => hts _ z
  have q0 : n0 < 2147483648 := (hR a _ h0).1
  have q1 : n1 < 2147483648 := (hR d _ h1).1
  have t1 := i32_tn (x := sp) ⟨by omega, by omega⟩
  have t2 := i32_tn (x := dp) ⟨by omega, by omega⟩
  have t3 := i32_tn (x := n) ⟨by omega, by omega⟩
  have hnf : nativeFrameWords "java/lang/System" "arraycopy" 5 ≤ 20 := by decide
  refine va_copyl hx hb (by rw [hml]; exact hl.1.symm) hown (hw' hw.1) (hw' hw.2.1) (hw' hw.2.2.1) (hw' hw.2.2.2) hK hP hD hS (gi T a) (gi T d) 1 1 (wsO_at h0 (by decide)) (wsO_at h1 (by decide)) rfl rfl rfl (i32_nneg ⟨by omega, by omega⟩) (i32_nneg ⟨by omega, by omega⟩) (i32_nneg ⟨by omega, by omega⟩) (by rw [t1, t3]; show _ ≤ n0; omega) (by rw [t2, t3]; show _ ≤ n1; omega) (fun _ _ => rfl) hh.1 (by rw [pvW_C]; show _ ≤ 45 * miH mi; have := hh.1; have := hh.2; omega) hd (w_st h B hl h1 (by decide) ?_ (fun _ _ => rfl) (fun b hb => cpM_ne M hb) (cpM_rng hR h0 h1 (fun _ _ => rfl)) hRC)
  rw [t1, t2, t3, cpM_self]
  simp only [cellE]
  congr 5
  funext j
  simp only [va_cpy]
  split <;> rfl
/-! text constants -/
def strO (j : Nat) : String × Nat := match j with
  | 0 => ("LeanLatches$Tape", 18)
  | 1 => ("LeanLatches$Tape", 75)
  | 2 => ("LeanLatches", 115)
  | _ => ("LeanLatches", 135)
theorem w_ldcS {j : Nat} (hj : j < 4) (ho : (strO j).1 = (miY mi).cls) (hd : decode (miC mi) pc = .ok (.ldc (strO j).2, 2)) (h : MW E mi S Q T R M u v (pc + 2) ls (pX (j + 1) :: st)) : MW E mi S Q T R M u v pc ls st := by
  intro l p e s m args below meth c H locs la D ar A φ ex B hl
  obtain ⟨⟨hx, hb, hr, hml, hts, hown, hlocks, hnm⟩, ⟨hN, hEx, hK, hA⟩, ⟨hP, hD, hS⟩, hR, hRC⟩ := id B
  have k9 := h l p e s m args below meth c H locs la D ar A φ ex B hl
  have hs := hEx.2.2.1
  match j, hj with
  | 0, _ => exact va_ldcS hx hb hown (by rw [← ho]; exact hs.1) hd k9
  | 1, _ => exact va_ldcS hx hb hown (by rw [← ho]; exact hs.2.1) hd k9
  | 2, _ => exact va_ldcS hx hb hown (by rw [← ho]; exact hs.2.2.1) hd k9
  | 3, _ => exact va_ldcS hx hb hown (by rw [← ho]; exact hs.2.2.2) hd k9
theorem w_xval {idx j : Nat} (hj : j < 4) (hd : decode (miC mi) pc = .ok (.getfield idx, 3)) (hw : Cond.fieldLink (miY mi).cls idx "java/lang/String" "value" "[B" ∈ wgT) (h : MW E mi S Q T R M u v (pc + 3) ls (pX (j + 5) :: st)) : MW E mi S Q T R M u v pc ls (pX (j + 1) :: st) := by
  intro l p e s m args below meth c H locs la D ar A φ ex B hl
  obtain ⟨⟨hx, hb, hr, hml, hts, hown, hlocks, hnm⟩, ⟨hN, hEx, hK, hA⟩, ⟨hP, hD, hS⟩, hR, hRC⟩ := id B
  exact vk_getf hx hb (hEx.2.1.1 j hj).2.2.1 hS hown (hts _ hw) (fun _ z => z) hd (h l p e s m args below meth c H locs la D ar A φ ex B hl)
theorem w_xcod {idx j : Nat} (hj : j < 4) (hd : decode (miC mi) pc = .ok (.getfield idx, 3)) (hw : Cond.fieldLink (miY mi).cls idx "java/lang/String" "coder" "B" ∈ wgT) (h : MW E mi S Q T R M u v (pc + 3) ls (pI 0 :: st)) : MW E mi S Q T R M u v pc ls (pX (j + 1) :: st) := by
  intro l p e s m args below meth c H locs la D ar A φ ex B hl
  obtain ⟨⟨hx, hb, hr, hml, hts, hown, hlocks, hnm⟩, ⟨hN, hEx, hK, hA⟩, ⟨hP, hD, hS⟩, hR, hRC⟩ := id B
  exact vk_getf hx hb (hEx.2.1.1 j hj).2.1 hS hown (hts _ hw) (fun _ z => z) hd (h l p e s m args below meth c H locs la D ar A φ ex B hl)
theorem w_xlen {j n : Nat} (hj : j < 4) (hn : strL.getD j 0 = n) (hd : decode (miC mi) pc = .ok (.arraylength, 1)) (h : MW E mi S Q T R M u v (pc + 1) ls (pI (n : Int) :: st)) : MW E mi S Q T R M u v pc ls (pX (j + 5) :: st) := by
  intro l p e s m args below meth c H locs la D ar A φ ex B hl
  obtain ⟨⟨hx, hb, hr, hml, hts, hown, hlocks, hnm⟩, ⟨hN, hEx, hK, hA⟩, ⟨hP, hD, hS⟩, hR, hRC⟩ := id B
  exact va_tlen hx hb (hEx.2.1.1 j hj).2.2.2 hS (v := Int32.ofInt (n : Int)) (by rw [hn]; exact ofNat_ofInt n) hd (h l p e s m args below meth c H locs la D ar A φ ex B hl)
theorem w_xald {j n : Nat} {i x : Int} (hj : j < 4) (hn : strL.getD j 0 = n) (hn2 : n < 2147483648) (hd : decode (miC mi) pc = .ok (.baload, 1)) (hi : 0 ≤ i ∧ i < n) (hxv : (strB.getD j []).getD i.toNat 0 = Int32.ofInt x) (h : MW E mi S Q T R M u v (pc + 1) ls (pI x :: st)) : MW E mi S Q T R M u v pc ls (pI i :: pX (j + 5) :: st) := by
  intro l p e s m args below meth c H locs la D ar A φ ex B hl
  obtain ⟨⟨hx, hb, hr, hml, hts, hown, hlocks, hnm⟩, ⟨hN, hEx, hK, hA⟩, ⟨hP, hD, hS⟩, hR, hRC⟩ := id B
  exact va_tb hx hb (hEx.2.1.1 j hj).2.2.2 hS (by rw [hn]; exact i32_in hi.1 hi.2 hn2) (by rw [i32_clamp hi.1 hi.2 hn2, hxv]; rfl) hd (h l p e s m args below meth c H locs la D ar A φ ex B hl)
theorem w_compact {idx : Nat} (hd : decode (miC mi) pc = .ok (.getstatic idx, 3)) (hw : Cond.fieldLink (miY mi).cls idx "java/lang/String" "COMPACT_STRINGS" "Z" ∈ wgT) (h : MW E mi S Q T R M u v (pc + 3) ls (pI 1 :: st)) : MW E mi S Q T R M u v pc ls st := by
  intro l p e s m args below meth c H locs la D ar A φ ex B hl
  obtain ⟨⟨hx, hb, hr, hml, hts, hown, hlocks, hnm⟩, ⟨hN, hEx, hK, hA⟩, ⟨hP, hD, hS⟩, hR, hRC⟩ := id B
  exact va_gets hx hb hEx.2.2.2.1 hS hown (hts _ hw) (fun _ z => z) hd (h l p e s m args below meth c H locs la D ar A φ ex B hl)
theorem w_callX {idx n j : Nat} {as : List PV} (hd : decode (miC mi) pc = .ok (.invokevirtual idx, 3)) (ho : MiOk mi2 n) (hv : Cond.instanceMethod (miY mi2) ∈ wgT ∧ Cond.selects (miY mi2).cls (miY mi2) (miY mi2) ∈ wgT ∧ (miY mi2).cls = "java/lang/String" ∧ Cond.methodLink (miY mi).cls idx (miY mi2) ∈ wgT) (hrm : Rm mi mi2 u v st) (hj : j < 4) (hn : as.length = n) (hlen : pvW (pX (j + 1) :: as) ≤ miL mi2) (hSS : ∀ a, S a → S2 a) (hstb : Stb S2 ls st)
    (h : MW E mi2 S2 (fun r T' R' M' => MW E mi S Q T' R' M' (u + miMc mi2) (v + miMs mi2) (pc + 3) ls (r.toList ++ st)) T R M 0 0 0 (pvA 0 (pX (j + 1) :: as)) []) : MW E mi S Q T R M u v pc ls (as.reverse ++ pX (j + 1) :: st) := by
  intro l p e s m args below meth c H locs la D ar A φ ex B hl
  obtain ⟨⟨hx, hb, hr, hml, hts, hown, hlocks, hnm⟩, ⟨hN, hEx, hK, hA⟩, ⟨hP, hD, hS⟩, hR, hRC⟩ := id B
  obtain ⟨⟨ho1, ho2⟩, ho3, ho4, ho5⟩ := ho
  have hG := goodIn_wg ho1
  have hM := metOf h ho4 hlen l D ar φ ex H.size
  have hw : ∀ {w : Cond}, w ∈ wgT → w.before args s = true := fun z => hts _ z
  have hrc : ∃ cell : Cell, H[ex (j + 1)]? = some cell ∧ cell.vm.isStatics = false ∧ s.vm.findClass (miY mi2).cls = some cell.cls := by
    rw [hv.2.2.1]
    exact vk_recv (i := j) hEx.2.1 hj hS
  have hstk : (as.reverse ++ pX (j + 1) :: st).map (toV φ ex) = (as.map (toV φ ex)).reverse ++ .ref (ex (j + 1)) :: st.map (toV φ ex) := by
    rw [List.map_append, List.map_reverse]; rfl
  have hW8 : 2 * (F0 m pc la ((as.reverse ++ pX (j + 1) :: st).map (toV φ ex))).monitorRoom + ((st.map (toV φ ex)).map fun w => w.category).sum ≤ 8 := lv_room (by rw [pvW_C]; exact hrm.2)
  exact w_back (va_runV (As := as.map (toV φ ex)) (rest := st.map (toV φ ex)) (C := (miY mi2).cls) (Ts := wgT) ⟨hx, hb, hml, hown, hts⟩ hM ⟨callB_of n hts hG rfl rfl rfl (hw ho2) (hw hv.2.2.2) ho3 (room_ok ho5 hrm.1.1), hw hv.1, hw hv.2.1⟩ ⟨PcO_blind, hrc, pc_ok (l := l) (e := e) (as := pX (j + 1) :: as) B⟩ rfl (by rw [List.length_map]; exact hn) hl.1 hstk hW8 hd ⟨hrm.1.2.1, hrm.1.2.2⟩) B hl hSS hstb (fun r T' R' M' hq => hq)
theorem w_cret {x : Int} (hd : decode (miC mi) pc = .ok (.ireturn, 1)) (hrt : miT mi = some .char) (hz : 0 ≤ x ∧ x < 65536) (hc : u ≤ miMc mi ∧ v ≤ miMs mi) (h : Q (some (pI x)) T R M) : MW E mi S Q T R M u v pc ls [pI x] := by
  intro l p e s m args below meth c H locs la D ar A φ ex B hl
  obtain ⟨⟨hx, hb, hr, hml, hts, hown, hlocks, hnm⟩, ⟨hN, hEx, hK, hA⟩, ⟨hP, hD, hS⟩, hR, hRC⟩ := id B
  refine W.widen hc.1 hc.2 ?_
  have hn : narrow .char (.int (Int32.ofInt x)) = .int (Int32.ofInt x) := by
    show Value.int _ = Value.int _
    congr 1
    exact (lg_i2c_nf _).symm.trans (lg_i2c_word (by rw [i32_toInt ⟨by omega, by omega⟩]; omega) (by rw [i32_toInt ⟨by omega, by omega⟩]; omega))
  exact W.zret hx hb (hr.trans hrt) hn (fun t ht hW => ⟨⟨some (pI x), T, R, M, φ, rfl, h, fun _ _ => rfl, by rw [ht]; exact hP, va_K.moved hW.alike hK, hD, hR, hRC⟩, hS.F ht⟩) hS.2.2 hd
theorem w_i2b {x : Int} (hd : decode (miC mi) pc = .ok (.i2b, 1)) (hxr : -128 ≤ x ∧ x < 128) (h : MW E mi S Q T R M u v (pc + 1) ls (pI x :: st)) : MW E mi S Q T R M u v pc ls (pI x :: st) := by
  intro l p e s m args below meth c H locs la D ar A φ ex B hl
  obtain ⟨⟨hx, hb, hr, hml, hts, hown, hlocks, hnm⟩, ⟨hN, hEx, hK, hA⟩, ⟨hP, hD, hS⟩, hR, hRC⟩ := id B
  refine lv_i2b hx hb hd ?_ (h l p e s m args below meth c H locs la D ar A φ ex B hl)
  rw [← Int32.toInt_inj, Int8.toInt_toInt32, Int32.toInt_toInt8, i32_toInt ⟨by omega, by omega⟩, Int.bmod_def]
  omega
def bUshr (x y : Int) : Int := ((Int32.ofInt x).toUInt32 >>> ((Int32.ofInt y).toUInt32 &&& Int32.toUInt32 31)).toInt32.toInt
theorem w_iushr {x y : Int} (hd : decode (miC mi) pc = .ok (.iushr, 1)) (h : MW E mi S Q T R M u v (pc + 1) ls (pI (bUshr x y) :: st)) : MW E mi S Q T R M u v pc ls (pI y :: pI x :: st) := by
  intro l p e s m args below meth c H locs la D ar A φ ex B hl
  obtain ⟨⟨hx, hb, hr, hml, hts, hown, hlocks, hnm⟩, ⟨hN, hEx, hK, hA⟩, ⟨hP, hD, hS⟩, hR, hRC⟩ := id B
  refine lv_iushr hx hb hd (v := Int32.ofInt (bUshr x y)) ?_ (h l p e s m args below meth c H locs la D ar A φ ex B hl)
  rw [bUshr, Int32.ofInt_toInt]
end MISC
