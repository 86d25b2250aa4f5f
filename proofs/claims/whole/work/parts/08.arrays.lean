/-! arrays over the pure picture; what lies outside -/
def okT (t : FieldType) : Bool := match t with
  | .int => true
  | .long => true
  | .boolean => true
  | .object _ => true
  | .array _ => true
  | _ => false
theorem fTyOk : ∀ ci, ci < 12 → ∀ j, j < nF ci → okT (fTy ci j) = true := by decide +kernel
section ARRAYS
variable {E : Scr} {mi : Mi} {S : Nat → Prop} {Q : Post} {T : Shp} {R : Rfs} {M : Mem} {u v pc : Nat} {ls : List (Nat × PV)} {st : List PV}
theorem w_iald {a n : Nat} {i x : Int} (hd : decode (miC mi) pc = .ok (.iaload, 1)) (hT : T[a]? = some (20, n)) (hi : 0 ≤ i ∧ i < n) (hv : M a i.toNat = x) (h : iR x → MW E mi S Q T R M u v (pc + 1) ls (pI x :: st)) : MW E mi S Q T R M u v pc ls (pI i :: pR a :: st) := by
  subst hv
  intro l p e s m args below meth c H locs la D ar A φ ex B hl
  obtain ⟨⟨hx, hb, hr, hml, hts, hown, hlocks, hnm⟩, ⟨hN, hEx, hK, hA⟩, ⟨hP, hD, hS⟩, hR, hRC⟩ := id B
  have hn := (hR a _ hT).1
  have k9 := h ((hR a _ hT).2 i.toNat) l p e s m args below meth c H locs la D ar A φ ex B hl
  refine va_iald hx hb hK hP (gi T a) 0 (wsO_at hT (by decide)) rfl (i32_in hi.1 hi.2 hn) hd ?_
  rw [i32_clamp hi.1 hi.2 hn]
  exact k9
theorem w_zald {a n : Nat} {i x : Int} (hd : decode (miC mi) pc = .ok (.baload, 1)) (hT : T[a]? = some (22, n)) (hi : 0 ≤ i ∧ i < n) (hv : M a i.toNat = x) (h : zR x → MW E mi S Q T R M u v (pc + 1) ls (pI x :: st)) : MW E mi S Q T R M u v pc ls (pI i :: pR a :: st) := by
  subst hv
  intro l p e s m args below meth c H locs la D ar A φ ex B hl
  obtain ⟨⟨hx, hb, hr, hml, hts, hown, hlocks, hnm⟩, ⟨hN, hEx, hK, hA⟩, ⟨hP, hD, hS⟩, hR, hRC⟩ := id B
  have hn := (hR a _ hT).1
  have k9 := h ((hR a _ hT).2 i.toNat) l p e s m args below meth c H locs la D ar A φ ex B hl
  refine va_zald hx hb hK hP (gi T a) 2 (wsO_at hT (by decide)) rfl (i32_in hi.1 hi.2 hn) hd ?_
  rw [i32_clamp hi.1 hi.2 hn]
  exact k9
theorem w_lald {a n : Nat} {i x : Int} (hd : decode (miC mi) pc = .ok (.laload, 1)) (hT : T[a]? = some (21, n)) (hi : 0 ≤ i ∧ i < n) (hv : M a i.toNat = x) (h : lR x → MW E mi S Q T R M u v (pc + 1) ls (pL x :: st)) : MW E mi S Q T R M u v pc ls (pI i :: pR a :: st) := by
  subst hv
  intro l p e s m args below meth c H locs la D ar A φ ex B hl
  obtain ⟨⟨hx, hb, hr, hml, hts, hown, hlocks, hnm⟩, ⟨hN, hEx, hK, hA⟩, ⟨hP, hD, hS⟩, hR, hRC⟩ := id B
  have hn := (hR a _ hT).1
  have k9 := h ((hR a _ hT).2 i.toNat) l p e s m args below meth c H locs la D ar A φ ex B hl
  refine va_lald hx hb hK hP (gi T a) 1 (wsO_at hT (by decide)) rfl (i32_in hi.1 hi.2 hn) hd ?_
  rw [i32_clamp hi.1 hi.2 hn]
  exact k9
/-- what a store leaves -/
theorem w_st {a n kd : Nat} {R' : Rfs} {M' : Mem} {e9 : va_E} {st' : List PV} {pc' : Nat} {l : Lch} {p : Program} {e : Env} {s : State} {m : MethodId} {args : Array Value} {below : List Frame} {meth : Method} {c : Code} {H : Heap} {locs : List Loc} {la : Array Slot} {D : va_G} {ar : Nat → ClassId} {A : Nat → Prop} {φ ex : Nat → Nat}
    (h : MW E mi S Q T R' M' u v pc' ls st') (B : mB E mi p s m args meth c H locs D ar A φ ex T R M) (hl : lv_has la (miL mi) (lsV φ ex ls)) (hT : T[a]? = some (kd, n)) (hkd : kd ≠ 30) (he : e9 = cellE φ ar (kd, n) (R' a) (M' a)) (hR1 : ∀ b, b ≠ a → R' b = R b) (hM1 : ∀ b, b ≠ a → M' b = M b) (hrg : Rng T M') (hrc : RC T.length R') :
    ∀ (H1 : Heap) (locs1 : List Loc), va_P D vwCl ((wsO φ ar T R M).set (gi T a) (φ a, e9)) H1 → va_D A ((wsO φ ar T R M).set (gi T a) (φ a, e9)) → va_S A s.heap H1 locs1 → W p l.val e (miR mi) s m args below meth c H1 locs1 u v (MQ below (QcO D ar φ ex S A Q) args s (miMc mi) (miMs mi) A) (F0 m pc' la (st'.map (toV φ ex))) := by
  intro H1 locs1 p1 d1 s1
  rw [wsO_setG hT hkd he hR1 hM1] at p1 d1
  obtain ⟨b1, b2, -, hR, hRC⟩ := B
  exact h l p e s m args below meth c H1 locs1 la D ar A φ ex ⟨b1, b2, ⟨p1, d1, s1⟩, hrg, hrc⟩ hl
theorem w_iast {a n : Nat} {i x : Int} (hd : decode (miC mi) pc = .ok (.iastore, 1)) (hT : T[a]? = some (20, n)) (hi : 0 ≤ i ∧ i < n) (hxr : iR x) (h : MW E mi S Q T R (upM M a i.toNat x) u v (pc + 1) ls st) : MW E mi S Q T R M u v pc ls (pI x :: pI i :: pR a :: st) := by
  intro l p e s m args below meth c H locs la D ar A φ ex B hl
  obtain ⟨⟨hx, hb, hr, hml, hts, hown, hlocks, hnm⟩, ⟨hN, hEx, hK, hA⟩, ⟨hP, hD, hS⟩, hR, hRC⟩ := id B
  have hn := (hR a _ hT).1
  refine va_iast hx hb hK hP hD hS (gi T a) 0 (wsO_at hT (by decide)) rfl (i32_in hi.1 hi.2 hn) hd (w_st h B hl hT (by decide) ?_ (fun _ _ => rfl) (fun b hb => upM_ne M _ x hb) (hR.up hT hxr) hRC)
  rw [i32_clamp hi.1 hi.2 hn, upM_self]
  simp only [cellE]
  congr 4
  funext j
  by_cases hj : j = i.toNat <;> simp [upd, va_up, hj]
theorem w_zast {a n : Nat} {i x : Int} (hd : decode (miC mi) pc = .ok (.bastore, 1)) (hT : T[a]? = some (22, n)) (hi : 0 ≤ i ∧ i < n) (hxr : zR x) (h : MW E mi S Q T R (upM M a i.toNat x) u v (pc + 1) ls st) : MW E mi S Q T R M u v pc ls (pI x :: pI i :: pR a :: st) := by
  intro l p e s m args below meth c H locs la D ar A φ ex B hl
  obtain ⟨⟨hx, hb, hr, hml, hts, hown, hlocks, hnm⟩, ⟨hN, hEx, hK, hA⟩, ⟨hP, hD, hS⟩, hR, hRC⟩ := id B
  have hn := (hR a _ hT).1
  refine va_zast hx hb hK hP hD hS (gi T a) 2 (wsO_at hT (by decide)) rfl (i32_in hi.1 hi.2 hn) hd (w_st h B hl hT (by decide) ?_ (fun _ _ => rfl) (fun b hb => upM_ne M _ x hb) (hR.up hT hxr) hRC)
  rw [i32_clamp hi.1 hi.2 hn, upM_self]
  have hz : vp_nar .boolean (Int32.ofInt x) = Int32.ofInt x := by rcases hxr with rfl | rfl <;> rfl
  rw [hz]
  simp only [cellE]
  congr 4
  funext j
  by_cases hj : j = i.toNat <;> simp [upd, va_up, hj]
theorem w_last {a n : Nat} {i x : Int} (hd : decode (miC mi) pc = .ok (.lastore, 1)) (hT : T[a]? = some (21, n)) (hi : 0 ≤ i ∧ i < n) (hxr : lR x) (h : MW E mi S Q T R (upM M a i.toNat x) u v (pc + 1) ls st) : MW E mi S Q T R M u v pc ls (pL x :: pI i :: pR a :: st) := by
  intro l p e s m args below meth c H locs la D ar A φ ex B hl
  obtain ⟨⟨hx, hb, hr, hml, hts, hown, hlocks, hnm⟩, ⟨hN, hEx, hK, hA⟩, ⟨hP, hD, hS⟩, hR, hRC⟩ := id B
  have hn := (hR a _ hT).1
  refine va_last hx hb hK hP hD hS (gi T a) 1 (wsO_at hT (by decide)) rfl (i32_in hi.1 hi.2 hn) hd (w_st h B hl hT (by decide) ?_ (fun _ _ => rfl) (fun b hb => upM_ne M _ x hb) (hR.up hT hxr) hRC)
  rw [i32_clamp hi.1 hi.2 hn, upM_self]
  simp only [cellE]
  congr 5
  funext j
  by_cases hj : j = i.toNat <;> simp [vp_updL, va_up, hj]
theorem ofNat_ofInt (n : Nat) : Int32.ofNat n = Int32.ofInt (n : Int) := by rw [Int32.ofInt_eq_ofNat]
theorem w_aleni {a n : Nat} (hd : decode (miC mi) pc = .ok (.arraylength, 1)) (hT : T[a]? = some (20, n)) (h : MW E mi S Q T R M u v (pc + 1) ls (pI (n : Int) :: st)) : MW E mi S Q T R M u v pc ls (pR a :: st) := by
  intro l p e s m args below meth c H locs la D ar A φ ex B hl
  obtain ⟨⟨hx, hb, hr, hml, hts, hown, hlocks, hnm⟩, ⟨hN, hEx, hK, hA⟩, ⟨hP, hD, hS⟩, hR, hRC⟩ := id B
  exact va_alen hx hb hK hP (gi T a) 0 (wsO_at hT (by decide)) rfl (v := Int32.ofInt (n : Int)) (ofNat_ofInt n) hd (h l p e s m args below meth c H locs la D ar A φ ex B hl)
theorem w_alenl {a n : Nat} (hd : decode (miC mi) pc = .ok (.arraylength, 1)) (hT : T[a]? = some (21, n)) (h : MW E mi S Q T R M u v (pc + 1) ls (pI (n : Int) :: st)) : MW E mi S Q T R M u v pc ls (pR a :: st) := by
  intro l p e s m args below meth c H locs la D ar A φ ex B hl
  obtain ⟨⟨hx, hb, hr, hml, hts, hown, hlocks, hnm⟩, ⟨hN, hEx, hK, hA⟩, ⟨hP, hD, hS⟩, hR, hRC⟩ := id B
  exact va_alen hx hb hK hP (gi T a) 1 (wsO_at hT (by decide)) rfl (v := Int32.ofInt (n : Int)) (ofNat_ofInt n) hd (h l p e s m args below meth c H locs la D ar A φ ex B hl)
/-- the script -/
theorem w_sld {i : Int} (hd : decode (miC mi) pc = .ok (.iaload, 1)) (hi : 0 ≤ i ∧ i < E.1) (h : iR (E.2 i.toNat) → MW E mi S Q T R M u v (pc + 1) ls (pI (E.2 i.toNat) :: st)) : MW E mi S Q T R M u v pc ls (pI i :: pX 0 :: st) := by
  intro l p e s m args below meth c H locs la D ar A φ ex B hl
  obtain ⟨⟨hx, hb, hr, hml, hts, hown, hlocks, hnm⟩, ⟨hN, hEx, hK, hA⟩, ⟨hP, hD, hS⟩, hR, hRC⟩ := id B
  have hn := hEx.1.2.1
  exact va_ti hx hb hEx.1.1 hS (i32_in hi.1 hi.2 hn) (by rw [i32_clamp hi.1 hi.2 hn]; rfl) hd (h (hEx.1.2.2 _) l p e s m args below meth c H locs la D ar A φ ex B hl)
theorem w_slen (hd : decode (miC mi) pc = .ok (.arraylength, 1)) (h : E.1 < 2147483648 → MW E mi S Q T R M u v (pc + 1) ls (pI (E.1 : Int) :: st)) : MW E mi S Q T R M u v pc ls (pX 0 :: st) := by
  intro l p e s m args below meth c H locs la D ar A φ ex B hl
  obtain ⟨⟨hx, hb, hr, hml, hts, hown, hlocks, hnm⟩, ⟨hN, hEx, hK, hA⟩, ⟨hP, hD, hS⟩, hR, hRC⟩ := id B
  exact va_tlen hx hb hEx.1.1 hS (v := Int32.ofInt (E.1 : Int)) (ofNat_ofInt E.1) hd (h hEx.1.2.1 l p e s m args below meth c H locs la D ar A φ ex B hl)
/-! cells are made -/
def rfOk (n : Nat) : PV → Bool
  | Sum.inr (Sum.inr (Sum.inl (some b))) => decide (b < n)
  | _ => true
theorem rfOk_V {n : Nat} {φ φ' ex : Nat → Nat} (hφ : ∀ a, a < n → φ' a = φ a) {x : PV} (h : rfOk n x = true) : toV φ' ex x = toV φ ex x := by
  rcases x with x | x | (_ | b) | x
  · rfl
  · rfl
  · rfl
  · have hb : b < n := by simpa [rfOk] using h
    show va_rf ((some b).map φ') = va_rf ((some b).map φ)
    rw [Option.map_some, Option.map_some, hφ b hb]
  · rfl
theorem lsV_ok {n : Nat} {φ φ' ex : Nat → Nat} (hφ : ∀ a, a < n → φ' a = φ a) {ls : List (Nat × PV)} (h : ls.all (fun q => rfOk n q.2) = true) : lsV φ' ex ls = lsV φ ex ls := by
  apply List.map_congr_left
  intro q hq
  rw [rfOk_V hφ (List.all_eq_true.mp h q hq)]
theorem stV_ok {n : Nat} {φ φ' ex : Nat → Nat} (hφ : ∀ a, a < n → φ' a = φ a) {st : List PV} (h : st.all (rfOk n) = true) : st.map (toV φ' ex) = st.map (toV φ ex) := by
  apply List.map_congr_left
  intro q hq
  rw [rfOk_V hφ (List.all_eq_true.mp h q hq)]
theorem cellE_ok {n : Nat} {φ φ' : Nat → Nat} (hφ : ∀ a, a < n → φ' a = φ a) {ar : Nat → ClassId} {t : Nat × Nat} {R : Nat → Option Nat} {M : Nat → Int} (hRC : ∀ k b, R k = some b → b < n) : cellE φ' ar t R M = cellE φ ar t R M := by
  have hr : ∀ k, (R k).map φ' = (R k).map φ := by
    intro k
    cases hk : R k with
    | none => rfl
    | some b => rw [Option.map_some, Option.map_some, hφ b (hRC k b hk)]
  have hf : ∀ ci, fldsV φ' ci R M = fldsV φ ci R M := by
    intro ci
    apply List.map_congr_left
    intro k _
    unfold fldV
    rw [hr k]
  unfold cellE
  split <;> first | rfl | (simp only [hr]; done) | rw [hf]
theorem wsO_ok {φ φ' : Nat → Nat} {ar : Nat → ClassId} {T : Shp} {R : Rfs} {M : Mem} (hφ : ∀ a, a < T.length → φ' a = φ a) (hRC : RC T.length R) : wsO φ' ar T R M = wsO φ ar T R M := by
  apply List.map_congr_left
  intro a ha
  have ha : a < T.length := List.mem_range.mp (List.mem_filter.mp ha).1
  rw [hφ a ha, cellE_ok hφ (hRC a)]
theorem upφ {φ : Nat → Nat} {n q : Nat} : ∀ a, a < n → va_up φ n q a = φ a := fun a h => by simp [va_up, Nat.ne_of_lt h]
theorem QcO_mono {D : va_G} {ar : Nat → ClassId} {φ φ' ex : Nat → Nat} {A : Nat → Prop} (hφ : ∀ a, S a → φ' a = φ a) {as : Array Value} {st t : State} {o : Outcome} (h : QcO D ar φ' ex S A Q as st o t) : QcO D ar φ ex S A Q as st o t := by
  obtain ⟨⟨r, T, R, M, φ'', h1, h2, h3, h4⟩, h5⟩ := h
  exact ⟨⟨r, T, R, M, φ'', h1, h2, fun a ha => (h3 a ha).trans (hφ a ha), h4⟩, h5⟩
theorem W_mono {l : Launch} {p : Program} {e : Env} {Rm : Room} {s : State} {m : MethodId} {args : Array Value} {below : List Frame} {meth : Method} {c : Code} {H : Heap} {locs : List Loc} {Q1 Q2 : State → Prop} {g : JFrame} (hq : ∀ t, Q1 t → Q2 t) (h : W p l e Rm s m args below meth c H locs u v Q1 g) : W p l e Rm s m args below meth c H locs u v Q2 g := by
  intro T hT X
  obtain ⟨t, h1, h2⟩ := h T hT X
  exact ⟨t, h1, hq t h2⟩
theorem MQ_mono {below : List Frame} {Q1 Q2 : Array Value → State → Outcome → State → Prop} {a : Array Value} {s : State} {mc ms : Nat} {fr : Addr → Prop} (hq : ∀ o t, Q1 a s o t → Q2 a s o t) : ∀ t, MQ below Q1 a s mc ms fr t → MQ below Q2 a s mc ms fr t := by
  intro t h
  obtain ⟨o, h1, h2, h3, h4⟩ := h
  exact ⟨o, h1, h2, hq o t h3, h4⟩
/-- what a making leaves: the new cell's place is T.length -/
theorem w_mk {t : Nat × Nat} {st' : List PV} {pc' u' v' : Nat} (h : MW E mi S Q (T ++ [t]) R M u' v' pc' ls (pR T.length :: st')) (hSn : ∀ a, S a → a < T.length) (hls : ls.all (fun q => rfOk T.length q.2) = true) (hst : st'.all (rfOk T.length) = true) (hz : ∀ k, M T.length k = 0) (ht : t.2 < 2147483648 ∧ t.1 ≠ 30)
    {l : Lch} {p : Program} {e : Env} {s : State} {m : MethodId} {args : Array Value} {below : List Frame} {meth : Method} {c : Code} {H H1 : Heap} {locs : List Loc} {la : Array Slot} {D : va_G} {ar : Nat → ClassId} {A : Nat → Prop} {φ ex : Nat → Nat}
    (B : mB E mi p s m args meth c H locs D ar A φ ex T R M) (hl : lv_has la (miL mi) (lsV φ ex ls)) {q : Nat} {e9 : va_E} (he : e9 = cellE (va_up φ T.length q) ar t (R T.length) (M T.length)) (hP : va_P D vwCl (wsO φ ar T R M ++ [(q, e9)]) H1) (hD : va_D A (wsO φ ar T R M ++ [(q, e9)])) (hS : va_S A s.heap H1 locs) :
    W p l.val e (miR mi) s m args below meth c H1 locs u' v' (MQ below (QcO D ar φ ex S A Q) args s (miMc mi) (miMs mi) A) (F0 m pc' la (.ref q :: st'.map (toV φ ex))) := by
  obtain ⟨b1, b2, -, hR, hRC⟩ := B
  have hφ : ∀ a, a < T.length → va_up φ T.length q a = φ a := upφ
  have hw : wsO φ ar T R M ++ [(q, e9)] = wsO (va_up φ T.length q) ar (T ++ [t]) R M := by
    rw [wsO_push ht.2, wsO_ok hφ hRC, he, va_up_self]
  rw [hw] at hP hD
  have k9 := h l p e s m args below meth c H1 locs la D ar A (va_up φ T.length q) ex ⟨b1, b2, ⟨hP, hD, hS⟩, hR.push ht.1 hz, fun a k b hb => by rw [List.length_append]; exact Nat.lt_of_lt_of_le (hRC a k b hb) (Nat.le_add_right _ _)⟩ (by rw [lsV_ok hφ hls]; exact hl)
  rw [List.map_cons, stV_ok hφ hst] at k9
  have e1 : toV (va_up φ T.length q) ex (pR T.length) = .ref q := by show va_rf ((some T.length).map _) = _; rw [Option.map_some, va_up_self]; rfl
  rw [e1] at k9
  exact W_mono (MQ_mono fun o t hq => QcO_mono (fun a ha => hφ a (hSn a ha)) hq) k9
theorem w_new {idx ci N : Nat} {C : String} (hd : decode (miC mi) pc = .ok (.new idx, 3)) (hci : ci < 12) (hC : ∃ Tt, vwCl[ci]? = some (C, Tt, N)) (hw : Cond.classLink (miY mi).cls idx C ∈ wgT ∧ Cond.instantiable C N ∈ wgT ∧ Cond.initialized C ∈ wgT) (hSn : ∀ a, S a → a < T.length) (hls : ls.all (fun q => rfOk T.length q.2) = true) (hst : st.all (rfOk T.length) = true) (hz : ∀ k, M T.length k = 0) (hzr : ∀ k, R T.length k = none)
    (hu : u + 1 ≤ miMc mi ∧ v + N ≤ miMs mi) (h : MW E mi S Q (T ++ [(ci, 0)]) R M (u + 1) (v + N) (pc + 3) ls (pR T.length :: st)) : MW E mi S Q T R M u v pc ls st := by
  intro l p e s m args below meth c H locs la D ar A φ ex B hl
  obtain ⟨⟨hx, hb, hr, hml, hts, hown, hlocks, hnm⟩, ⟨hN, hEx, hK, hA⟩, ⟨hP, hD, hS⟩, hR, hRC⟩ := id B
  obtain ⟨Tt, hC⟩ := hC
  obtain ⟨q, hq, hws, hnf, hty, hne⟩ := cls_all hci
  have hqC : q = (C, Tt, N) := Option.some.inj (hq.symm.trans hC)
  subst hqC
  refine va_new (ci := ci) (fs := fldsV φ ci (fun _ => none) (fun _ => 0)) (C := C) (T := Tt) (N := N) hx hb (Ts := wgT) hts hws (fTy ci) hty hown (hts _ hw.1) (hts _ hw.2.1) (hts _ hw.2.2) hK hP hD hS hA hC ?_ hu.1 hu.2 hd (fun q H1 p1 d1 s1 => w_mk h hSn hls hst hz ⟨show 0 < 2147483648 by omega, show ci ≠ 30 by omega⟩ B hl ?_ p1 d1 s1)
  · intro j hj
    have hj' : j < nF ci := by rw [hnf]; exact hj
    rw [vp_V, List.getD_eq_getElem?_getD, fldsV_at hj']
    have h3 := fTyOk ci hci j hj'
    unfold fldV fK
    generalize fTy ci j = ty at h3 ⊢
    cases ty <;> first | rfl | cases h3
  · rw [cellE_obj (by omega)]
    congr 2
    have e1 : R T.length = fun _ => none := funext hzr
    have e2 : M T.length = fun _ => 0 := funext hz
    rw [e1, e2]
    apply List.map_congr_left
    intro k _
    rfl
theorem cA_eq {D : va_G} {ar : Nat → ClassId} {s : State} {cA : ClassId} {ty : FieldType} {j : Nat} (hK : va_K D vwCl (tysO ar) s) (hK2 : va_K D vwCl (tysO ar ++ [(cA, ty)]) s) (hj : (tysO ar)[j]? = some (ar j, ty)) (hp : ∀ U c, va_RA U c ty → U.vm.findClass ("[" ++ ty.toString) = some c) : cA = ar j := by
  have h1 := (hK2.2 3 (cA, ty) rfl).2
  have h2 := (hK.2 j (ar j, ty) hj).2
  exact Option.some.inj ((hp _ _ h1).symm.trans (hp _ _ h2))
theorem i32_nn {n : Nat} (hn : n < 2147483648) : ¬ Int32.ofInt (n : Int) < 0 := by
  intro h
  have h2 : Int32.ofInt (n : Int) < Int32.ofInt 0 := h
  rw [i32_lt ⟨by omega, by omega⟩ ⟨by omega, by omega⟩] at h2
  omega
theorem i32_cl {n : Nat} (hn : n < 2147483648) : (Int32.ofInt (n : Int)).toNatClampNeg = n := by
  rw [Int32.toNatClampNeg, i32_toInt ⟨by omega, by omega⟩]; rfl
theorem w_newI {n : Nat} {x : Int} (hd : decode (miC mi) pc = .ok (.newarray .int, 2)) (hxn : x = n) (hn : n < 1000000) (hw : Cond.arrayClass .int ∈ wgT) (hSn : ∀ a, S a → a < T.length) (hls : ls.all (fun q => rfOk T.length q.2) = true) (hst : st.all (rfOk T.length) = true) (hz : ∀ k, M T.length k = 0)
    (hu : u + 1 ≤ miMc mi ∧ v + n ≤ miMs mi) (h : MW E mi S Q (T ++ [(20, n)]) R M (u + 1) (v + n) (pc + 2) ls (pR T.length :: st)) : MW E mi S Q T R M u v pc ls (pI x :: st) := by
  subst hxn
  intro l p e s m args below meth c H locs la D ar A φ ex B hl
  obtain ⟨⟨hx, hb, hr, hml, hts, hown, hlocks, hnm⟩, ⟨hN, hEx, hK, hA⟩, ⟨hP, hD, hS⟩, hR, hRC⟩ := id B
  refine va_newa (atype := .int) hx hb (hts _ hw) (ty := .int) rfl hK hP hD hS hA (N' := n) (a0 := (n, .inl (fun _ => 0))) (fun cA => rfl) (i32_nn (by omega)) (i32_cl (by omega)) (by show n * 4 ≤ _; omega) hu.1 hu.2 hd (fun q cA H1 k1 p1 d1 s1 => w_mk h hSn hls hst hz ⟨show n < 2147483648 by omega, show 20 ≠ 30 by decide⟩ B hl ?_ p1 d1 s1)
  rw [cA_eq (j := 0) hK k1 rfl (fun _ _ z => z)]
  simp only [cellE]
  congr 4
  funext j
  rw [hz]; rfl
theorem w_newL {n : Nat} {x : Int} (hd : decode (miC mi) pc = .ok (.newarray .long, 2)) (hxn : x = n) (hn : n < 1000000) (hw : Cond.arrayClass .long ∈ wgT) (hSn : ∀ a, S a → a < T.length) (hls : ls.all (fun q => rfOk T.length q.2) = true) (hst : st.all (rfOk T.length) = true) (hz : ∀ k, M T.length k = 0)
    (hu : u + 1 ≤ miMc mi ∧ v + n ≤ miMs mi) (h : MW E mi S Q (T ++ [(21, n)]) R M (u + 1) (v + n) (pc + 2) ls (pR T.length :: st)) : MW E mi S Q T R M u v pc ls (pI x :: st) := by
  subst hxn
  intro l p e s m args below meth c H locs la D ar A φ ex B hl
  obtain ⟨⟨hx, hb, hr, hml, hts, hown, hlocks, hnm⟩, ⟨hN, hEx, hK, hA⟩, ⟨hP, hD, hS⟩, hR, hRC⟩ := id B
  refine va_newa (atype := .long) hx hb (hts _ hw) (ty := .long) rfl hK hP hD hS hA (N' := n) (a0 := (n, .inr (.inl (fun _ => 0)))) (fun cA => rfl) (i32_nn (by omega)) (i32_cl (by omega)) (by show n * 8 ≤ _; omega) hu.1 hu.2 hd (fun q cA H1 k1 p1 d1 s1 => w_mk h hSn hls hst hz ⟨show n < 2147483648 by omega, show 21 ≠ 30 by decide⟩ B hl ?_ p1 d1 s1)
  rw [cA_eq (j := 1) hK k1 rfl (fun _ _ z => z)]
  simp only [cellE]
  congr 5
  funext j
  rw [hz]; rfl
theorem w_newZ {n : Nat} {x : Int} (hd : decode (miC mi) pc = .ok (.newarray .boolean, 2)) (hxn : x = n) (hn : n < 1000000) (hw : Cond.arrayClass .boolean ∈ wgT) (hSn : ∀ a, S a → a < T.length) (hls : ls.all (fun q => rfOk T.length q.2) = true) (hst : st.all (rfOk T.length) = true) (hz : ∀ k, M T.length k = 0)
    (hu : u + 1 ≤ miMc mi ∧ v + n ≤ miMs mi) (h : MW E mi S Q (T ++ [(22, n)]) R M (u + 1) (v + n) (pc + 2) ls (pR T.length :: st)) : MW E mi S Q T R M u v pc ls (pI x :: st) := by
  subst hxn
  intro l p e s m args below meth c H locs la D ar A φ ex B hl
  obtain ⟨⟨hx, hb, hr, hml, hts, hown, hlocks, hnm⟩, ⟨hN, hEx, hK, hA⟩, ⟨hP, hD, hS⟩, hR, hRC⟩ := id B
  refine va_newa (atype := .boolean) hx hb (hts _ hw) (ty := .boolean) rfl hK hP hD hS hA (N' := n) (a0 := (n, .inl (fun _ => 0))) (fun cA => rfl) (i32_nn (by omega)) (i32_cl (by omega)) (by show n * 1 ≤ _; omega) hu.1 hu.2 hd (fun q cA H1 k1 p1 d1 s1 => w_mk h hSn hls hst hz ⟨show n < 2147483648 by omega, show 22 ≠ 30 by decide⟩ B hl ?_ p1 d1 s1)
  rw [cA_eq (j := 2) hK k1 rfl (fun _ _ z => z)]
  simp only [cellE]
  congr 4
  funext j
  rw [hz]; rfl
/-- numbers without a cell -/
theorem w_none {n : Nat} (hz : ∀ a, T.length ≤ a → ∀ k, M a k = 0) (h : MW E mi S Q (T ++ List.replicate n (30, 0)) R M u v pc ls st) : MW E mi S Q T R M u v pc ls st := by
  intro l p e s m args below meth c H locs la D ar A φ ex B hl
  obtain ⟨b1, b2, ⟨hP, hD, hS⟩, hR, hRC⟩ := B
  have hw : wsO φ ar (T ++ List.replicate n (30, 0)) R M = wsO φ ar T R M := wsO_rep n T
  refine h l p e s m args below meth c H locs la D ar A φ ex ⟨b1, b2, ⟨by rw [hw]; exact hP, by rw [hw]; exact hD, hS⟩, fun b t ht => ?_, fun a k b hb => by rw [List.length_append]; exact Nat.lt_of_lt_of_le (hRC a k b hb) (Nat.le_add_right _ _)⟩ hl
  by_cases hb : b < T.length
  · rw [List.getElem?_append_left hb] at ht; exact hR b t ht
  · rw [List.getElem?_append_right (by omega)] at ht
    have e : t = (30, 0) := (List.mem_replicate.mp (List.mem_of_getElem? ht)).2
    subst e
    refine ⟨by decide, fun k => ?_⟩
    rw [hz b (by omega) k]
    unfold tR
    split
    · exact ⟨by omega, by omega⟩
    · exact ⟨by omega, by omega⟩
    · exact Or.inl rfl
    · trivial
end ARRAYS
