/-! calls over the pure picture: a callee's MW from its entry, whose end is the caller's MW behind the call -/
def pvA : Nat → List PV → List (Nat × PV)
  | _, [] => []
  | k, x :: xs => (k, x) :: pvA (if p2 x = true then k + 2 else k + 1) xs
def pvW : List PV → Nat
  | [] => 0
  | x :: xs => (if p2 x = true then 2 else 1) + pvW xs
theorem cat_if (φ ex : Nat → Nat) (x : PV) : ((toV φ ex x).category = 2) ↔ p2 x = true := by
  rw [← toV_cat φ ex x]; simp
theorem cat_eq (φ ex : Nat → Nat) (x : PV) : (toV φ ex x).category = if p2 x = true then 2 else 1 := by
  by_cases h : p2 x = true
  · rw [if_pos h]; exact (cat_if φ ex x).mpr h
  · rw [if_neg h]
    rcases lv_cat (toV φ ex x) with q | q
    · exact q
    · exact absurd ((cat_if φ ex x).mp q) h
theorem pvA_V (φ ex : Nat → Nat) (xs : List PV) : ∀ k, lsV φ ex (pvA k xs) = lv_args k (xs.map (toV φ ex)) := by
  induction xs with
  | nil => intro k; rfl
  | cons x xs ih =>
    intro k
    simp only [pvA, lsV, List.map_cons, lv_args]
    congr 1
    rw [show (if (toV φ ex x).category = 2 then k + 2 else k + 1) = (if p2 x = true then k + 2 else k + 1) by simp only [cat_if]]
    exact ih _
theorem pvW_V (φ ex : Nat → Nat) (xs : List PV) : (lg_sl (xs.map (toV φ ex))).length = pvW xs := by
  induction xs with
  | nil => rfl
  | cons x xs ih =>
    simp only [lg_sl, List.map_cons, List.flatMap_cons, List.length_append, pvW] at ih ⊢
    rw [ih]
    congr 1
    simp only [cat_if]
    by_cases h : p2 x = true <;> simp [h]
theorem pvW_C (φ ex : Nat → Nat) (xs : List PV) : ((xs.map (toV φ ex)).map fun w => w.category).sum = pvW xs := by
  induction xs with
  | nil => rfl
  | cons x xs ih =>
    simp only [List.map_cons, List.sum_cons, pvW, ih, cat_eq]
def PcO (E : Scr) (D : va_G) (ar : Nat → ClassId) (φ ex : Nat → Nat) (T : Shp) (R : Rfs) (M : Mem) (sz : Nat) (as : List PV) : Array Value → State → Prop :=
  va_Pc (as.map (toV φ ex)) (fun U => U.heap.size = sz ∧ va_P D vwCl (wsO φ ar T R M) U.heap ∧ va_K D vwCl (tysO ar) U ∧ va_D (fun _ => True) (wsO φ ar T R M) ∧ NW U ∧ ExOk ex E (va_A (wsO φ ar T R M) sz) U U.heap ∧ Rng T M ∧ RC T.length R)
theorem PcO_blind {E : Scr} {D : va_G} {ar : Nat → ClassId} {φ ex : Nat → Nat} {T : Shp} {R : Rfs} {M : Mem} {sz : Nat} {as : List PV} : FrameBlind (PcO E D ar φ ex T R M sz as) := by
  intro a U g mk q
  obtain ⟨q0, q1, qP, qK, qD, qN, qE, qR, qC⟩ := q
  exact ⟨q0, q1, qP, va_K.moved (u := U) (U := U.calling g mk a) (Vm.Alike.refl U.vm) qK, qD, NW.same (s := U) (U := U.calling g mk a) rfl qN, ExOk.same (s := U) (U := U.calling g mk a) rfl qE, qR, qC⟩
theorem metOf {E : Scr} {mi : Mi} {S : Nat → Prop} {Q : Post} {T : Shp} {R : Rfs} {M : Mem} {as : List PV} (h : MW E mi S Q T R M 0 0 0 (pvA 0 as) []) (hy : plainFor (miY mi) = true) (hlen : pvW as ≤ miL mi) (l : Lch) (D : va_G) (ar : Nat → ClassId) (φ ex : Nat → Nat) (sz : Nat) :
    Met l.val (miY mi) (miW mi) (miR mi) (PcO E D ar φ ex T R M sz as) (QcO D ar φ ex S (va_A (wsO φ ar T R M) sz) Q) (miMc mi) (miMs mi) (va_A (wsO φ ar T R M) sz) := by
  refine va_MetF (cc := miC mi) (maxL := miL mi) (ret := miT mi) hy rfl ?_
  intro p e s m args below meth c s₁ B hml hv
  obtain ⟨rfl, hsz, hP, hK, hD0, hN, hEx, hR, hRC⟩ := hv
  subst hsz
  rw [lg_entry_eq]
  have hl := lv_entry (as.map (toV φ ex)) (n := miL mi) (by rw [pvW_V]; exact hlen)
  rw [← pvA_V] at hl
  exact h l p e s m _ below meth c s.heap [] _ D ar _ φ ex ⟨⟨B.exec, B.bytes, B.returns, hml, fun w z => atoms_spec (ws := miW mi) B.pre w (List.mem_cons_of_mem _ z), findClass_of_methodNamed B.named, B.notSynchronized, (name_of_methodNamed B.named B.method).1⟩, ⟨hN, hEx, hK, fun q h => Or.inr h⟩, ⟨hP, hD0.self, va_S.rf⟩, hR, hRC⟩ hl
/-- refs that a callee may not rename -/
def Stb (S2 : Nat → Prop) (ls : List (Nat × PV)) (st : List PV) : Prop := ∀ φ φ' ex : Nat → Nat, (∀ a, S2 a → φ' a = φ a) → lsV φ' ex ls = lsV φ ex ls ∧ st.map (toV φ' ex) = st.map (toV φ ex)
abbrev Top : Nat → Prop := fun _ => True
theorem Stb_top {ls : List (Nat × PV)} {st : List PV} : Stb Top ls st := fun φ φ' ex h => by
  have e : φ' = φ := funext fun a => h a trivial
  rw [e]; exact ⟨rfl, rfl⟩
theorem Stb_lt {n : Nat} {ls : List (Nat × PV)} {st : List PV} (h1 : ls.all (fun q => rfOk n q.2) = true) (h2 : st.all (rfOk n) = true) : Stb (fun a => a < n) ls st := fun _ _ _ h => ⟨lsV_ok h h1, stV_ok h h2⟩
section CALLS
variable {E : Scr} {mi mi2 : Mi} {S S2 : Nat → Prop} {Q : Post} {T : Shp} {R : Rfs} {M : Mem} {u v pc : Nat} {ls : List (Nat × PV)} {st : List PV}
theorem w_back {l : Lch} {p : Program} {e : Env} {s : State} {m : MethodId} {args a9 : Array Value} {below : List Frame} {meth : Method} {c : Code} {H : Heap} {locs : List Loc} {la : Array Slot} {D : va_G} {ar : Nat → ClassId} {A : Nat → Prop} {φ ex : Nat → Nat} {st0 : List Value} {mc2 ms2 : Nat} {Q2 : Post}
    (hr : va_Run p l.val e (miR mi) s m args below meth c H locs u v mc2 ms2 (F0 m pc la st0) (st.map (toV φ ex)) (QcO D ar φ ex S2 (va_A (wsO φ ar T R M) H.size) Q2 a9) (va_A (wsO φ ar T R M) H.size))
    (B : mB E mi p s m args meth c H locs D ar A φ ex T R M) (hl : lv_has la (miL mi) (lsV φ ex ls)) (hSS : ∀ a, S a → S2 a) (hstb : Stb S2 ls st)
    (hk : ∀ r T' R' M', Q2 r T' R' M' → MW E mi S Q T' R' M' (u + mc2) (v + ms2) (pc + 3) ls (r.toList ++ st)) :
    W p l.val e (miR mi) s m args below meth c H locs u v (MQ below (QcO D ar φ ex S A Q) args s (miMc mi) (miMs mi) A) (F0 m pc la st0) := by
  obtain ⟨b1, ⟨hN, hEx, hK, hA⟩, ⟨hP, hD, hS⟩, hR, hRC⟩ := B
  have hF : ∀ q, va_A (wsO φ ar T R M) H.size q → A q := by
    intro q h
    rcases h with ⟨k, e9, h⟩ | h
    · exact hD.2 k (q, e9) h
    · exact hA q (Nat.le_trans hS.1 h)
  intro Z hZ X
  obtain ⟨v9, st₀, t, T9, L, h0, X', hL, e1, e2, ⟨⟨r, T', R', M', φ', hv, hq, hφ, hP', -, hD', hR', hRC'⟩, hz, hkp⟩, stp⟩ := hr Z hZ X
  cases hv
  rw [h0] at hz hkp
  obtain ⟨e3, e4⟩ := hstb φ φ' ex hφ
  have hS' : va_S A s.heap T9.heap (locs ++ L) := ⟨Nat.le_trans hS.1 (by rw [e1]; exact hz), fun q h1 h2 => by rw [e1, hkp q (Nat.lt_of_lt_of_le h1 hS.1) (fun z => h2 (hF q z))]; exact hS.2.1 q h1 h2, fun q hq => by
    rcases List.mem_append.mp hq with h | h
    · exact hS.2.2 q h
    · exact hF _ (hL q h)⟩
  have k9 := hk r T' R' M' hq l p e s m args below meth c T9.heap (locs ++ L) la D ar A φ' ex ⟨b1, ⟨hN, hEx, hK, hA⟩, ⟨by rw [e1]; exact hP', hD'.weaken (fun k q _ z => hF q.1 z), hS'⟩, hR', hRC'⟩ (by rw [e3]; exact hl)
  obtain ⟨t2, a1, o, c1, c2, c3, c4⟩ := k9 T9 rfl X'
  refine ⟨t2, stp t2 ?_, o, c1, c2, QcO_mono (fun a ha => hφ a (hSS a ha)) c3, c4⟩
  rw [List.map_append, e4] at a1
  have e5 : r.toList.map (toV φ' ex) = (r.map (toV φ' ex)).toList := by cases r <;> rfl
  rw [e5] at a1
  exact a1
def MiOk (mi : Mi) (n : Nat) : Prop := (Cond.code (miY mi) (miC mi) (miL mi) (miT mi) ∈ wgT ∧ Cond.initialized (miY mi).cls ∈ wgT) ∧ ((miY mi).cls ≠ "java/lang/invoke/MethodHandle" ∧ (miY mi).cls ≠ "java/lang/invoke/VarHandle" ∧ (parseMethodDescriptor (miY mi).desc).map (fun d => d.parameters.length) = some n) ∧ plainFor (miY mi) = true ∧ miL mi ≤ 26
def LK (own : String) (idx : Nat) (y : MethodName) : Prop := Cond.methodLink own idx y ∈ wgT ∨ ∃ host, Cond.methodLinkNest own idx y host ∈ nsT
def CsV (own : String) (idx : Nat) (mi2 : Mi) (ci n : Nat) : Prop := MiOk mi2 n ∧ (Cond.instanceMethod (miY mi2) ∈ wgT ∧ Cond.selects (miY mi2).cls (miY mi2) (miY mi2) ∈ wgT) ∧ LK own idx (miY mi2) ∧ ∃ Tt N, vwCl[ci]? = some ((miY mi2).cls, Tt, N)
def CsS (own : String) (idx : Nat) (mi2 : Mi) (n : Nat) : Prop := MiOk mi2 n ∧ Cond.static (miY mi2) ∈ wgT ∧ LK own idx (miY mi2)
def CsI (own : String) (idx : Nat) (mi2 : Mi) (n : Nat) : Prop := MiOk mi2 n ∧ (Cond.instanceMethod (miY mi2) ∈ wgT ∧ (miY mi2).name = "<init>" ∧ miT mi2 = none) ∧ LK own idx (miY mi2)
theorem pc_ok {l : Lch} {p : Program} {e : Env} {s : State} {m : MethodId} {args : Array Value} {meth : Method} {c : Code} {H : Heap} {locs : List Loc} {D : va_G} {ar : Nat → ClassId} {A : Nat → Prop} {φ ex : Nat → Nat} {as : List PV}
    (B : mB E mi p s m args meth c H locs D ar A φ ex T R M) : ∀ U : State, U.heap = H → s.WarmedH U.vm → PcO E D ar φ ex T R M H.size as (as.map (toV φ ex)).toArray U := by
  obtain ⟨b1, ⟨hN, hEx, hK, hA⟩, ⟨hP, hD, hS⟩, hR, hRC⟩ := B
  intro U hU hW
  have hF : ∀ q, va_A (wsO φ ar T R M) H.size q → A q := by
    intro q h
    rcases h with ⟨k, e9, h⟩ | h
    · exact hD.2 k (q, e9) h
    · exact hA q (Nat.le_trans hS.1 h)
  exact ⟨rfl, by rw [hU], by rw [hU]; exact hP, va_K.moved hW.alike hK, hD.weaken (fun _ _ _ _ => trivial), hN.warm hW, by rw [hU]; exact ((hEx.kept hS.2.1).narrow hF).warm hW, hR, hRC⟩
abbrev Rm (mi mi2 : Mi) (u v : Nat) (st : List PV) : Prop := (miH mi2 + 1 ≤ miH mi ∧ u + miMc mi2 ≤ miMc mi ∧ v + miMs mi2 ≤ miMs mi) ∧ pvW st ≤ 8
theorem room_ok (hm : miL mi2 ≤ 26) (hh : miH mi2 + 1 ≤ miH mi) : (miR mi2).frames + 1 ≤ (miR mi).frames ∧ 8 + (miL mi2 + 11) + (miR mi2).locals ≤ (miR mi).locals := by
  refine ⟨hh, ?_⟩
  show 8 + (miL mi2 + 11) + 45 * miH mi2 ≤ 45 * miH mi
  omega
theorem w_callV {idx ci n a k : Nat} {as : List PV} (hd : decode (miC mi) pc = .ok (.invokevirtual idx, 3)) (hcs : CsV (miY mi).cls idx mi2 ci n) (hrm : Rm mi mi2 u v st) (hT : T[a]? = some (ci, k)) (hci : ci < 12) (hn : as.length = n) (hlen : pvW (pR a :: as) ≤ miL mi2) (hSS : ∀ a, S a → S2 a) (hstb : Stb S2 ls st)
    (h : MW E mi2 S2 (fun r T' R' M' => MW E mi S Q T' R' M' (u + miMc mi2) (v + miMs mi2) (pc + 3) ls (r.toList ++ st)) T R M 0 0 0 (pvA 0 (pR a :: as)) []) : MW E mi S Q T R M u v pc ls (as.reverse ++ pR a :: st) := by
  intro l p e s m args below meth c H locs la D ar A φ ex B hl
  obtain ⟨⟨hx, hb, hr, hml, hts, hown, hlocks, hnm⟩, ⟨hN, hEx, hK, hA⟩, ⟨hP, hD, hS⟩, hR, hRC⟩ := id B
  obtain ⟨⟨⟨ho1, ho2⟩, ho3, ho4, ho5⟩, ⟨hi1, hi2⟩, hlk, Tt, N, hcl⟩ := hcs
  have hG := goodIn_wg ho1
  have hM := metOf h ho4 hlen l D ar φ ex H.size
  have hw : ∀ {w : Cond}, w ∈ wgT → w.before args s = true := fun z => hts _ z
  have hat : (wsO φ ar T R M)[gi T a]? = some (φ a, .inr (ci, fldsV φ ci (R a) (M a))) := by rw [wsO_at hT (by omega), cellE_obj (by omega)]
  have hrc := va_recv hK hP hcl hat
  have hstk : (as.reverse ++ pR a :: st).map (toV φ ex) = (as.map (toV φ ex)).reverse ++ .ref (φ a) :: st.map (toV φ ex) := by
    rw [List.map_append, List.map_reverse]; rfl
  have hW8 : 2 * (F0 m pc la ((as.reverse ++ pR a :: st).map (toV φ ex))).monitorRoom + ((st.map (toV φ ex)).map fun w => w.category).sum ≤ 8 := lv_room (by rw [pvW_C]; exact hrm.2)
  rcases hlk with h1 | ⟨host, h1⟩
  · exact w_back (va_runV (As := as.map (toV φ ex)) (rest := st.map (toV φ ex)) (C := (miY mi2).cls) (Ts := wgT) ⟨hx, hb, hml, hown, hts⟩ hM ⟨callB_of n hts hG rfl rfl rfl (hw ho2) (hw h1) ho3 (room_ok ho5 hrm.1.1), hw hi1, hw hi2⟩ ⟨PcO_blind, hrc, pc_ok (l := l) (e := e) (as := pR a :: as) B⟩ rfl (by rw [List.length_map]; exact hn) hl.1 hstk hW8 hd ⟨hrm.1.2.1, hrm.1.2.2⟩) B hl hSS hstb (fun r T' R' M' hq => hq)
  · exact w_back (va_runVN (As := as.map (toV φ ex)) (rest := st.map (toV φ ex)) (C := (miY mi2).cls) (Ts := wgT) ⟨hx, hb, hml, hown, hts⟩ hM ⟨va_cnB n hts hG rfl rfl rfl (hN _ h1) (hw ho2) ho3 (room_ok ho5 hrm.1.1), hw hi1, hw hi2⟩ ⟨PcO_blind, hrc, pc_ok (l := l) (e := e) (as := pR a :: as) B⟩ rfl (by rw [List.length_map]; exact hn) hl.1 hstk hW8 hd ⟨hrm.1.2.1, hrm.1.2.2⟩) B hl hSS hstb (fun r T' R' M' hq => hq)
theorem w_callS {idx n : Nat} {as : List PV} (hd : decode (miC mi) pc = .ok (.invokestatic idx, 3)) (hcs : CsS (miY mi).cls idx mi2 n) (hrm : Rm mi mi2 u v st) (hn : as.length = n) (hlen : pvW as ≤ miL mi2) (hSS : ∀ a, S a → S2 a) (hstb : Stb S2 ls st)
    (h : MW E mi2 S2 (fun r T' R' M' => MW E mi S Q T' R' M' (u + miMc mi2) (v + miMs mi2) (pc + 3) ls (r.toList ++ st)) T R M 0 0 0 (pvA 0 as) []) : MW E mi S Q T R M u v pc ls (as.reverse ++ st) := by
  intro l p e s m args below meth c H locs la D ar A φ ex B hl
  obtain ⟨⟨hx, hb, hr, hml, hts, hown, hlocks, hnm⟩, ⟨hN, hEx, hK, hA⟩, ⟨hP, hD, hS⟩, hR, hRC⟩ := id B
  obtain ⟨⟨⟨ho1, ho2⟩, ho3, ho4, ho5⟩, hst1, hlk⟩ := hcs
  have hG := goodIn_wg ho1
  have hM := metOf h ho4 hlen l D ar φ ex H.size
  have hw : ∀ {w : Cond}, w ∈ wgT → w.before args s = true := fun z => hts _ z
  have hstk : (as.reverse ++ st).map (toV φ ex) = (as.map (toV φ ex)).reverse ++ st.map (toV φ ex) := by
    rw [List.map_append, List.map_reverse]
  have hW8 : 2 * (F0 m pc la ((as.reverse ++ st).map (toV φ ex))).monitorRoom + ((st.map (toV φ ex)).map fun w => w.category).sum ≤ 8 := lv_room (by rw [pvW_C]; exact hrm.2)
  rcases hlk with h1 | ⟨host, h1⟩
  · exact w_back (va_runS (As := as.map (toV φ ex)) (rest := st.map (toV φ ex)) (Ts := wgT) ⟨hx, hb, hml, hown, hts⟩ hM ⟨callB_of n hts hG rfl rfl rfl (hw ho2) (hw h1) ho3 (room_ok ho5 hrm.1.1), hw hst1⟩ ⟨PcO_blind, pc_ok (l := l) (e := e) (as := as) B⟩ rfl (by rw [List.length_map]; exact hn) hl.1 hstk hW8 hd ⟨hrm.1.2.1, hrm.1.2.2⟩) B hl hSS hstb (fun r T' R' M' hq => hq)
  · exact w_back (va_runSN (As := as.map (toV φ ex)) (rest := st.map (toV φ ex)) (Ts := wgT) ⟨hx, hb, hml, hown, hts⟩ hM ⟨va_cnB n hts hG rfl rfl rfl (hN _ h1) (hw ho2) ho3 (room_ok ho5 hrm.1.1), hw hst1, trivial⟩ ⟨PcO_blind, pc_ok (l := l) (e := e) (as := as) B⟩ rfl (by rw [List.length_map]; exact hn) hl.1 hstk hW8 hd ⟨hrm.1.2.1, hrm.1.2.2⟩) B hl hSS hstb (fun r T' R' M' hq => hq)
theorem w_callI {idx n a : Nat} {as : List PV} (hd : decode (miC mi) pc = .ok (.invokespecial idx, 3)) (hcs : CsI (miY mi).cls idx mi2 n) (hrm : Rm mi mi2 u v st) (hn : as.length = n) (hlen : pvW (pR a :: as) ≤ miL mi2) (hSS : ∀ a, S a → S2 a) (hstb : Stb S2 ls st)
    (h : MW E mi2 S2 (fun r T' R' M' => MW E mi S Q T' R' M' (u + miMc mi2) (v + miMs mi2) (pc + 3) ls (r.toList ++ st)) T R M 0 0 0 (pvA 0 (pR a :: as)) []) : MW E mi S Q T R M u v pc ls (as.reverse ++ pR a :: st) := by
  intro l p e s m args below meth c H locs la D ar A φ ex B hl
  obtain ⟨⟨hx, hb, hr, hml, hts, hown, hlocks, hnm⟩, ⟨hN, hEx, hK, hA⟩, ⟨hP, hD, hS⟩, hR, hRC⟩ := id B
  obtain ⟨⟨⟨ho1, ho2⟩, ho3, ho4, ho5⟩, ⟨hi1, hi2, hi3⟩, hlk⟩ := hcs
  have hG := goodIn_wg ho1
  have hM := metOf h ho4 hlen l D ar φ ex H.size
  have hw : ∀ {w : Cond}, w ∈ wgT → w.before args s = true := fun z => hts _ z
  have hstk : (as.reverse ++ pR a :: st).map (toV φ ex) = (as.map (toV φ ex)).reverse ++ .ref (φ a) :: st.map (toV φ ex) := by
    rw [List.map_append, List.map_reverse]; rfl
  have hW8 : 2 * (F0 m pc la ((as.reverse ++ pR a :: st).map (toV φ ex))).monitorRoom + ((st.map (toV φ ex)).map fun w => w.category).sum ≤ 8 := lv_room (by rw [pvW_C]; exact hrm.2)
  have hcw : ∀ w ∈ miW mi2, w ∈ Cond.code (miY mi2) (miC mi2) (miL mi2) none :: wgT := by
    intro w z; unfold miW at z; rw [hi3] at z; exact z
  rcases hlk with h1 | ⟨host, h1⟩
  · exact w_back (va_runI (As := as.map (toV φ ex)) (rest := st.map (toV φ ex)) (Ts := wgT) (bytes := miC mi2) (maxL := miL mi2) ⟨hx, hb, hml, hown, hts⟩ hM ⟨callB_of (ws' := wgT) n hts hG (by unfold miW; rw [hi3]) rfl rfl (hw ho2) (hw h1) ho3 (room_ok ho5 hrm.1.1), hi2, hw hi1⟩ ⟨PcO_blind, pc_ok (l := l) (e := e) (as := pR a :: as) B⟩ rfl (by rw [List.length_map]; exact hn) hl.1 hstk hW8 hd ⟨hrm.1.2.1, hrm.1.2.2⟩) B hl hSS hstb (fun r T' R' M' hq => hq)
  · exact w_back (va_runIN (As := as.map (toV φ ex)) (rest := st.map (toV φ ex)) (Ts := wgT) (bytes := miC mi2) (maxL := miL mi2) ⟨hx, hb, hml, hown, hts⟩ hM ⟨va_cnB (ws' := wgT) n hts hG (by unfold miW; rw [hi3]) rfl rfl (hN _ h1) (hw ho2) ho3 (room_ok ho5 hrm.1.1), hi2, hw hi1⟩ ⟨PcO_blind, pc_ok (l := l) (e := e) (as := pR a :: as) B⟩ rfl (by rw [List.length_map]; exact hn) hl.1 hstk hW8 hd ⟨hrm.1.2.1, hrm.1.2.2⟩) B hl hSS hstb (fun r T' R' M' hq => hq)
end CALLS
