/-! the law's world: all of it, and the law's own long[1] behind it (cell 144) -/
def T1 : Shp := T0 ++ [(21, 1)]
def ov (M M' : Mem) : Mem := fun a => if a = 144 then M 144 else M' a
theorem ov_144 (M M' : Mem) : ov M M' 144 = M 144 := rfl
theorem ov_ne (M M' : Mem) {a : Nat} (h : a ≠ 144) : ov M M' a = M' a := by unfold ov; rw [if_neg h]
theorem R0_144 (k : Nat) : R0 144 k = none := by
  show (R0L.getD 144 []).getD k none = none
  rw [show R0L.getD 144 [] = [] from by decide +kernel]; rfl
theorem R0_RC : RC 144 R0 := by
  have h : ∀ row, row ∈ R0L → ∀ x, x ∈ row → ∀ b, x = some b → b < 144 := by
    have : R0L.all (fun row => row.all (fun x => match x with
      | some b => decide (b < 144)
      | none => true)) = true := by decide +kernel
    intro row hrow x hx b hb
    have h1 := List.all_eq_true.mp (List.all_eq_true.mp this row hrow) x hx
    subst hb
    exact of_decide_eq_true h1
  intro a k b hb
  have hb2 : (R0L.getD a []).getD k none = some b := hb
  rw [List.getD_eq_getElem?_getD] at hb2
  cases hr : (R0L.getD a [])[k]? with
  | none => rw [hr] at hb2; exact absurd hb2 (by simp)
  | some x =>
    rw [hr] at hb2
    have hx : x = some b := hb2
    rw [List.getD_eq_getElem?_getD] at hr
    cases ha : R0L[a]? with
    | none => rw [ha] at hr; exact absurd hr (by simp)
    | some row =>
      rw [ha] at hr
      exact h row (List.mem_of_getElem? ha) x (List.mem_of_getElem? hr) b hx
theorem gi0_144 : gi T0 144 = 108 := by decide +kernel
theorem wsO_len0 {φ : Nat → Nat} {ar : Nat → ClassId} {R : Rfs} {M : Mem} : (wsO φ ar T0 R M).length = 108 := by rw [wsO_len, T0_len]; exact gi0_144
theorem wsO_cong {φ φ' : Nat → Nat} {ar : Nat → ClassId} {T : Shp} {R : Rfs} {M M' : Mem} (hφ : ∀ a, a < T.length → φ' a = φ a) (hRC : RC T.length R) (hM : ∀ a, a < T.length → M' a = M a) : wsO φ' ar T R M' = wsO φ ar T R M := by
  rw [wsO_ok hφ hRC]
  apply List.map_congr_left
  intro a ha
  rw [hM a (List.mem_range.mp (List.mem_filter.mp ha).1)]
section CONG
variable {E : Scr} {mi mi2 : Mi} {S S2 : Nat → Prop} {Q : Post} {T : Shp} {R : Rfs} {M M' : Mem} {u v pc : Nat} {ls : List (Nat × PV)} {st : List PV}
theorem MW_cong (hM : ∀ a, a < T.length → M' a = M a) (h : MW E mi S Q T R M u v pc ls st) : MW E mi S Q T R M' u v pc ls st := by
  intro l p e s m args below meth c H locs la D ar A φ ex B hl
  obtain ⟨b1, b2, ⟨hP, hD, hS⟩, hR, hRC⟩ := B
  have hw : wsO φ ar T R M' = wsO φ ar T R M := wsO_cong (fun _ _ => rfl) hRC hM
  rw [hw] at hP hD
  exact h l p e s m args below meth c H locs la D ar A φ ex ⟨b1, b2, ⟨hP, hD, hS⟩, fun a t ht => by rw [← hM a (List.getElem?_eq_some_iff.mp ht).1]; exact hR a t ht, hRC⟩ hl
theorem MW_wide {u' v' : Nat} (hu : u ≤ u') (hv : v ≤ v') (h : MW E mi S Q T R M u' v' pc ls st) : MW E mi S Q T R M u v pc ls st := by
  intro l p e s m args below meth c H locs la D ar A φ ex B hl
  exact W.widen hu hv (h l p e s m args below meth c H locs la D ar A φ ex B hl)
/-- two equal numbers: no range is asked -/
theorem w_ieqS {x : Int} {off : Int} {tgt : Nat} (hd : decode (miC mi) pc = .ok (.if_icmp .eq off, 3)) (ht : (pc : Int) + off = (tgt : Int)) (h1 : MW E mi S Q T R M u v tgt ls st) : MW E mi S Q T R M u v pc ls (pI x :: pI x :: st) := by
  intro l p e s m args below meth c H locs la D ar A φ ex B hl
  obtain ⟨⟨hx, hb, hr, hml, hts, hown, hlocks, hnm⟩, ⟨hN, hEx, hK, hA⟩, ⟨hP, hD, hS⟩, hR, hRC⟩ := id B
  exact lv_icmp_eq hx hb hd ht (fun _ => h1 l p e s m args below meth c H locs la D ar A φ ex B hl) (fun q => absurd rfl q)
/-- the world of the law: a callee that doesn't know of the law's own cell -/
def QX (q : Option PV → Mem → Prop) (M : Mem) : Post := fun r T R M' => T = T1 ∧ R = R0 ∧ ∃ M2, q r M2 ∧ M' = ov M M2
theorem metX {q : Option PV → Mem → Prop} {as : List PV} (hq : ∀ r M, q r M → ∀ φ φ' ex : Nat → Nat, r.map (toV φ ex) = r.map (toV φ' ex)) (h : MW E mi S2 (QL q) T0 R0 M 0 0 0 (pvA 0 as) []) (hy : plainFor (miY mi) = true) (hlen : pvW as ≤ miL mi) (l : Lch) (D : va_G) (ar : Nat → ClassId) (φ ex : Nat → Nat) (sz : Nat) :
    Met l.val (miY mi) (miW mi) (miR mi) (PcO E D ar φ ex T1 R0 M sz as) (QcO D ar φ ex (fun a => S2 a ∨ a = 144) (va_A (wsO φ ar T1 R0 M) sz) (QX q M)) (miMc mi) (miMs mi) (va_A (wsO φ ar T1 R0 M) sz) := by
  refine va_MetF (cc := miC mi) (maxL := miL mi) (ret := miT mi) hy rfl ?_
  intro p e s m args below meth c s₁ B hml hv
  obtain ⟨rfl, hsz, hP, hK, hD0, hN, hEx, hR, hRC⟩ := hv
  subst hsz
  rw [lg_entry_eq]
  have hl := lv_entry (as.map (toV φ ex)) (n := miL mi) (by rw [pvW_V]; exact hlen)
  rw [← pvA_V] at hl
  have hw : wsO φ ar T1 R0 M = wsO φ ar T0 R0 M ++ [(φ 144, cellE φ ar (21, 1) (R0 144) (M 144))] := by
    unfold T1; rw [wsO_push (by decide), T0_len]
  have hin : ∀ (k : Nat) (q : Nat × va_E), (wsO φ ar T0 R0 M)[k]? = some q → (wsO φ ar T1 R0 M)[k]? = some q := fun k q hk => by
    rw [hw, List.getElem?_append_left (List.getElem?_eq_some_iff.mp hk).1]; exact hk
  have h144 : (wsO φ ar T1 R0 M)[108]? = some (φ 144, cellE φ ar (21, 1) (R0 144) (M 144)) := by
    rw [hw, List.getElem?_append_right (by rw [wsO_len0]; exact Nat.le_refl _), wsO_len0]; rfl
  have hsub : ∀ q, va_A (wsO φ ar T0 R0 M) s.heap.size q → va_A (wsO φ ar T1 R0 M) s.heap.size q := fun q hq => by
    rcases hq with ⟨k, e9, h9⟩ | h9
    · exact Or.inl ⟨k, e9, hin k _ h9⟩
    · exact Or.inr h9
  have hP0 : va_P D vwCl (wsO φ ar T0 R0 M) s.heap := hP.by id hin
  have hD1 : va_D (fun _ => True) (wsO φ ar T0 R0 M) := hD0.by id hin (fun i j _ _ hij => hij)
  have hR0 : Rng T0 M := fun a t ht => hR a t (by unfold T1; rw [List.getElem?_append_left (List.getElem?_eq_some_iff.mp ht).1]; exact ht)
  have hat : va_at D vwCl (φ 144, cellE φ ar (21, 1) (R0 144) (M 144)) s.heap := hP 108 _ h144
  have hno : ¬ va_A (wsO φ ar T0 R0 M) s.heap.size (φ 144) := by
    rintro (⟨k, e9, h9⟩ | h9)
    · have hk : k < 108 := by have := (List.getElem?_eq_some_iff.mp h9).1; rwa [wsO_len0] at this
      have := hD0.1 k 108 _ _ (hin k _ h9) h144 rfl
      omega
    · exact absurd hat.lt (by show ¬ φ 144 < s.heap.size; omega)
  have k9 := h l p e s m _ below meth c s.heap [] _ D ar (va_A (wsO φ ar T0 R0 M) s.heap.size) φ ex ⟨⟨B.exec, B.bytes, B.returns, hml, fun w z => atoms_spec (ws := miW mi) B.pre w (List.mem_cons_of_mem _ z), findClass_of_methodNamed B.named, B.notSynchronized, (name_of_methodNamed B.named B.method).1⟩, ⟨hN, hEx.narrow hsub, hK, fun q h => Or.inr h⟩, ⟨hP0, hD1.self, va_S.rf⟩, hR0, by rw [T0_len]; exact R0_RC⟩ hl
  refine W_mono (fun t z => ?_) k9
  obtain ⟨o, c1, c2, ⟨⟨r, T', R', M2, φ', ho, hz, hφ, hP', hK', hD', hR', hRC'⟩, hF⟩, L, c4, c5⟩ := z
  obtain ⟨rfl, rfl, hqr⟩ := hz
  have e1 : wsO (va_up φ' 144 (φ 144)) ar T1 R0 (ov M M2) = wsO φ' ar T0 R0 M2 ++ [(φ 144, cellE φ ar (21, 1) (R0 144) (M 144))] := by
    unfold T1
    rw [wsO_push (by decide), T0_len, va_up_self, ov_144, wsO_cong (φ := φ') (M := M2) (fun a ha => by rw [T0_len] at ha; exact va_up_neq _ _ (by omega)) (by rw [T0_len]; exact R0_RC) (fun a ha => by rw [T0_len] at ha; exact ov_ne _ _ (by omega))]
    rw [cellE_ren (φ := φ) (R := R0 144) (fun k => by rw [R0_144 k]; rfl)]
  have h9 : va_at D vwCl (φ 144, cellE φ ar (21, 1) (R0 144) (M 144)) t.heap := hat.kept (hF.2 (φ 144) hat.lt hno)
  refine ⟨o, c1, c2, ⟨⟨r, T1, R0, ov M M2, va_up φ' 144 (φ 144), ?_, ⟨rfl, rfl, M2, hqr, rfl⟩, fun a ha => ?_, ?_, hK', ?_, fun a t9 ht => ?_, fun a k b hb => ?_⟩, ?_⟩, L, c4, fun q hq => hsub _ (c5 q hq)⟩
  · rw [ho, hq r M2 hqr φ' (va_up φ' 144 (φ 144)) ex]
  · by_cases e9 : a = 144
    · subst e9; rw [va_up_self]
    · rw [va_up_neq _ _ e9]; exact hφ a (ha.resolve_right e9)
  · rw [e1]
    intro k q hk
    by_cases hk1 : k < (wsO φ' ar T0 R0 M2).length
    · rw [List.getElem?_append_left hk1] at hk; exact hP' k q hk
    · rw [List.getElem?_append_right (by omega)] at hk
      have : q = (φ 144, cellE φ ar (21, 1) (R0 144) (M 144)) := by
        have := List.mem_of_getElem? hk
        exact List.mem_singleton.mp this
      subst this; exact h9
  · rw [e1]
    have hl0 : (wsO φ' ar T0 R0 M2).length = 108 := wsO_len0
    have at9 : ∀ (k : Nat) (q : Nat × va_E), (wsO φ' ar T0 R0 M2 ++ [(φ 144, cellE φ ar (21, 1) (R0 144) (M 144))])[k]? = some q → (k < 108 ∧ (wsO φ' ar T0 R0 M2)[k]? = some q) ∨ (k = 108 ∧ q.1 = φ 144) := fun k q hk => by
      by_cases hk1 : k < 108
      · rw [List.getElem?_append_left (by omega)] at hk; exact Or.inl ⟨hk1, hk⟩
      · have hk2 := (List.getElem?_eq_some_iff.mp hk).1
        rw [List.length_append, hl0] at hk2
        have : k = 108 := by simp at hk2; omega
        subst this
        rw [List.getElem?_append_right (by omega), hl0] at hk
        exact Or.inr ⟨rfl, by cases hk; rfl⟩
    refine ⟨fun i j x y hi hj hxy => ?_, fun k q hk => ?_⟩
    · rcases at9 i x hi with ⟨i1, i2⟩ | ⟨i1, i2⟩ <;> rcases at9 j y hj with ⟨j1, j2⟩ | ⟨j1, j2⟩
      · exact hD'.1 i j x y i2 j2 hxy
      · exact absurd (by rw [← j2, ← hxy]; exact hD'.2 i x i2) hno
      · exact absurd (by rw [← i2, hxy]; exact hD'.2 j y j2) hno
      · omega
    · rcases at9 k q hk with ⟨k1, k2⟩ | ⟨k1, k2⟩
      · exact hsub _ (hD'.2 k q k2)
      · rw [k2]; exact Or.inl ⟨108, _, h144⟩
  · by_cases h1 : a < 144
    · unfold T1 at ht
      rw [List.getElem?_append_left (by rw [T0_len]; exact h1)] at ht
      rw [ov_ne _ _ (by omega)]; exact hR' a t9 ht
    · have h2 := (List.getElem?_eq_some_iff.mp ht).1
      have h3 : a = 144 := by unfold T1 at h2; rw [List.length_append, T0_len] at h2; simp at h2; omega
      subst h3
      rw [ov_144]; exact hR 144 t9 ht
  · have := R0_RC a k b hb
    unfold T1; rw [List.length_append, T0_len]; simp; omega
  · exact ⟨hF.1, fun q q1 q2 => hF.2 q q1 (fun z => q2 (hsub q z))⟩
/-- the law calls a method of the class or of the reference -/
theorem x_call {idx ci n a k : Nat} {as : List PV} {q : Option PV → Mem → Prop} (hd : decode (miC mi) pc = .ok (.invokevirtual idx, 3)) (hcs : CsV (miY mi).cls idx mi2 ci n) (hrm : Rm mi mi2 u v st) (hm0 : miMc mi2 = 0 ∧ miMs mi2 = 0) (hT : T0[a]? = some (ci, k)) (hci : ci < 12) (hn : as.length = n) (hlen : pvW (pR a :: as) ≤ miL mi2)
    (hq : ∀ r M, q r M → ∀ φ φ' ex : Nat → Nat, r.map (toV φ ex) = r.map (toV φ' ex)) (hSS : ∀ a, S a → S2 a ∨ a = 144) (hstb : Stb (fun a => S2 a ∨ a = 144) ls st)
    (h : MW E mi2 S2 (QL q) T0 R0 M 0 0 0 (pvA 0 (pR a :: as)) []) (hk : ∀ r M2, q r M2 → MW E mi S Q T1 R0 (ov M M2) u v (pc + 3) ls (r.toList ++ st)) : MW E mi S Q T1 R0 M u v pc ls (as.reverse ++ pR a :: st) := by
  intro l p e s m args below meth c H locs la D ar A φ ex B hl
  obtain ⟨⟨hx, hb, hr, hml, hts, hown, hlocks, hnm⟩, ⟨hN, hEx, hK, hA⟩, ⟨hP, hD, hS⟩, hR, hRC⟩ := id B
  obtain ⟨⟨⟨ho1, ho2⟩, ho3, ho4, ho5⟩, ⟨hi1, hi2⟩, hlk, Tt, N, hcl⟩ := hcs
  have hG := goodIn_wg ho1
  have hM := metX hq h ho4 hlen l D ar φ ex H.size
  have hw : ∀ {w : Cond}, w ∈ wgT → w.before args s = true := fun z => hts _ z
  have hT2 : T1[a]? = some (ci, k) := by unfold T1; rw [List.getElem?_append_left (List.getElem?_eq_some_iff.mp hT).1]; exact hT
  have hat : (wsO φ ar T1 R0 M)[gi T1 a]? = some (φ a, .inr (ci, fldsV φ ci (R0 a) (M a))) := by rw [wsO_at hT2 (by omega), cellE_obj (by omega)]
  have hrc := va_recv hK hP hcl hat
  have hstk : (as.reverse ++ pR a :: st).map (toV φ ex) = (as.map (toV φ ex)).reverse ++ .ref (φ a) :: st.map (toV φ ex) := by
    rw [List.map_append, List.map_reverse]; rfl
  have hW8 : 2 * (F0 m pc la ((as.reverse ++ pR a :: st).map (toV φ ex))).monitorRoom + ((st.map (toV φ ex)).map fun w => w.category).sum ≤ 8 := lv_room (by rw [pvW_C]; exact hrm.2)
  have hk9 : ∀ r T' R' M', QX q M r T' R' M' → MW E mi S Q T' R' M' (u + miMc mi2) (v + miMs mi2) (pc + 3) ls (r.toList ++ st) := by
    rintro r T' R' M' ⟨rfl, rfl, M2, h2, rfl⟩
    rw [hm0.1, hm0.2]; exact hk r M2 h2
  rcases hlk with h1 | ⟨host, h1⟩
  · exact w_back (va_runV (As := as.map (toV φ ex)) (rest := st.map (toV φ ex)) (C := (miY mi2).cls) (Ts := wgT) ⟨hx, hb, hml, hown, hts⟩ hM ⟨callB_of n hts hG rfl rfl rfl (hw ho2) (hw h1) ho3 (room_ok ho5 hrm.1.1), hw hi1, hw hi2⟩ ⟨PcO_blind, hrc, pc_ok (l := l) (e := e) (as := pR a :: as) B⟩ rfl (by rw [List.length_map]; exact hn) hl.1 hstk hW8 hd ⟨hrm.1.2.1, hrm.1.2.2⟩) B hl hSS hstb hk9
  · exact w_back (va_runVN (As := as.map (toV φ ex)) (rest := st.map (toV φ ex)) (C := (miY mi2).cls) (Ts := wgT) ⟨hx, hb, hml, hown, hts⟩ hM ⟨va_cnB n hts hG rfl rfl rfl (hN _ h1) (hw ho2) ho3 (room_ok ho5 hrm.1.1), hw hi1, hw hi2⟩ ⟨PcO_blind, hrc, pc_ok (l := l) (e := e) (as := pR a :: as) B⟩ rfl (by rw [List.length_map]; exact hn) hl.1 hstk hW8 hd ⟨hrm.1.2.1, hrm.1.2.2⟩) B hl hSS hstb hk9
theorem qI_ok {f : Int → Mem → Prop} : ∀ r M, qI f r M → ∀ φ φ' ex : Nat → Nat, r.map (toV φ ex) = r.map (toV φ' ex) := by
  rintro r M ⟨x, rfl, -⟩ φ φ' ex; rfl
theorem qL_ok {f : Int → Mem → Prop} : ∀ r M, qL f r M → ∀ φ φ' ex : Nat → Nat, r.map (toV φ ex) = r.map (toV φ' ex) := by
  rintro r M ⟨x, rfl, -⟩ φ φ' ex; rfl
end CONG
