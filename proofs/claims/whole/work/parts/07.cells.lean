/-! fields and arrays over the pure picture -/
def fLk (own : String) (idx ci k : Nat) : Cond := match vwCl[ci]? with
  | some q => Cond.fieldLink own idx (q.2.1 k).1 (q.2.1 k).2.1 (q.2.1 k).2.2.1
  | none => .tt
def fLn (own : String) (idx ci k : Nat) (host : String) : Cond := match vwCl[ci]? with
  | some q => Cond.fieldLinkNest own idx (q.2.1 k).1 (q.2.1 k).2.1 (q.2.1 k).2.2.1 host
  | none => .tt
def fFin (ci k : Nat) : Bool := match vwCl[ci]? with
  | some q => (q.2.1 k).2.2.2
  | none => true
def fDecl (ci k : Nat) : String := match vwCl[ci]? with
  | some q => (q.2.1 k).1
  | none => ""
/-- the field k of class ci is what the pool's entry idx of own names -/
def FL (own : String) (idx ci k : Nat) : Prop := (ci < 12 ∧ k < nF ci) ∧ (fLk own idx ci k ∈ wgT ∨ ∃ host, fLn own idx ci k host ∈ nsT)
/-- it may be written there: no final one, or in its own class's constructor -/
def FP (mi : Mi) (idx ci k : Nat) : Prop := (fFin ci k = false ∧ FL (miY mi).cls idx ci k) ∨ ((fFin ci k = true ∧ (miY mi).name = "<init>" ∧ fDecl ci k = (miY mi).cls) ∧ (ci < 12 ∧ k < nF ci) ∧ fLk (miY mi).cls idx ci k ∈ wgT)
theorem cls_all {ci : Nat} (h : ci < 12) : ∃ q : vw_C, vwCl[ci]? = some q ∧ (∀ w ∈ u_ws q.1 q.2.1 q.2.2, w ∈ wgT) ∧ nF ci = q.2.2 ∧ (∀ k, k < q.2.2 → parseFieldDescriptor (q.2.1 k).2.2.1 = some (fTy ci k)) ∧ ∀ a, a < q.2.2 → ∀ b, b < q.2.2 → a ≠ b → (q.2.1 a).2.1 ≠ (q.2.1 b).2.1 := by
  match ci, h with
  | 0, _ => exact ⟨(RX0, TX0, 4), rfl, cwX0, rfl, tyX0_ok, nmX0⟩
  | 1, _ => exact ⟨(RX1, TX1, 20), rfl, cwX1, rfl, tyX1_ok, nmX1⟩
  | 2, _ => exact ⟨(RX2, TX2, 4), rfl, cwX2, rfl, tyX2_ok, nmX2⟩
  | 3, _ => exact ⟨(RX3, TX3, 6), rfl, cwX3, rfl, tyX3_ok, nmX3⟩
  | 4, _ => exact ⟨(RX4, TX4, 13), rfl, cwX4, rfl, tyX4_ok, nmX4⟩
  | 5, _ => exact ⟨(RX5, TX5, 11), rfl, cwX5, rfl, tyX5_ok, nmX5⟩
  | 6, _ => exact ⟨(RX6, TX6, 8), rfl, cwX6, rfl, tyX6_ok, nmX6⟩
  | 7, _ => exact ⟨(RX7, TX7, 7), rfl, cwX7, rfl, tyX7_ok, nmX7⟩
  | 8, _ => exact ⟨(RX8, TX8, 8), rfl, cwX8, rfl, tyX8_ok, nmX8⟩
  | 9, _ => exact ⟨(RX9, TX9, 7), rfl, cwX9, rfl, tyX9_ok, nmX9⟩
  | 10, _ => exact ⟨(RX10, TX10, 10), rfl, cwX10, rfl, tyX10_ok, nmX10⟩
  | 11, _ => exact ⟨(RX11, TX11, 87), rfl, cwX11, rfl, tyX11_ok, nmX11⟩
section CELLS
variable {E : Scr} {mi : Mi} {S : Nat → Prop} {Q : Post} {T : Shp} {R : Rfs} {M : Mem} {u v pc : Nat} {ls : List (Nat × PV)} {st : List PV}
/-- a field is read: whatever it holds -/
theorem w_getV {idx ci k a n : Nat} {x : PV} (hd : decode (miC mi) pc = .ok (.getfield idx, 3)) (hf : FL (miY mi).cls idx ci k) (hT : T[a]? = some (ci, n)) (hxv : ∀ φ ex, toV φ ex x = fldV φ ci k (R a k) (M a k)) (h : tR (fK ci k) (M a k) → MW E mi S Q T R M u v (pc + 3) ls (x :: st)) : MW E mi S Q T R M u v pc ls (pR a :: st) := by
  intro l p e s m args below meth c H locs la D ar A φ ex B hl
  obtain ⟨⟨hx, hb, hr, hml, hts, hown, hlocks, hnm⟩, ⟨hN, hEx, hK, hA⟩, ⟨hP, hD, hS⟩, hR, hRC⟩ := id B
  obtain ⟨⟨hci, hk⟩, hlk⟩ := hf
  obtain ⟨q, hq, hws, hnf, hty, hne⟩ := cls_all hci
  have hw : (wsO φ ar T R M)[gi T a]? = some (φ a, .inr (ci, fldsV φ ci (R a) (M a))) := by rw [wsO_at hT (by omega), cellE_obj (by omega)]
  have hr2 := (hR a _ hT).2 k
  rw [sTy_obj (by omega)] at hr2
  have hk9 := h hr2 l p e s m args below meth c H locs la D ar A φ ex B hl
  rw [List.map_cons, hxv] at hk9
  rcases hlk with h1 | ⟨host, h1⟩
  · unfold fLk at h1
    rw [hq] at h1
    exact va_get (D := D) (ci := ci) (C := q.1) (T := q.2.1) (N := q.2.2) hx hb (Ts := wgT) hts hws hown hK hP (gi T a) hw hq k (by omega) (hts _ h1) (fun _ z => z) (fldsV_at hk) hd hk9
  · unfold fLn at h1
    rw [hq] at h1
    exact va_getN (D := D) (ci := ci) (C := q.1) (T := q.2.1) (N := q.2.2) hx hb (Ts := wgT) hts hws hown hK hP (gi T a) hw hq k (by omega) (va_Nw.use rfl (hN _ h1)) (fun _ z => z) (fldsV_at hk) hd hk9
theorem w_getI {idx ci k a n : Nat} {x : Int} (hd : decode (miC mi) pc = .ok (.getfield idx, 3)) (hf : FL (miY mi).cls idx ci k) (hT : T[a]? = some (ci, n)) (hk : fK ci k = 0) (hv : M a k = x) (h : iR x → MW E mi S Q T R M u v (pc + 3) ls (pI x :: st)) : MW E mi S Q T R M u v pc ls (pR a :: st) := by
  subst hv
  exact w_getV hd hf hT (x := pI (M a k)) (fun φ ex => by unfold fldV; rw [hk]; rfl) (fun z => h (by rw [hk] at z; exact z))
theorem w_getZ {idx ci k a n : Nat} {x : Int} (hd : decode (miC mi) pc = .ok (.getfield idx, 3)) (hf : FL (miY mi).cls idx ci k) (hT : T[a]? = some (ci, n)) (hk : fK ci k = 2) (hv : M a k = x) (h : zR x → MW E mi S Q T R M u v (pc + 3) ls (pI x :: st)) : MW E mi S Q T R M u v pc ls (pR a :: st) := by
  subst hv
  exact w_getV hd hf hT (x := pI (M a k)) (fun φ ex => by unfold fldV; rw [hk]; rfl) (fun z => h (by rw [hk] at z; exact z))
theorem w_getL {idx ci k a n : Nat} {x : Int} (hd : decode (miC mi) pc = .ok (.getfield idx, 3)) (hf : FL (miY mi).cls idx ci k) (hT : T[a]? = some (ci, n)) (hk : fK ci k = 1) (hv : M a k = x) (h : lR x → MW E mi S Q T R M u v (pc + 3) ls (pL x :: st)) : MW E mi S Q T R M u v pc ls (pR a :: st) := by
  subst hv
  exact w_getV hd hf hT (x := pL (M a k)) (fun φ ex => by unfold fldV; rw [hk]; rfl) (fun z => h (by rw [hk] at z; exact z))
theorem w_getR {idx ci k a n b : Nat} (hd : decode (miC mi) pc = .ok (.getfield idx, 3)) (hf : FL (miY mi).cls idx ci k) (hT : T[a]? = some (ci, n)) (hk : fK ci k = 3) (hb : R a k = some b) (h : MW E mi S Q T R M u v (pc + 3) ls (pR b :: st)) : MW E mi S Q T R M u v pc ls (pR a :: st) :=
  w_getV hd hf hT (x := pR b) (fun φ ex => by unfold fldV; rw [hk, hb]; rfl) (fun _ => h)
/-- a field is written -/
theorem w_putV {idx ci k a n : Nat} {x : PV} {R' : Rfs} {M' : Mem} (hd : decode (miC mi) pc = .ok (.putfield idx, 3)) (hf : FP mi idx ci k) (hT : T[a]? = some (ci, n)) (hxv : ∀ φ ex, toV φ ex x = fldV φ ci k (R' a k) (M' a k)) (hnar : ∀ φ ex, narrow (fTy ci k) (toV φ ex x) = toV φ ex x ∧ fits (fTy ci k) (toV φ ex x) = true)
    (hR1 : ∀ b, b ≠ a → R' b = R b) (hM1 : ∀ b, b ≠ a → M' b = M b) (hR2 : ∀ j, j ≠ k → R' a j = R a j) (hM2 : ∀ j, j ≠ k → M' a j = M a j) (hrg : Rng T M → Rng T M') (hrc : RC T.length R → RC T.length R')
    (h : MW E mi S Q T R' M' u v (pc + 3) ls st) : MW E mi S Q T R M u v pc ls (x :: pR a :: st) := by
  intro l p e s m args below meth c H locs la D ar A φ ex B hl
  obtain ⟨⟨hx, hb, hr, hml, hts, hown, hlocks, hnm⟩, ⟨hN, hEx, hK, hA⟩, ⟨hP, hD, hS⟩, hR, hRC⟩ := id B
  have hck : ci < 12 ∧ k < nF ci := by
    rcases hf with h1 | h1
    · exact h1.2.1
    · exact h1.2.1
  obtain ⟨hci, hk⟩ := hck
  obtain ⟨q, hq, hws, hnf, hty, hne⟩ := cls_all hci
  have hw : (wsO φ ar T R M)[gi T a]? = some (φ a, .inr (ci, fldsV φ ci (R a) (M a))) := by rw [wsO_at hT (by omega), cellE_obj (by omega)]
  have hset : (wsO φ ar T R M).set (gi T a) (φ a, .inr (ci, (fldsV φ ci (R a) (M a)).set k (toV φ ex x))) = wsO φ ar T R' M' := by
    refine wsO_setG hT (show ci ≠ 30 by omega) ?_ hR1 hM1
    rw [cellE_obj (by omega), fldsV_set (hxv φ ex) hR2 hM2]
  have kk : ∀ (H1 : Heap) (locs1 : List Loc), va_P D vwCl ((wsO φ ar T R M).set (gi T a) (φ a, .inr (ci, (fldsV φ ci (R a) (M a)).set k (toV φ ex x)))) H1 → va_D A ((wsO φ ar T R M).set (gi T a) (φ a, .inr (ci, (fldsV φ ci (R a) (M a)).set k (toV φ ex x)))) → va_S A s.heap H1 locs1 → W p l e (miR mi) s m args below meth c H1 locs1 u v (MQ below (QcO D ar φ ex S A Q) args s (miMc mi) (miMs mi) A) (F0 m (pc + 3) la (st.map (toV φ ex))) := by
    intro H1 locs1 p1 d1 s1
    rw [hset] at p1 d1
    exact h l p e s m args below meth c H1 locs1 la D ar A φ ex ⟨⟨hx, hb, hr, hml, hts, hown, hlocks, hnm⟩, ⟨hN, hEx, hK, hA⟩, ⟨p1, d1, s1⟩, hrg hR, hrc hRC⟩ hl
  have hkl : k < (fldsV φ ci (R a) (M a)).length := by rw [fldsV_len]; exact hk
  rcases hf with ⟨hfin, -, h1 | ⟨host, h1⟩⟩ | ⟨⟨hfin, hin, hdec⟩, -, h1⟩
  · unfold fLk at h1
    rw [hq] at h1
    have hfin' : (q.2.1 k).2.2.2 = false := by unfold fFin at hfin; rw [hq] at hfin; exact hfin
    exact va_put (D := D) (ci := ci) (C := q.1) (T := q.2.1) (N := q.2.2) hx hb (Ts := wgT) hts hws (fTy ci) hty hne hown hK hP hD hS (gi T a) hw hq k (by omega) (hts _ h1) (fun _ z => z) hfin' (hty k (by omega)) (hnar φ ex).1 (hnar φ ex).2 hkl hd kk
  · unfold fLn at h1
    rw [hq] at h1
    have hfin' : (q.2.1 k).2.2.2 = false := by unfold fFin at hfin; rw [hq] at hfin; exact hfin
    exact va_putN (D := D) (ci := ci) (C := q.1) (T := q.2.1) (N := q.2.2) hx hb (Ts := wgT) hts hws (fTy ci) hty hne hown hK hP hD hS (gi T a) hw hq k (by omega) (va_Nw.use rfl (hN _ h1)) (fun _ z => z) hfin' (hty k (by omega)) (hnar φ ex).1 (hnar φ ex).2 hkl hd kk
  · unfold fLk at h1
    rw [hq] at h1
    have hfin' : (q.2.1 k).2.2.2 = true := by unfold fFin at hfin; rw [hq] at hfin; exact hfin
    have hdec' : (q.2.1 k).1 = (miY mi).cls := by unfold fDecl at hdec; rw [hq] at hdec; exact hdec
    exact va_putF (D := D) (ci := ci) (C := q.1) (T := q.2.1) (N := q.2.2) hx hb (Ts := wgT) hts hws (fTy ci) hty hne hown hK hP hD hS (gi T a) hw hq k (by omega) (hts _ h1) (fun _ z => z) hfin' (hnm.trans hin) hdec' (hty k (by omega)) (hnar φ ex).1 (hnar φ ex).2 hkl hd kk
theorem FP.lt {idx ci k : Nat} (hf : FP mi idx ci k) : ci < 12 := by
  rcases hf with h1 | h1
  · exact h1.2.1.1
  · exact h1.2.1.1
theorem kTy0 {t : FieldType} (h : kTy t = 0) : t = .int := by cases t <;> first | rfl | (exact absurd h (by decide)) | (unfold kTy at h; cases h)
theorem kTy1 {t : FieldType} (h : kTy t = 1) : t = .long := by cases t <;> first | rfl | (exact absurd h (by decide)) | (unfold kTy at h; cases h)
theorem kTy2 {t : FieldType} (h : kTy t = 2) : t = .boolean := by cases t <;> first | rfl | (exact absurd h (by decide)) | (unfold kTy at h; cases h)
theorem va_up_neq {α : Type} (f : Nat → α) {k j : Nat} (v : α) (h : j ≠ k) : va_up f k v j = f j := by simp [va_up, h]
theorem w_putI {idx ci k a n : Nat} {x : Int} (hd : decode (miC mi) pc = .ok (.putfield idx, 3)) (hf : FP mi idx ci k) (hT : T[a]? = some (ci, n)) (hk : fK ci k = 0) (hxr : iR x) (h : MW E mi S Q T R (upM M a k x) u v (pc + 3) ls st) : MW E mi S Q T R M u v pc ls (pI x :: pR a :: st) := by
  refine w_putV hd hf hT (R' := R) (M' := upM M a k x) ?_ ?_ (fun _ _ => rfl) (fun b hb => upM_ne M k x hb) (fun _ _ => rfl) (fun j hj => by rw [upM_self, va_up_neq _ _ hj]) (fun z => z.up hT (by rw [sTy_obj (by have := hf.lt; omega), hk]; exact hxr)) (fun z => z) h
  · intro φ ex; unfold fldV; rw [hk, upM_self, va_up_self]; rfl
  · intro φ ex; rw [kTy0 hk]; exact ⟨rfl, rfl⟩
theorem w_putL {idx ci k a n : Nat} {x : Int} (hd : decode (miC mi) pc = .ok (.putfield idx, 3)) (hf : FP mi idx ci k) (hT : T[a]? = some (ci, n)) (hk : fK ci k = 1) (hxr : lR x) (h : MW E mi S Q T R (upM M a k x) u v (pc + 3) ls st) : MW E mi S Q T R M u v pc ls (pL x :: pR a :: st) := by
  refine w_putV hd hf hT (R' := R) (M' := upM M a k x) ?_ ?_ (fun _ _ => rfl) (fun b hb => upM_ne M k x hb) (fun _ _ => rfl) (fun j hj => by rw [upM_self, va_up_neq _ _ hj]) (fun z => z.up hT (by rw [sTy_obj (by have := hf.lt; omega), hk]; exact hxr)) (fun z => z) h
  · intro φ ex; unfold fldV; rw [hk, upM_self, va_up_self]; rfl
  · intro φ ex; rw [kTy1 hk]; exact ⟨rfl, rfl⟩
theorem w_putZ {idx ci k a n : Nat} {x : Int} (hd : decode (miC mi) pc = .ok (.putfield idx, 3)) (hf : FP mi idx ci k) (hT : T[a]? = some (ci, n)) (hk : fK ci k = 2) (hxr : zR x) (h : MW E mi S Q T R (upM M a k x) u v (pc + 3) ls st) : MW E mi S Q T R M u v pc ls (pI x :: pR a :: st) := by
  refine w_putV hd hf hT (R' := R) (M' := upM M a k x) ?_ ?_ (fun _ _ => rfl) (fun b hb => upM_ne M k x hb) (fun _ _ => rfl) (fun j hj => by rw [upM_self, va_up_neq _ _ hj]) (fun z => z.up hT (by rw [sTy_obj (by have := hf.lt; omega), hk]; exact hxr)) (fun z => z) h
  · intro φ ex; unfold fldV; rw [hk, upM_self, va_up_self]; rfl
  · intro φ ex; rw [kTy2 hk]; rcases hxr with rfl | rfl <;> exact ⟨rfl, rfl⟩
theorem RC.up {n a k b : Nat} {R : Rfs} (h : RC n R) (hb : b < n) : RC n (upR R a k (some b)) := by
  intro a' k' b' h'
  by_cases ha : a' = a
  · subst ha
    rw [upR_self] at h'
    by_cases hk : k' = k
    · subst hk; rw [va_up_self] at h'; cases h'; exact hb
    · rw [va_up_neq _ _ hk] at h'; exact h a' k' b' h'
  · rw [upR_ne R k _ ha] at h'; exact h a' k' b' h'
theorem kTy3 {t : FieldType} {r : Option Nat} (h : (match t with
  | .object _ => true
  | .array _ => true
  | _ => false) = true) : narrow t (va_rf r) = va_rf r ∧ fits t (va_rf r) = true := by
  cases t <;> first | (cases r <;> exact ⟨rfl, rfl⟩) | cases h
theorem w_putR {idx ci k a n b : Nat} (hd : decode (miC mi) pc = .ok (.putfield idx, 3)) (hf : FP mi idx ci k) (hT : T[a]? = some (ci, n)) (hk : fK ci k = 3) (hty : (match fTy ci k with
  | .object _ => true
  | .array _ => true
  | _ => false) = true) (hbl : b < T.length) (h : MW E mi S Q T (upR R a k (some b)) M u v (pc + 3) ls st) : MW E mi S Q T R M u v pc ls (pR b :: pR a :: st) := by
  refine w_putV hd hf hT (R' := upR R a k (some b)) (M' := M) ?_ ?_ (fun c hc => upR_ne R k _ hc) (fun _ _ => rfl) (fun j hj => by rw [upR_self, va_up_neq _ _ hj]) (fun _ _ => rfl) (fun z => z) (fun z => z.up hbl) h
  · intro φ ex; unfold fldV; rw [hk, upR_self, va_up_self]; rfl
  · intro φ ex; exact kTy3 (r := (some b).map φ) hty
end CELLS
