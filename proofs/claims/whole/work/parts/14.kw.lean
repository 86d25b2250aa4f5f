/-! the world as it stays behind the constructors: a method's end says its answer and the memory -/
def QL (q : Option PV → Mem → Prop) : Post := fun r T R M => T = T0 ∧ R = R0 ∧ q r M
abbrev KW (E : Scr) (mi : Mi) (q : Option PV → Mem → Prop) (M : Mem) (pc : Nat) (ls : List (Nat × PV)) (st : List PV) : Prop := MW E mi Top (QL q) T0 R0 M 0 0 pc ls st
abbrev qI (f : Int → Mem → Prop) : Option PV → Mem → Prop := fun r M => ∃ x, r = some (pI x) ∧ f x M
abbrev qL (f : Int → Mem → Prop) : Option PV → Mem → Prop := fun r M => ∃ x, r = some (pL x) ∧ f x M
abbrev qV (f : Mem → Prop) : Option PV → Mem → Prop := fun r M => r = none ∧ f M
theorem MW_mono {E : Scr} {mi : Mi} {S : Nat → Prop} {Q1 Q2 : Post} {T : Shp} {R : Rfs} {M : Mem} {u v pc : Nat} {ls : List (Nat × PV)} {st : List PV} (hq : ∀ r T R M, Q1 r T R M → Q2 r T R M) (h : MW E mi S Q1 T R M u v pc ls st) : MW E mi S Q2 T R M u v pc ls st := by
  intro l p e s m args below meth c H locs la D ar A φ ex B hl
  refine W_mono (MQ_mono fun o t z => ?_) (h l p e s m args below meth c H locs la D ar A φ ex B hl)
  obtain ⟨⟨r, T', R', M', φ', h1, h2, h3⟩, h4⟩ := z
  exact ⟨⟨r, T', R', M', φ', h1, hq _ _ _ _ h2, h3⟩, h4⟩
theorem KW_mono {E : Scr} {mi : Mi} {q1 q2 : Option PV → Mem → Prop} {M : Mem} {pc : Nat} {ls : List (Nat × PV)} {st : List PV} (hq : ∀ r M, q1 r M → q2 r M) (h : KW E mi q1 M pc ls st) : KW E mi q2 M pc ls st :=
  MW_mono (fun _ _ _ _ z => ⟨z.1, z.2.1, hq _ _ z.2.2⟩) h
/-- calls of a method: with an int, with a long, with nothing -/
def CI (E : Scr) (mi : Mi) (as : List PV) (M : Mem) (f : Int → Mem → Prop) : Prop := KW E mi (qI f) M 0 (pvA 0 as) []
def CL (E : Scr) (mi : Mi) (as : List PV) (M : Mem) (f : Int → Mem → Prop) : Prop := KW E mi (qL f) M 0 (pvA 0 as) []
def CV (E : Scr) (mi : Mi) (as : List PV) (M : Mem) (f : Mem → Prop) : Prop := KW E mi (qV f) M 0 (pvA 0 as) []
theorem CI_mono {E : Scr} {mi : Mi} {as : List PV} {M : Mem} {f g : Int → Mem → Prop} (hq : ∀ r M, f r M → g r M) (h : CI E mi as M f) : CI E mi as M g := KW_mono (fun _ _ ⟨x, h1, h2⟩ => ⟨x, h1, hq _ _ h2⟩) h
theorem CL_mono {E : Scr} {mi : Mi} {as : List PV} {M : Mem} {f g : Int → Mem → Prop} (hq : ∀ r M, f r M → g r M) (h : CL E mi as M f) : CL E mi as M g := KW_mono (fun _ _ ⟨x, h1, h2⟩ => ⟨x, h1, hq _ _ h2⟩) h
theorem CV_mono {E : Scr} {mi : Mi} {as : List PV} {M : Mem} {f g : Mem → Prop} (hq : ∀ M, f M → g M) (h : CV E mi as M f) : CV E mi as M g := KW_mono (fun _ _ ⟨h1, h2⟩ => ⟨h1, hq _ h2⟩) h
section KWR
variable {E : Scr} {mi mi2 : Mi} {q : Option PV → Mem → Prop} {M : Mem} {pc : Nat} {ls : List (Nat × PV)} {st : List PV}
theorem k_iret {x : Int} {f : Int → Mem → Prop} (hd : decode (miC mi) pc = .ok (.ireturn, 1)) (hrt : miT mi = some .int) (h : f x M) : KW E mi (qI f) M pc ls [pI x] := w_iret hd hrt ⟨Nat.zero_le _, Nat.zero_le _⟩ ⟨rfl, rfl, x, rfl, h⟩
theorem k_zret {x : Int} {f : Int → Mem → Prop} (hd : decode (miC mi) pc = .ok (.ireturn, 1)) (hrt : miT mi = some .boolean) (hz : zR x) (h : f x M) : KW E mi (qI f) M pc ls [pI x] := w_zret hd hrt hz ⟨Nat.zero_le _, Nat.zero_le _⟩ ⟨rfl, rfl, x, rfl, h⟩
theorem k_cret {x : Int} {f : Int → Mem → Prop} (hd : decode (miC mi) pc = .ok (.ireturn, 1)) (hrt : miT mi = some .char) (hz : 0 ≤ x ∧ x < 65536) (h : f x M) : KW E mi (qI f) M pc ls [pI x] := w_cret hd hrt hz ⟨Nat.zero_le _, Nat.zero_le _⟩ ⟨rfl, rfl, x, rfl, h⟩
theorem k_lret {x : Int} {f : Int → Mem → Prop} (hd : decode (miC mi) pc = .ok (.lreturn, 1)) (hrt : miT mi = some .long) (h : f x M) : KW E mi (qL f) M pc ls [pL x] := w_lret hd hrt ⟨Nat.zero_le _, Nat.zero_le _⟩ ⟨rfl, rfl, x, rfl, h⟩
theorem k_vret {f : Mem → Prop} (hd : decode (miC mi) pc = .ok (.return_, 1)) (hrt : miT mi = none) (h : f M) : KW E mi (qV f) M pc ls [] := w_vret hd hrt ⟨Nat.zero_le _, Nat.zero_le _⟩ ⟨rfl, rfl, rfl, h⟩
def lpick (ls : List (Nat × PV)) (ks : List Nat) : List (Nat × PV) := ks.filterMap fun k => ls[k]?
theorem k_pick {ls' : List (Nat × PV)} (ks : List Nat) (hp : lpick ls ks = ls') (h : KW E mi q M pc ls' st) : KW E mi q M pc ls st := by
  refine w_ls (fun z hz => ?_) h
  rw [← hp] at hz
  obtain ⟨k, -, hk⟩ := List.mem_filterMap.mp hz
  exact List.mem_of_getElem? hk
/-- what a call leaves to its caller -/
abbrev Ra (mi mi2 : Mi) (st : List PV) : Prop := (miH mi2 + 1 ≤ miH mi ∧ miMc mi2 = 0 ∧ miMs mi2 = 0) ∧ pvW st ≤ 8
theorem Ra.rm (h : Ra mi mi2 st) : Rm mi mi2 0 0 st := ⟨⟨h.1.1, by rw [h.1.2.1]; exact Nat.zero_le _, by rw [h.1.2.2]; exact Nat.zero_le _⟩, h.2⟩
theorem k_goV {idx ci n a k : Nat} {as : List PV} {q2 : Option PV → Mem → Prop} (hd : decode (miC mi) pc = .ok (.invokevirtual idx, 3)) (hcs : CsV (miY mi).cls idx mi2 ci n) (hrm : Ra mi mi2 st) (hT : T0[a]? = some (ci, k)) (hci : ci < 12) (hn : as.length = n) (hlen : pvW (pR a :: as) ≤ miL mi2)
    (h : KW E mi2 q2 M 0 (pvA 0 (pR a :: as)) []) (hk : ∀ r M', q2 r M' → KW E mi q M' (pc + 3) ls (r.toList ++ st)) : KW E mi q M pc ls (as.reverse ++ pR a :: st) := by
  refine w_callV hd hcs hrm.rm hT hci hn hlen (S2 := Top) (fun _ _ => trivial) Stb_top (MW_mono (fun r T' R' M' z => ?_) h)
  obtain ⟨rfl, rfl, z⟩ := z
  rw [hrm.1.2.1, hrm.1.2.2]
  exact hk r M' z
theorem k_goS {idx n : Nat} {as : List PV} {q2 : Option PV → Mem → Prop} (hd : decode (miC mi) pc = .ok (.invokestatic idx, 3)) (hcs : CsS (miY mi).cls idx mi2 n) (hrm : Ra mi mi2 st) (hn : as.length = n) (hlen : pvW as ≤ miL mi2)
    (h : KW E mi2 q2 M 0 (pvA 0 as) []) (hk : ∀ r M', q2 r M' → KW E mi q M' (pc + 3) ls (r.toList ++ st)) : KW E mi q M pc ls (as.reverse ++ st) := by
  refine w_callS hd hcs hrm.rm hn hlen (S2 := Top) (fun _ _ => trivial) Stb_top (MW_mono (fun r T' R' M' z => ?_) h)
  obtain ⟨rfl, rfl, z⟩ := z
  rw [hrm.1.2.1, hrm.1.2.2]
  exact hk r M' z
theorem k_goX {idx n j : Nat} {as : List PV} {q2 : Option PV → Mem → Prop} (hd : decode (miC mi) pc = .ok (.invokevirtual idx, 3)) (ho : MiOk mi2 n) (hi : Cond.instanceMethod (miY mi2) ∈ wgT ∧ Cond.selects (miY mi2).cls (miY mi2) (miY mi2) ∈ wgT) (hcl : (miY mi2).cls = "java/lang/String") (hlk : Cond.methodLink (miY mi).cls idx (miY mi2) ∈ wgT) (hrm : Ra mi mi2 st) (hj : j < 4) (hn : as.length = n) (hlen : pvW (pX (j + 1) :: as) ≤ miL mi2)
    (h : KW E mi2 q2 M 0 (pvA 0 (pX (j + 1) :: as)) []) (hk : ∀ r M', q2 r M' → KW E mi q M' (pc + 3) ls (r.toList ++ st)) : KW E mi q M pc ls (as.reverse ++ pX (j + 1) :: st) := by
  refine w_callX hd ho ⟨hi.1, hi.2, hcl, hlk⟩ hrm.rm hj hn hlen (S2 := Top) (fun _ _ => trivial) Stb_top (MW_mono (fun r T' R' M' z => ?_) h)
  obtain ⟨rfl, rfl, z⟩ := z
  rw [hrm.1.2.1, hrm.1.2.2]
  exact hk r M' z
theorem k_vI {idx ci n a k : Nat} {as : List PV} {f : Int → Mem → Prop} (hd : decode (miC mi) pc = .ok (.invokevirtual idx, 3)) (hcs : CsV (miY mi).cls idx mi2 ci n) (hrm : Ra mi mi2 st) (hT : T0[a]? = some (ci, k)) (hci : ci < 12) (hn : as.length = n) (hlen : pvW (pR a :: as) ≤ miL mi2)
    (h : CI E mi2 (pR a :: as) M f) (hk : ∀ x M', f x M' → KW E mi q M' (pc + 3) ls (pI x :: st)) : KW E mi q M pc ls (as.reverse ++ pR a :: st) :=
  k_goV hd hcs hrm hT hci hn hlen h (fun _ _ ⟨x, h1, h2⟩ => by subst h1; exact hk x _ h2)
theorem k_vL {idx ci n a k : Nat} {as : List PV} {f : Int → Mem → Prop} (hd : decode (miC mi) pc = .ok (.invokevirtual idx, 3)) (hcs : CsV (miY mi).cls idx mi2 ci n) (hrm : Ra mi mi2 st) (hT : T0[a]? = some (ci, k)) (hci : ci < 12) (hn : as.length = n) (hlen : pvW (pR a :: as) ≤ miL mi2)
    (h : CL E mi2 (pR a :: as) M f) (hk : ∀ x M', f x M' → KW E mi q M' (pc + 3) ls (pL x :: st)) : KW E mi q M pc ls (as.reverse ++ pR a :: st) :=
  k_goV hd hcs hrm hT hci hn hlen h (fun _ _ ⟨x, h1, h2⟩ => by subst h1; exact hk x _ h2)
theorem k_vV {idx ci n a k : Nat} {as : List PV} {f : Mem → Prop} (hd : decode (miC mi) pc = .ok (.invokevirtual idx, 3)) (hcs : CsV (miY mi).cls idx mi2 ci n) (hrm : Ra mi mi2 st) (hT : T0[a]? = some (ci, k)) (hci : ci < 12) (hn : as.length = n) (hlen : pvW (pR a :: as) ≤ miL mi2)
    (h : CV E mi2 (pR a :: as) M f) (hk : ∀ M', f M' → KW E mi q M' (pc + 3) ls st) : KW E mi q M pc ls (as.reverse ++ pR a :: st) :=
  k_goV hd hcs hrm hT hci hn hlen h (fun _ _ ⟨h1, h2⟩ => by subst h1; exact hk _ h2)
theorem k_sI {idx n : Nat} {as : List PV} {f : Int → Mem → Prop} (hd : decode (miC mi) pc = .ok (.invokestatic idx, 3)) (hcs : CsS (miY mi).cls idx mi2 n) (hrm : Ra mi mi2 st) (hn : as.length = n) (hlen : pvW as ≤ miL mi2)
    (h : CI E mi2 as M f) (hk : ∀ x M', f x M' → KW E mi q M' (pc + 3) ls (pI x :: st)) : KW E mi q M pc ls (as.reverse ++ st) :=
  k_goS hd hcs hrm hn hlen h (fun _ _ ⟨x, h1, h2⟩ => by subst h1; exact hk x _ h2)
theorem k_sL {idx n : Nat} {as : List PV} {f : Int → Mem → Prop} (hd : decode (miC mi) pc = .ok (.invokestatic idx, 3)) (hcs : CsS (miY mi).cls idx mi2 n) (hrm : Ra mi mi2 st) (hn : as.length = n) (hlen : pvW as ≤ miL mi2)
    (h : CL E mi2 as M f) (hk : ∀ x M', f x M' → KW E mi q M' (pc + 3) ls (pL x :: st)) : KW E mi q M pc ls (as.reverse ++ st) :=
  k_goS hd hcs hrm hn hlen h (fun _ _ ⟨x, h1, h2⟩ => by subst h1; exact hk x _ h2)
theorem k_sV {idx n : Nat} {as : List PV} {f : Mem → Prop} (hd : decode (miC mi) pc = .ok (.invokestatic idx, 3)) (hcs : CsS (miY mi).cls idx mi2 n) (hrm : Ra mi mi2 st) (hn : as.length = n) (hlen : pvW as ≤ miL mi2)
    (h : CV E mi2 as M f) (hk : ∀ M', f M' → KW E mi q M' (pc + 3) ls st) : KW E mi q M pc ls (as.reverse ++ st) :=
  k_goS hd hcs hrm hn hlen h (fun _ _ ⟨h1, h2⟩ => by subst h1; exact hk _ h2)
theorem k_xI {idx n j : Nat} {as : List PV} {f : Int → Mem → Prop} (hd : decode (miC mi) pc = .ok (.invokevirtual idx, 3)) (ho : MiOk mi2 n) (hi : Cond.instanceMethod (miY mi2) ∈ wgT ∧ Cond.selects (miY mi2).cls (miY mi2) (miY mi2) ∈ wgT) (hcl : (miY mi2).cls = "java/lang/String") (hlk : Cond.methodLink (miY mi).cls idx (miY mi2) ∈ wgT) (hrm : Ra mi mi2 st) (hj : j < 4) (hn : as.length = n) (hlen : pvW (pX (j + 1) :: as) ≤ miL mi2)
    (h : CI E mi2 (pX (j + 1) :: as) M f) (hk : ∀ x M', f x M' → KW E mi q M' (pc + 3) ls (pI x :: st)) : KW E mi q M pc ls (as.reverse ++ pX (j + 1) :: st) :=
  k_goX hd ho hi hcl hlk hrm hj hn hlen h (fun _ _ ⟨x, h1, h2⟩ => by subst h1; exact hk x _ h2)
end KWR
theorem z2i {x : Int} (h : zR x) : iR x := by rcases h with rfl | rfl <;> exact ⟨by omega, by omega⟩
theorem i32_rg (x : Int32) : iR x.toInt := ⟨Int32.le_toInt x, Int32.toInt_lt x⟩
theorem i64_rg (x : Int64) : lR x.toInt := ⟨Int64.le_toInt x, Int64.toInt_lt x⟩
theorem bAnd_r (x y : Int) : iR (bAnd x y) := i32_rg _
theorem bOr_r (x y : Int) : iR (bOr x y) := i32_rg _
theorem bXor_r (x y : Int) : iR (bXor x y) := i32_rg _
theorem bShl_r (x y : Int) : iR (bShl x y) := i32_rg _
theorem bShr_r (x y : Int) : iR (bShr x y) := i32_rg _
theorem bUshr_r (x y : Int) : iR (bUshr x y) := i32_rg _
theorem lAnd_r (x y : Int) : lR (lAnd x y) := i64_rg _
theorem max_r {x y : Int} (h1 : iR x) (h2 : iR y) : iR (max x y) := ⟨by omega, by omega⟩
theorem min_r {x y : Int} (h1 : iR x) (h2 : iR y) : iR (min x y) := ⟨by omega, by omega⟩
theorem maxl_r {x y : Int} (h1 : lR x) (h2 : lR y) : lR (max x y) := ⟨by omega, by omega⟩
theorem minl_r {x y : Int} (h1 : lR x) (h2 : lR y) : lR (min x y) := ⟨by omega, by omega⟩
theorem i2l_r {x : Int} (h : iR x) : lR x := ⟨by omega, by omega⟩
