/-! the law's own latch: the answer is kept, or the throw is caught -/
def mLlat : Mi := (yL_latch, cL_latch, 5, some .int, 8, 1, 6)
def hhL : List (Nat × Nat × Nat × Nat) := [(0, 10, 13, 13), (0, 10, 17, 15)]
def llW : List Cond := Cond.codeWith yL_latch cL_latch 5 (some .int) hhL :: wgT
theorem cwL : Cond.codeWith yL_latch cL_latch 5 (some .int) hhL ∈ wgT := wg 1407 (by decide +kernel) rfl
theorem lkL : (Cond.methodLink "LeanLatchesLaw" 39 yL_latch ∈ wgT ∧ Cond.static yL_latch ∈ wgT ∧ Cond.initialized "LeanLatchesLaw" ∈ wgT) ∧ Cond.classLink "LeanLatchesLaw" 13 kIO ∈ wgT ∧ Cond.classLink "LeanLatchesLaw" 15 kNS ∈ wgT := ⟨⟨wg 1405 (by decide +kernel) rfl, wg 1406 (by decide +kernel) rfl, wg 162 (by decide +kernel) rfl⟩, wg 1408 (by decide +kernel) rfl, wg 1409 (by decide +kernel) rfl⟩
theorem csL : Cond.castable kIO kIO ∈ nsT ∧ Cond.castable kNS kNS ∈ nsT := ⟨ns 1416 (by decide +kernel) rfl, ns 1483 (by decide +kernel) rfl⟩
theorem met_ofWH {l : Launch} {y : MethodName} {ws ws' : List Cond} {rm : Room} {Pc : Array Value → State → Prop} {Qc : Array Value → State → Outcome → State → Prop} {mc ms : Nat} {free : Addr → Prop} {cc : ByteArray} {maxL : Nat} {ret : Option FieldType} {hh : List (Nat × Nat × Nat × Nat)}
    (hy : plainName y.cls = true) (hw : ws = Cond.codeWith y cc maxL ret hh :: ws')
    (body : ∀ p e s m args below meth c s₁, BodyLoose p l y (headSpec ws rm) cc maxL ret e s m args below meth c s₁ → c.maxLocals = maxL → Pc args s →
      W p l e (headSpec ws rm).room s m args below meth c s.heap [] 0 0 (MQ below Qc args s mc ms free) (entryFrame m args maxL)) : Met l y ws rm Pc Qc mc ms free := by
  refine MetFree.of_bodyS (code := cc) (maxLocals := maxL) (ret := ret) hy ?_ ?_
  · intro args s m h hn
    obtain ⟨m9, meth, c, hn9, h1, h2, h3, h4, -, h5, h6, -⟩ := Cond.codeWith_spec (atoms_spec (ws := ws) h _ (by rw [hw]; exact List.mem_cons_self))
    cases hn.symm.trans hn9
    exact ⟨meth, c, h1, h2, h3, h4, h5, h6⟩
  · intro p e s m args below meth c s₁ B hml hP _
    have hh0 : s₁.heap = s.heap := by rw [B.state]; rfl
    obtain ⟨t, a1, o, b1, b2, b3⟩ := body p e s m args below meth c s₁ B hml hP s₁ hh0 (Stand.of_body B)
    exact ⟨t, o, a1, b1, b2, ⟨b3.1, b3.2⟩⟩
section LLAT
variable {E : Scr} {z : ZT} {s : PSt} {y : YS} {no : NS} {M : Mem} {x w : Int}
def MLl (k : Nat) (v : Int) (M : Mem) : Mem := if k = 0 then upM M 144 0 v else M
def QLl (k : Nat) (v : Int) (M : Mem) : Post := fun r T R M' => T = T1 ∧ R = R0 ∧ r = some (pI (k : Int)) ∧ M' = MLl k v M
theorem latV_r (hI : Inv z s y no M) (c1 : 0 ≤ x ∧ x < (sN s : Int)) : iR (latV (mayP s) x w y.1) := by
  obtain ⟨L, h9⟩ := hI.1.2.1
  have hn : sN s ≤ 8 := h9.2.1.1
  unfold latV
  by_cases a1 : w = 0
  · rw [if_pos a1]; exact bAnd_r _ _
  rw [if_neg a1]
  by_cases a2 : w = 1
  · rw [if_pos a2]; exact bAnd_r _ _
  rw [if_neg a2]
  by_cases a3 : w = 2
  · rw [if_pos a3]; exact bAnd_r _ _
  rw [if_neg a3]
  have := hI.1.hw.1.1.2.2.2.2.2 x.toNat (by omega)
  exact ⟨by omega, by omega⟩
theorem lat_tail {k : Nat} {v : Int} {ls : List (Nat × PV)} (hk : k = 0) (hv : iR v) : MW E mLlat Top (QLl k v M) T1 R0 M (0 + 1) (0 + 6) 8 ls [pI v, pI 0, pR 144] := by
  refine w_i2l dL_latch_8 hv ?_
  refine w_last dL_latch_9 (n := 1) rfl ⟨by decide, by decide⟩ (i2l_r hv) ?_
  refine w_goto dL_latch_10 rfl ?_
  refine w_iconst dL_latch_21 ?_
  exact w_iret dL_latch_22 rfl ⟨Nat.le_refl _, Nat.le_refl _⟩ ⟨rfl, rfl, by subst hk; rfl, by unfold MLl; rw [if_pos hk]; rfl⟩
theorem lat_h1 {k : Nat} {v : Int} (hk : k = 1) : MW E mLlat Top (QLl k v M) T1 R0 M (0 + 1) (0 + 6) 15 [] [] := by
  refine w_iconst dL_latch_15 ?_
  exact w_iret dL_latch_16 rfl ⟨Nat.le_refl _, Nat.le_refl _⟩ ⟨rfl, rfl, by subst hk; rfl, by unfold MLl; rw [if_neg (by omega)]⟩
theorem lat_h2 {k : Nat} {v : Int} (hk : k = 2) : MW E mLlat Top (QLl k v M) T1 R0 M (0 + 1) (0 + 6) 19 [] [] := by
  refine w_iconst dL_latch_19 ?_
  exact w_iret dL_latch_20 rfl ⟨Nat.le_refl _, Nat.le_refl _⟩ ⟨rfl, rfl, by subst hk; rfl, by unfold MLl; rw [if_neg (by omega)]⟩
theorem met_llat (hx : iR x) (hw : iR w) (hI : Inv z s y no M) (l : Lch) (D : va_G) (ar : Nat → ClassId) (φ ex : Nat → Nat) (sz : Nat) :
    Met l.val yL_latch llW (miR mLlat) (PcO E D ar φ ex T1 R0 M sz [pR 0, pI x, pI w, pR 144]) (QcO D ar φ ex Top (va_A (wsO φ ar T1 R0 M) sz) (QLl (latK (sN s) x w) (latV (mayP s) x w y.1) M)) 1 6 (va_A (wsO φ ar T1 R0 M) sz) := by
  refine met_ofWH (cc := cL_latch) (maxL := 5) (ret := some .int) (hh := hhL) (by decide +kernel) rfl ?_
  intro p e s' m args below meth c s₁ B hml hv
  obtain ⟨rfl, hsz, hP, hK, hD0, hN, hEx, hR, hRC⟩ := hv
  subst hsz
  rw [lg_entry_eq]
  have hl := lv_entry (([pR 0, pI x, pI w, pR 144] : List PV).map (toV φ ex)) (n := 5) (by rw [pvW_V]; exact Nat.le_of_ble_eq_true rfl)
  rw [← pvA_V] at hl
  have hts : ∀ w9 ∈ wgT, w9.before (([pR 0, pI x, pI w, pR 144] : List PV).map (toV φ ex)).toArray s' = true := fun w9 z9 => atoms_spec (ws := llW) B.pre w9 (List.mem_cons_of_mem _ z9)
  have hown : s'.vm.findClass "LeanLatchesLaw" = some m.cls := findClass_of_methodNamed B.named
  have hB : mB E mLlat p s' m (([pR 0, pI x, pI w, pR 144] : List PV).map (toV φ ex)).toArray meth c s'.heap [] D ar (va_A (wsO φ ar T1 R0 M) s'.heap.size) φ ex T1 R0 M := ⟨⟨B.exec, B.bytes, B.returns, hml, hts, hown, B.notSynchronized, (name_of_methodNamed B.named B.method).1⟩, ⟨hN, hEx, hK, fun q h => Or.inr h⟩, ⟨hP, hD0.self, va_S.rf⟩, hR, hRC⟩
  have htb : c.exceptionTable.toList = tableOf hhL := vx_table (x := yL_latch) B (hts _ cwL)
  refine g_aload_n (st := []) hB hl dL_latch_0 rfl ?_
  refine g_iconst (st := [pR 144]) hB dL_latch_1 ?_
  refine g_aload_n (st := [pI 0, pR 144]) hB hl dL_latch_2 rfl ?_
  refine g_iload_n (st := [pR 0, pI 0, pR 144]) hB hl dL_latch_3 rfl ?_
  refine g_iload_n (st := [pI x, pR 0, pI 0, pR 144]) hB hl dL_latch_4 rfl ?_
  intro T9 hT9 X
  obtain ⟨⟨⟨ho1, ho2⟩, ho3, ho4, ho5⟩, ⟨hi1, hi2⟩, -, Tt, N, hcl⟩ := kL_7
  have h1 : Cond.methodLink "LeanLatchesLaw" 7 (miY mXlat) ∈ wgT := wgt6 48 rfl rfl
  have hG := goodIn_wg ho1
  have hM := met_xlat (E := E) hx hw hI l D ar φ ex s'.heap.size
  have hat : (wsO φ ar T1 R0 M)[gi T1 0]? = some (φ 0, .inr (10, fldsV φ 10 (R0 0) (M 0))) := by rw [wsO_at (k := 10) (n := 0) rfl (by decide), cellE_obj (by decide)]
  have hrc := va_recv hK hP hcl hat
  have hr := vx_runV (As := ([pI x, pI w] : List PV).map (toV φ ex)) (rest := ([pI 0, pR 144] : List PV).map (toV φ ex)) (C := (miY mXlat).cls) (Ts := wgT) (b := φ 0) (H := s'.heap) (locs := []) (cells := 0) (slots := 0) (index := 7) (g := F0 m 5 ((lg_sl (([pR 0, pI x, pI w, pR 144] : List PV).map (toV φ ex)) ++ List.replicate (5 - (lg_sl (([pR 0, pI x, pI w, pR 144] : List PV).map (toV φ ex))).length) Slot.unset).toArray) (([pI w, pI x, pR 0, pI 0, pR 144] : List PV).map (toV φ ex)))
    (R := miR mLlat) (meth := meth) (below := below) (e := e) ⟨B.exec, B.bytes, hml, hown, hts⟩ hM ⟨callB_of 2 hts hG rfl rfl rfl (hts _ ho2) (hts _ h1) ho3 (room_ok (mi := mLlat) (mi2 := mXlat) (Nat.le_of_ble_eq_true rfl) (Nat.le_of_ble_eq_true rfl)), hts _ hi1, hts _ hi2⟩ ⟨PcO_blind, hrc, pc_ok (l := l) (e := e) (as := [pR 0, pI x, pI w]) hB⟩ rfl rfl hl.1 rfl (lv_room (Nat.le_of_ble_eq_true rfl)) dL_latch_5 ⟨Nat.le_of_ble_eq_true rfl, Nat.le_of_ble_eq_true rfl⟩
  rcases hr T9 hT9 X with ⟨v9, st₀, t, T', Ls, h0, X', hL, e1, e2, ⟨⟨r, T2, R2, M2, φ', hv9, hq, hφ, hP', hK', hD', hR', hRC'⟩, hz, hkp⟩, stp⟩ | ⟨q, st₀, t, T', Ls, En, ce, h0, X', hL, e1, e2, ⟨hkind, hP', hz, hkp⟩, hce, hcv, hcl9, stp⟩
  · cases hv9
    obtain ⟨rfl, rfl, eM, hk, rfl⟩ := hq
    have eφ : φ' = φ := funext fun a => hφ a trivial
    rw [eM, eφ] at hP' hD'
    rw [eM] at hR'
    rw [h0] at hz hkp
    have c1 : 0 ≤ x ∧ x < (sN s : Int) := by
      by_cases c1 : 0 ≤ x ∧ x < (sN s : Int)
      · exact c1
      · unfold latK at hk; rw [if_neg c1] at hk; exact absurd hk (by decide)
    obtain ⟨t2, a1, b1⟩ := lat_tail (E := E) (M := M) (ls := pvA 0 [pR 0, pI x, pI w, pR 144]) hk (latV_r hI c1) l p e s' m _ below meth c T'.heap ([] ++ Ls) _ D ar (va_A (wsO φ ar T1 R0 M) s'.heap.size) φ ex ⟨hB.1, hB.2.1, ⟨by rw [e1]; exact hP', hD', ⟨by rw [e1]; exact hz, fun q h1 h2 => by rw [e1]; exact hkp q h1 h2, fun q hq => by rw [List.nil_append] at hq; exact hL q hq⟩⟩, hR', hRC'⟩ hl T' rfl X'
    exact ⟨t2, stp t2 a1, b1⟩
  · rw [h0] at hz hkp
    have hB' : mB E mLlat p s' m (([pR 0, pI x, pI w, pR 144] : List PV).map (toV φ ex)).toArray meth c T'.heap ([] ++ Ls) D ar (va_A (wsO φ ar T1 R0 M) s'.heap.size) φ ex T1 R0 M := ⟨hB.1, hB.2.1, ⟨by rw [e1]; exact hP', hD0.self, ⟨by rw [e1]; exact hz, fun q h1 h2 => by rw [e1]; exact hkp q h1 h2, fun q hq => by rw [List.nil_append] at hq; exact hL q hq⟩⟩, hR, hRC⟩
    have hcell : T'.heap[q]? = some ce := by rw [e1]; exact hce
    rcases hkind with ⟨rfl, hk⟩ | ⟨rfl, hk⟩
    · obtain ⟨t2, a1, b1⟩ := vx_catch (own := "LeanLatchesLaw") (name := kIO) (E := kIO) (H := T'.heap) (locs := [] ++ Ls) (cells := 0 + 1) (slots := 0 + 6) (pc := 5) (rest := ([pI 0, pR 144] : List PV).map (toV φ ex)) (Q := MQ below (QcO D ar φ ex Top (va_A (wsO φ ar T1 R0 M) s'.heap.size) (QLl (latK (sN s) x w) (latV (mayP s) x w y.1) M)) (([pR 0, pI x, pI w, pR 144] : List PV).map (toV φ ex)).toArray s' 1 6 (va_A (wsO φ ar T1 R0 M) s'.heap.size)) hown [] ⟨0, 10, 13, 13⟩ [⟨0, 10, 17, 15⟩] htb (fun z9 h9 => absurd h9 (by simp)) (by decide) (by decide) (hts _ lkL.2.1) (va_Nw.use rfl (hN _ csL.1)) hcell hcv hcl9
        (lv_astore B.exec B.bytes (i := 4) (nL := 5) dL_latch_13 hl (by decide) rfl (fun ls' h' => lat_h1 hk l p e s' m _ below meth c T'.heap ([] ++ Ls) ls' D ar _ φ ex hB' ⟨h'.1, h'.2.1, fun q9 h9 => absurd h9 (by simp [lsV])⟩)) T' rfl X'
      exact ⟨t2, stp.trans a1, b1⟩
    · obtain ⟨t2, a1, b1⟩ := vx_catch (own := "LeanLatchesLaw") (name := kNS) (E := kNS) (H := T'.heap) (locs := [] ++ Ls) (cells := 0 + 1) (slots := 0 + 6) (pc := 5) (rest := ([pI 0, pR 144] : List PV).map (toV φ ex)) (Q := MQ below (QcO D ar φ ex Top (va_A (wsO φ ar T1 R0 M) s'.heap.size) (QLl (latK (sN s) x w) (latV (mayP s) x w y.1) M)) (([pR 0, pI x, pI w, pR 144] : List PV).map (toV φ ex)).toArray s' 1 6 (va_A (wsO φ ar T1 R0 M) s'.heap.size)) hown [⟨0, 10, 13, 13⟩] ⟨0, 10, 17, 15⟩ [] htb (fun z9 h9 => by rw [List.mem_singleton] at h9; subst h9; exact Or.inr ⟨by decide, kIO, hts _ lkL.2.1, hEx.2.2.2.2.2.2.1⟩) (by decide) (by decide) (hts _ lkL.2.2) (va_Nw.use rfl (hN _ csL.2)) hcell hcv hcl9
        (lv_astore B.exec B.bytes (i := 4) (nL := 5) dL_latch_17 hl (by decide) rfl (fun ls' h' => lat_h2 hk l p e s' m _ below meth c T'.heap ([] ++ Ls) ls' D ar _ φ ex hB' ⟨h'.1, h'.2.1, fun q9 h9 => absurd h9 (by simp [lsV])⟩)) T' rfl X'
      exact ⟨t2, stp.trans a1, b1⟩
theorem goodL : GoodIn wgT (va_wsS "LeanLatchesLaw" 39 yL_latch llW) := by
  intro w9 h9
  have hm : w9 ∈ wgT := by
    unfold va_wsS llW at h9
    simp only [List.mem_append, List.mem_cons, List.not_mem_nil, or_false] at h9
    rcases h9 with (h9 | h9 | h9) | h9 | h9
    · rw [h9]; exact lkL.1.1
    · rw [h9]; exact lkL.1.2.1
    · rw [h9]; exact lkL.1.2.2
    · rw [h9]; exact cwL
    · exact h9
  exact ⟨hm, good_of_word (List.mem_filter.mp hm).2⟩
/-- the law calls its own latch -/
theorem x_lat {Q : Post} {u v pc i : Nat} (hx : iR x) (hw : iR w) (hI : Inv z s y no M) (hd : decode (miC mLaw) pc = .ok (.invokestatic 39, 3)) (hu : u + 1 ≤ 1135 ∧ v + 6 ≤ 17040)
    (hk : MW E mLaw Sn Q T1 R0 (MLl (latK (sN s) x w) (latV (mayP s) x w y.1) M) (u + 1) (v + 6) (pc + 3) (LwS i) [pI (latK (sN s) x w : Int)]) : MW E mLaw Sn Q T1 R0 M u v pc (LwS i) [pR 144, pI w, pI x, pR 0] := by
  intro l p e s' m args below meth c H locs la D ar A φ ex B hl
  obtain ⟨⟨hx9, hb, hr, hml, hts, hown, hlocks, hnm⟩, ⟨hN, hEx, hK, hA⟩, ⟨hP, hD, hS⟩, hR, hRC⟩ := id B
  have hM := met_llat (E := E) hx hw hI l D ar φ ex H.size
  refine w_back (mi := mLaw) (st := []) (S2 := Top) (mc2 := 1) (ms2 := 6) (vx_runSW (As := ([pR 0, pI x, pI w, pR 144] : List PV).map (toV φ ex)) (rest := []) (Ts := wgT) (own := "LeanLatchesLaw") (index := 39) (hh := hhL) (bytes := cL_latch) (maxL := 5) (ret := some .int) ⟨hx9, hb, hml, hown, hts⟩ hM (vx_cwSW (Ts := wgT) 4 hts goodL rfl rfl rfl ⟨by decide, by decide, by decide +kernel⟩ (room_ok (mi := mLaw) (mi2 := mLlat) (Nat.le_of_ble_eq_true rfl) (Nat.le_of_ble_eq_true rfl))) ⟨PcO_blind, pc_ok (l := l) (e := e) (as := [pR 0, pI x, pI w, pR 144]) B⟩ rfl rfl hl.1 rfl (lv_room (Nat.le_of_ble_eq_true rfl)) hd ⟨hu.1, hu.2⟩) B hl (fun _ q => q.elim) Stb_top ?_
  rintro r T' R' M' ⟨rfl, rfl, rfl, rfl⟩
  exact hk
end LLAT
