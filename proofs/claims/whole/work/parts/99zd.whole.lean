/-! THE CLAIM OUT OF ONE WALK OF THE LAW'S BODY. Your part is whole_start (and what it stands on); all else here is the same for every law, but numbers. -/
def R_law : String := "LeanLatchesLaw"
def lw_P (b : Addr) (xs : List Int32) (args : Array Value) (s : State) : Prop := args = #[.ref b] ∧ s.IntsAt b xs ∧ xs.length ≤ 3072 ∧ (Jvm.Cond.and given_1 narrow_1).before args s = true
def lw_Q (_ : Array Value) (s : State) (o : Outcome) (t : State) : Prop := o = .returned (some (.int 1)) ∧ Framed s o t [] 1135 17040
def lw_Z (below : List Frame) (a : Array Value) (s : State) : State → Prop := fun t => ∃ o, t.status = .running ∧ Ended t below o ∧ lw_Q a s o t
/-- the law's own end, with 1 on the stack, nothing written that was there before, its room as the claim has it -/
theorem lw_ret {p : Program} {l : Launch} {e : Env} {s : State} {m : MethodId} {below : List Frame} {meth : Method} {c : Code} {b : Nat} (hx : p.tables.exec = Jvm.exec) (hb : c.code = code) (hr : meth.sig.returnType = ret) (hlocks : meth.locks = false) {pc : Nat} {H : Heap} {ls : Array Slot} (hdg : decode code pc = .ok (.ireturn, 1)) : W p l e room_1 s m #[Value.ref b] below meth c H [] 1135 17040 (lw_Z below #[Value.ref b] s) (F0 m pc ls [.int 1]) := by
  intro T hT X
  obtain ⟨fs, hret, hrun, hended, hW, hframe⟩ := X.leave (v := some (.int 1)) (hlocks := hlocks) (fun h => by rw [hr] at h; cases h)
  have hmeth' : T.vm.method? m = some meth := X.method'
  refine ⟨T.setFrames fs, ?_, .returned (some (.int 1)), hrun, hended, rfl, ⟨_, rfl⟩, hW, hframe⟩
  jvm_step X.here [X.here.top, hx, hb, hdg, hmeth', hr, ret, narrow_b1]
  (try refine ⟨rfl, ?_⟩); (try refine ⟨rfl, ?_⟩)
  first | (intro acts; rw [hret _ acts rfl rfl rfl]) | rw [hret _ _ rfl rfl rfl]
  exact Steps.refl _
/-- what holds at the law's entry: the machine, the code, the tables' words (any of lw_tbl by 'hts w (by decide +kernel)'), the script of L ints xs at the cell b, what the Statement gives of the start (any of its parts by flat_of_before) -/
def lw_At (p : Program) (s : State) (m : MethodId) (meth : Method) (c : Code) (b L : Nat) (xs : Nat → Int32) : Prop :=
  p.tables.exec = Jvm.exec ∧ c.code = code ∧ meth.sig.returnType = ret ∧ c.maxLocals = 7 ∧ s.vm.findClass R_law = some m.cls ∧ (∀ w ∈ lw_tbl, w.before #[Value.ref b] s = true) ∧ va_X b L xs s s.heap ∧ b < s.heap.size ∧ meth.locks = false ∧ (Jvm.Cond.and given_1 narrow_1).before #[Value.ref b] s = true ∧ meth.name = "law"
def tmS (i : Nat) : Term := if i = 0 then .string "LeanLatches$Tape" 18 else if i = 1 then .string "LeanLatches$Tape" 75 else if i = 2 then .string "LeanLatches" 115 else .string "LeanLatches" 135
def flG : List Cond := flatC (Jvm.Cond.and given_1 narrow_1)
theorem sm1 : ∀ i, i < 4 → Cond.exactly (tmS i) "java/lang/String" ∈ flG ∧ Cond.eq (.field (tmS i) "java/lang/String" "coder" "B") (.int 0) ∈ flG ∧ Cond.arrayOf (.field (tmS i) "java/lang/String" "value" "[B") .byte ∈ flG ∧ Cond.eq (.length (.field (tmS i) "java/lang/String" "value" "[B")) (.int (Int32.ofNat (strL.getD i 0))) ∈ flG := by decide +kernel
theorem sm2_0 : ∀ j, j < 116 → flG[41 + j]? = some (Cond.eq (.elem (.field (tmS 0) "java/lang/String" "value" "[B") (.int (Int32.ofNat j))) (.int ((strB.getD 0 []).getD j 0))) := by decide +kernel
theorem sm2_1 : ∀ j, j < 10 → flG[161 + j]? = some (Cond.eq (.elem (.field (tmS 1) "java/lang/String" "value" "[B") (.int (Int32.ofNat j))) (.int ((strB.getD 1 []).getD j 0))) := by decide +kernel
theorem sm2_2 : ∀ j, j < 13 → flG[176 + j]? = some (Cond.eq (.elem (.field (tmS 2) "java/lang/String" "value" "[B") (.int (Int32.ofNat j))) (.int ((strB.getD 2 []).getD j 0))) := by decide +kernel
theorem sm2_3 : ∀ j, j < 12 → flG[195 + j]? = some (Cond.eq (.elem (.field (tmS 3) "java/lang/String" "value" "[B") (.int (Int32.ofNat j))) (.int ((strB.getD 3 []).getD j 0))) := by decide +kernel
theorem sm2 : ∀ i, i < 4 → ∀ j, j < strL.getD i 0 → Cond.eq (.elem (.field (tmS i) "java/lang/String" "value" "[B") (.int (Int32.ofNat j))) (.int ((strB.getD i []).getD j 0)) ∈ flG := by
  intro i hi j hj
  match i, hi with
  | 0, _ => exact List.mem_of_getElem? (sm2_0 j hj)
  | 1, _ => exact List.mem_of_getElem? (sm2_1 j hj)
  | 2, _ => exact List.mem_of_getElem? (sm2_2 j hj)
  | 3, _ => exact List.mem_of_getElem? (sm2_3 j hj)
theorem sm3 : ∀ i, i < 4 → ∀ j, j < 4 → i ≠ j → Cond.not (Cond.eq (tmS i) (tmS j)) ∈ flG ∨ Cond.not (Cond.eq (tmS j) (tmS i)) ∈ flG := by decide +kernel
theorem sm4 : Cond.eq (.static "java/lang/String" "COMPACT_STRINGS" "Z") (.int 1) ∈ flG ∧ Cond.isRef (.static "jdk/internal/util/Preconditions" "SIOOBE_FORMATTER" "Ljava/util/function/BiFunction;") ∈ flG ∧ Cond.isRef (.static Bundle.tN "UNASSIGNED_STACK" Bundle.steD) ∈ flG ∧ Cond.isRef (.static Bundle.tN "SUPPRESSED_SENTINEL" Bundle.listD) ∈ flG ∧ Cond.not (.castable "java/util/NoSuchElementException" "java/lang/IndexOutOfBoundsException") ∈ flG := by decide +kernel
theorem inst_all {ci : Nat} (h : ci < 12) : ∃ q : vw_C, vwCl[ci]? = some q ∧ Cond.instantiable q.1 q.2.2 ∈ wgT := by
  match ci, h with
  | 0, _ => exact ⟨(RX0, TX0, 4), rfl, nX10_38.2.1⟩
  | 1, _ => exact ⟨(RX1, TX1, 20), rfl, nX10_18.2.1⟩
  | 2, _ => exact ⟨(RX2, TX2, 4), rfl, nX1_39.2.1⟩
  | 3, _ => exact ⟨(RX3, TX3, 6), rfl, nX10_59.2.1⟩
  | 4, _ => exact ⟨(RX4, TX4, 13), rfl, nX10_52.2.1⟩
  | 5, _ => exact ⟨(RX5, TX5, 11), rfl, nX10_9.2.1⟩
  | 6, _ => exact ⟨(RX6, TX6, 8), rfl, nX1_46.2.1⟩
  | 7, _ => exact ⟨(RX7, TX7, 7), rfl, nX10_25.2.1⟩
  | 8, _ => exact ⟨(RX8, TX8, 8), rfl, nX5_9.2.1⟩
  | 9, _ => exact ⟨(RX9, TX9, 7), rfl, nX10_45.2.1⟩
  | 10, _ => exact ⟨(RX10, TX10, 10), rfl, nL_8.2.1⟩
  | 11, _ => exact ⟨(RX11, TX11, 87), rfl, nL_18.2.1⟩
theorem vw_lt {k : Nat} {q : vw_C} (h : vwCl[k]? = some q) : k < 12 := by
  have h1 := (List.getElem?_eq_some_iff.mp h).1
  exact h1
theorem known_all {args : Array Value} {s : State} (hts : ∀ w ∈ wgT, w.before args s = true) : ∃ D : va_G, ∀ (k : Nat) (q : vw_C), vwCl[k]? = some q → u_Kn s q.1 q.2.1 q.2.2 (D.1 k) (D.2 k) := by
  have h : ∀ k : Nat, ∃ r : ClassId × (Nat → Nat), ∀ q : vw_C, vwCl[k]? = some q → u_Kn s q.1 q.2.1 q.2.2 r.1 r.2 := by
    intro k
    by_cases hk : k < 12
    · obtain ⟨q, hq, hi⟩ := inst_all hk
      obtain ⟨q2, hq2, hws, -⟩ := cls_all hk
      cases Option.some.inj (hq.symm.trans hq2)
      obtain ⟨cC, iS, hu⟩ := u_known (C := q.1) (T := q.2.1) (N := q.2.2) (n := q.2.2) hts hws (hts _ hi)
      exact ⟨(cC, iS), fun q3 h3 => by cases Option.some.inj (hq.symm.trans h3); exact hu⟩
    · exact ⟨(default, fun _ => 0), fun q h3 => absurd (vw_lt h3) hk⟩
  obtain ⟨f, hf⟩ := Classical.axiomOfChoice h
  exact ⟨(fun k => (f k).1, fun k => (f k).2), fun k q hq => hf k q hq⟩
theorem tys_all {args : Array Value} {s : State} {D : va_G} (hts : ∀ w ∈ wgT, w.before args s = true) (hN : NW s) (hD : ∀ (k : Nat) (q : vw_C), vwCl[k]? = some q → u_Kn s q.1 q.2.1 q.2.2 (D.1 k) (D.2 k)) : ∃ ar : Nat → ClassId, va_K D vwCl (tysO ar) s := by
  obtain ⟨a0, k0, p0, f0, g0, h0⟩ := Cond.arrayClass_spec (args := args) (first := s) (o := none) (s := s) (idx := []) (hts _ arr_int)
  obtain ⟨a1, k1, p1, f1, g1, h1⟩ := Cond.arrayClass_spec (args := args) (first := s) (o := none) (s := s) (idx := []) (hts _ arr_long)
  obtain ⟨a2, k2, p2, f2, g2, h2⟩ := Cond.arrayClass_spec (args := args) (first := s) (o := none) (s := s) (idx := []) (hts _ arr_boolean)
  refine ⟨fun j => if j = 0 then a0 else if j = 1 then a1 else a2, hD, fun k q hk => ?_⟩
  match k, hk with
  | 0, hk => cases hk; exact ⟨fun n z => ⟨fun k h => (by cases h), k0, g0, p0, h0⟩, f0⟩
  | 1, hk => cases hk; exact ⟨fun n z => ⟨fun k h => (by cases h), k1, g1, p1, h1⟩, f1⟩
  | 2, hk => cases hk; exact ⟨fun n z => ⟨fun k h => (by cases h), k2, g2, p2, h2⟩, f2⟩
  | k + 3, hk => exact absurd (List.getElem?_eq_some_iff.mp hk).1 (by show ¬ k + 3 < 3; omega)
theorem nw_all {args : Array Value} {s : State} (hts : ∀ w ∈ lw_tbl, w.before args s = true) : NW s := by
  intro w hw
  have hm := hts w (List.mem_filter.mp hw).1
  have hn := (List.mem_filter.mp hw).2
  cases w <;> first | exact va_Nw.of rfl hm | (simp [isNest] at hn; done) | (rename_i ty; cases ty <;> first | exact va_AO.of hm | (simp [isNest] at hn; done))
theorem ex_all {s : State} {b L : Nat} {xs : Nat → Int32} (hL : L ≤ 3072) (hts : ∀ w ∈ lw_tbl, w.before #[Value.ref b] s = true) (hX : va_X b L xs s s.heap) (hbl : b < s.heap.size) (hgv : (Jvm.Cond.and given_1 narrow_1).before #[Value.ref b] s = true) : ∃ ex : Nat → Nat, ex 0 = b ∧ ExOk ex (L, fun j => (xs j).toInt) (fun q => s.heap.size ≤ q) s s.heap := by
  have hgf : ∀ c ∈ flG, c.before #[Value.ref b] s = true := flat_of_before _ hgv
  have hA : ∀ a : Nat, a < s.heap.size → ¬ (fun q : Nat => s.heap.size ≤ q) a := fun a h => Nat.not_le.mpr h
  obtain ⟨adK, adV, hvS, hev⟩ := vk_Sof (N := 4) (tm := tmS) (len := strL) (byt := strB) (A := fun q => s.heap.size ≤ q) (args := #[Value.ref b]) (s := s) (by decide) (fun i hi => hgf _ (sm1 i hi).1) (fun i hi => hgf _ (sm1 i hi).2.1) (fun i hi => hgf _ (sm1 i hi).2.2.1) (fun i hi => hgf _ (sm1 i hi).2.2.2) (fun i hi j hj => hgf _ (sm2 i hi j hj)) (fun i j hi hj hij => (sm3 i hi j hj hij).elim (fun q => Or.inl (hgf _ q)) (fun q => Or.inr (hgf _ q))) hA
  obtain ⟨fm, hfm⟩ : ∃ fm : Nat, va_Z "jdk/internal/util/Preconditions" "SIOOBE_FORMATTER" "Ljava/util/function/BiFunction;" .null (fun q => s.heap.size ≤ q) s s.heap ∨ va_Z "jdk/internal/util/Preconditions" "SIOOBE_FORMATTER" "Ljava/util/function/BiFunction;" (.ref fm) (fun q => s.heap.size ≤ q) s s.heap := by
    rcases va_Zqof (A := fun q => s.heap.size ≤ q) (hts _ (List.mem_of_getElem? (i := 235) (by decide +kernel))) (hts _ (List.mem_of_getElem? (i := 168) (by decide +kernel))) (hgf _ sm4.2.1) hA with h | ⟨t9, h⟩
    · exact ⟨0, Or.inl h⟩
    · exact ⟨t9, Or.inr h⟩
  refine ⟨fun j => if j = 0 then b else if j < 5 then adK (j - 1) else if j < 9 then adV (j - 5) else fm, rfl, ⟨?_, by show L < 2147483648; omega, fun j => i32_rg _⟩, ⟨fun i hi => ?_, fun i j hi hj hij => ?_⟩, ⟨vk_R.of (hts _ (List.mem_of_getElem? (i := 209) (by decide +kernel))) (hev 0 (by decide)), vk_R.of (hts _ (List.mem_of_getElem? (i := 733) (by decide +kernel))) (hev 1 (by decide)), vk_R.of (hts _ (List.mem_of_getElem? (i := 1454) (by decide +kernel))) (hev 2 (by decide)), vk_R.of (hts _ (List.mem_of_getElem? (i := 1490) (by decide +kernel))) (hev 3 (by decide))⟩, va_Zof (hts _ (List.mem_of_getElem? (i := 219) (by decide +kernel))) (hts _ (List.mem_of_getElem? (i := 166) (by decide +kernel))) (va_eqt (hgf _ sm4.1)) hA, vx_Zqof (hts _ (List.mem_of_getElem? (i := 1441) (by decide +kernel))) (hts _ (List.mem_of_getElem? (i := 183) (by decide +kernel))) (hgf _ sm4.2.2.1) hA, vx_Zqof (hts _ (List.mem_of_getElem? (i := 1443) (by decide +kernel))) (hts _ (List.mem_of_getElem? (i := 183) (by decide +kernel))) (hgf _ sm4.2.2.2.1) hA, va_Nc.of (hgf _ sm4.2.2.2.2), hfm⟩
  · obtain ⟨scr, h1, h2, h3, h4, h5⟩ := hX
    refine ⟨scr, h1, h2, h3, Nat.le_of_eq h4.symm, by rw [h4], fun j hj => ?_, hA b hbl⟩
    rw [h5 j hj]
    show some (Value.int (xs j)) = some (Value.int (Int32.ofInt (xs j).toInt))
    rw [Int32.ofInt_toInt]
  · match i, hi with
    | 0, _ => exact hvS.1 0 (by decide)
    | 1, _ => exact hvS.1 1 (by decide)
    | 2, _ => exact hvS.1 2 (by decide)
    | 3, _ => exact hvS.1 3 (by decide)
  · have e1 : ∀ i, i < 4 → (fun j => if j = 0 then b else if j < 5 then adK (j - 1) else if j < 9 then adV (j - 5) else fm) (i + 1) = adK i := fun i hi => by
      show (if i + 1 = 0 then b else if i + 1 < 5 then adK (i + 1 - 1) else _) = adK i
      rw [if_neg (by omega), if_pos (by omega), Nat.add_sub_cancel]
    exact hvS.2 i j hi hj (by rw [← e1 i hi, ← e1 j hj]; exact hij)
/-- from the entry, for every script of at most 3072 ints, the law comes to its end with true -/
theorem whole_start {p : Program} {e : Env} {s : State} {m : MethodId} {below : List Frame} {meth : Method} {c : Code} (l : Launch) (hflags : l.flags = flags0) {b L : Nat} {xs : Nat → Int32} (hL : L ≤ 3072) (C0 : lw_At p s m meth c b L xs) : W p l e room_1 s m #[Value.ref b] below meth c s.heap [] 0 0 (lw_Z below #[Value.ref b] s) (entryFrame m ([Value.ref b] : List Value).toArray 7) := by
  obtain ⟨hx, hb, hr, hml, hown, hts, hX, hbl, hlocks, hgv, hnm⟩ := id C0
  have htg : ∀ w ∈ wgT, w.before #[Value.ref b] s = true := fun w hw => hts w (List.mem_filter.mp hw).1
  have hN := nw_all hts
  obtain ⟨D, hDk⟩ := known_all htg
  obtain ⟨ar, hK⟩ := tys_all htg hN hDk
  obtain ⟨ex, hex0, hEx⟩ := ex_all hL hts hX hbl hgv
  have hst : l.stackTraces = false := by
    unfold Launch.stackTraces
    rw [hflags]
    decide +kernel
  have hl := lv_entry ([.ref b]) (n := 7) (Nat.le_of_ble_eq_true rfl)
  rw [lg_entry_eq]
  have hl2 : lv_has ((lg_sl ([.ref b]) ++ List.replicate (7 - (lg_sl ([.ref b])).length) Slot.unset).toArray) 7 (lsV (fun _ => 0) ex [(0, pX 0)]) := by
    have e : lsV (fun _ => 0) ex [(0, pX 0)] = [(0, Value.ref b)] := by
      show [(0, Value.ref (ex 0))] = [(0, Value.ref b)]
      rw [hex0]
    rw [e]; exact hl
  have hB : mB (L, fun j => (xs j).toInt) mLaw p s m #[Value.ref b] meth c s.heap [] D ar (fun q => s.heap.size ≤ q) (fun _ => 0) ex (T0.take 0) (fun _ _ => none) (fun _ _ => 0) :=
    ⟨⟨hx, hb, hr, hml, htg, hown, hlocks, hnm⟩, ⟨hN, hEx, hK, fun q h => h⟩, ⟨fun k q h => absurd (List.getElem?_eq_some_iff.mp h).1 (Nat.not_lt_zero _), ⟨fun i j p q h => absurd (List.getElem?_eq_some_iff.mp h).1 (Nat.not_lt_zero _), fun k q h => absurd (List.getElem?_eq_some_iff.mp h).1 (Nat.not_lt_zero _)⟩, va_S.rf⟩, fun a t h => absurd (List.getElem?_eq_some_iff.mp h).1 (Nat.not_lt_zero _), fun a k b9 h => absurd h (by simp)⟩
  have K := law_all (E := (L, fun j => (xs j).toInt)) hL ⟨l, hst⟩ p e s m #[Value.ref b] below meth c s.heap [] _ D ar (fun q => s.heap.size ≤ q) (fun _ => 0) ex hB hl2
  intro T hT X
  have hroom : s.hasRoom e.platform (miR mLaw) = true := by
    have h := X.room
    have r1 : (miR mLaw).frames = 12 := rfl
    have r2 : (miR mLaw).locals = 540 := rfl
    have r3 : (miR mLaw).cells = 1135 := rfl
    have r4 : (miR mLaw).slots = 17040 := rfl
    have q1 : room_1.frames = 16 := rfl
    have q2 : room_1.locals = 622 := rfl
    have q3 : room_1.cells = 1135 := rfl
    have q4 : room_1.slots = 17040 := rfl
    simp only [State.hasRoom, Bool.and_eq_true, decide_eq_true_eq, r1, r2, r3, r4, q1, q2, q3, q4] at h ⊢
    obtain ⟨⟨⟨⟨h1, h2, h3, h4, h5, h6⟩, h7⟩, h8⟩, h9⟩ := h
    exact ⟨⟨⟨⟨by omega, by omega, by omega, by omega, by omega, h6⟩, h7⟩, h8⟩, h9⟩
  obtain ⟨t, a1, o, c1, c2, ⟨⟨r, T', R', M', φ', ho, hq, -⟩, -⟩, Lc, ⟨-, c5, c6⟩, c7⟩ := K T hT { X with room := hroom }
  have hr1 : r = some (pI 1) := hq
  subst hr1
  refine ⟨t, a1, o, c1, c2, ho, ⟨⟨_, ho⟩, c5, c6.weaken (fun y hy hlt => absurd hlt (Nat.not_lt.mpr (c7 y hy))) (Nat.le_refl _) (Nat.le_refl _)⟩⟩
set_option maxHeartbeats 4000000 in
theorem lw_walk (l : Launch) (hflags : l.flags = flags0) (b : Addr) (xs : List Int32) : MetFree l x (headSpec (Jvm.Cond.code x code maxLocals ret :: tables_1) room_1) (lw_P b xs) (fun _ _ _ _ _ => True) lw_Q := by
  refine MetFree.of_bodyS (code := code) (maxLocals := maxLocals) (ret := ret) (by decide) ?_ ?_
  · intro args s m h hn
    obtain ⟨meth, c, h1, h2, h3, h4, h5, h6, -, -⟩ := Cond.code_spec hn (atoms_spec (ws := Jvm.Cond.code x code maxLocals ret :: tables_1) h _ List.mem_cons_self)
    exact ⟨meth, c, h1, h2, h3, h4, h5, h6⟩
  · intro p e s m args below meth c s₁ B hml0 hP _
    obtain ⟨rfl, hx, hbd, hgv⟩ := hP
    obtain ⟨scr, harrAt, hlist, hof, hsmall⟩ := hx
    obtain ⟨hcb, hkn, -, -⟩ := State.arrayAt?_spec harrAt
    have hown : s.vm.findClass R_law = some m.cls := findClass_of_methodNamed B.named
    have hts0 : ∀ c ∈ (Jvm.Cond.code x code maxLocals ret :: tables_1), c.before #[Value.ref b] s = true := atoms_spec (ws := Jvm.Cond.code x code maxLocals ret :: tables_1) B.pre
    have hts : ∀ w ∈ lw_tbl, w.before #[Value.ref b] s = true := k2_hts_sels lw_privs (fun w hw => hts0 w (List.mem_cons_of_mem _ hw)) lw_privs_ok
    have hml : c.maxLocals = 7 := B.maxLocals_eq (hts0 _ List.mem_cons_self)
    have X₀ : Stand p l e room_1 s m #[Value.ref b] below meth c s₁ [] 0 0 := Stand.of_body B
    have hh0 : s₁.heap = s.heap := by rw [B.state]; rfl
    have hsz : scr.slots.size = xs.length := by rw [← Array.length_toList, hlist, List.length_map]
    have hval : ∀ j : Nat, j < xs.length → scr.slots[j]? = some (.int (xs.getD j 0)) := fun j hj => by
      rw [← Array.getElem?_toList, hlist]
      simp [hj]
    have hbl : b < s.heap.size := (Array.getElem?_eq_some_iff.mp hcb).1
    have hX : va_X b xs.length (fun j => xs.getD j 0) s s.heap := ⟨scr, hcb, hof, hkn, hsz, hval⟩
    have K : W p l e room_1 s m #[Value.ref b] below meth c s₁.heap [] 0 0 (lw_Z below #[Value.ref b] s) (entryFrame m ([Value.ref b] : List Value).toArray 7) := by
      rw [hh0]
      exact whole_start l hflags hbd ⟨B.exec, B.bytes, B.returns, hml, hown, hts, hX, hbl, B.notSynchronized, hgv, (name_of_methodNamed B.named B.method).1⟩
    obtain ⟨t, a1, o, b1, b2, b3⟩ := K s₁ rfl X₀
    exact ⟨t, o, a1, b1, b2, b3⟩
theorem lw_pre_spec {args : Array Value} {s : State} (h : (Jvm.Cond.and given_1 narrow_1).before args s = true) (hr : rest_1_c.before args s = true) : ∃ (b : Addr) (xs : List Int32), lw_P b xs args s := by
  have hs := flat_of_before _ h
  have hq := flat_of_before _ hr
  have hc : (Cond.count 1).before args s = true := hs _ (by decide +kernel)
  have harr : (Cond.arrayOf (.arg 0) .int).before args s = true := hs _ (by decide +kernel)
  have hle : (Cond.le (.length (.arg 0)) (.int 3072)).before args s = true := hs _ (by decide +kernel)
  have hlen : (Cond.isInt (.length (.arg 0))).before args s = true := hq _ (by decide +kernel)
  have hall : (Cond.all (.arg 0) (.isInt (.elem (.arg 0) (.index 0)))).before args s = true := hq _ (by decide +kernel)
  obtain ⟨b, xs, hb, hx⟩ := State.ints_of_pre rfl harr hlen hall
  have hsm : xs.length < 2 ^ 31 := hx.choose_spec.2.2.2
  have hev : (Term.length (.arg 0)).eval args s none [] s = some (.int xs.length.toInt32) := hx.length_eval hb
  have hv := Cond.le_ints hev (show (Term.int 3072).eval args s none [] s = some (.int 3072) from rfl)
  have hd : xs.length.toInt32 ≤ 3072 := by
    simpa [Cond.before, Cond.holds, hv] using hle
  have hN : xs.length ≤ 3072 := (Int32.ofNat_le_ofNat hsm (by decide)).mp (show Int32.ofNat xs.length ≤ Int32.ofNat 3072 from hd)
  exact ⟨b, xs, Cond.one_arg hc (show args[0]? = some (.ref b) from hb), hx, hN, h⟩
theorem lw_comes (l : Launch) (hflags : l.flags = flags0) : Comes l x (Jvm.Cond.code x code maxLocals ret :: tables_1) room_1 (fun tb e args s => Calls_1 tb e args s ∧ rest_1 tb e args s ∧ Pre_1 tb e args s)
    (fun _ _ args s o t => lw_Q args s o t) := by
  intro p e ha hc hk s m args below hf hfit hheap happ hpre
  obtain ⟨b, xs, hP⟩ := lw_pre_spec hpre.2.2 hpre.2.1
  obtain ⟨k, o, h1, h2, h3, hQ⟩ := lw_walk l hflags b xs p e ha hc hk s m args below hf ((Spec.applies_iff_loose hf).mp happ).1 hP trivial
  exact ⟨k, o, h1, h2, h3, hQ⟩
theorem lw_frame {s t : State} {o : Outcome} {args : Array Value} (h : Framed s o t [] 1135 17040) :
    Framed s o t (fieldLocs frame_1_writes args s ++ arrayLocs frame_1_arrays args s ++ staticLocs frame_1_statics s) 1135 17040 := h
theorem lw_limb (L : Cond) (hL : ∀ (args : Array Value) (s t : State), L.after args s (.returned (some (.int 1))) t = true) :
    ArmFor flags0 classFile x code maxLocals ret World_1 tables_1 room_1 Calls_1 rest_1 Pre_1
      (fun tb e a s o t => postC L tb e a s o t ∧ Framed s o t (fieldLocs frame_1_writes a s ++ arrayLocs frame_1_arrays a s ++ staticLocs frame_1_statics s) 1135 17040) := by
  intro l hflags _ _ p e ha hc hk s m args below hf hfit hheap happ hpre
  obtain ⟨k, o, h1, h2, h3, rfl, hF⟩ := lw_comes l hflags p e ha hc hk s m args below hf hfit hheap happ hpre
  exact ⟨k, _, h1, h2, h3, hL args s _, lw_frame hF⟩
theorem i_vc : Claimed_1_1 ∧ Claimed_1_2 := ⟨lw_limb limb_1_1 (fun args s t => by simp [limb_1_1, Cond.after, Cond.holds, Cond.value]), lw_limb limb_1_2 (fun args s t => Cond.after_iff.mpr (by
  first | (rw [show limb_1_2 = Cond.eq .result (.int 1) from rfl, Cond.eq_ints (x := 1) (y := 1) rfl rfl]; simp; done) | (simp [limb_1_2, Cond.value, Term.eval]; done)))⟩
