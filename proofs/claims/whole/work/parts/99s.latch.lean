/-! latch: the class's answer or throw -/
def kIO : String := "java/lang/IndexOutOfBoundsException"
def kNS : String := "java/util/NoSuchElementException"
def mXlat : Mi := (yX10_latch, cX10_latch, 3, some .int, 7, 1, 6)
def latK (n : Nat) (x w : Int) : Nat := if 0 ≤ x ∧ x < (n : Int) then (if 0 ≤ w ∧ w ≤ 3 then 0 else 2) else 1
def latV (may : Nat → Nat) (x w : Int) (d : DS) : Int := if w = 0 then bAnd (bShr (dRo d : Int) x) 1 else if w = 1 then bAnd (bShr (dSe d : Int) x) 1 else if w = 2 then bAnd (bShr ((andN (may (dRo d)) (dSe d) : Nat) : Int) x) 1 else dWo d x.toNat
theorem ov_self (M : Mem) : ov M M = M := by
  funext a
  by_cases h : a = 144
  · subst h; rfl
  · exact ov_ne _ _ h
theorem wsE {ws : List Cond} (ps : List Nat) (hp : ws = ps.filterMap (fun i => lw_tbl[i]?)) (h : ws.all (fun w => goodWord w || isNest w) = true) : ∀ w ∈ ws, w ∈ wgT ∨ w ∈ nsT := by
  intro w hw
  have h1 := List.all_eq_true.mp h w hw
  rw [hp] at hw
  obtain ⟨i, -, hi⟩ := List.mem_filterMap.mp hw
  have hm := List.mem_of_getElem? hi
  cases g : goodWord w with
  | true => exact Or.inl (wgT_in hm g)
  | false =>
    rw [g, Bool.false_or] at h1
    exact Or.inr (List.mem_filter.mpr ⟨hm, h1⟩)
theorem bfE {ws : List Cond} {args : Array Value} {s : State} (hm : ∀ w ∈ ws, w ∈ wgT ∨ w ∈ nsT) (ho : ws.all vx_ot = true) (hts : ∀ w ∈ wgT, w.before args s = true) (hN : NW s) : ∀ w ∈ ws, w.before args s = true := by
  intro w hw
  have h1 := List.all_eq_true.mp ho w hw
  rcases hm w hw with h | h
  · exact hts w h
  · unfold vx_ot at h1
    cases g : w.onTables with
    | true => exact va_Nw.use g (hN w h)
    | false =>
      rw [g, Bool.false_or] at h1
      exact hts w (List.mem_filter.mpr ⟨(List.mem_filter.mp h).1, h1⟩)
def wIO : List Cond := vx_atS "LeanLatches" 117 kIO ["java/lang/RuntimeException", "java/lang/Exception"]
def sixN : ByteArray := ⟨#[0x2a, 0x2b, 0xb7, 0x00, 0x0d, 0xb1]⟩
def wNS : List Cond := (nx_own "LeanLatches" 137 kNS 13 sixN "java/lang/RuntimeException" ["java/lang/Exception"]).filter vx_no
theorem wIO_in : ∀ w ∈ wIO, w ∈ wgT ∨ w ∈ nsT := wsE [183, 1436, 1445, 1448, 1451, 1453, 1437, 1438, 195, 196, 1439, 1444, 1449, 1469, 1426, 1470, 1428, 1471, 1430, 1440, 1442, 1432, 1465, 1466, 1468, 1432, 1456, 1457, 1458, 1459, 1418, 1459, 1460, 1461, 1462, 1420, 1462, 1463, 1464, 1465, 1422, 1455, 1415, 1416, 1423, 1424, 1425, 1427, 1429, 1431, 1435, 1434, 1433] (by decide +kernel) (by decide +kernel)
theorem wNS_in : ∀ w ∈ wNS, w ∈ wgT ∨ w ∈ nsT := wsE [183, 1436, 1445, 1448, 1451, 1453, 1437, 1438, 195, 196, 1439, 1444, 1449, 1469, 1426, 1470, 1428, 1471, 1430, 1440, 1442, 1432, 1465, 1466, 1468, 1432, 1492, 1493, 1494, 1459, 1418, 1459, 1460, 1461, 1462, 1420, 1462, 1463, 1464, 1465, 1422, 1491, 1482, 1483, 1484, 1447, 1485, 1486, 1487, 1488, 1435, 1434, 1489] (by decide +kernel) (by decide +kernel)
theorem wIO_ot : wIO.all vx_ot = true := by decide +kernel
theorem wNS_ot : wNS.all vx_ot = true := by decide +kernel
theorem clIO : Cond.classLink "LeanLatches" 113 kIO ∈ wgT ∧ Cond.initialized kIO ∈ wgT := ⟨wg 1414 (by decide +kernel) rfl, wg 186 (by decide +kernel) rfl⟩
theorem clNS : Cond.classLink "LeanLatches" 133 kNS ∈ wgT ∧ Cond.initialized kNS ∈ wgT := ⟨wg 1481 (by decide +kernel) rfl, wg 187 (by decide +kernel) rfl⟩
section GEN
variable {E : Scr} {mi mi2 : Mi} {l : Lch} {p : Program} {e : Env} {s : State} {m : MethodId} {args : Array Value} {below : List Frame} {meth : Method} {c : Code} {H : Heap} {locs : List Loc} {la : Array Slot} {D : va_G} {ar : Nat → ClassId} {A : Nat → Prop} {φ ex : Nat → Nat} {T : Shp} {R : Rfs} {M : Mem} {u v pc : Nat} {Z : State → Prop} {ls : List (Nat × PV)} {st : List PV}
theorem g_aload_n {k : Fin 4} {x : Nat} (B : mB E mi p s m args meth c H locs D ar A φ ex T R M) (hl : lv_has la (miL mi) (lsV φ ex ls)) (hd : decode (miC mi) pc = .ok (.aload_n k, 1)) (hg : lget ls k = some (pR x))
    (h : W p l.val e (miR mi) s m args below meth c H locs u v Z (F0 m (pc + 1) la ((pR x :: st).map (toV φ ex)))) : W p l.val e (miR mi) s m args below meth c H locs u v Z (F0 m pc la (st.map (toV φ ex))) :=
  lv_aload_n B.1.1 B.1.2.1 hd rfl (lget_at hl hg) h
theorem g_iload_n {k : Fin 4} {x : Int} (B : mB E mi p s m args meth c H locs D ar A φ ex T R M) (hl : lv_has la (miL mi) (lsV φ ex ls)) (hd : decode (miC mi) pc = .ok (.iload_n k, 1)) (hg : lget ls k = some (pI x))
    (h : W p l.val e (miR mi) s m args below meth c H locs u v Z (F0 m (pc + 1) la ((pI x :: st).map (toV φ ex)))) : W p l.val e (miR mi) s m args below meth c H locs u v Z (F0 m pc la (st.map (toV φ ex))) :=
  lv_iload_n B.1.1 B.1.2.1 hd rfl (lget_at hl hg) h
theorem g_iconst {n : Int} (B : mB E mi p s m args meth c H locs D ar A φ ex T R M) (hd : decode (miC mi) pc = .ok (.iconst n, 1))
    (h : W p l.val e (miR mi) s m args below meth c H locs u v Z (F0 m (pc + 1) la ((pI n :: st).map (toV φ ex)))) : W p l.val e (miR mi) s m args below meth c H locs u v Z (F0 m pc la (st.map (toV φ ex))) :=
  lv_iconst B.1.1 B.1.2.1 hd rfl h
theorem g_getR {idx ci k a n b : Nat} (B : mB E mi p s m args meth c H locs D ar A φ ex T R M) (hd : decode (miC mi) pc = .ok (.getfield idx, 3)) (hf : FL (miY mi).cls idx ci k) (hT : T[a]? = some (ci, n)) (hk3 : fK ci k = 3) (hb : R a k = some b)
    (h : W p l.val e (miR mi) s m args below meth c H locs u v Z (F0 m (pc + 3) la ((pR b :: st).map (toV φ ex)))) : W p l.val e (miR mi) s m args below meth c H locs u v Z (F0 m pc la ((pR a :: st).map (toV φ ex))) := by
  obtain ⟨⟨hx, hb9, hr, hml, hts, hown, hlocks, hnm⟩, ⟨hN, hEx, hK, hA⟩, ⟨hP, hD, hS⟩, hR, hRC⟩ := id B
  obtain ⟨⟨hci, hk⟩, hlk⟩ := hf
  obtain ⟨q, hq, hws, hnf, hty, hne⟩ := cls_all hci
  have hw : (wsO φ ar T R M)[gi T a]? = some (φ a, .inr (ci, fldsV φ ci (R a) (M a))) := by rw [wsO_at hT (by omega), cellE_obj (by omega)]
  have hxv : toV φ ex (pR b) = fldV φ ci k (R a k) (M a k) := by unfold fldV; rw [hk3, hb]; rfl
  rw [List.map_cons, hxv] at h
  rcases hlk with h1 | ⟨host, h1⟩
  · unfold fLk at h1
    rw [hq] at h1
    exact va_get (D := D) (ci := ci) (C := q.1) (T := q.2.1) (N := q.2.2) hx hb9 (Ts := wgT) hts hws hown hK hP (gi T a) hw hq k (by omega) (hts _ h1) (fun _ z => z) (fldsV_at hk) hd h
  · unfold fLn at h1
    rw [hq] at h1
    exact va_getN (D := D) (ci := ci) (C := q.1) (T := q.2.1) (N := q.2.2) hx hb9 (Ts := wgT) hts hws hown hK hP (gi T a) hw hq k (by omega) (va_Nw.use rfl (hN _ h1)) (fun _ z => z) (fldsV_at hk) hd h
theorem g_call {idx ci n a k : Nat} {as : List PV} {q : Option PV → Mem → Prop} (B : mB E mi p s m args meth c H locs D ar A φ ex T1 R0 M) (hl : lv_has la (miL mi) (lsV φ ex ls)) (hd : decode (miC mi) pc = .ok (.invokevirtual idx, 3)) (hcs : CsV (miY mi).cls idx mi2 ci n) (hrm : Rm mi mi2 u v st) (hm0 : miMc mi2 = 0 ∧ miMs mi2 = 0) (hT : T0[a]? = some (ci, k)) (hci : ci < 12) (hn : as.length = n) (hlen : pvW (pR a :: as) ≤ miL mi2)
    (hq : ∀ r M, q r M → ∀ φ φ' ex : Nat → Nat, r.map (toV φ ex) = r.map (toV φ' ex)) (h : MW E mi2 Top (QL q) T0 R0 M 0 0 0 (pvA 0 (pR a :: as)) [])
    (hk : ∀ r M2, q r M2 → ∀ H1 locs1, mB E mi p s m args meth c H1 locs1 D ar A φ ex T1 R0 (ov M M2) → W p l.val e (miR mi) s m args below meth c H1 locs1 u v Z (F0 m (pc + 3) la ((r.toList ++ st).map (toV φ ex)))) :
    W p l.val e (miR mi) s m args below meth c H locs u v Z (F0 m pc la ((as.reverse ++ pR a :: st).map (toV φ ex))) := by
  obtain ⟨⟨hx, hb, hr, hml, hts, hown, hlocks, hnm⟩, ⟨hN, hEx, hK, hA⟩, ⟨hP, hD, hS⟩, hR, hRC⟩ := id B
  obtain ⟨⟨⟨ho1, ho2⟩, ho3, ho4, ho5⟩, ⟨hi1, hi2⟩, hlk, Tt, N, hcl⟩ := hcs
  have hG := goodIn_wg ho1
  have hM := metX hq h ho4 hlen l D ar φ ex H.size
  have hw : ∀ {w : Cond}, w ∈ wgT → w.before args s = true := fun z => hts _ z
  have hT2 : T1[a]? = some (ci, k) := by unfold T1; rw [List.getElem?_append_left (List.getElem?_eq_some_iff.mp hT).1]; exact hT
  have hat : (wsO φ ar T1 R0 M)[gi T1 a]? = some (φ a, .inr (ci, fldsV φ ci (R0 a) (M a))) := by rw [wsO_at hT2 (by omega), cellE_obj (by omega)]
  have hrc := va_recv hK hP hcl hat
  have hstk : (as.reverse ++ pR a :: st).map (toV φ ex) = (as.map (toV φ ex)).reverse ++ .ref (φ a) :: st.map (toV φ ex) := by
    rw [List.map_append, List.map_reverse]; rfl
  have hW8 : 2 * (F0 m pc la ((as.reverse ++ pR a :: st).map (toV φ ex))).monitorRoom + ((st.map (toV φ ex)).map fun w => w.category).sum ≤ 8 := lv_room (by rw [pvW_C]; exact hrm.2)
  have hF : ∀ q, va_A (wsO φ ar T1 R0 M) H.size q → A q := by
    intro q h
    rcases h with ⟨k, e9, h⟩ | h
    · exact hD.2 k (q, e9) h
    · exact hA q (Nat.le_trans hS.1 h)
  have fin : ∀ {a9 : Array Value}, va_Run p l.val e (miR mi) s m args below meth c H locs u v (miMc mi2) (miMs mi2) (F0 m pc la ((as.reverse ++ pR a :: st).map (toV φ ex))) (st.map (toV φ ex)) (QcO D ar φ ex (fun a => Top a ∨ a = 144) (va_A (wsO φ ar T1 R0 M) H.size) (QX q M) a9) (va_A (wsO φ ar T1 R0 M) H.size) → W p l.val e (miR mi) s m args below meth c H locs u v Z (F0 m pc la ((as.reverse ++ pR a :: st).map (toV φ ex))) := by
    intro a9 hrun Z9 hZ X
    obtain ⟨v9, st₀, t, T9, L, h0, X', hL, e1, e2, ⟨⟨r, T', R', M', φ', hv, hq9, hφ, hP', -, hD', hR', hRC'⟩, hz, hkp⟩, stp⟩ := hrun Z9 hZ X
    cases hv
    obtain ⟨rfl, rfl, M2, hq2, rfl⟩ := hq9
    have eφ : φ' = φ := funext fun a => hφ a (Or.inl trivial)
    subst eφ
    rw [h0] at hz hkp
    have hS' : va_S A s.heap T9.heap (locs ++ L) := ⟨Nat.le_trans hS.1 (by rw [e1]; exact hz), fun q h1 h2 => by rw [e1, hkp q (Nat.lt_of_lt_of_le h1 hS.1) (fun z => h2 (hF q z))]; exact hS.2.1 q h1 h2, fun q hq => by
      rcases List.mem_append.mp hq with h | h
      · exact hS.2.2 q h
      · exact hF _ (hL q h)⟩
    rw [hm0.1, hm0.2] at X'
    obtain ⟨t2, a1, b1⟩ := hk r M2 hq2 T9.heap (locs ++ L) ⟨⟨hx, hb, hr, hml, hts, hown, hlocks, hnm⟩, ⟨hN, hEx, hK, hA⟩, ⟨by rw [e1]; exact hP', hD'.weaken (fun k q _ z => hF q.1 z), hS'⟩, hR', hRC'⟩ T9 rfl X'
    refine ⟨t2, stp t2 ?_, b1⟩
    rw [List.map_append] at a1
    have e5 : r.toList.map (toV φ' ex) = (r.map (toV φ' ex)).toList := by cases r <;> rfl
    rw [e5] at a1
    exact a1
  rcases hlk with h1 | ⟨host, h1⟩
  · exact fin (va_runV (As := as.map (toV φ ex)) (rest := st.map (toV φ ex)) (C := (miY mi2).cls) (Ts := wgT) ⟨hx, hb, hml, hown, hts⟩ hM ⟨callB_of n hts hG rfl rfl rfl (hw ho2) (hw h1) ho3 (room_ok ho5 hrm.1.1), hw hi1, hw hi2⟩ ⟨PcO_blind, hrc, pc_ok (l := l) (e := e) (as := pR a :: as) B⟩ rfl (by rw [List.length_map]; exact hn) hl.1 hstk hW8 hd ⟨hrm.1.2.1, hrm.1.2.2⟩)
  · exact fin (va_runVN (As := as.map (toV φ ex)) (rest := st.map (toV φ ex)) (C := (miY mi2).cls) (Ts := wgT) ⟨hx, hb, hml, hown, hts⟩ hM ⟨va_cnB n hts hG rfl rfl rfl (hN _ h1) (hw ho2) ho3 (room_ok ho5 hrm.1.1), hw hi1, hw hi2⟩ ⟨PcO_blind, hrc, pc_ok (l := l) (e := e) (as := pR a :: as) B⟩ rfl (by rw [List.length_map]; exact hn) hl.1 hstk hW8 hd ⟨hrm.1.2.1, hrm.1.2.2⟩)
end GEN
section XLAT
variable {E : Scr} {z : ZT} {s : PSt} {y : YS} {no : NS} {M : Mem} {x w : Int}
def QLat (k : Nat) (v : Int) (M : Mem) : Post := fun r T R M' => T = T1 ∧ R = R0 ∧ M' = M ∧ k = 0 ∧ r = some (pI v)
theorem hasC (hx : iR x) (hI : Inv z s y no M) : CI E mX1_has [pR 21, pI x] M (fun r M2 => M2 = M ∧ ((0 ≤ x ∧ x < (sN s : Int)) → r = 1) ∧ (¬ (0 ≤ x ∧ x < (sN s : Int)) → r = 0)) := by
  obtain ⟨L, h9⟩ := hI.1.2.1
  exact c_has (Or.inr rfl) hx hI.hCD.1 h9.2.1.1 (fun l h1 h2 => ⟨rfl, fun _ => rfl, fun q => absurd ⟨by omega, by omega⟩ q⟩) (fun q => ⟨rfl, fun q2 => absurd q2 q, fun _ => rfl⟩)
theorem latch_ret (hx : iR x) (hw : iR w) (hI : Inv z s y no M) (c1 : 0 ≤ x ∧ x < (sN s : Int)) (c2 : 0 ≤ w ∧ w ≤ 3) : MW E mXlat Top (QLat (latK (sN s) x w) (latV (mayP s) x w y.1) M) T1 R0 M 0 0 0 [(0, pR 0), (1, pI x), (2, pI w)] [] := by
  obtain ⟨L, h9⟩ := hI.1.2.1
  have hk : latK (sN s) x w = 0 := by unfold latK; rw [if_pos c1, if_pos c2]
  have hn : sN s ≤ 8 := h9.2.1.1
  have hd := hI.1.hw.1.1
  have hpw : 2 ^ sN s ≤ 256 := pw8' hn
  obtain ⟨v0, v1, v2, v3, v4, v5, v6⟩ := hI.hYC.1
  refine w_aload_n dX10_latch_0 rfl ?_
  refine w_getR dX10_latch_1 fX10_21 rfl rfl rfl ?_
  refine w_iload_n dX10_latch_4 rfl ?_
  refine x_call (as := [pI x]) (q := qI _) (S2 := Top) dX10_latch_5 kX10_110 ⟨⟨Nat.le_of_ble_eq_true rfl, Nat.le_of_ble_eq_true rfl, Nat.le_of_ble_eq_true rfl⟩, Nat.le_of_ble_eq_true rfl⟩ ⟨rfl, rfl⟩ rfl (by decide) rfl (Nat.le_of_ble_eq_true rfl) qI_ok (fun _ _ => Or.inl trivial) stbT (hasC hx hI) ?_
  rintro r1 M2 ⟨r, rfl, e2, hr, -⟩
  have hr1 := hr c1
  subst hr1
  rw [e2, ov_self]
  refine w_if_ne dX10_latch_8 rfl ⟨by decide, by decide⟩ (fun _ => ?_) (fun q => absurd q (by decide))
  refine w_iload_n dX10_latch_21 rfl ?_
  refine w_tsw (tgs := [52, 64, 76, 102]) (td := 111) dX10_latch_22 hw rfl (by decide) rfl ?_ (fun q => absurd q (by omega))
  intro j hj hxj
  match j, hj, hxj with
  | 0, _, hj0 =>
    have e0 : w = 0 := by omega
    refine w_aload_n dX10_latch_52 rfl ?_
    refine w_getR dX10_latch_53 fX10_28 rfl rfl rfl ?_
    refine w_getI dX10_latch_56 fX10_120 rfl rfl v1 (fun _ => ?_)
    refine w_iload_n dX10_latch_59 rfl ?_
    refine w_ishr dX10_latch_60 ?_
    refine w_iconst dX10_latch_61 ?_
    refine w_iand dX10_latch_62 ?_
    exact w_iret dX10_latch_63 rfl ⟨Nat.zero_le _, Nat.zero_le _⟩ ⟨rfl, rfl, rfl, hk, by unfold latV; rw [if_pos e0]⟩
  | 1, _, hj0 =>
    have e0 : w = 1 := by omega
    refine w_aload_n dX10_latch_64 rfl ?_
    refine w_getR dX10_latch_65 fX10_28 rfl rfl rfl ?_
    refine w_getI dX10_latch_68 fX10_123 rfl rfl v2 (fun _ => ?_)
    refine w_iload_n dX10_latch_71 rfl ?_
    refine w_ishr dX10_latch_72 ?_
    refine w_iconst dX10_latch_73 ?_
    refine w_iand dX10_latch_74 ?_
    exact w_iret dX10_latch_75 rfl ⟨Nat.zero_le _, Nat.zero_le _⟩ ⟨rfl, rfl, rfl, hk, by unfold latV; rw [if_neg (by omega), if_pos e0]⟩
  | 2, _, hj0 =>
    have e0 : w = 2 := by omega
    refine w_aload_n dX10_latch_76 rfl ?_
    refine w_getR dX10_latch_77 fX10_21 rfl rfl rfl ?_
    refine w_aload_n dX10_latch_80 rfl ?_
    refine w_getR dX10_latch_81 fX10_28 rfl rfl rfl ?_
    refine w_getI dX10_latch_84 fX10_120 rfl rfl v1 (fun _ => ?_)
    refine w_aload_n dX10_latch_87 rfl ?_
    refine w_getR dX10_latch_88 fX10_28 rfl rfl rfl ?_
    refine w_getI dX10_latch_91 fX10_123 rfl rfl v2 (fun _ => ?_)
    refine x_call (as := [pI (dRo y.1 : Int), pI (dSe y.1 : Int)]) (q := qI _) (S2 := Top) dX10_latch_94 kX10_126 ⟨⟨Nat.le_of_ble_eq_true rfl, Nat.le_of_ble_eq_true rfl, Nat.le_of_ble_eq_true rfl⟩, Nat.le_of_ble_eq_true rfl⟩ ⟨rfl, rfl⟩ rfl (by decide) rfl (Nat.le_of_ble_eq_true rfl) qI_ok (fun _ _ => Or.inl trivial) stbT (c_movable (f := fun r M2 => M2 = M ∧ r = ((andN (mayP s (dRo y.1)) (dSe y.1) : Nat) : Int)) hI.hCD hd.1 (by have := hd.2.1; omega) ⟨rfl, rfl⟩) ?_
    rintro r2 M3 ⟨r, rfl, e3, rfl⟩
    rw [e3, ov_self]
    refine w_iload_n dX10_latch_97 rfl ?_
    refine w_ishr dX10_latch_98 ?_
    refine w_iconst dX10_latch_99 ?_
    refine w_iand dX10_latch_100 ?_
    exact w_iret dX10_latch_101 rfl ⟨Nat.zero_le _, Nat.zero_le _⟩ ⟨rfl, rfl, rfl, hk, by unfold latV; rw [if_neg (by omega), if_neg (by omega), if_pos e0]⟩
  | 3, _, hj0 =>
    have e0 : w = 3 := by omega
    refine w_aload_n dX10_latch_102 rfl ?_
    refine w_getR dX10_latch_103 fX10_28 rfl rfl rfl ?_
    refine w_iload_n dX10_latch_106 rfl ?_
    refine x_call (as := [pI x]) (q := qI _) (S2 := Top) dX10_latch_107 kX10_130 ⟨⟨Nat.le_of_ble_eq_true rfl, Nat.le_of_ble_eq_true rfl, Nat.le_of_ble_eq_true rfl⟩, Nat.le_of_ble_eq_true rfl⟩ ⟨rfl, rfl⟩ rfl (by decide) rfl (Nat.le_of_ble_eq_true rfl) qI_ok (fun _ _ => Or.inl trivial) stbT (c_wornOf (f := fun r M2 => M2 = M ∧ r = dWo y.1 x.toNat) isSt_36 hx hI.hYC.1 (by rw [if_pos ⟨by omega, by omega⟩]; exact ⟨rfl, rfl⟩)) ?_
    rintro r2 M3 ⟨r, rfl, e3, rfl⟩
    rw [e3, ov_self]
    exact w_iret dX10_latch_110 rfl ⟨Nat.zero_le _, Nat.zero_le _⟩ ⟨rfl, rfl, rfl, hk, by unfold latV; rw [if_neg (by omega), if_neg (by omega), if_neg (by omega)]⟩
  | j + 4, h, _ => exact absurd h (by simp)
def XLt (D : va_G) (ar : Nat → ClassId) (φ : Nat → Nat) (M : Mem) (k : Nat) (A : Nat → Prop) : String → State → State → Prop := fun En st t => ((En = kIO ∧ k = 1) ∨ (En = kNS ∧ k = 2)) ∧ va_P D vwCl (wsO φ ar T1 R0 M) t.heap ∧ va_F A st t
theorem met_xlat (hx : iR x) (hw : iR w) (hI : Inv z s y no M) (l : Lch) (D : va_G) (ar : Nat → ClassId) (φ ex : Nat → Nat) (sz : Nat) :
    vx_Met l.val yX10_latch (miW mXlat) (miR mXlat) (PcO E D ar φ ex T1 R0 M sz [pR 0, pI x, pI w]) (QcO D ar φ ex Top (va_A (wsO φ ar T1 R0 M) sz) (QLat (latK (sN s) x w) (latV (mayP s) x w y.1) M)) (XLt D ar φ M (latK (sN s) x w) (va_A (wsO φ ar T1 R0 M) sz)) 1 6 (va_A (wsO φ ar T1 R0 M) sz) := by
  refine vx_ofW (cc := cX10_latch) (maxL := 3) (ret := some .int) (by decide +kernel) rfl ?_
  intro p e s' m args below meth c s₁ B hml hnoT hv
  obtain ⟨rfl, hsz, hP, hK, hD0, hN, hEx, hR, hRC⟩ := hv
  subst hsz
  rw [lg_entry_eq]
  have hl := lv_entry (([pR 0, pI x, pI w] : List PV).map (toV φ ex)) (n := 3) (by rw [pvW_V]; exact Nat.le_of_ble_eq_true rfl)
  rw [← pvA_V] at hl
  have hts : ∀ w9 ∈ wgT, w9.before (([pR 0, pI x, pI w] : List PV).map (toV φ ex)).toArray s' = true := fun w9 z => atoms_spec (ws := miW mXlat) B.pre w9 (List.mem_cons_of_mem _ z)
  have hown : s'.vm.findClass "LeanLatches" = some m.cls := findClass_of_methodNamed B.named
  have hB : mB E mXlat p s' m (([pR 0, pI x, pI w] : List PV).map (toV φ ex)).toArray meth c s'.heap [] D ar (va_A (wsO φ ar T1 R0 M) s'.heap.size) φ ex T1 R0 M := ⟨⟨B.exec, B.bytes, B.returns, hml, hts, hown, B.notSynchronized, (name_of_methodNamed B.named B.method).1⟩, ⟨hN, hEx, hK, fun q h => Or.inr h⟩, ⟨hP, hD0.self, va_S.rf⟩, hR, hRC⟩
  by_cases c1 : 0 ≤ x ∧ x < (sN s : Int)
  · by_cases c2 : 0 ≤ w ∧ w ≤ 3
    · exact vx_ret (latch_ret hx hw hI c1 c2 l p e s' m _ below meth c s'.heap [] _ D ar _ φ ex hB hl)
    · have hk : latK (sN s) x w = 2 := by unfold latK; rw [if_pos c1, if_neg c2]
      refine g_aload_n (st := []) hB hl dX10_latch_0 rfl ?_
      refine g_getR hB dX10_latch_1 fX10_21 rfl rfl rfl ?_
      refine g_iload_n hB hl dX10_latch_4 rfl ?_
      refine g_call (as := [pI x]) (st := []) (q := qI _) hB hl dX10_latch_5 kX10_110 ⟨⟨Nat.le_of_ble_eq_true rfl, Nat.le_of_ble_eq_true rfl, Nat.le_of_ble_eq_true rfl⟩, Nat.le_of_ble_eq_true rfl⟩ ⟨rfl, rfl⟩ rfl (by decide) rfl (Nat.le_of_ble_eq_true rfl) qI_ok (hasC hx hI) ?_
      rintro r1 M2 ⟨r, rfl, e2, hr, -⟩ H1 locs1 hB1
      have hr1 := hr c1
      subst hr1
      rw [e2, ov_self] at hB1
      refine lv_if_ne hB1.1.1 hB1.1.2.1 dX10_latch_8 (tgt := 21) rfl (fun _ => ?_) (fun q => absurd q (by decide))
      refine g_iload_n (st := []) hB1 hl dX10_latch_21 rfl ?_
      refine lv_tableOut hB1.1.1 hB1.1.2.1 dX10_latch_22 (tgt := 111) (by rw [i32_toInt hw]; omega) rfl ?_
      have hS1 := hB1.2.2.1.2.2
      refine nx_throw (own := "LeanLatches") (cls := kNS) (Y := "java/lang/RuntimeException") (r := ["java/lang/Exception"]) (ik := 133) (is := 135) (ic := 137) (ix := 13) (rx := sixN) (sa := ex 4) (A := va_A (wsO φ ar T1 R0 M) s'.heap.size) hB1.1.1 hB1.1.2.1 l.2 (by decide +kernel) (by decide +kernel) (by decide +kernel) (by decide +kernel) hown (by decide +kernel) (by decide +kernel) (fun n hn => by rw [List.mem_singleton] at hn; subst hn; decide +kernel) (hts _ clNS.1) (hts _ clNS.2) hEx.2.2.1.2.2.2 (bfE wNS_in wNS_ot hts hN) ?_ hEx.2.2.2.2.1 hEx.2.2.2.2.2.1 hS1 ?_ dX10_latch_111 dX10_latch_114 dX10_latch_115 dX10_latch_117 dX10_latch_120 (fun q hq => (hnoT q hq).elim) (Nat.le_of_ble_eq_true rfl) (Nat.le_of_ble_eq_true rfl) (Nat.le_of_ble_eq_true rfl) (Nat.le_of_ble_eq_true rfl) B.notSynchronized ?_ (fun q hq => hS1.2.2 q hq) (Nat.le_refl _) (Nat.le_refl _)
      · intro w9 h9
        rcases List.mem_cons.mp h9 with rfl | h9
        · rfl
        · rcases List.mem_cons.mp h9 with rfl | h9
          · rfl
          · exact List.all_eq_true.mp wNS_ot w9 h9
      · rw [hl.1]; exact hml.symm
      · intro t _ t1 t2
        exact ⟨Or.inr ⟨rfl, hk⟩, fun k q hq => (hB1.2.2.1.1 k q hq).kept (t2 q.1 (hB1.2.2.1.1 k q hq).lt), Nat.le_trans hS1.1 t1, fun q q1 q2 => by rw [t2 q (Nat.lt_of_lt_of_le q1 hS1.1)]; exact hS1.2.1 q q1 q2⟩
  · have hk : latK (sN s) x w = 1 := by unfold latK; rw [if_neg c1]
    refine g_aload_n (st := []) hB hl dX10_latch_0 rfl ?_
    refine g_getR hB dX10_latch_1 fX10_21 rfl rfl rfl ?_
    refine g_iload_n hB hl dX10_latch_4 rfl ?_
    refine g_call (as := [pI x]) (st := []) (q := qI _) hB hl dX10_latch_5 kX10_110 ⟨⟨Nat.le_of_ble_eq_true rfl, Nat.le_of_ble_eq_true rfl, Nat.le_of_ble_eq_true rfl⟩, Nat.le_of_ble_eq_true rfl⟩ ⟨rfl, rfl⟩ rfl (by decide) rfl (Nat.le_of_ble_eq_true rfl) qI_ok (hasC hx hI) ?_
    rintro r1 M2 ⟨r, rfl, e2, -, hr⟩ H1 locs1 hB1
    have hr1 := hr c1
    subst hr1
    rw [e2, ov_self] at hB1
    refine lv_if_ne hB1.1.1 hB1.1.2.1 dX10_latch_8 (tgt := 21) rfl (fun q => absurd rfl q) (fun _ => ?_)
    have hS1 := hB1.2.2.1.2.2
    refine vx_throwS (own := "LeanLatches") (cls := kIO) (names := ["java/lang/RuntimeException", "java/lang/Exception"]) (ik := 113) (is := 115) (ic := 117) (sa := ex 3) (A := va_A (wsO φ ar T1 R0 M) s'.heap.size) hB1.1.1 hB1.1.2.1 l.2 hown (by decide +kernel) (fun n hn => ?_) (hts _ clIO.1) (hts _ clIO.2) hEx.2.2.1.2.2.1 (bfE wIO_in wIO_ot hts hN) ?_ hEx.2.2.2.2.1 hEx.2.2.2.2.2.1 hS1 ?_ dX10_latch_11 dX10_latch_14 dX10_latch_15 dX10_latch_17 dX10_latch_20 (fun q hq => (hnoT q hq).elim) (Nat.le_of_ble_eq_true rfl) (Nat.le_of_ble_eq_true rfl) (Nat.le_of_ble_eq_true rfl) (Nat.le_of_ble_eq_true rfl) B.notSynchronized ?_ (fun q hq => hS1.2.2 q hq) (Nat.le_refl _) (Nat.le_refl _)
    · rcases List.mem_cons.mp hn with rfl | hn
      · decide +kernel
      · rw [List.mem_singleton] at hn; subst hn; decide +kernel
    · intro w9 h9
      rcases List.mem_cons.mp h9 with rfl | h9
      · rfl
      · rcases List.mem_cons.mp h9 with rfl | h9
        · rfl
        · exact List.all_eq_true.mp wIO_ot w9 h9
    · rw [hl.1]; exact hml.symm
    · intro t _ t1 t2
      exact ⟨Or.inl ⟨rfl, hk⟩, fun k q hq => (hB1.2.2.1.1 k q hq).kept (t2 q.1 (hB1.2.2.1.1 k q hq).lt), Nat.le_trans hS1.1 t1, fun q q1 q2 => by rw [t2 q (Nat.lt_of_lt_of_le q1 hS1.1)]; exact hS1.2.1 q q1 q2⟩
end XLAT
