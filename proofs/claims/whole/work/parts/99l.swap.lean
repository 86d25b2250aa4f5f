/-! text: the two doors change their places (a renaming of the logical cells) -/
def swD (a : Nat) : Nat := if 5 ≤ a ∧ a ≤ 19 then a + 16 else if 21 ≤ a ∧ a ≤ 35 then a - 16 else a
theorem swD_swD (a : Nat) : swD (swD a) = a := by
  unfold swD
  by_cases h1 : 5 ≤ a ∧ a ≤ 19
  · rw [if_pos h1, if_neg (by omega), if_pos (by omega)]; omega
  · rw [if_neg h1]
    by_cases h2 : 21 ≤ a ∧ a ≤ 35
    · rw [if_pos h2, if_pos (by omega)]; omega
    · rw [if_neg h2, if_neg h1, if_neg h2]
theorem swD_o {a : Nat} (h : a < 5 ∨ a = 20 ∨ 36 ≤ a) : swD a = a := by unfold swD; rw [if_neg (by omega), if_neg (by omega)]
theorem swD_lt {a : Nat} (h : a < 144) : swD a < 144 := by
  unfold swD
  by_cases h1 : 5 ≤ a ∧ a ≤ 19
  · rw [if_pos h1]; omega
  · rw [if_neg h1]
    by_cases h2 : 21 ≤ a ∧ a ≤ 35
    · rw [if_pos h2]; omega
    · rw [if_neg h2]; exact h
abbrev Sd : Nat → Prop := fun a => a = 0 ∨ 36 ≤ a
theorem cellE_ren {φ φ' : Nat → Nat} {ar : Nat → ClassId} {t : Nat × Nat} {R R' : Nat → Option Nat} {M : Nat → Int} (hr : ∀ k, (R' k).map φ' = (R k).map φ) : cellE φ' ar t R' M = cellE φ ar t R M := by
  have hf : ∀ ci, fldsV φ' ci R' M = fldsV φ ci R M := by
    intro ci
    apply List.map_congr_left
    intro k _
    unfold fldV
    rw [hr k]
  unfold cellE
  split <;> first | rfl | (simp only [hr]; done) | rw [hf]
section REN
variable {E : Scr} {mi mi2 : Mi} {S : Nat → Prop} {Q : Post} {T : Shp} {R : Rfs} {M : Mem} {u v pc : Nat} {ls : List (Nat × PV)} {st : List PV}
theorem w_ren {σ : Nat → Nat} {R' : Rfs} {M' : Mem} (hσ : ∀ a, σ (σ a) = a) (hn : ∀ a, a < T.length → σ a < T.length) (hT : ∀ a, T[σ a]? = T[a]?) (hS : ∀ a, S a → σ a = a) (hR : ∀ a k, R' a k = (R (σ a) k).map σ) (hM : ∀ a, M' a = M (σ a)) (hls : ∀ φ ex : Nat → Nat, lsV (fun a => φ (σ a)) ex ls = lsV φ ex ls) (hst : ∀ φ ex : Nat → Nat, st.map (toV (fun a => φ (σ a)) ex) = st.map (toV φ ex))
    (h : MW E mi S Q T R' M' u v pc ls st) : MW E mi S Q T R M u v pc ls st := by
  intro l p e s m args below meth c H locs la D ar A φ ex B hl
  obtain ⟨b1, b2, ⟨hP, hD, hS9⟩, hRg, hRC⟩ := B
  have hg : ∀ (k : Nat) (q : Nat × va_E), (wsO (fun a => φ (σ a)) ar T R' M')[k]? = some q → ∃ a t, T[a]? = some t ∧ t.1 ≠ 30 ∧ k = gi T a ∧ (wsO φ ar T R M)[gi T (σ a)]? = some q := by
    intro k q hk
    obtain ⟨a, t, ht, hnt, hka, rfl⟩ := wsO_get hk
    refine ⟨a, t, ht, hnt, hka, ?_⟩
    rw [wsO_atT (t := t) (by rw [hT]; exact ht) hnt, hM a]
    have e9 : cellE (fun a => φ (σ a)) ar t (R' a) (M (σ a)) = cellE φ ar t (R (σ a)) (M (σ a)) := by
      refine cellE_ren (fun j => ?_)
      rw [hR]
      cases R (σ a) j with
      | none => rfl
      | some b => show some (φ (σ (σ b))) = some (φ b); rw [hσ]
    rw [e9]
  have hP9 : va_P D vwCl (wsO (fun a => φ (σ a)) ar T R' M') H := fun k q hk => by
    obtain ⟨a, t, -, -, -, h9⟩ := hg k q hk
    exact hP _ q h9
  have hD9 : va_D A (wsO (fun a => φ (σ a)) ar T R' M') := by
    refine ⟨fun i j x y hi hj hxy => ?_, fun k q hk => ?_⟩
    · obtain ⟨a, t1, ha, n1, ea, h1⟩ := hg i x hi
      obtain ⟨b, t2, hb, n2, eb, h2⟩ := hg j y hj
      have h3 := gi_inj (by rw [hT]; exact ha) n1 (by rw [hT]; exact hb) n2 (hD.1 _ _ x y h1 h2 hxy)
      have h4 := congrArg σ h3
      rw [hσ, hσ] at h4
      rw [ea, eb, h4]
    · obtain ⟨a, t, -, -, -, h9⟩ := hg k q hk
      exact hD.2 _ q h9
  have k9 := h l p e s m args below meth c H locs la D ar A (fun a => φ (σ a)) ex ⟨b1, b2, ⟨hP9, hD9, hS9⟩, fun a t ht => by rw [hM a]; exact hRg (σ a) t (by rw [hT]; exact ht), fun a k b hb => by
      rw [hR] at hb
      cases hr : R (σ a) k with
      | none => rw [hr] at hb; exact absurd hb (by simp)
      | some c9 => rw [hr] at hb; cases hb; exact hn c9 (hRC _ _ _ hr)⟩ (by rw [hls]; exact hl)
  rw [hst] at k9
  exact W_mono (MQ_mono fun o t hq => QcO_mono (fun a ha => by show φ (σ a) = φ a; rw [hS a ha]) hq) k9
theorem MW_S {S2 : Nat → Prop} (hS : ∀ a, S a → S2 a) (h : MW E mi S2 Q T R M u v pc ls st) : MW E mi S Q T R M u v pc ls st := by
  intro l p e s m args below meth c H locs la D ar A φ ex B hl
  refine W_mono (MQ_mono fun o t z => ?_) (h l p e s m args below meth c H locs la D ar A φ ex B hl)
  obtain ⟨⟨r, T', R', M', φ', h1, h2, h3, h4⟩, h5⟩ := z
  exact ⟨⟨r, T', R', M', φ', h1, h2, fun a ha => h3 a (hS a ha), h4⟩, h5⟩
theorem s_vI {idx ci n a k : Nat} {as : List PV} {f : Int → Mem → Prop} (hd : decode (miC mi) pc = .ok (.invokevirtual idx, 3)) (hcs : CsV (miY mi).cls idx mi2 ci n) (hrm : Ra mi mi2 st) (hT : T0[a]? = some (ci, k)) (hci : ci < 12) (hn : as.length = n) (hlen : pvW (pR a :: as) ≤ miL mi2)
    (h : CI E mi2 (pR a :: as) M f) (hk : ∀ x M', f x M' → MW E mi S Q T0 R0 M' 0 0 (pc + 3) ls (pI x :: st)) : MW E mi S Q T0 R0 M 0 0 pc ls (as.reverse ++ pR a :: st) := by
  refine w_callV hd hcs hrm.rm hT hci hn hlen (S2 := Top) (fun _ _ => trivial) Stb_top (MW_mono (fun r T' R' M' z => ?_) h)
  obtain ⟨rfl, rfl, x, rfl, z⟩ := z
  rw [hrm.1.2.1, hrm.1.2.2]
  exact hk x M' z
theorem s_vV {idx ci n a k : Nat} {as : List PV} {f : Mem → Prop} (hd : decode (miC mi) pc = .ok (.invokevirtual idx, 3)) (hcs : CsV (miY mi).cls idx mi2 ci n) (hrm : Ra mi mi2 st) (hT : T0[a]? = some (ci, k)) (hci : ci < 12) (hn : as.length = n) (hlen : pvW (pR a :: as) ≤ miL mi2)
    (h : CV E mi2 (pR a :: as) M f) (hk : ∀ M', f M' → MW E mi S Q T0 R0 M' 0 0 (pc + 3) ls st) : MW E mi S Q T0 R0 M 0 0 pc ls (as.reverse ++ pR a :: st) := by
  refine w_callV hd hcs hrm.rm hT hci hn hlen (S2 := Top) (fun _ _ => trivial) Stb_top (MW_mono (fun r T' R' M' z => ?_) h)
  obtain ⟨rfl, rfl, rfl, z⟩ := z
  rw [hrm.1.2.1, hrm.1.2.2]
  exact hk M' z
end REN
/-! references by rows -/
def ofL (L : List (List (Option Nat))) : Rfs := fun a k => (L.getD a []).getD k none
theorem ofL_up {L : List (List (Option Nat))} {a k : Nat} {v : Option Nat} (h1 : a < L.length) (h2 : k < (L.getD a []).length) : upR (ofL L) a k v = ofL (L.set a ((L.getD a []).set k v)) := by
  funext b j
  by_cases hb : b = a
  · subst hb
    rw [upR_self]
    have e : (L.set b ((L.getD b []).set k v)).getD b [] = (L.getD b []).set k v := by
      rw [List.getD_eq_getElem?_getD (l := L.set b ((L.getD b []).set k v)), List.getElem?_set_self h1]; rfl
    show va_up (ofL L b) k v j = ((L.set b ((L.getD b []).set k v)).getD b []).getD j none
    rw [e]
    by_cases hj : j = k
    · subst hj; rw [va_up_self, List.getD_eq_getElem?_getD (l := (L.getD b []).set j v), List.getElem?_set_self h2]; rfl
    · rw [va_up_neq _ _ hj, List.getD_eq_getElem?_getD (l := (L.getD b []).set k v), List.getElem?_set_ne (Ne.symm hj), ← List.getD_eq_getElem?_getD]; rfl
  · rw [upR_ne _ _ _ hb]
    show (L.getD b []).getD j none = ((L.set a ((L.getD a []).set k v)).getD b []).getD j none
    rw [List.getD_eq_getElem?_getD (l := L.set a ((L.getD a []).set k v)), List.getElem?_set_ne (Ne.symm hb), ← List.getD_eq_getElem?_getD]
def R1a : List (List (Option Nat)) := R0L.set 0 ((R0L.getD 0 []).set 1 (some 5))
def R1L : List (List (Option Nat)) := R1a.set 1 ((R1a.getD 1 []).set 1 (some 21))
theorem R1_eq : upR (upR R0 0 1 (some 5)) 1 1 (some 21) = ofL R1L := by
  rw [show R0 = ofL R0L from rfl, ofL_up (by decide +kernel) (by decide +kernel)]
  exact ofL_up (L := R1a) (by decide +kernel) (by decide +kernel)
theorem sw_rows : ∀ a, a < 144 → R0L.getD a [] = (R1L.getD (swD a) []).map (Option.map swD) := by decide +kernel
theorem sw_R (a k : Nat) : R0 a k = (ofL R1L (swD a) k).map swD := by
  show (R0L.getD a []).getD k none = ((R1L.getD (swD a) []).getD k none).map swD
  by_cases h : a < 144
  · rw [sw_rows a h]
    generalize R1L.getD (swD a) [] = row
    rw [List.getD_eq_getElem?_getD, List.getD_eq_getElem?_getD, List.getElem?_map]
    cases row[k]? <;> rfl
  · rw [swD_o (by omega)]
    have e0 : R0L.getD a [] = [] := by
      rw [List.getD_eq_getElem?_getD, List.getElem?_eq_none (by rw [show R0L.length = 144 from by decide +kernel]; omega)]; rfl
    have e1 : R1L.getD a [] = [] := by
      rw [List.getD_eq_getElem?_getD, List.getElem?_eq_none (by rw [show R1L.length = 144 from by decide +kernel]; omega)]; rfl
    rw [e0, e1]; rfl
theorem sw_T (a : Nat) : T0[swD a]? = T0[a]? := by
  by_cases h : a < 144
  · exact (show ∀ a, a < 144 → T0[swD a]? = T0[a]? from by decide +kernel) a h
  · rw [swD_o (by omega)]
theorem T0_len : T0.length = 144 := by decide +kernel
section TEXTC
variable {E : Scr}
theorem c_textC {f : Int → Mem → Prop} {M : Mem} {x : Int} {sz : Nat} (hx : iR x) (h22 : M 2 2 = (sz : Int)) (H0 : x < 0 ∨ (sz : Int) < x → f (-2) M)
    (H1 : 0 ≤ x → x ≤ (sz : Int) → CI E mX5_reads [pR 1, pI x] M (fun r M1 => iR r ∧ (r = 0 → f (-1) (upM M1 2 2 0)) ∧ (r ≠ 0 → ∀ M2 : Mem, (∀ a, M2 a = upM M1 2 2 0 (swD a)) → CV E mX7_begin [pR 36, pR 21] M2 (fun M3 => f (M3 21 0) (upM (upM (upM (upM (upM M3 93 4 0) 93 5 (-1)) 44 5 0) 44 6 0) 0 5 0))))) :
    MW E mX10_text Sd (QL (qI f)) T0 R0 M 0 0 0 [(0, pR 0), (1, pI x)] [] := by
  have ret2 : (x < 0 ∨ (sz : Int) < x) → MW E mX10_text Sd (QL (qI f)) T0 R0 M 0 0 18 [(0, pR 0), (1, pI x)] [] := fun c => by
    refine w_bipush dX10_text_18 (by decide) ?_
    exact w_iret dX10_text_20 rfl ⟨Nat.zero_le _, Nat.zero_le _⟩ ⟨rfl, rfl, _, rfl, H0 c⟩
  refine w_iload_n dX10_text_0 rfl ?_
  refine w_if_lt dX10_text_1 rfl hx (fun c => ret2 (Or.inl c)) (fun c => ?_)
  refine w_iload_n dX10_text_4 rfl ?_
  refine w_aload_n dX10_text_5 rfl ?_
  refine w_getR dX10_text_6 fX10_12 rfl rfl rfl ?_
  refine w_getR dX10_text_9 fX10_66 rfl rfl rfl ?_
  refine w_getI (x := (M 2 2)) dX10_text_12 fX10_70 rfl rfl rfl (fun g => ?_)
  refine w_icmp_le dX10_text_15 rfl ⟨hx, g⟩ (fun c2 => ?_) (fun c2 => ret2 (Or.inr (by omega)))
  refine w_aload_n dX10_text_21 rfl ?_
  refine w_getR dX10_text_22 fX10_12 rfl rfl rfl ?_
  refine w_iload_n dX10_text_25 rfl ?_
  refine s_vI (as := [pI x]) dX10_text_26 kX10_80 ⟨⟨Nat.le_of_ble_eq_true rfl, rfl, rfl⟩, Nat.le_of_ble_eq_true rfl⟩ rfl (by decide) rfl (Nat.le_of_ble_eq_true rfl) (H1 (by omega) (by omega)) ?_
  intro r M1 hq
  obtain ⟨hr, h0, h1⟩ := hq
  refine w_istore_n dX10_text_29 (by decide) ?_
  refine w_aload_n dX10_text_30 rfl ?_
  refine w_getR dX10_text_31 fX10_12 rfl rfl rfl ?_
  refine w_getR dX10_text_34 fX10_66 rfl rfl rfl ?_
  refine w_iconst dX10_text_37 ?_
  refine w_putI dX10_text_38 (Or.inl ⟨rfl, fX10_70⟩) rfl rfl (by decide) ?_
  refine w_iload_n dX10_text_41 rfl ?_
  refine w_if_ne dX10_text_42 rfl hr (fun c3 => ?_) (fun c3 => ?_)
  · refine w_aload_n dX10_text_47 rfl ?_
    refine w_getR dX10_text_48 fX10_21 rfl rfl rfl ?_
    refine w_astore_n dX10_text_51 (by decide) ?_
    refine w_aload_n dX10_text_52 rfl ?_
    refine w_aload_n dX10_text_53 rfl ?_
    refine w_getR dX10_text_54 fX10_12 rfl rfl rfl ?_
    refine w_getR dX10_text_57 fX10_84 rfl rfl rfl ?_
    refine w_putR dX10_text_60 (Or.inl ⟨rfl, fX10_21⟩) rfl rfl rfl (by rw [T0_len]; decide) ?_
    refine w_aload_n dX10_text_63 rfl ?_
    refine w_getR dX10_text_64 fX10_12 rfl rfl rfl ?_
    refine w_aload_n dX10_text_67 rfl ?_
    refine w_putR dX10_text_68 (Or.inl ⟨rfl, fX10_84⟩) rfl rfl rfl (by rw [T0_len]; decide) ?_
    rw [R1_eq]
    refine w_ls (ls' := [(0, pR 0)]) (fun q hq => ?_) ?_
    · rw [List.mem_singleton] at hq; subst hq; simp [lset1]; exact ⟨by decide, Or.inl (by decide)⟩
    refine w_ren (σ := swD) (R' := R0) (M' := fun a => upM M1 2 2 0 (swD a)) swD_swD (fun a ha => by rw [T0_len] at ha ⊢; exact swD_lt ha) sw_T (fun a ha => swD_o (by rcases ha with z | z <;> omega)) sw_R (fun _ => rfl) (fun _ _ => rfl) (fun _ _ => rfl) ?_
    refine w_aload_n dX10_text_71 rfl ?_
    refine w_getR dX10_text_72 fX10_28 rfl rfl rfl ?_
    refine w_aload_n dX10_text_75 rfl ?_
    refine w_getR dX10_text_76 fX10_21 rfl rfl rfl ?_
    refine s_vV (as := [pR 21]) dX10_text_79 kX10_85 ⟨⟨Nat.le_of_ble_eq_true rfl, rfl, rfl⟩, Nat.le_of_ble_eq_true rfl⟩ rfl (by decide) rfl (Nat.le_of_ble_eq_true rfl) (h1 c3 _ (fun _ => rfl)) ?_
    intro M3 h3
    refine w_aload_n dX10_text_82 rfl ?_
    refine w_getR dX10_text_83 fX10_62 rfl rfl rfl ?_
    refine s_vV (as := []) (f := fun M4 => M4 = upM (upM M3 93 4 0) 93 5 (-1)) dX10_text_86 kX10_89 ⟨⟨Nat.le_of_ble_eq_true rfl, rfl, rfl⟩, Nat.le_of_ble_eq_true rfl⟩ rfl (by decide) rfl (Nat.le_of_ble_eq_true rfl) (vX3_clear_0 rfl) ?_
    intro M4 h4
    subst h4
    refine w_aload_n dX10_text_89 rfl ?_
    refine w_getR dX10_text_90 fX10_48 rfl rfl rfl ?_
    refine s_vV (as := []) (f := fun M5 => M5 = upM (upM (upM (upM M3 93 4 0) 93 5 (-1)) 44 5 0) 44 6 0) dX10_text_93 kX10_92 ⟨⟨Nat.le_of_ble_eq_true rfl, rfl, rfl⟩, Nat.le_of_ble_eq_true rfl⟩ rfl (by decide) rfl (Nat.le_of_ble_eq_true rfl) (vX9_clear_0 rfl) ?_
    intro M5 h5
    subst h5
    refine w_aload_n dX10_text_96 rfl ?_
    refine w_iconst dX10_text_97 ?_
    refine w_putZ dX10_text_98 (Or.inl ⟨rfl, fX10_93⟩) rfl rfl (by decide) ?_
    refine w_aload_n dX10_text_101 rfl ?_
    refine w_getR dX10_text_102 fX10_21 rfl rfl rfl ?_
    refine w_getI (x := (M3 21 0)) dX10_text_105 fX10_97 rfl rfl rfl (fun g3 => ?_)
    exact w_iret dX10_text_108 rfl ⟨Nat.zero_le _, Nat.zero_le _⟩ ⟨rfl, rfl, _, rfl, h3⟩
  · refine w_iconst dX10_text_45 ?_
    exact w_iret dX10_text_46 rfl ⟨Nat.zero_le _, Nat.zero_le _⟩ ⟨rfl, rfl, _, rfl, h0 c3⟩
end TEXTC
