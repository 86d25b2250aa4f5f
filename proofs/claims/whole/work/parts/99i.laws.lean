/-! one law for both -/
def evL (lf : Int → Int → Int) : KL → List Int → Option (List Int)
  | [], st => some st
  | e :: P, st => if e.1 = 12 then (match st with
      | a :: s => evL lf P ((if a = 0 then 1 else 0) :: s)
      | [] => none)
    else if rk e.1 = 0 then evL lf P (lf e.1 e.2 :: st)
    else match st with
      | b :: a :: s => (match opJ (cm e.1) a b with
        | some c => evL lf P (c :: s)
        | none => none)
      | _ => none
theorem evS_L {kd vl : Nat → Int} {lf : Int → Int → Int} : ∀ (P : KL) (i : Nat) (st : List Int), (∀ q e, P[q]? = some e → kd (i + q) = e.1 ∧ vl (i + q) = e.2) → evS kd vl lf P.length i st = evL lf P st := by
  intro P
  induction P with
  | nil => intro i st _; rfl
  | cons e P ih =>
    intro i st h
    have hk : kd i = e.1 ∧ vl i = e.2 := h 0 e rfl
    have h1' : ∀ q e', P[q]? = some e' → kd (i + 1 + q) = e'.1 ∧ vl (i + 1 + q) = e'.2 := fun q e' he => by
      have := h (q + 1) e' he
      rw [show i + 1 + q = i + (q + 1) by omega]; exact this
    simp only [List.length_cons, evS, evL]
    rw [hk.1, hk.2]
    by_cases c12 : e.1 = 12
    · rw [if_pos c12, if_pos c12]
      match st with
      | [] => rfl
      | a :: s => exact ih _ _ h1'
    rw [if_neg c12, if_neg c12]
    by_cases c0 : rk e.1 = 0
    · rw [if_pos c0, if_pos c0]; exact ih _ _ h1'
    rw [if_neg c0, if_neg c0]
    match st with
    | [] => rfl
    | [_] => rfl
    | b :: a :: s =>
      simp only
      cases opJ (cm e.1) a b with
      | none => rfl
      | some c => exact ih _ _ h1'
def lawO (s : PSt) : Lw := fun k env => if 3 ≤ k ∨ sWf s k = [] then none else one1 (evL (lfE env) (sWf s k) [])
theorem evL_Bd {lf : Int → Int → Int} : ∀ (P : KL) (st r : List Int), (∀ v, v ∈ st → Bd v) → (∀ e, e ∈ P → rk e.1 = 0 → Bd (lf e.1 e.2)) → evL lf P st = some r → ∀ v, v ∈ r → Bd v := by
  intro P
  induction P with
  | nil => intro st r h1 _ h; simp only [evL] at h; cases h; exact h1
  | cons e P ih =>
    intro st r h1 h2 h
    have h2' : ∀ e', e' ∈ P → rk e'.1 = 0 → Bd (lf e'.1 e'.2) := fun e' he => h2 e' (List.mem_cons_of_mem _ he)
    simp only [evL] at h
    by_cases c12 : e.1 = 12
    · rw [if_pos c12] at h
      match st, h1, h with
      | [], _, h => exact absurd h (by simp)
      | a :: s, h1, h =>
        refine ih _ r (fun v hv => ?_) h2' h
        rcases List.mem_cons.mp hv with z | z
        · rw [z]; by_cases ca : a = 0
          · rw [if_pos ca]; exact ⟨by decide, by decide⟩
          · rw [if_neg ca]; exact ⟨by decide, by decide⟩
        · exact h1 v (List.mem_cons_of_mem _ z)
    rw [if_neg c12] at h
    by_cases c0 : rk e.1 = 0
    · rw [if_pos c0] at h
      refine ih _ r (fun v hv => ?_) h2' h
      rcases List.mem_cons.mp hv with z | z
      · rw [z]; exact h2 e (List.mem_cons_self ..) c0
      · exact h1 v z
    rw [if_neg c0] at h
    match st, h1, h with
    | [], _, h => exact absurd h (by simp)
    | [_], _, h => exact absurd h (by simp)
    | b :: a :: s, h1, h =>
      simp only at h
      cases ho : opJ (cm e.1) a b with
      | none => rw [ho] at h; exact absurd h (by simp)
      | some c =>
        rw [ho] at h
        refine ih _ r (fun v hv => ?_) h2' h
        rcases List.mem_cons.mp hv with z | z
        · rw [z]; exact opJ_Bd (h1 a (List.mem_cons_of_mem _ (List.mem_cons_self ..))) ho
        · exact h1 v (List.mem_cons_of_mem _ (List.mem_cons_of_mem _ z))
theorem okT_leaf {own : Int} {n ln : Nat} {e : Int × Int} (h : okEl True own n ln e) (h0 : rk e.1 = 0) : (e.1 = 37 ∧ 0 ≤ e.2 ∧ e.2 ≤ 9999) ∨ (17 ≤ e.1 ∧ e.1 ≤ 23) := by
  rcases h with ⟨a, -⟩ | ⟨-, h⟩ | ⟨h, -⟩
  · exact absurd h0 a
  · rcases h with h | h
    · exact Or.inl h
    · exact Or.inr ⟨h.1, h.2.1⟩
  · exact absurd trivial h
theorem lawO_B {L : Nat} {s : PSt} (hI : PI L s) : LwB (lawO s) := by
  intro k env he v h
  unfold lawO at h
  by_cases c : 3 ≤ k ∨ sWf s k = []
  · rw [if_pos c] at h; exact absurd h (by simp)
  rw [if_neg c] at h
  have h9 := hI.2.2.2.2.2.2.2.2.1 k (by omega) (fun z => c (Or.inr z))
  cases hr : evL (lfE env) (sWf s k) [] with
  | none => rw [hr] at h; exact absurd h (by simp [one1])
  | some r =>
    rw [hr] at h
    have hb := evL_Bd (lf := lfE env) (sWf s k) [] r (fun v hv => absurd hv (by simp)) (fun e hm h0 => ?_) hr
    · match r, h, hb with
      | [w], h, hb =>
        have h2 : w = v := Option.some.inj (show some w = some v from h)
        exact h2 ▸ hb w (List.mem_cons_self ..)
      | [], h, _ => exact absurd h (by simp [one1])
      | _ :: _ :: _, h, _ => exact absurd h (by simp [one1])
    · unfold lfE
      rcases okT_leaf (h9.2.2.2.1 e hm) h0 with ⟨a, b, d⟩ | ⟨a, b⟩
      · rw [if_neg (by omega)]; exact ⟨by omega, by omega⟩
      · rw [if_pos ⟨a, b⟩]; exact he _ (by omega)
theorem map_va {vs : Nat → Int} {i : Nat} {b : Int} : ∀ (H : List Nat), (∀ a, a ∈ H → a < i) → H.map (va_up vs i b) = H.map vs := by
  intro H
  induction H with
  | nil => intro _; rfl
  | cons a H ih =>
    intro h
    have ha := h a (List.mem_cons_self ..)
    rw [List.map_cons, List.map_cons, ih (fun q hq => h q (List.mem_cons_of_mem _ hq)), va_up_neq _ _ (by omega)]
theorem rk37 : rk 37 = 0 := by decide
theorem rk_lf {k : Int} (h : 17 ≤ k ∧ k ≤ 23) : rk k = 0 := by
  unfold rk
  rw [if_neg (by omega), if_neg (by omega), if_neg (by omega), if_neg (by omega), if_neg (by omega), if_neg (by omega)]
theorem okEl_cm {own : Int} {n ln : Nat} {e : Int × Int} (h : okEl True own n ln e) (h0 : rk e.1 ≠ 0) (h12 : e.1 ≠ 12) : 3 ≤ cm e.1 ∧ cm e.1 ≤ 14 := by
  rcases h with ⟨a, b, c, d⟩ | ⟨-, h⟩ | ⟨h, -⟩
  · exact cm_ok c d h12
  · rcases h with h | h
    · rw [h.1, rk37] at h0; exact absurd rfl h0
    · exact absurd (rk_lf ⟨h.1, h.2.1⟩) h0
  · exact absurd trivial h
theorem rn_L {kn pa ot env : Nat → Int} {n ln : Nat} : ∀ (P : KL) (i : Nat) (H : List Nat) (vs : Nat → Int) (m : Nat), ND (ndW kn pa ot) i H P → (∀ a, a ∈ H → a < i) → dpF H.length P = some m → (∀ e, e ∈ P → okEl True (-1) n ln e) →
    evL (lfE env) P (H.map vs) = (rnM kn pa ot env P.length i vs).map (fun w => (hst i H P).map w) := by
  intro P
  induction P with
  | nil => intro i H vs m _ _ _ _; rfl
  | cons e P ih =>
    intro i H vs m hnd hH hd hok
    have hok' : ∀ e', e' ∈ P → okEl True (-1) n ln e' := fun e' he => hok e' (List.mem_cons_of_mem _ he)
    have h0 := hok e (List.mem_cons_self ..)
    simp only [dpF] at hd
    have hds : sdN e.1 ≤ H.length := by
      by_cases c : sdN e.1 ≤ H.length
      · exact c
      · rw [if_neg c] at hd; exact absurd hd (by simp)
    rw [if_pos hds] at hd
    have hH' : ∀ a, a ∈ i :: H.drop (sdN e.1) → a < i + 1 := fun a ha => by
      rcases List.mem_cons.mp ha with z | z
      · omega
      · have := hH a (List.mem_of_mem_drop z); omega
    have hd' : dpF (i :: H.drop (sdN e.1)).length P = some m := by rw [List.length_cons, List.length_drop]; exact hd
    have hrec : ∀ v, evL (lfE env) P (v :: (H.drop (sdN e.1)).map vs) = (rnM kn pa ot env P.length (i + 1) (va_up vs i v)).map (fun w => (hst i H (e :: P)).map w) := fun v => by
      have := ih (i + 1) (i :: H.drop (sdN e.1)) (va_up vs i v) m hnd.2 hH' hd' hok'
      rw [List.map_cons, va_up_self, map_va _ (fun a ha => hH a (List.mem_of_mem_drop ha))] at this
      exact this
    simp only [List.length_cons, rnM, evL]
    rcases hnd.1 with ⟨k1, k2, k3⟩ | ⟨k1, k1', k2, k3⟩ | ⟨k1, k2, a, G, k3, k4⟩ | ⟨k1, k1', k2, a, b, G, k3, k4, k5⟩
    · have es : sdN e.1 = 0 := by rw [k1]; decide
      rw [if_neg (by omega), if_pos (by rw [k1]; exact rk37)]
      have hn : ndM (kn i) (pa i) (ot i) env vs = some e.2 := by unfold ndM; rw [if_pos k2, k3]
      rw [hn]
      have := hrec e.2
      rw [es, List.drop_zero] at this
      have hlf : lfE env e.1 e.2 = e.2 := by unfold lfE; rw [if_neg (by omega)]
      rw [hlf]; exact this
    · have r0 := rk_lf ⟨k1, k1'⟩
      have es : sdN e.1 = 0 := by unfold sdN; rw [if_neg (by omega), if_pos r0]
      rw [if_neg (by omega), if_pos r0]
      have hlf : lfE env e.1 e.2 = env (e.1 - 17).toNat := by unfold lfE; rw [if_pos ⟨k1, k1'⟩]
      have hn : ndM (kn i) (pa i) (ot i) env vs = some (env (e.1 - 17).toNat) := by unfold ndM; rw [if_neg (by omega), if_pos k2, k3]
      rw [hn, hlf]
      have := hrec (env (e.1 - 17).toNat)
      rw [es, List.drop_zero] at this
      exact this
    · have es : sdN e.1 = 1 := by unfold sdN; rw [if_pos k1]
      rw [if_pos k1, k3]
      have hn : ndM (kn i) (pa i) (ot i) env vs = some (if vs a = 0 then 1 else 0) := by unfold ndM; rw [if_neg (by omega), if_neg (by omega), if_pos k2, k4, Int.toNat_natCast]
      rw [hn]
      have := hrec (if vs a = 0 then 1 else 0)
      rw [es, k3] at this
      exact this
    · have es : sdN e.1 = 2 := by unfold sdN; rw [if_neg k1, if_neg k1']
      rw [if_neg k1, if_neg k1', k3]
      have hcm := okEl_cm h0 k1' k1
      have hn : ndM (kn i) (pa i) (ot i) env vs = opJ (cm e.1) (vs a) (vs b) := by unfold ndM; rw [if_neg (by omega), if_neg (by omega), if_neg (by omega), k2, k4, k5, Int.toNat_natCast, Int.toNat_natCast]
      rw [hn]
      simp only [List.map_cons]
      cases ho : opJ (cm e.1) (vs a) (vs b) with
      | none => rfl
      | some c =>
        have := hrec c
        rw [es, k3] at this
        exact this
theorem nd_wf {kn pa ot : Nat → Int} {n ln lo : Nat} : ∀ (P : KL) (i : Nat) (H : List Nat), lo ≤ i → ND (ndW kn pa ot) i H P → (∀ a, a ∈ H → lo ≤ a ∧ a < i) → (∀ e, e ∈ P → okEl True (-1) n ln e) → ∀ q, i ≤ q → q < i + P.length → wfN lo q (kn q) (pa q) (ot q) := by
  intro P
  induction P with
  | nil => intro i H _ _ _ _ q h1 h2; have h2' : q < i := h2; omega
  | cons e P ih =>
    intro i H hlo hnd hH hok q h1 h2
    have h0 := hok e (List.mem_cons_self ..)
    rw [List.length_cons] at h2
    by_cases c : q = i
    · subst c
      unfold wfN
      rcases hnd.1 with ⟨k1, k2, k3⟩ | ⟨k1, k1', k2, k3⟩ | ⟨k1, k2, a, G, k3, k4⟩ | ⟨k1, k1', k2, a, b, G, k3, k4, k5⟩
      · rcases okT_leaf h0 (by rw [k1]; exact rk37) with z | z
        · exact Or.inl ⟨k2, by omega, by omega⟩
        · omega
      · exact Or.inr (Or.inl ⟨k2, by omega, by omega⟩)
      · have ha := hH a (by rw [k3]; exact List.mem_cons_self ..)
        exact Or.inr (Or.inr (Or.inl ⟨k2, by omega, by omega⟩))
      · have hb := hH b (by rw [k3]; exact List.mem_cons_self ..)
        have ha := hH a (by rw [k3]; exact List.mem_cons_of_mem _ (List.mem_cons_self ..))
        have hcm := okEl_cm h0 k1' k1
        exact Or.inr (Or.inr (Or.inr ⟨by omega, by omega, by omega, by omega, by omega, by omega⟩))
    · refine ih (i + 1) (i :: H.drop (sdN e.1)) (by omega) hnd.2 (fun a ha => ?_) (fun e' he => hok e' (List.mem_cons_of_mem _ he)) q (by omega) (by omega)
      rcases List.mem_cons.mp ha with z | z
      · omega
      · have := hH a (List.mem_of_mem_drop z); omega
/-- the reference's laws -/
theorem lawO_M {L : Nat} {s : PSt} {M : Mem} (hI : PI L s) (hK : KpM s M) : LwM (lawO s) M := by
  intro k hk
  have hal := hI.2.2.2.2.2.1
  rcases hK.2.2.2.2.2.2.2.2.2 k hk with ⟨z1, z2⟩ | ⟨z1, z2, z3, z4, z5⟩
  · exact Or.inl ⟨z2, fun env => by unfold lawO; rw [if_pos (Or.inr z1)]⟩
  · obtain ⟨m1, m2, m3, m4, m5⟩ := hI.2.2.2.2.2.2.2.2.1 k hk z1
    have hpos := dp_pos m3
    refine Or.inr ⟨z2, sWb s k, sWb s k + (sWf s k).length, by omega, by omega, z3, z4, fun q q1 q2 => nd_wf (sWf s k) (sWb s k) [] (Nat.le_refl _) z5 (fun a ha => absurd ha (by simp)) m4 q q1 q2, fun env vs0 => ?_⟩
    rw [show sWb s k + (sWf s k).length - sWb s k = (sWf s k).length by omega]
    have hr := rn_L (env := env) (sWf s k) (sWb s k) [] vs0 1 z5 (fun a ha => absurd ha (by simp)) m3 m4
    obtain ⟨T, hT⟩ := hst_head (sWf s k) (sWb s k) [] z1
    have hTn : T = [] := by
      have := hst_len (sWf s k) (sWb s k) 0 1 [] rfl m3
      rw [hT, List.length_cons] at this
      exact List.eq_nil_of_length_eq_zero (by omega)
    unfold lawO
    rw [if_neg (fun z => by rcases z with z | z; omega; exact z1 z)]
    have hr' : evL (lfE env) (sWf s k) [] = (rnM (M 116) (M 117) (M 118) env (sWf s k).length (sWb s k) vs0).map (fun w => (hst (sWb s k) [] (sWf s k)).map w) := hr
    rw [hr', hT, hTn]
    cases rnM (M 116) (M 117) (M 118) env (sWf s k).length (sWb s k) vs0 with
    | none => rfl
    | some w => rfl
/-- the class's laws, in the reader's door -/
theorem lawO_C {bs : BF} {L : Nat} {s : PSt} {M M' : Mem} (hI : PI L s) (hP : PrC bs L s M) (h30 : M' 30 = M 14) (h32 : M' 32 = M 16) (h33 : M' 33 = M 17) : LwC (lawO s) M' := by
  intro k hk
  have hal := hI.2.2.2.2.2.1
  obtain ⟨a1, a2⟩ := hP.2.2.2.2.2.2.2.2.2.1 k hk
  have hKA := hP.2.2.2.2.2.2.2.2.2.2.1
  rw [h30, h32, h33]
  by_cases c : sWf s k = []
  · rw [if_pos c] at a1 a2
    exact ⟨0, 0, a1, a2, Nat.le_refl _, Nat.zero_le _, Or.inl ⟨rfl, fun env => by unfold lawO; rw [if_pos (Or.inr c)]⟩⟩
  · rw [if_neg c] at a1 a2
    obtain ⟨m1, m2, m3, m4, m5⟩ := hI.2.2.2.2.2.2.2.2.1 k hk c
    have hpos := dp_pos m3
    have hat : ∀ q e, (sWf s k)[q]? = some e → M 16 (sWs s k + q) = e.1 ∧ M 17 (sWs s k + q) = e.2 := fun q e he => hKA.2 _ _ (m5 q e he)
    refine ⟨sWs s k, sWs s k + (sWf s k).length, a1, a2, by omega, by omega, Or.inr ⟨by omega, fun i i1 i2 => ?_, fun env => ?_⟩⟩
    · have hq : i - sWs s k < (sWf s k).length := by omega
      have hx := hat (i - sWs s k) (sWf s k)[i - sWs s k] (List.getElem?_eq_getElem hq)
      rw [show sWs s k + (i - sWs s k) = i by omega] at hx
      have hm := m4 _ (List.getElem_mem hq)
      rw [hx.1, hx.2]
      refine ⟨?_, fun h0 => okT_leaf hm h0⟩
      rcases hm with ⟨b1, b2, b3, b4⟩ | ⟨-, b | b⟩ | ⟨b, -⟩
      · have := okPd_r b3; exact ⟨by omega, by omega⟩
      · exact ⟨by omega, by omega⟩
      · exact ⟨by omega, by omega⟩
      · exact absurd trivial b
    · rw [show sWs s k + (sWf s k).length - sWs s k = (sWf s k).length by omega, evS_L (sWf s k) (sWs s k) [] hat]
      unfold lawO
      rw [if_neg (fun z => by rcases z with z | z; omega; exact c z)]
