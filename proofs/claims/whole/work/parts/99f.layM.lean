/-! the reference's table -/
def Fr4 (M M' : Mem) : Prop := ∀ a, a ≠ 123 → a ≠ 124 → M' a = M a
theorem Fr4.rf (M : Mem) : Fr4 M M := fun _ _ _ => rfl
theorem Fr4.tr {M M1 M2 : Mem} (h1 : Fr4 M M1) (h2 : Fr4 M1 M2) : Fr4 M M2 := fun a a1 a2 => (h2 a a1 a2).trans (h1 a a1 a2)
theorem Fr4.u {M : Mem} {a k : Nat} (v : Int) (h : a = 123 ∨ a = 124) : Fr4 M (upM M a k v) := fun c c1 c2 => upM_ne _ _ _ (by omega)
theorem map_upN {so : Nat → Bool} {i : Nat} {b : Bool} : ∀ (H : List Nat), (∀ a, a ∈ H → a < i) → H.map (upN so i b) = H.map so := by
  intro H
  induction H with
  | nil => intro _; rfl
  | cons a H ih =>
    intro h
    have ha := h a (List.mem_cons_self ..)
    rw [List.map_cons, List.map_cons, ih (fun q hq => h q (List.mem_cons_of_mem _ hq)), upN_ne _ _ (by omega)]
theorem mem_drop {α : Type} {a : α} : ∀ {n : Nat} {l : List α}, a ∈ l.drop n → a ∈ l := fun h => List.mem_of_mem_drop h
section LAYM
variable {E : Scr} {f : Mem → Prop} {x l n root : Nat} {c : Int} {M0 : Mem}
theorem c_seg {op : Nat} {rt : Nat → Nat} (hx : x < 256) (hl : l < 8) (hn : n ≤ 8) (hc : c = ((pop (andN x (2 ^ l)) : Nat) : Int)) (hroot : root < 64) (h105 : M0 105 l = (root : Int)) :
    ∀ (P : KL) (i : Nat) (H : List Nat) (M : Mem) (so : Nat → Bool) (m : Nat), i + P.length ≤ root + 1 → ND (ndL rt (M0 110) (M0 111) (M0 112)) i H P → Fr4 M0 M → (∀ q, q < i → M 124 q = bI (so q)) → (∀ a, a ∈ H → a < i) → dpF H.length P = some m → (∀ e, e ∈ P → okB n e) → (∀ e, e ∈ P → e.1 = 16 → rt e.2.toNat < i ∧ so (rt e.2.toNat) = op.testBit e.2.toNat) →
    (∀ M' so', Fr4 M0 M' → M' 123 = M 123 → (∀ q, q < i + P.length → M' 124 q = bI (so' q)) → (∀ q, q < i → so' q = so q) → (hst i H P).map so' = evB (lfB x c op) P (H.map so) → KW E mX11_layMay (qV f) M' 31 [(0, pR 98), (1, pI (x : Int)), (2, pI (l : Int)), (3, pI ((i + P.length : Nat) : Int))] []) →
    KW E mX11_layMay (qV f) M 31 [(0, pR 98), (1, pI (x : Int)), (2, pI (l : Int)), (3, pI (i : Int))] [] := by
  intro P
  induction P with
  | nil => intro i H M so m _ _ hF h124 _ _ _ _ K; exact K M so hF rfl h124 (fun _ _ => rfl) rfl
  | cons e P ih =>
    intro i H M so m hlen hnd hF h124 hH hd hok h16 K
    rw [List.length_cons] at hlen
    have e105 : M 105 l = (root : Int) := by rw [hF 105 (by decide) (by decide)]; exact h105
    obtain ⟨ev1, ev2⟩ := evB_vB (g := lfB x c op) (so := so) (hok e (List.mem_cons_self ..)) hd
    apply vX11_layMay_31
    rw [Int.toNat_natCast, e105]
    refine ⟨⟨by omega, by omega⟩, fun _ => ⟨⟨by omega, by omega⟩, fun z => absurd z (by omega), fun _ => ?_⟩⟩
    have hnd1 : ndL rt (M 110) (M 111) (M 112) i e.1 e.2 H := by
      rw [hF 110 (by decide) (by decide), hF 111 (by decide) (by decide), hF 112 (by decide) (by decide)]; exact hnd.1
    refine c_isSo (so := so) (op := op) (by omega) hx hn hl hc hnd1 (hok e (List.mem_cons_self ..)) (fun a ha => ⟨by have := hH a ha; omega, h124 a (hH a ha)⟩) (fun z => ?_) ?_
    · obtain ⟨y1, y2⟩ := h16 e (List.mem_cons_self ..) z
      exact ⟨by omega, by rw [h124 _ y1, y2]⟩
    · generalize hb : vB (lfB x c op) so (e.1, e.2) H = b
      have hb' : vB (lfB x c op) so e H = b := hb
      rw [hb'] at ev1
      rw [Int.toNat_natCast, show (i : Int) + 1 = ((i + 1 : Nat) : Int) by omega]
      refine ⟨⟨by omega, by omega⟩, (by cases b; exact Or.inl rfl; exact Or.inr rfl), ih (i + 1) (i :: H.drop (sdN e.1)) (upM M 124 i (bI b)) (upN so i b) m (by omega) hnd.2 (hF.tr (Fr4.u _ (Or.inr rfl))) (fun q hq => ?_) (fun a ha => ?_) (by rw [List.length_cons]; exact ev2) (fun e' he' => hok e' (List.mem_cons_of_mem _ he')) (fun e' he' hz => ?_) (fun M' so' a1 a2 a3 a4 a5 => ?_)⟩
      · rw [upM_self]
        by_cases eq : q = i
        · rw [eq, va_up_self, upN_self]
        · rw [va_up_neq _ _ eq, upN_ne _ _ eq]; exact h124 q (by omega)
      · rcases List.mem_cons.mp ha with z | z
        · omega
        · have := hH a (List.mem_of_mem_drop z); omega
      · obtain ⟨y1, y2⟩ := h16 e' (List.mem_cons_of_mem _ he') hz
        exact ⟨by omega, by rw [upN_ne _ _ (by omega)]; exact y2⟩
      · have hlen2 : i + (e :: P).length = i + 1 + P.length := by rw [List.length_cons]; omega
        rw [hlen2] at K
        refine K M' so' a1 (by rw [a2, upM_ne _ _ _ (by decide)]) a3 (fun q hq => by rw [a4 q (by omega), upN_ne _ _ (by omega)]) ?_
        show (hst (i + 1) (i :: H.drop (sdN e.1)) P).map so' = _
        rw [a5, ev1, List.map_cons, upN_self, map_upN _ (fun a ha => hH a (List.mem_of_mem_drop ha))]
theorem opP_app : ∀ (a b : List LF) (op : Nat), opP x c (a ++ b) op = opP x c b (opP x c a op) := by
  intro a
  induction a with
  | nil => intro b op; rfl
  | cons e a ih => intro b op; simp only [List.cons_append, opP]; exact ih b _
theorem opP_ne {z : Nat} : ∀ (a : List LF) (op : Nat), (∀ e, e ∈ a → e.1 ≠ z) → (opP x c a op).testBit z = op.testBit z := by
  intro a
  induction a with
  | nil => intro op _; rfl
  | cons e a ih =>
    intro op h
    simp only [opP]
    rw [ih _ (fun e' he => h e' (List.mem_cons_of_mem _ he))]
    have := h e (List.mem_cons_self ..)
    cases hd1 (evB (lfB x c op) e.2.1 [])
    · rfl
    · simp only [if_true]
      rw [Nat.testBit_or, Nat.testBit_two_pow]
      simp; omega
end LAYM
section LAYM2
variable {E : Scr} {f : Mem → Prop} {L : Nat} {s : PSt} {x l : Nat} {c : Int} {M0 : Mem}
theorem c_rowL (hI : PI L s) (hK : KpM s M0) (hx : x < 256) (hl : l < sN s) (hc : c = ((pop (andN x (2 ^ l)) : Nat) : Int)) (hlb : (sLn s).testBit l = true) :
    ∀ (rest done post : List LF) (i op : Nat) (M : Mem) (so : Nat → Bool), done ++ rest ++ post = sLf s → (∃ e, e ∈ done ++ rest ∧ e.1 = l) → ctg i rest (sRt s l + 1) → op = opP x c done (andN (2 ^ sN s - 1) (sLn s)) → Fr4 M0 M → (∀ q, q < i → M 124 q = bI (so q)) → (∀ e, e ∈ done → sRt s e.1 < i ∧ so (sRt s e.1) = op.testBit e.1) → (∀ z, (sLn s).testBit z = true → lnOf done z = false → op.testBit z = false) →
    (∀ M' : Mem, Fr4 M0 M' → M' 123 = M 123 → M' 124 (sRt s l) = bI ((opA s x c).testBit l) → KW E mX11_layMay (qV f) M' 31 [(0, pR 98), (1, pI (x : Int)), (2, pI (l : Int)), (3, pI ((sRt s l + 1 : Nat) : Int))] []) →
    KW E mX11_layMay (qV f) M 31 [(0, pR 98), (1, pI (x : Int)), (2, pI (l : Int)), (3, pI (i : Int))] [] := by
  obtain ⟨hTk, ⟨hn, hu⟩, ⟨hln, hlt, hlo, hll⟩, -, -, ⟨hal, hal2, hal3⟩, h7, h8, -⟩ := id hI
  have hrl := hK.2.2.2.2.1 l hl
  rw [if_pos hlb] at hrl
  have hown : ∀ (a b : List LF) (e : LF), a ++ e :: b = sLf s → lnOf a e.1 = false := by
    intro a b e hab
    have hg : (sLf s)[a.length]? = some (e.1, e.2.1, e.2.2.1, e.2.2.2) := by
      rw [← hab, List.getElem?_append_right (Nat.le_refl _), Nat.sub_self]; rfl
    have := (h8 _ _ _ _ _ hg).2
    rw [← hab, List.take_append_of_le_length (Nat.le_refl _), List.take_length] at this
    exact this
  intro rest
  induction rest with
  | nil =>
    intro done post i op M so hsp ⟨e, he1, he2⟩ hct hop hF h124 hdn hz K
    have hct' : i = sRt s l + 1 := hct
    rw [List.append_nil] at he1 hsp
    obtain ⟨d1, d2⟩ := hdn e he1
    rw [he2] at d1 d2
    rw [hct']
    have hne : ∀ e', e' ∈ post → e'.1 ≠ l := by
      intro e' he' hz'
      obtain ⟨a, b, hab⟩ := List.append_of_mem he'
      have := hown (done ++ a) b e' (by rw [List.append_assoc, ← hab]; exact hsp)
      unfold lnOf at this
      rw [List.any_eq_false] at this
      exact this e (List.mem_append_left _ he1) (by simp [he2, hz'])
    refine K M hF rfl ?_
    rw [h124 _ d1, d2, hop]
    unfold opA
    rw [← hsp, opP_app, opP_ne post _ hne]
  | cons e rest ih =>
    intro done post i op M so hsp hex hct hop hF h124 hdn hz K
    have hmem : e ∈ sLf s := by rw [← hsp]; exact List.mem_append_left _ (List.mem_append_right _ (List.mem_cons_self ..))
    obtain ⟨m1, m2, m3, m4, m5, m6⟩ := h7 e hmem
    have hpos := dp_pos m4
    have hrb : e.2.2.2 = i := hct.1
    have hown1 : lnOf done e.1 = false := hown done (rest ++ post) e (by rw [← hsp, List.append_assoc]; rfl)
    have hg : (sLf s)[done.length]? = some (e.1, e.2.1, e.2.2.1, e.2.2.2) := by
      rw [← hsp, List.append_assoc, List.getElem?_append_right (Nat.le_refl _), Nat.sub_self]; rfl
    have k8 := h8 _ _ _ _ _ hg
    have htk : (sLf s).take done.length = done := by rw [← hsp, List.append_assoc, List.take_append_of_le_length (Nat.le_refl _), List.take_length]
    have hle : ∀ (l2 : List LF) (b z : Nat), ctg b l2 z → b ≤ z := by
      intro l2
      induction l2 with
      | nil => intro b z h; have h' : b = z := h; omega
      | cons e2 l2 ih2 => intro b z h; have := ih2 _ _ h.2; omega
    have hle1 := hle rest _ _ hct.2
    have hrt : sRt s e.1 = i + e.2.1.length - 1 := by rw [m6, hrb]
    refine c_seg (n := sN s) (op := op) (rt := sRt s) hx (by omega) hn hc hrl.2 hrl.1 e.2.1 i [] M so 1 (by omega) (by have := hK.2.2.2.2.2.2.2.2.1 e hmem; rw [hrb] at this; exact this) hF h124 (fun a ha => absurd ha (by simp)) m4 (fun v hv => ?_) (fun v hv h16 => ?_) (fun M' so' a1 a2 a3 a4 a5 => ?_)
    · obtain ⟨l0, b1, -⟩ := k8.1 v hv
      exact okEl_B b1
    · obtain ⟨l0, b1, b2⟩ := k8.1 v hv
      have hlv : lnOf done v.2.toNat = true := by
        rcases b1 with ⟨x1, -⟩ | ⟨x1, -⟩ | ⟨-, x1 | x1 | x1⟩
        · rw [h16] at x1; exact absurd (by decide) x1
        · exact x1.elim
        · omega
        · omega
        · have := b2 _ x1.2.2.2
          rw [htk] at this; exact this
      unfold lnOf at hlv
      rw [List.any_eq_true] at hlv
      obtain ⟨e', y1, y2⟩ := hlv
      have y3 : e'.1 = v.2.toNat := by simpa using y2
      have := hdn e' y1
      rw [y3] at this; exact this
    · obtain ⟨T, hT⟩ := hst_head e.2.1 i [] (fun z => by rw [z] at hpos; exact absurd hpos (by decide))
      have hev : hd1 (evB (lfB x c op) e.2.1 []) = so' (sRt s e.1) := by
        have hlen := evB_len (n := sN s) (g := lfB x c op) (P := e.2.1) (m := 1) (fun v hv => by obtain ⟨l0, b1, -⟩ := k8.1 v hv; exact okEl_B b1) m4
        have a5' : (hst i [] e.2.1).map so' = evB (lfB x c op) e.2.1 [] := a5
        rw [hT, List.map_cons] at a5'
        rw [← a5'] at hlen ⊢
        rw [List.length_cons] at hlen
        have hnil : T.map so' = [] := List.eq_nil_of_length_eq_zero (by omega)
        rw [hnil, hrt]; rfl
      have hbe : (sLn s).testBit e.1 = true := by
        rw [hlo]; unfold lnOf; rw [List.any_eq_true]; exact ⟨e, hmem, by simp⟩
      have hop0 := hz e.1 hbe hown1
      have hop' : opP x c (done ++ [e]) (andN (2 ^ sN s - 1) (sLn s)) = if hd1 (evB (lfB x c op) e.2.1 []) = true then op ||| 2 ^ e.1 else op := by
        rw [opP_app, ← hop]; rfl
      have hbit : ∀ z, (opP x c (done ++ [e]) (andN (2 ^ sN s - 1) (sLn s))).testBit z = if z = e.1 then so' (sRt s e.1) else op.testBit z := by
        intro z
        rw [hop', hev]
        by_cases ez : z = e.1
        · rw [if_pos ez, ez]
          cases so' (sRt s e.1)
          · simp only [Bool.false_eq_true, if_false]; exact hop0
          · simp only [if_true]; rw [Nat.testBit_or, Nat.testBit_two_pow]; simp
        · rw [if_neg ez]
          cases so' (sRt s e.1)
          · rfl
          · simp only [if_true]; rw [Nat.testBit_or, Nat.testBit_two_pow]; simp; omega
      refine ih (done ++ [e]) post (i + e.2.1.length) _ M' so' (by rw [← hsp]; simp) ?_ hct.2 rfl a1 a3 (fun e' he' => ?_) (fun z z1 z2 => ?_) (fun M2 k1 k2 k3 => K M2 k1 (k2.trans a2) k3)
      · obtain ⟨e', y1, y2⟩ := hex
        exact ⟨e', by simpa using y1, y2⟩
      · rw [hbit]
        rcases mem_sn he' with y | y
        · have hne : e'.1 ≠ e.1 := by
            intro w
            have := hown1
            unfold lnOf at this
            rw [List.any_eq_false] at this
            exact this e' y (by simp [w])
          obtain ⟨d1, d2⟩ := hdn e' y
          rw [if_neg hne, a4 _ d1]
          exact ⟨by omega, d2⟩
        · rw [y, if_pos rfl]; exact ⟨by rw [hrt]; omega, rfl⟩
      · rw [hbit, lnOf_sn] at *
        have ez : z ≠ e.1 := fun w => by rw [w] at z2; simp at z2
        rw [if_neg ez]
        refine hz z z1 ?_
        cases hy : lnOf done z
        · rfl
        · rw [hy] at z2; simp at z2
end LAYM2
