/-! drunk, holds on both sides -/
abbrev TF : Type := Nat → Int
def dLat (m : Nat) (each : Int) (row : Nat) : Nat → Nat → TF → TF
  | 0, _, t => t
  | j + 1, l, t => dLat m each row j (l + 1) (if m.testBit l = true then upN t (row ^^^ 2 ^ l) (t (row ^^^ 2 ^ l) + each) else t)
def dOne (mv : Nat → Nat) (n : Nat) (g : TF) (k : Nat) (t : TF) : TF := if mv k = 0 then upN t k (t k + g k * 840) else dLat (mv k) (g k * Int.tdiv 840 (pop (mv k) : Int)) k n 0 t
def dRws (mv : Nat → Nat) (n : Nat) (g : TF) : Nat → Nat → TF → TF
  | 0, _, t => t
  | j + 1, k, t => dRws mv n g j (k + 1) (dOne mv n g k t)
def dIt (mv : Nat → Nat) (n : Nat) : Nat → TF → TF
  | 0, g => g
  | j + 1, g => dIt mv n j (dRws mv n g (2 ^ n) 0 (fun _ => 0))
def sm (t : TF) : Nat → Int
  | 0 => 0
  | N + 1 => sm t N + t N
theorem sm_up {t : TF} {k : Nat} {v : Int} : ∀ N, sm (upN t k (t k + v)) N = if k < N then sm t N + v else sm t N := by
  intro N
  induction N with
  | zero => rw [if_neg (by omega)]; rfl
  | succ N ih =>
    simp only [sm]
    rw [ih]
    by_cases e : N = k
    · subst e
      rw [upN_self, if_neg (by omega), if_pos (by omega)]; omega
    · rw [upN_ne _ _ e]
      by_cases c : k < N
      · rw [if_pos c, if_pos (by omega)]; omega
      · rw [if_neg c, if_neg (by omega)]
theorem sm_le {t : TF} (h : ∀ r, 0 ≤ t r) : ∀ N r, r < N → t r ≤ sm t N := by
  have h0 : ∀ N, 0 ≤ sm t N := by
    intro N
    induction N with
    | zero => exact Int.le_refl _
    | succ N ih => simp only [sm]; have := h N; omega
  intro N
  induction N with
  | zero => intro r hr; omega
  | succ N ih =>
    intro r hr
    simp only [sm]
    by_cases e : r = N
    · rw [e]; have := h0 N; omega
    · have := ih r (by omega); have := h N; omega
theorem sm_mono {t : TF} (h : ∀ r, 0 ≤ t r) {a b : Nat} (hab : a ≤ b) : sm t a ≤ sm t b := by
  obtain ⟨c, rfl⟩ : ∃ c, b = a + c := ⟨b - a, by omega⟩
  clear hab
  induction c with
  | zero => exact Int.le_refl _
  | succ c ih => show sm t a ≤ sm t (a + c) + t (a + c); have := h (a + c); omega
def TB (t : TF) (B : Int) : Prop := (∀ r, 0 ≤ t r) ∧ sm t 256 ≤ B
theorem TB.at {t : TF} {B : Int} (h : TB t B) {r : Nat} (hr : r < 256) : 0 ≤ t r ∧ t r ≤ B := ⟨h.1 r, Int.le_trans (sm_le h.1 256 r hr) h.2⟩
theorem TB.up {t : TF} {B v : Int} {k : Nat} (h : TB t B) (hk : k < 256) (hv : 0 ≤ v) : TB (upN t k (t k + v)) (B + v) := by
  refine ⟨fun r => ?_, ?_⟩
  · by_cases e : r = k
    · rw [e, upN_self]; have := h.1 k; omega
    · rw [upN_ne _ _ e]; exact h.1 r
  · rw [sm_up, if_pos hk]; have := h.2; omega
theorem TB.mono {t : TF} {B C : Int} (h : TB t B) (hc : B ≤ C) : TB t C := ⟨h.1, Int.le_trans h.2 hc⟩
theorem dLat_0 {m row : Nat} : ∀ (j l : Nat) (t : TF), dLat m 0 row j l t = t := by
  intro j
  induction j with
  | zero => intro l t; rfl
  | succ j ih =>
    intro l t
    simp only [dLat]
    rw [ih]
    split
    · funext i
      by_cases e : i = row ^^^ 2 ^ l
      · rw [e, upN_self, Int.add_zero]
      · rw [upN_ne _ _ e]
    · rfl
theorem dOne_0 {mv : Nat → Nat} {n k : Nat} {g t : TF} (h : g k = 0) : dOne mv n g k t = t := by
  unfold dOne
  rw [h, Int.zero_mul, Int.zero_mul, dLat_0]
  split
  · funext i
    by_cases e : i = k
    · rw [e, upN_self, Int.add_zero]
    · rw [upN_ne _ _ e]
  · rfl
theorem pop_pos {x : Nat} (h : x < 2 ^ 17) (hx : x ≠ 0) : 0 < pop x := by
  rcases Nat.eq_zero_or_pos (pop x) with z | z
  · exfalso
    apply hx
    have h1 := popN_sub (x := 0) (z := x) (fun i hi => by rw [Nat.zero_testBit] at hi; exact absurd hi (by decide)) 17
    have h2 : popN 17 0 = popN 17 x := by have : pop x = popN 17 x := rfl
                                          have : popN 17 0 = 0 := by decide
                                          omega
    apply Nat.eq_of_testBit_eq
    intro i
    by_cases c : i < 17
    · exact (h1.2 h2 i c).symm
    · rw [tb_ge h (by omega), Nat.zero_testBit]
  · exact z
theorem each_b {g : Int} {x : Nat} (hg : 0 ≤ g) (h : 0 < pop x) : 0 ≤ g * Int.tdiv 840 (pop x : Int) ∧ g * Int.tdiv 840 (pop x : Int) * (pop x : Int) ≤ 840 * g := by
  have e : Int.tdiv 840 (pop x : Int) = ((840 / pop x : Nat) : Int) := rfl
  rw [e]
  have h1 : 840 / pop x * pop x ≤ 840 := Nat.div_mul_le_self 840 _
  refine ⟨Int.mul_nonneg hg (Int.natCast_nonneg _), ?_⟩
  rw [Int.mul_assoc, Int.mul_comm 840 g]
  exact Int.mul_le_mul_of_nonneg_left (by rw [← Int.natCast_mul]; omega) hg
theorem popN_mono {x a b : Nat} (h : a ≤ b) : popN a x ≤ popN b x := by
  obtain ⟨c, rfl⟩ : ∃ c, b = a + c := ⟨b - a, by omega⟩
  clear h
  induction c with
  | zero => exact Nat.le_refl _
  | succ c ih => show popN a x ≤ popN (a + c) x + bt x (a + c); omega
/-- what is held all along a row's latches -/
theorem lat_b {n m l row : Nat} {each B : Int} {t : TF} (hn : n ≤ 8) (hl : l < n) (hrow : row < 2 ^ n) (he : 0 ≤ each) (h : TB t (B + each * (popN l m : Int))) : TB (if m.testBit l = true then upN t (row ^^^ 2 ^ l) (t (row ^^^ 2 ^ l) + each) else t) (B + each * (popN (l + 1) m : Int)) := by
  have hp := pw8 hn
  have hx := xor_lt hrow hl
  have e1 : popN (l + 1) m = popN l m + bt m l := rfl
  rw [e1, bt_tb]
  by_cases c : m.testBit l = true
  · rw [if_pos c, if_pos c]
    have := h.up (k := row ^^^ 2 ^ l) (by omega) he
    refine this.mono ?_
    rw [Int.natCast_add, Int.mul_add]
    simp
    omega
  · rw [if_neg c, if_neg c]
    exact h
theorem dLat_b {n m row : Nat} {each B : Int} (hn : n ≤ 8) (hrow : row < 2 ^ n) (he : 0 ≤ each) : ∀ (j l : Nat) (t : TF), l + j = n → TB t (B + each * (popN l m : Int)) → TB (dLat m each row j l t) (B + each * (popN n m : Int)) := by
  intro j
  induction j with
  | zero => intro l t hl h; have : l = n := by omega
            subst this; exact h
  | succ j ih => intro l t hl h; exact ih (l + 1) _ (by omega) (lat_b hn (by omega) hrow he h)
theorem dOne_b {mv : Nat → Nat} {n k : Nat} {g t : TF} (hn : n ≤ 8) (hk : k < 2 ^ n) (hg : ∀ r, 0 ≤ g r) (hm : mv k < 2 ^ n) (h : TB t (840 * sm g k)) : TB (dOne mv n g k t) (840 * sm g (k + 1)) := by
  have hp := pw8 hn
  have e : sm g (k + 1) = sm g k + g k := rfl
  have hgk := hg k
  unfold dOne
  by_cases c : mv k = 0
  · rw [if_pos c]
    refine (h.up (k := k) (v := g k * 840) (by omega) (by omega)).mono (by rw [e]; omega)
  · rw [if_neg c]
    have h17 : mv k < 2 ^ 17 := Nat.lt_of_lt_of_le hm (Nat.pow_le_pow_right (by decide) (by omega))
    have hb := each_b hgk (pop_pos h17 c)
    have e3 : popN n (mv k) = pop (mv k) := by
      have := popN_ext (m := n) (x := mv k) hm (17 - n)
      rw [show n + (17 - n) = 17 by omega] at this
      exact this.symm
    have := dLat_b (m := mv k) (row := k) (B := 840 * sm g k) hn hk hb.1 n 0 t (by omega) (by show TB t (_ + _ * ((0 : Nat) : Int)); simpa using h)
    refine this.mono ?_
    rw [e3, e, Int.mul_add]
    have := hb.2
    omega
theorem dRws_b {mv : Nat → Nat} {n : Nat} {g : TF} (hn : n ≤ 8) (hg : ∀ r, 0 ≤ g r) (hm : ∀ r, r < 2 ^ n → mv r < 2 ^ n) : ∀ (j k : Nat) (t : TF), k + j = 2 ^ n → TB t (840 * sm g k) → TB (dRws mv n g j k t) (840 * sm g (2 ^ n)) := by
  intro j
  induction j with
  | zero => intro k t hk h; have : k = 2 ^ n := by omega
            subst this; exact h
  | succ j ih => intro k t hk h; exact ih (k + 1) _ (by omega) (dOne_b hn (by omega) hg (hm k (by omega)) h)
theorem gcd_step (a b : Nat) : Nat.gcd a b = Nat.gcd b (a % b) := by rw [Nat.gcd_comm a b, Nat.gcd_rec b a, Nat.gcd_comm]
section DRUNK
variable {E : Scr} {law : Lw} {may : Nat → Nat} {rust : Int} {n : Nat} {y : YS}
theorem c_shared {f : Int → Mem → Prop} {M : Mem} : ∀ (b a : Nat), a < 2 ^ 62 → b < 2 ^ 62 → f ((Nat.gcd a b : Nat) : Int) M → KW E mX11_shared (qL f) M 0 [(0, pL (a : Int)), (2, pL (b : Int))] [] := by
  intro b
  induction b using Nat.strongRecOn with
  | _ b ih =>
    intro a ha hb H
    refine vX11_shared_0 _ _ ⟨⟨by omega, by omega⟩, fun c => ?_, fun c => ⟨⟨by omega, by omega⟩, ⟨by omega, by omega⟩, c, ?_⟩⟩
    · have : b = 0 := by omega
      subst this
      rw [Nat.gcd_zero_right] at H
      exact H
    · rw [← Int.ofNat_tmod]
      have hlt : a % b < b := Nat.mod_lt _ (by omega)
      exact ih (a % b) hlt b hb (by omega) (by rw [← gcd_step]; exact H)
theorem c_inLeast {f : Int → Mem → Prop} {M : Mem} {above below : Nat} {x : Int} (hx : x = 0 ∨ x = 1) (ha : above < 2 ^ 49) (hb : 0 < below ∧ below < 2 ^ 62) (H : f (Int.tdiv (if x = 0 then (above : Int) else (below : Int)) ((Nat.gcd below above : Nat) : Int)) M) : CL E mX10_inLeastTerms [pL (above : Int), pL (below : Int), pI x] M f := by
  have hgp : 0 < Nat.gcd below above := Nat.gcd_pos_of_pos_left _ hb.1
  have hgl : Nat.gcd below above ≤ below := Nat.gcd_le_left _ hb.1
  have fin : ∀ a : Nat, a = Nat.gcd below above → (lR (a : Int)) ∧ (((a : Int) ≠ 0 → (iR x) ∧ ((x ≠ 0 → (lR (below : Int)) ∧ (lR (a : Int)) ∧ ((a : Int) ≠ 0) ∧ f (Int.tdiv (below : Int) (a : Int)) M) ∧ (x = 0 → (lR (above : Int)) ∧ (lR (a : Int)) ∧ ((a : Int) ≠ 0) ∧ f (Int.tdiv (above : Int) (a : Int)) M))) ∧ ((a : Int) = 0 → f (-1) M)) := by
    intro a e
    rw [e]
    refine ⟨⟨by omega, by omega⟩, fun _ => ⟨⟨by omega, by omega⟩, fun c => ⟨⟨by omega, by omega⟩, ⟨by omega, by omega⟩, by omega, ?_⟩, fun c => ⟨⟨by omega, by omega⟩, ⟨by omega, by omega⟩, by omega, ?_⟩⟩, fun z => by omega⟩
    · rw [if_neg c] at H; exact H
    · rw [if_pos c] at H; exact H
  have loop : ∀ (k i a b : Nat), b < 2 ^ k → k ≤ 49 → i + 2 * k ≤ 100 → a < 2 ^ 62 → Nat.gcd a b = Nat.gcd below above → KW E mX10_inLeastTerms (qL f) M 9 [(0, pL (above : Int)), (2, pL (below : Int)), (4, pI x), (5, pL (a : Int)), (7, pL (b : Int)), (9, pI (i : Int))] [] := by
    intro k
    induction k with
    | zero =>
      intro i a b h1 h1' h2 h3 h4
      have : b = 0 := by simpa using h1
      subst this
      rw [Nat.gcd_zero_right] at h4
      exact vX10_inLeastTerms_9 _ _ _ _ _ _ ⟨⟨by omega, by omega⟩, fun _ => fin a h4, fun _ => ⟨⟨by omega, by omega⟩, fun _ => fin a h4, fun z => absurd rfl z⟩⟩
    | succ k ih =>
      intro i a b h1 h1' h2 h3 h4
      have hbb : b < 2 ^ 62 := Nat.lt_of_lt_of_le h1 (Nat.pow_le_pow_right (by decide) (by omega))
      refine vX10_inLeastTerms_9 _ _ _ _ _ _ ⟨⟨by omega, by omega⟩, fun z => absurd z (by omega), fun _ => ⟨⟨by omega, by omega⟩, fun c => ?_, fun c => ⟨⟨by omega, by omega⟩, ⟨by omega, by omega⟩, c, ?_⟩⟩⟩
      · have : b = 0 := by omega
        subst this
        rw [Nat.gcd_zero_right] at h4
        exact fin a h4
      · rw [← Int.ofNat_tmod]
        have hlt : a % b < b := Nat.mod_lt _ (by omega)
        rw [gcd_step] at h4
        refine vX10_inLeastTerms_9 _ _ _ _ _ _ ⟨⟨by omega, by omega⟩, fun z => absurd z (by omega), fun _ => ⟨⟨by omega, by omega⟩, fun c2 => ?_, fun c2 => ⟨⟨by omega, by omega⟩, ⟨by omega, by omega⟩, c2, ?_⟩⟩⟩
        · have e : a % b = 0 := by omega
          rw [e, Nat.gcd_zero_right] at h4
          exact fin b h4
        · rw [← Int.ofNat_tmod]
          have hlt2 : b % (a % b) < a % b := Nat.mod_lt _ (by omega)
          rw [gcd_step] at h4
          have e3 := Nat.div_add_mod b (a % b)
          have e4 : 1 ≤ b / (a % b) := Nat.div_pos (by omega) (by omega)
          have e5 : a % b * 1 ≤ a % b * (b / (a % b)) := Nat.mul_le_mul_left _ e4
          have hp2 : 2 ^ (k + 1) = 2 * 2 ^ k := by rw [Nat.pow_succ, Nat.mul_comm]
          have := ih (i + 2) (a % b) (b % (a % b)) (by omega) (by omega) (by omega) (by omega) h4
          exact this
  have hbl : above < 2 ^ 49 := ha
  exact vX10_inLeastTerms_0 _ _ _ (loop 49 0 below above ha (Nat.le_refl _) (by omega) hb.2 rfl)
theorem c_power {f : Int → Mem → Prop} {M : Mem} {b : Int} {m : Nat} (hm : m ≤ 6) (H : f (b ^ m) M) : CL E mX10_power [pL b, pI (m : Int)] M f := by
  have loop : ∀ (j k : Nat), k + j = m → KW E mX10_power (qL f) M 5 [(0, pL b), (2, pI (m : Int)), (3, pL (b ^ k)), (5, pI (k : Int))] [] := by
    intro j
    induction j with
    | zero =>
      intro k hk
      have : k = m := by omega
      subst this
      exact vX10_power_5 _ _ _ _ ⟨⟨by omega, by omega⟩, ⟨by omega, by omega⟩, fun _ => H, fun z => absurd z (by omega)⟩
    | succ j ih =>
      intro k hk
      refine vX10_power_5 _ _ _ _ ⟨⟨by omega, by omega⟩, ⟨by omega, by omega⟩, fun z => absurd z (by omega), fun _ => ?_⟩
      rw [← Int.pow_succ]
      exact ih (k + 1) (by omega)
  have h0 := loop m 0 (Nat.zero_add _)
  rw [Int.pow_zero] at h0
  exact vX10_power_0 _ _ h0
end DRUNK
def frcY (above below : Int) (x : Int) : Int := Int.tdiv (if x = 0 then above else below) ((Nat.gcd below.toNat above.toNat : Nat) : Int)
def holY (rust : Int) (k x : Int) : Int := if 0 ≤ k ∧ k ≤ 6 ∧ 0 ≤ x ∧ x ≤ 1 then frcY ((100 - rust) ^ k.toNat) (100 ^ k.toNat) x else -1
theorem pow_b {b c : Int} (hb : 0 ≤ b ∧ b ≤ c) : ∀ m : Nat, 0 ≤ b ^ m ∧ b ^ m ≤ c ^ m := by
  intro m
  induction m with
  | zero => rw [Int.pow_zero, Int.pow_zero]; exact ⟨by decide, by decide⟩
  | succ m ih =>
    rw [Int.pow_succ, Int.pow_succ]
    exact ⟨Int.mul_nonneg ih.1 hb.1, Int.mul_le_mul ih.2 hb.2 hb.1 (by omega)⟩
section HOLDS
variable {E : Scr} {law : Lw} {may : Nat → Nat} {rust : Int} {n : Nat} {y : YS}
theorem p100 {m : Nat} (h : m ≤ 6) : (0 : Int) < 100 ^ m ∧ (100 : Int) ^ m ≤ 1000000000000 := by
  have : ∀ m, m ≤ 6 → (0 : Int) < 100 ^ m ∧ (100 : Int) ^ m ≤ 1000000000000 := by decide
  exact this m h
theorem p840 {m : Nat} (h : m ≤ 5) : (0 : Int) < 840 ^ m ∧ (840 : Int) ^ m ≤ 418211942400000 := by
  have : ∀ m, m ≤ 5 → (0 : Int) < 840 ^ m ∧ (840 : Int) ^ m ≤ 418211942400000 := by decide
  exact this m h
theorem c_holdsC {f : Int → Mem → Prop} {M : Mem} {k x : Int} (hk : iR k) (hx : iR x) (h15 : M 21 15 = rust) (hr : 0 ≤ rust ∧ rust ≤ 100) (H : f (holY rust k x) M) : CL E mX10_holds [pR 0, pI k, pI x] M f := by
  unfold holY at H
  apply vX10_holds_0
  rw [h15]
  refine ⟨hk, fun c => ?_, fun c => ⟨hk, fun c2 => ?_, fun c2 => ⟨hx, fun c3 => ?_, fun c3 => ⟨hx, fun c4 => fun _ => ⟨⟨by omega, by omega⟩, ?_⟩, fun c4 => ?_⟩⟩⟩⟩
  · rw [if_neg (by omega)] at H; exact H
  · rw [if_neg (by omega)] at H; exact H
  · rw [if_neg (by omega)] at H; exact H
  · rw [if_pos ⟨by omega, by omega, by omega, by omega⟩] at H
    obtain ⟨m, hm⟩ : ∃ m : Nat, k = (m : Int) := ⟨k.toNat, by omega⟩
    subst hm
    rw [Int.toNat_natCast] at H
    have hb := pow_b (b := 100 - rust) (c := 100) ⟨by omega, by omega⟩ m
    have h1 := p100 (m := m) (by omega)
    refine c_power (by omega) (c_power (by omega) ?_)
    unfold frcY at H
    generalize (100 - rust) ^ m = A at hb H
    generalize (100 : Int) ^ m = B at hb H h1
    obtain ⟨a, ea⟩ : ∃ a : Nat, A = (a : Int) := ⟨A.toNat, by omega⟩
    obtain ⟨b, eb⟩ : ∃ b : Nat, B = (b : Int) := ⟨B.toNat, by omega⟩
    subst ea; subst eb
    rw [Int.toNat_natCast, Int.toNat_natCast] at H
    exact c_inLeast (by omega) (by omega) ⟨by omega, by omega⟩ H
  · rw [if_neg (by omega)] at H; exact H
theorem c_holdsM {f : Int → Mem → Prop} {M : Mem} {k x : Int} (hk : iR k) (hx : iR x) (h0 : M 102 0 = rust) (hr : 0 ≤ rust ∧ rust ≤ 100) (H : f (holY rust k x) (upM M 98 2 0)) : CL E mX11_holds [pR 98, pI k, pI x] M f := by
  unfold holY at H
  refine vX11_holds_0 _ _ (c_isIn hk ⟨by decide, by decide⟩ ⟨by decide, by decide⟩ (fun c => ⟨⟨by decide, by decide⟩, fun z => absurd z (by decide), fun _ => c_isIn hx ⟨by decide, by decide⟩ ⟨by decide, by decide⟩ (fun c2 => ⟨⟨by decide, by decide⟩, fun _ => ?_, fun z => absurd z (by decide)⟩) (fun c2 => ⟨⟨by decide, by decide⟩, fun z => absurd rfl z, fun _ => ?_⟩)⟩) (fun c => ⟨⟨by decide, by decide⟩, fun _ => ?_, fun z => absurd rfl z⟩))
  · rw [if_pos ⟨by omega, by omega, by omega, by omega⟩] at H
    obtain ⟨m, hm⟩ : ∃ m : Nat, k = (m : Int) := ⟨k.toNat, by omega⟩
    subst hm
    rw [Int.toNat_natCast] at H
    have loop : ∀ (j i : Nat), i + j = m → KW E mX11_holds (qL f) (upM M 98 2 0) 36 [(0, pR 98), (1, pI (m : Int)), (2, pI x), (3, pL ((100 - rust) ^ i)), (5, pL (100 ^ i)), (7, pI (i : Int))] [] := by
      intro j
      induction j with
      | zero =>
        intro i hi
        have : i = m := by omega
        subst this
        have hb := pow_b (b := 100 - rust) (c := 100) ⟨by omega, by omega⟩ i
        have h1 := p100 (m := i) (by omega)
        apply vX11_holds_36
        unfold frcY at H
        generalize (100 - rust) ^ i = A at hb H
        generalize (100 : Int) ^ i = B at hb H h1
        obtain ⟨a, ea⟩ : ∃ a : Nat, A = (a : Int) := ⟨A.toNat, by omega⟩
        obtain ⟨b, eb⟩ : ∃ b : Nat, B = (b : Int) := ⟨B.toNat, by omega⟩
        subst ea; subst eb
        rw [Int.toNat_natCast, Int.toNat_natCast] at H
        have hgp : 0 < Nat.gcd b a := Nat.gcd_pos_of_pos_left _ (by omega)
        have hgl : Nat.gcd b a ≤ b := Nat.gcd_le_left _ (by omega)
        refine ⟨⟨by omega, by omega⟩, ⟨by omega, by omega⟩, fun _ => vX11_shared_in _ _ (c_shared a b (by omega) (by omega) ⟨hx, fun c3 => ⟨⟨by omega, by omega⟩, ⟨by omega, by omega⟩, by omega, ?_⟩, fun c3 => ⟨⟨by omega, by omega⟩, ⟨by omega, by omega⟩, by omega, ?_⟩⟩), fun z => absurd z (by omega)⟩
        · rw [if_neg c3] at H; exact H
        · rw [if_pos c3] at H; exact H
      | succ j ih =>
        intro i hi
        apply vX11_holds_36
        rw [upM_ne _ _ _ (by decide), h0]
        refine ⟨⟨by omega, by omega⟩, ⟨by omega, by omega⟩, fun z => absurd z (by omega), fun _ _ => ⟨⟨by omega, by omega⟩, ?_⟩⟩
        rw [← Int.pow_succ, ← Int.pow_succ]
        exact ih (i + 1) (by omega)
    have h00 := loop m 0 (Nat.zero_add _)
    rw [Int.pow_zero, Int.pow_zero] at h00
    exact h00
  · rw [if_neg (by omega)] at H; exact H
  · rw [if_neg (by omega)] at H; exact H
end HOLDS
