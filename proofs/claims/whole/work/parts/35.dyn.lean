/-! what is done by a push, by a minute: the numbers alone -/
abbrev DS : Type := Int × Nat × Nat × Int × Int × Int × (Nat → Int)
abbrev dMi (d : DS) : Int := d.1
abbrev dRo (d : DS) : Nat := d.2.1
abbrev dSe (d : DS) : Nat := d.2.2.1
abbrev dEf (d : DS) : Int := d.2.2.2.1
abbrev dVa (d : DS) : Int := d.2.2.2.2.1
abbrev dNu (d : DS) : Int := d.2.2.2.2.2.1
abbrev dWo (d : DS) : Nat → Int := d.2.2.2.2.2.2
abbrev Lw : Type := Nat → (Nat → Int) → Option Int
def envD (d : DS) (l : Nat) : Nat → Int := fun j => match j with
  | 0 => dWo d l
  | 1 => (l : Int)
  | 2 => ((pop (dRo d) : Nat) : Int)
  | 3 => ((pop (dSe d) : Nat) : Int)
  | 4 => ((bt (dRo d) l : Nat) : Int)
  | 5 => dEf d
  | _ => dMi d
def clampI (most v : Int) : Int := max 0 (min most v)
def lawB (law : Lw) (k : Nat) (env : Nat → Int) (wo most : Int) : Int := match law k env with
  | none => wo
  | some v => clampI most v
/-- what is tried otherwise: numbers drawn, nothing sealed, nothing leans, no oil, twice, who isn't pushed -/
abbrev Op : Type := Bool × Bool × Bool × Bool × Bool × Int
abbrev oDr (o : Op) : Bool := o.1
abbrev oNs (o : Op) : Bool := o.2.1
abbrev oNl (o : Op) : Bool := o.2.2.1
abbrev oNo (o : Op) : Bool := o.2.2.2.1
abbrev oTw (o : Op) : Bool := o.2.2.2.2.1
abbrev oId (o : Op) : Int := o.2.2.2.2.2
/-- moved: row, effort, worn -/
def movF (law : Lw) (d : DS) (l : Nat) : DS := (dMi d, dRo d ^^^ 2 ^ l, dSe d, min (dEf d + lawB law 0 (envD d l) 1 999) 99999, dVa d, dNu d, va_up (dWo d) l (min (dWo d l + 1) 999))
def sealQ (law : Lw) (d : DS) (l : Nat) : Bool := match law 1 (envD d l) with
  | none => false
  | some v => decide (v ≠ 0)
/-- whether it rusts, and the number then -/
def eatF (o : Op) (odds nu : Int) : Bool × Int :=
  if odds ≥ 100 then (true, nu) else if odds ≤ 0 then (false, nu) else if oDr o then (decide (drawN nu / 65536 % 100 < odds), drawN nu) else (decide (odds ≥ 50), nu)
def slF (d : DS) (l : Nat) (b : Bool) (nu : Int) : DS := (dMi d, dRo d, if b then dSe d ||| 2 ^ l else dSe d, dEf d, dVa d, nu, dWo d)
def canB (o : Op) (may : Nat → Nat) (d : DS) (l : Nat) : Bool := (oNl o || (may (dRo d)).testBit l) && !(dSe d).testBit l
def pushF (o : Op) (law : Lw) (may : Nat → Nat) (rust : Int) (d : DS) (l : Nat) : Bool × DS :=
  if canB o may d l then
    let d1 := movF law d l
    if oNs o then (true, d1) else
      let e := eatF o (lawB law 2 (envD d1 l) rust 100) (dNu d1)
      (true, slF d1 l (sealQ law d1 l || e.1) e.2)
  else (false, d)
/-- the numbers stay within what an int bears -/
def wfD (n : Nat) (d : DS) : Prop := dRo d < 2 ^ n ∧ dSe d < 2 ^ n ∧ (0 ≤ dEf d ∧ dEf d ≤ 99999) ∧ (0 ≤ dMi d ∧ dMi d ≤ 10000) ∧ (0 ≤ dNu d ∧ dNu d < 2147483648) ∧ ∀ i, i < 8 → 0 ≤ dWo d i ∧ dWo d i ≤ 999
theorem xor_lt {n x l : Nat} (hx : x < 2 ^ n) (hl : l < n) : x ^^^ 2 ^ l < 2 ^ n := Nat.xor_lt_two_pow hx (Nat.pow_lt_pow_right (by decide) hl)
theorem or_lt {n x l : Nat} (hx : x < 2 ^ n) (hl : l < n) : x ||| 2 ^ l < 2 ^ n := Nat.or_lt_two_pow hx (Nat.pow_lt_pow_right (by decide) hl)
theorem clampI_b {most v : Int} (h : 0 ≤ most) : 0 ≤ clampI most v ∧ clampI most v ≤ most := by unfold clampI; omega
theorem lawB_b {law : Lw} {k : Nat} {env : Nat → Int} {wo most : Int} (h : 0 ≤ most) (hw : 0 ≤ wo ∧ wo ≤ most) : 0 ≤ lawB law k env wo most ∧ lawB law k env wo most ≤ most := by
  unfold lawB
  split
  · exact hw
  · exact clampI_b h
theorem wfD_mov {law : Lw} {n l : Nat} {d : DS} (h : wfD n d) (hl : l < n) : wfD n (movF law d l) := by
  obtain ⟨h1, h2, h3, h4, h5, h6⟩ := h
  have hb := lawB_b (law := law) (k := 0) (env := envD d l) (wo := 1) (most := 999) (by decide) ⟨by decide, by decide⟩
  refine ⟨xor_lt h1 hl, h2, ?_, h4, h5, fun i hi => ?_⟩
  · show 0 ≤ min _ _ ∧ min _ _ ≤ 99999
    omega
  · have := h6 i hi
    show 0 ≤ va_up (dWo d) l _ i ∧ va_up (dWo d) l _ i ≤ 999
    by_cases hil : i = l
    · subst hil; rw [va_up_self]; omega
    · rw [va_up_neq _ _ hil]; exact this
theorem drawN_b (x : Int) : 0 ≤ drawN x ∧ drawN x < 2147483648 := by unfold drawN; omega
theorem eatF_b {o : Op} {odds nu : Int} (h : 0 ≤ nu ∧ nu < 2147483648) : 0 ≤ (eatF o odds nu).2 ∧ (eatF o odds nu).2 < 2147483648 := by
  have := drawN_b nu
  unfold eatF
  split
  · exact h
  · split
    · exact h
    · split
      · exact this
      · exact h
theorem wfD_sl {n l : Nat} {d : DS} {b : Bool} {nu : Int} (h : wfD n d) (hl : l < n) (hn : 0 ≤ nu ∧ nu < 2147483648) : wfD n (slF d l b nu) := by
  obtain ⟨h1, h2, h3, h4, h5, h6⟩ := h
  refine ⟨h1, ?_, h3, h4, hn, h6⟩
  show (if b then dSe d ||| 2 ^ l else dSe d) < 2 ^ n
  split
  · exact or_lt h2 hl
  · exact h2
theorem wfD_push {o : Op} {law : Lw} {may : Nat → Nat} {rust : Int} {n l : Nat} {d : DS} (h : wfD n d) (hl : l < n) : wfD n (pushF o law may rust d l).2 := by
  unfold pushF
  split
  · have h1 := wfD_mov (law := law) h hl
    dsimp only
    split
    · exact h1
    · exact wfD_sl h1 hl (eatF_b h1.2.2.2.2.1)
  · exact h
/-! the reference's state: its rows at place b -/
def vM (b : Nat) (d : DS) (M : Mem) : Prop := M 129 b = dMi d ∧ M 125 b = (dRo d : Int) ∧ M 126 b = (dSe d : Int) ∧ M 127 b = dEf d ∧ M 128 b = dVa d ∧ M 98 59 = dNu d ∧ ∀ i, i < 8 → M 130 (8 * b + i) = dWo d i
/-- the reference's laws -/
def LwM (law : Lw) (M : Mem) : Prop := ∀ k, k < 3 → (M 113 k = 0 ∧ ∀ env, law k env = none) ∨ (M 113 k = 1 ∧ ∃ lo hi : Nat, lo < hi ∧ hi ≤ 64 ∧ M 114 k = (lo : Int) ∧ M 115 k = (hi : Int) ∧ (∀ q, lo ≤ q → q < hi → wfN lo q (M 116 q) (M 117 q) (M 118 q)) ∧ ∀ env vs0, (rnM (M 116) (M 117) (M 118) env (hi - lo) lo vs0).map (fun vs => vs (hi - 1)) = law k env)
theorem LwM.congr {law : Lw} {M M' : Mem} (h : LwM law M) (h3 : M' 113 = M 113) (h4 : M' 114 = M 114) (h5 : M' 115 = M 115) (h6 : M' 116 = M 116) (h7 : M' 117 = M 117) (h8 : M' 118 = M 118) : LwM law M' := by
  unfold LwM
  rw [h3, h4, h5, h6, h7, h8]
  exact h
theorem c_lay {E : Scr} {f : Mem → Prop} {M : Mem} {b l n : Nat} {d : DS} (hb : b < 2) (hl : l < n) (hn : n ≤ 8) (hw : wfD n d) (hv : vM b d M) (h : ∀ M', (∀ a, a ≠ 121 → M' a = M a) → (∀ j, j < 7 → M' 121 j = envD d l j) → f M') : CV E mX11_lay [pR 98, pI (b : Int), pI (l : Int)] M f := by
  obtain ⟨v1, v2, v3, v4, v5, v6, v7⟩ := hv
  have hp := pw8 hn
  have e1 : ((8 : Int) * (b : Int) + (l : Int)).toNat = 8 * b + l := by omega
  apply vX11_lay_0
  rw [e1, Int.toNat_natCast, v2, v7 l (by omega)]
  have hw6 := hw.2.2.2.2.2 l (by omega)
  have hbt := bt_lt (dRo d) l
  have hin2 : (0 : Int) ≤ (b : Int) ∧ (b : Int) < 2 := ⟨by omega, by omega⟩
  refine ⟨⟨by omega, by omega⟩, fun _ => ⟨⟨by omega, by omega⟩, hin2, fun _ => ?_⟩⟩
  refine c_manyOf (by have := hw.1; omega) ?_
  have hp1 : pop (dRo d) ≤ 17 := popN_le 17 _
  have hp2 : pop (dSe d) ≤ 17 := popN_le 17 _
  refine ⟨⟨by omega, by omega⟩, hin2, fun _ => ?_⟩
  rw [show (upM (upM M 121 0 (dWo d l)) 121 1 (l : Int)) 126 b = M 126 b from rfl, v3]
  refine c_manyOf (by have := hw.2.1; omega) ?_
  refine ⟨⟨by omega, by omega⟩, hin2, fun _ => ⟨hin2, fun _ => ⟨hin2, fun _ => ?_⟩⟩⟩
  refine h _ ?_ ?_
  · intro a ha
    rw [upM_ne _ _ _ ha, upM_ne _ _ _ ha, upM_ne _ _ _ ha, upM_ne _ _ _ ha, upM_ne _ _ _ ha, upM_ne _ _ _ ha, upM_ne _ _ _ ha]
  · intro j hj
    match j, hj with
    | 0, _ => rfl
    | 1, _ => rfl
    | 2, _ => rfl
    | 3, _ => rfl
    | 4, _ =>
      show bAnd (bShr (M 125 b) (l : Int)) 1 = _
      rw [v2, bBit_nat (by have := hw.1; omega) (by omega)]
      rfl
    | 5, _ => exact v4
    | 6, _ => exact v1
/-- names beyond the seventh aren't asked -/
theorem ndM_ext {lo i : Nat} {kn pa ot : Int} {e1 e2 vs : Nat → Int} (hw : wfN lo i kn pa ot) (he : ∀ j, j < 7 → e1 j = e2 j) : ndM kn pa ot e1 vs = ndM kn pa ot e2 vs := by
  unfold ndM
  by_cases h0 : kn = 0
  · rw [if_pos h0, if_pos h0]
  · rw [if_neg h0, if_neg h0]
    by_cases h1 : kn = 1
    · rw [if_pos h1, if_pos h1]
      rcases hw with w | w | w | w
      · exact absurd w.1 h0
      · rw [he _ (by omega)]
      · exact absurd (h1.symm.trans w.1) (by decide)
      · exact absurd h1 (by omega)
    · rw [if_neg h1, if_neg h1]
theorem rnM_ext {lo : Nat} {kn pa ot e1 e2 : Nat → Int} (he : ∀ j, j < 7 → e1 j = e2 j) : ∀ (j i : Nat) (vs : Nat → Int), (∀ q, i ≤ q → q < i + j → wfN lo q (kn q) (pa q) (ot q)) → rnM kn pa ot e1 j i vs = rnM kn pa ot e2 j i vs := by
  intro j
  induction j with
  | zero => intro i vs _; rfl
  | succ j ih =>
    intro i vs hw
    simp only [rnM, ndM_ext (hw i (Nat.le_refl _) (by omega)) he]
    split
    · exact ih (i + 1) _ (fun q h1 h2 => hw q (by omega) (by omega))
    · rfl
theorem LwM.ext {law : Lw} {M : Mem} (h : LwM law M) {k : Nat} (hk : k < 3) {e1 e2 : Nat → Int} (he : ∀ j, j < 7 → e1 j = e2 j) : law k e1 = law k e2 := by
  rcases h k hk with ⟨-, h2⟩ | ⟨-, lo, hi, h1, h2, h3, h4, h5, h6⟩
  · rw [h2, h2]
  · rw [← h6 e1 (fun _ => 0), ← h6 e2 (fun _ => 0), rnM_ext he _ _ _ (fun q a1 a2 => h5 q a1 (by omega))]
/-- the law k at names that lie in the row 121 -/
theorem c_lawV {E : Scr} {f : Int → Mem → Prop} {law : Lw} {k : Nat} {M : Mem} {env : Nat → Int} (hk : k < 3) (hL : LwM law M) (htold : M 113 k ≠ 0) (henv : ∀ q, q < 7 → Bd (env q)) (he : ∀ j, j < 7 → M 121 j = env j)
    (H0 : ∀ M' v, FrL M M' → M' 98 50 = 0 → Bd v → law k env = some v → f v M') (H1 : ∀ M', FrL M M' → M' 98 50 = 1 → law k env = none → f 0 M') : CL E mX11_lawOf [pR 98, pI (k : Int)] M f := by
  rcases hL k hk with ⟨h1, h2⟩ | ⟨h0, lo, hi, h1, h2, h3, h4, h5, h6⟩
  · exact absurd h1 htold
  · have hx := hL.ext hk (e1 := M 121) (e2 := env) he
    refine c_lawOf hk h2 h1 h5 (fun q hq => by rw [he q hq]; exact henv q hq) h3 h4 ?_ ?_
    · intro M' vs a1 a2 a3 a4
      refine H0 M' _ a1 a2 a3 ?_
      rw [← hx, ← h6 (M 121) (M 122), a4]; rfl
    · intro M' a1 a2 a4
      refine H1 M' a1 a2 ?_
      rw [← hx, ← h6 (M 121) (M 122), a4]; rfl
theorem c_boundLaw {E : Scr} {f : Int → Mem → Prop} {law : Lw} {k : Nat} {M : Mem} {env : Nat → Int} {wo most : Int} (hk : k < 3) (hL : LwM law M) (henv : ∀ q, q < 7 → Bd (env q)) (he : ∀ j, j < 7 → M 121 j = env j) (hm : 0 ≤ most ∧ most < 1000) (H : ∀ M', FrL M M' → f (lawB law k env wo most) M') : CI E mX11_boundLaw [pR 98, pI (k : Int), pI wo, pI most] M f := by
  apply vX11_boundLaw_0
  rw [Int.toNat_natCast]
  refine ⟨⟨by omega, by omega⟩, fun _ => ⟨fun c => ?_, fun c => ?_⟩⟩
  · refine c_lawV hk hL c henv he ?_ ?_
    · intro M' v a1 a2 a3 a4
      have hv := H M' a1
      unfold lawB clampI at hv
      rw [a4] at hv
      dsimp only at hv
      intro _
      refine ⟨fun _ => ⟨⟨by omega, by omega⟩, fun g => ⟨⟨by omega, by omega⟩, ⟨by omega, by omega⟩, fun y => ⟨⟨by omega, by omega⟩, ?_⟩, fun y => ?_⟩, fun g => ?_⟩, fun z => absurd a2 z⟩
      · rwa [show max 0 (min most v) = v by omega] at hv
      · rwa [show max 0 (min most v) = most by omega] at hv
      · rwa [show max 0 (min most v) = 0 by omega] at hv
    · intro M' a1 a2 a4
      have hv := H M' a1
      unfold lawB at hv
      rw [a4] at hv
      intro _
      exact ⟨fun z => absurd (a2.symm.trans z) (by decide), fun _ => hv⟩
  · rcases hL k hk with ⟨h1, h2⟩ | ⟨h0, _⟩
    · have hv := H M (FrL.rf M)
      unfold lawB at hv
      rw [h2] at hv
      exact hv
    · exact absurd (c.symm.trans h0) (by decide)
