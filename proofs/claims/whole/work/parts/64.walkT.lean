/-! the walk: what is farther comes later, all is met, each row met has one ahead of it -/
def BT (nev : Int) (can : Nat → Nat) (n s k l : Nat) (b : BS) : Prop :=
  (∀ i j, i ≤ j → j < bC b → bF b (bM b i) ≤ bF b (bM b j)) ∧
  (∀ j, j < bC b → k < bC b → bF b (bM b j) ≤ bF b (bM b k) + 1) ∧
  (∀ i q, i < bC b → q < n → (i < k ∨ i = k ∧ q < l) → (can (bM b i)).testBit q = true → ((bM b i ^^^ 2 ^ q : Nat) : Int) ≠ nev → bF b (bM b i ^^^ 2 ^ q) ≠ -1 ∧ bF b (bM b i ^^^ 2 ^ q) ≤ bF b (bM b i) + 1) ∧
  (∀ r, bF b r ≠ -1 → (r = s ∧ bF b r = 0) ∨ ∃ p q, q < n ∧ bF b p ≠ -1 ∧ (can p).testBit q = true ∧ r = p ^^^ 2 ^ q ∧ (r : Int) ≠ nev ∧ bF b r = bF b p + 1) ∧
  bF b s = 0
def Ext (b c : BS) : Prop := (∀ r, bF b r ≠ -1 → bF c r = bF b r) ∧ (∀ i, i < bC b → bM c i = bM b i) ∧ bC b ≤ bC c
theorem Ext.rf (b : BS) : Ext b b := ⟨fun _ _ => rfl, fun _ _ => rfl, Nat.le_refl _⟩
theorem Ext.tr {b c d : BS} (h1 : Ext b c) (h2 : Ext c d) : Ext b d := ⟨fun r hr => by have := h1.1 r hr; rw [h2.1 r (by rw [this]; exact hr), this], fun i hi => by rw [h2.2.1 i (by have := h1.2.2; omega), h1.2.1 i hi], Nat.le_trans h1.2.2 h2.2.2⟩
section WALKT
variable {n : Nat} {nev : Int} {can : Nat → Nat} {s : Nat}
theorem bVis_ext {cr row l : Nat} {b : BS} : Ext b (bVis nev cr row l b) := by
  unfold bVis
  split
  · rename_i c
    refine ⟨fun r hr => ?_, fun i hi => ?_, Nat.le_succ _⟩
    · show upN (bF b) _ _ r = _
      rw [upN_ne]
      intro e
      rw [e] at hr
      exact hr c.2.2
    · show upN (bM b) _ _ i = _
      rw [upN_ne _ _ (by omega)]
  · exact Ext.rf b
theorem bRow_extb {cr row : Nat} : ∀ (j l : Nat) (b : BS), Ext b (bRow nev cr row j l b) := by
  intro j
  induction j with
  | zero => intro l b; exact Ext.rf b
  | succ j ih => intro l b; exact bVis_ext.tr (ih (l + 1) _)
theorem bGo_extb : ∀ (j k : Nat) (b : BS), Ext b (bGo nev can n j k b) := by
  intro j
  induction j with
  | zero => intro k b; exact Ext.rf b
  | succ j ih =>
    intro k b
    simp only [bGo]
    split
    · exact (bRow_extb n 0 b).tr (ih (k + 1) _)
    · exact Ext.rf b
theorem BT.vis {k l : Nat} {b : BS} (hb : BI n b) (hk : k < bC b) (hl : l < n) (h : BT nev can n s k l b) : BT nev can n s k (l + 1) (bVis nev (can (bM b k)) (bM b k) l b) := by
  obtain ⟨h1, h2, h3, h4, h5⟩ := h
  have hr := hb.2.2.2.1 k hk
  unfold bVis
  split
  · rename_i c
    generalize hto : bM b k ^^^ 2 ^ l = to at c
    have A : ∀ i, i < bC b → upN (bM b) (bC b) to i = bM b i := fun i hi => upN_ne _ _ (by omega)
    have B : ∀ r, bF b r ≠ -1 → upN (bF b) to (bF b (bM b k) + 1) r = bF b r := fun r hr => by
      rw [upN_ne]
      intro e
      rw [e] at hr
      exact hr c.2.2
    have A2 : upN (bM b) (bC b) to (bC b) = to := upN_self _ _ _
    have B2 : upN (bF b) to (bF b (bM b k) + 1) to = bF b (bM b k) + 1 := upN_self _ _ _
    have met : ∀ i, i < bC b → bF b (bM b i) ≠ -1 := fun i hi => by have := hb.2.2.2.1 i hi; omega
    show BT nev can n s k (l + 1) (upN (bF b) to (bF b (bM b k) + 1), upN (bM b) (bC b) to, bC b + 1)
    refine ⟨fun i j hij hj => ?_, fun j hj hk2 => ?_, fun i q hi hq hiq ht hn2 => ?_, fun r hr2 => ?_, ?_⟩
    · have hj' : j < bC b + 1 := hj
      show upN (bF b) to _ (upN (bM b) (bC b) to i) ≤ upN (bF b) to _ (upN (bM b) (bC b) to j)
      by_cases e : j = bC b
      · subst e
        rw [A2, B2]
        by_cases e2 : i = bC b
        · subst e2; rw [A2, B2]; exact Int.le_refl _
        · rw [A i (by omega), B _ (met i (by omega))]; exact h2 i (by omega) hk
      · rw [A i (by omega), A j (by omega), B _ (met i (by omega)), B _ (met j (by omega))]
        exact h1 i j hij (by omega)
    · have hj' : j < bC b + 1 := hj
      show upN (bF b) to _ (upN (bM b) (bC b) to j) ≤ upN (bF b) to _ (upN (bM b) (bC b) to k) + 1
      rw [A k hk, B _ (met k hk)]
      by_cases e : j = bC b
      · subst e; rw [A2, B2]; exact Int.le_refl _
      · rw [A j (by omega), B _ (met j (by omega))]; exact h2 j (by omega) hk
    · have hi' : i < bC b + 1 := hi
      have hic : i < bC b := by omega
      have ht' : (can (upN (bM b) (bC b) to i)).testBit q = true := ht
      have hn' : ((upN (bM b) (bC b) to i ^^^ 2 ^ q : Nat) : Int) ≠ nev := hn2
      show upN (bF b) to _ (upN (bM b) (bC b) to i ^^^ 2 ^ q) ≠ -1 ∧ upN (bF b) to _ (upN (bM b) (bC b) to i ^^^ 2 ^ q) ≤ upN (bF b) to _ (upN (bM b) (bC b) to i) + 1
      rw [A i hic] at ht' hn' ⊢
      rw [B _ (met i hic)]
      by_cases e : i = k ∧ q = l
      · obtain ⟨e1, e2⟩ := e
        subst e1; subst e2
        rw [hto, B2]
        exact ⟨by omega, Int.le_refl _⟩
      · have := h3 i q hic hq (by omega) ht' hn'
        rw [B _ this.1]
        exact this
    · have hr2' : upN (bF b) to (bF b (bM b k) + 1) r ≠ -1 := hr2
      show (r = s ∧ upN (bF b) to _ r = 0) ∨ ∃ p q, q < n ∧ upN (bF b) to _ p ≠ -1 ∧ (can p).testBit q = true ∧ r = p ^^^ 2 ^ q ∧ (r : Int) ≠ nev ∧ upN (bF b) to _ r = upN (bF b) to _ p + 1
      by_cases e : r = to
      · subst e
        refine Or.inr ⟨bM b k, l, hl, ?_, c.1, hto.symm, c.2.1, ?_⟩
        · rw [B _ (met k hk)]; exact met k hk
        · rw [B2, B _ (met k hk)]
      · rw [upN_ne _ _ e] at hr2' ⊢
        rcases h4 r hr2' with q1 | ⟨p, q, q1, q2, q3, q4, q5, q6⟩
        · exact Or.inl q1
        · exact Or.inr ⟨p, q, q1, by rw [B _ q2]; exact q2, q3, q4, q5, by rw [B _ q2]; exact q6⟩
    · show upN (bF b) to _ s = 0
      rw [B s (by rw [h5]; decide)]; exact h5
  · rename_i c
    refine ⟨h1, h2, fun i q hi hq hiq ht hn2 => ?_, h4, h5⟩
    by_cases e : i = k ∧ q = l
    · obtain ⟨e1, e2⟩ := e
      subst e1; subst e2
      have hne : bF b (bM b i ^^^ 2 ^ q) ≠ -1 := fun z => c ⟨ht, hn2, z⟩
      obtain ⟨j, hj, ej⟩ := hb.2.2.2.2 _ hne
      have := h2 j hj hk
      rw [ej] at this
      exact ⟨hne, this⟩
    · exact h3 i q hi hq (by omega) ht hn2
theorem BT.row {k : Nat} : ∀ (j l : Nat) (b : BS), l + j = n → BI n b → k < bC b → BT nev can n s k l b → BT nev can n s k n (bRow nev (can (bM b k)) (bM b k) j l b) := by
  intro j
  induction j with
  | zero => intro l b hl _ _ h; have : l = n := by omega
            subst this; exact h
  | succ j ih =>
    intro l b hl hb hk h
    have hr := hb.2.2.2.1 k hk
    have h1 := h.vis hb hk (by omega)
    have h2 := hb.vis (nev := nev) (cr := can (bM b k)) (l := l) (row := bM b k) (by omega) (by omega)
    have h3 : Ext b (bVis nev (can (bM b k)) (bM b k) l b) := bVis_ext
    have := ih (l + 1) _ (by omega) h2.1 (by have := h3.2.2; omega) h1
    rw [h3.2.1 k hk] at this
    exact this
theorem BT.go (hn : n ≤ 8) : ∀ (j k : Nat) (b : BS), k + j = 257 → BI n b → BT nev can n s k 0 b → BT nev can n s (bC (bGo nev can n j k b)) 0 (bGo nev can n j k b) := by
  have hp := pw8 hn
  have fin : ∀ (k : Nat) (b : BS), bC b ≤ k → BT nev can n s k 0 b → BT nev can n s (bC b) 0 b := fun k b hk h => ⟨h.1, fun j hj hk2 => by omega, fun i q hi hq _ => h.2.2.1 i q hi hq (by omega), h.2.2.2⟩
  intro j
  induction j with
  | zero => intro k b hk hb h; have := hb.cnt; exact fin k b (by omega) h
  | succ j ih =>
    intro k b hk hb h
    simp only [bGo]
    split
    · rename_i hkc
      have hr := hb.2.2.2.1 k hkc
      have h1 := BT.row n 0 b (by omega) hb hkc h
      have h2 := (BI.row (nev := nev) (cr := can (bM b k)) (row := bM b k) n 0 b (by omega) hb (by omega)).1
      refine ih (k + 1) _ (by omega) h2 ⟨h1.1, fun i hi hk2 => ?_, fun i q hi hq hiq => h1.2.2.1 i q hi hq (by omega), h1.2.2.2⟩
      have a1 := h1.2.1 i hi (by omega)
      have a2 := h1.1 k (k + 1) (by omega) hk2
      omega
    · exact fin k b (by omega) h
theorem BT.fs (hn : n ≤ 8) (hs : s < 2 ^ n) : BT nev can n s (bC (bfs nev can n s)) 0 (bfs nev can n s) := by
  refine BT.go hn 257 0 (bSt s) (by omega) (BI.st hs) ⟨fun i j _ _ => Int.le_refl _, fun j _ _ => ?_, fun i q _ _ h => by omega, fun r hr => ?_, ?_⟩
  · show (if s = s then (0 : Int) else -1) ≤ (if s = s then (0 : Int) else -1) + 1
    rw [if_pos rfl]; decide
  · have hr' : (if r = s then (0 : Int) else -1) ≠ -1 := hr
    by_cases e : r = s
    · exact Or.inl ⟨e, by show (if r = s then (0 : Int) else -1) = 0; rw [if_pos e]⟩
    · rw [if_neg e] at hr'; exact absurd rfl hr'
  · show (if s = s then (0 : Int) else -1) = 0
    rw [if_pos rfl]
/-- ways of so many moves -/
def Wk (nev : Int) (can : Nat → Nat) (n s : Nat) : Nat → Nat → Prop
  | 0, r => r = s
  | k + 1, r => ∃ p q, q < n ∧ Wk nev can n s k p ∧ (can p).testBit q = true ∧ r = p ^^^ 2 ^ q ∧ (r : Int) ≠ nev
theorem bfs_closed (hn : n ≤ 8) (hs : s < 2 ^ n) {r q : Nat} (hr : bF (bfs nev can n s) r ≠ -1) (hq : q < n) (ht : (can r).testBit q = true) (hne : ((r ^^^ 2 ^ q : Nat) : Int) ≠ nev) : bF (bfs nev can n s) (r ^^^ 2 ^ q) ≠ -1 ∧ bF (bfs nev can n s) (r ^^^ 2 ^ q) ≤ bF (bfs nev can n s) r + 1 := by
  have h := BT.fs (nev := nev) (can := can) hn hs
  have hb : BI n (bfs nev can n s) := BI.fs hs
  obtain ⟨i, hi, e⟩ := hb.2.2.2.2 r hr
  have := h.2.2.1 i q hi hq (Or.inl hi) (by rw [e]; exact ht) (by rw [e]; exact hne)
  rw [e] at this
  exact this
theorem wk_far (hn : n ≤ 8) (hs : s < 2 ^ n) : ∀ (k r : Nat), Wk nev can n s k r → bF (bfs nev can n s) r ≠ -1 ∧ bF (bfs nev can n s) r ≤ k := by
  have h := BT.fs (nev := nev) (can := can) hn hs
  intro k
  induction k with
  | zero => intro r hr; have hr' : r = s := hr
            subst hr'; rw [h.2.2.2.2]; exact ⟨by decide, by decide⟩
  | succ k ih =>
    intro r hr
    obtain ⟨p, q, hq, hp, ht, e, hne⟩ := hr
    have h1 := ih p hp
    subst e
    have h2 := bfs_closed hn hs h1.1 hq ht hne
    exact ⟨h2.1, by omega⟩
theorem far_wk (hn : n ≤ 8) (hs : s < 2 ^ n) : ∀ (k r : Nat), bF (bfs nev can n s) r = (k : Int) → Wk nev can n s k r := by
  have h := BT.fs (nev := nev) (can := can) hn hs
  have hb : BI n (bfs nev can n s) := BI.fs hs
  intro k
  induction k with
  | zero =>
    intro r hr
    rcases h.2.2.2.1 r (by omega) with q1 | ⟨p, q, q1, q2, q3, q4, q5, q6⟩
    · exact q1.1
    · have := (hb.had q2).2.1; omega
  | succ k ih =>
    intro r hr
    rcases h.2.2.2.1 r (by omega) with q1 | ⟨p, q, q1, q2, q3, q4, q5, q6⟩
    · have := q1.2; omega
    · exact ⟨p, q, q1, ih p (by omega), q3, q4, q5⟩
theorem wk_lt {k r : Nat} (hs : s < 2 ^ n) : Wk nev can n s k r → r < 2 ^ n := by
  induction k generalizing r with
  | zero => intro h; have h' : r = s := h
            rw [h']; exact hs
  | succ k ih => intro h; obtain ⟨p, q, hq, hp, ht, e, hne⟩ := h; rw [e]; exact xor_lt (ih hp) hq
/-- how far it is at most: that of the last one met -/
theorem bfs_last (hn : n ≤ 8) (hs : s < 2 ^ n) (r : Nat) : bF (bfs nev can n s) r ≤ bF (bfs nev can n s) (bM (bfs nev can n s) (bC (bfs nev can n s) - 1)) := by
  have h := BT.fs (nev := nev) (can := can) hn hs
  have hb : BI n (bfs nev can n s) := BI.fs hs
  have h1 := hb.1
  by_cases e : bF (bfs nev can n s) r = -1
  · have := hb.2.2.2.1 (bC (bfs nev can n s) - 1) (by omega); omega
  · obtain ⟨i, hi, e2⟩ := hb.2.2.2.2 r e
    have := h.1 i (bC (bfs nev can n s) - 1) (by omega) (by omega)
    rw [e2] at this
    exact this
end WALKT
/-- the least of the greatest -/
def lmx (g : Nat → Int) : Nat → Nat
  | 0 => 0
  | N + 1 => if g N > g (lmx g N) then N else lmx g N
theorem lmx_ok (g : Nat → Int) : ∀ N, 0 < N → lmx g N < N ∧ (∀ r, r < N → g r ≤ g (lmx g N)) ∧ ∀ r, r < lmx g N → g r < g (lmx g N) := by
  intro N
  induction N with
  | zero => intro h; omega
  | succ N ih =>
    intro _
    by_cases h0 : N = 0
    · subst h0
      have e : lmx g (0 + 1) = 0 := by simp [lmx]
      rw [e]
      exact ⟨by decide, fun r hr => by have : r = 0 := by omega
                                       subst this; exact Int.le_refl _, fun r hr => absurd hr (by omega)⟩
    · have h := ih (by omega)
      simp only [lmx]
      by_cases c : g N > g (lmx g N)
      · rw [if_pos c]
        refine ⟨by omega, fun r hr => ?_, fun r hr => ?_⟩
        · by_cases e : r = N
          · rw [e]; exact Int.le_refl _
          · have := h.2.1 r (by omega); omega
        · have := h.2.1 r (by omega); omega
      · rw [if_neg c]
        refine ⟨by omega, fun r hr => ?_, h.2.2⟩
        by_cases e : r = N
        · rw [e]; omega
        · exact h.2.1 r (by omega)
theorem lmx_uniq {g : Nat → Int} {N m : Nat} (hm : m < N) (h1 : ∀ r, r < N → g r ≤ g m) (h2 : ∀ r, r < m → g r < g m) : m = lmx g N := by
  have h := lmx_ok g N (by omega)
  have a1 := h.2.1 m hm
  have a2 := h1 _ h.1
  rcases Nat.lt_trichotomy m (lmx g N) with c | c | c
  · have := h.2.2 m c; omega
  · exact c
  · have := h2 _ c; omega
/-- the greatest of those that count -/
def mxw (p : Nat → Bool) (g : Nat → Int) : Nat → Int
  | 0 => 0
  | N + 1 => if p N = true then max (mxw p g N) (g N) else mxw p g N
theorem mxw_ok (p : Nat → Bool) (g : Nat → Int) : ∀ N, 0 ≤ mxw p g N ∧ (∀ r, r < N → p r = true → g r ≤ mxw p g N) ∧ (mxw p g N = 0 ∨ ∃ r, r < N ∧ p r = true ∧ g r = mxw p g N) := by
  intro N
  induction N with
  | zero => exact ⟨Int.le_refl _, fun r hr => absurd hr (by omega), Or.inl rfl⟩
  | succ N ih =>
    obtain ⟨i1, i2, i3⟩ := ih
    simp only [mxw]
    by_cases c : p N = true
    · rw [if_pos c]
      refine ⟨by omega, fun r hr hp => ?_, ?_⟩
      · by_cases e : r = N
        · rw [e]; omega
        · have := i2 r (by omega) hp; omega
      · by_cases c2 : mxw p g N ≥ g N
        · rw [show max (mxw p g N) (g N) = mxw p g N by omega]
          rcases i3 with z | ⟨r, r1, r2, r3⟩
          · exact Or.inl z
          · exact Or.inr ⟨r, by omega, r2, r3⟩
        · exact Or.inr ⟨N, by omega, c, by omega⟩
    · rw [if_neg c]
      refine ⟨i1, fun r hr hp => ?_, ?_⟩
      · by_cases e : r = N
        · rw [e] at hp; exact absurd hp c
        · exact i2 r (by omega) hp
      · rcases i3 with z | ⟨r, r1, r2, r3⟩
        · exact Or.inl z
        · exact Or.inr ⟨r, by omega, r2, r3⟩
theorem mxw_uniq {p : Nat → Bool} {g : Nat → Int} {N : Nat} {v : Int} (h0 : 0 ≤ v) (h1 : ∀ r, r < N → p r = true → g r ≤ v) (h2 : v = 0 ∨ ∃ r, r < N ∧ p r = true ∧ g r = v) : v = mxw p g N := by
  obtain ⟨i1, i2, i3⟩ := mxw_ok p g N
  rcases h2 with z | ⟨r, r1, r2, r3⟩
  · rcases i3 with y | ⟨q, q1, q2, q3⟩
    · omega
    · have := h1 q q1 q2; omega
  · have := i2 r r1 r2
    rcases i3 with y | ⟨q, q1, q2, q3⟩
    · omega
    · have := h1 q q1 q2; omega
