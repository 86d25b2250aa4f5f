section DYNM5
variable {E : Scr} {law : Lw} {may : Nat → Nat} {rust : Int} {n : Nat} {po : PO} {y : YS}
theorem c_lawM {f : Int → Mem → Prop} {M : Mem} {x w : Int} (hx : iR x) (hx2 : iR w) (hw : wfY n y) (hD : MD n may law rust M) (hy : YM y M) (H : ∀ M', FrR M M' → YM y M' → f (lawY n law x w y.1) M') : CL E mX11_law [pR 98, pI x, pI w] M f := by
  have hn := hD.2.1
  have hF0 : FrR M (upM M 98 2 0) := FrR.u98 0 (Or.inl rfl)
  have hy0 := hy.th 0
  have hD0 := hD.fR hF0
  unfold lawY at H
  have HN := H _ hF0 hy0
  refine vX11_law_0 _ _ (c_isIn hx ⟨by decide, by decide⟩ ⟨by decide, by decide⟩ (fun c => ⟨⟨by decide, by decide⟩, fun z => absurd z (by decide), fun _ => ⟨⟨by omega, by omega⟩, fun _ => ?_⟩⟩) (fun z => ⟨⟨by decide, by decide⟩, fun _ => by rwa [if_neg (fun q => z ⟨q.1.1, by omega⟩)] at HN, fun z => absurd rfl z⟩))
  obtain ⟨k, rfl⟩ : ∃ k : Nat, x = (k : Int) := ⟨x.toNat, by omega⟩
  rw [Int.toNat_natCast] at H HN ⊢
  have hk : k < 3 := by omega
  refine ⟨fun z => ?_, fun z => ?_⟩
  · rcases hD0.2.2.2.1 k hk with ⟨-, h2⟩ | ⟨h0, _⟩
    · by_cases hc : ((0 : Int) ≤ (k : Int) ∧ (k : Int) < 3) ∧ 0 ≤ w ∧ w < (n : Int)
      · rw [if_pos hc, h2] at HN; exact HN
      · rw [if_neg hc] at HN; exact HN
    · exact absurd (z.symm.trans h0) (by decide)
  · refine c_isLatch hx2 hD0.1 (fun l el hl => ⟨⟨by decide, by decide⟩, fun _ => ?_, fun z => absurd z (by decide)⟩) (fun z => ⟨⟨by decide, by decide⟩, fun z => absurd rfl z, fun _ => by rwa [if_neg (fun q => z q.2)] at HN⟩)
    subst el
    rw [if_pos ⟨⟨by omega, by omega⟩, by omega, by omega⟩, Int.toNat_natCast] at H
    refine c_lay (b := 0) (by decide) hl hn hw.1.1 hy0.1 (fun M1 b1 b2 => ?_)
    have hF1 : FrR M M1 := hF0.tr ⟨fun a _ a2 _ _ _ _ => b1 a a2, fun k _ _ _ _ => by rw [b1 98 (by decide)]⟩
    have hK1 : FrK M M1 := (FrK.u98 0 (by decide) : FrK M (upM M 98 2 0)).tr ⟨b1 142 (by decide), b1 143 (by decide), fun k _ _ => by rw [b1 98 (by decide)]⟩
    have hv1 : vM 0 y.1 M1 := hy0.1.of (fun a a1 a2 => b1 a (by omega)) (by rw [b1 98 (by decide)])
    have fin : ∀ M2, FrL M1 M2 → FrR M M2 ∧ YM y M2 := by
      intro M2 hF2
      have e : ∀ a, a ≠ 98 → a ≠ 122 → M2 a = M1 a := fun a a1 a2 => funext fun q => hF2 a q a2 (fun z => a1 z.1)
      have e98 : ∀ q, q ≠ 50 → M2 98 q = M1 98 q := fun q hq => hF2 98 q (by decide) (fun z => hq z.2)
      refine ⟨hF1.tr ⟨fun a a1 _ a3 _ _ _ => e a a1 a3, fun k _ k2 _ _ => e98 k k2⟩, hy.of (hv1.of (fun a a1 a2 => e a (by omega) (by omega)) (e98 59 (by decide))) (hK1.tr ⟨e 142 (by decide) (by decide), e 143 (by decide) (by decide), fun k k1 k2 => e98 k (by omega)⟩) ?_⟩
      rw [e98 62 (by decide), b1 98 (by decide)]; exact hy0.2.2.2.2
    refine c_lawV hk (hD.fR hF1).2.2.2.1 (by rw [b1 113 (by decide)]; exact z) (envD_b hw.1.1 hl hn) b2 ?_ ?_
    · intro M2 v a1 a2 a3 a4
      have q := fin M2 a1
      have HH := H M2 q.1 q.2
      rw [a4] at HH
      exact fun _ => ⟨fun _ => HH, fun z => absurd a2 z⟩
    · intro M2 a1 a2 a4
      have q := fin M2 a1
      have HH := H M2 q.1 q.2
      rw [a4] at HH
      exact fun _ => ⟨fun z => absurd (a2.symm.trans z) (by decide), fun _ => HH⟩
theorem sumW_cut {g : Nat → Int} {m : Nat} : ∀ j, (∀ i, m ≤ i → i < m + j → g i = 0) → sumW g (m + j) = sumW g m := by
  intro j
  induction j with
  | zero => intro _; rfl
  | succ j ih =>
    intro h
    show sumW g (m + j) + g (m + j) = _
    rw [ih (fun i a b => h i a (by omega)), h (m + j) (by omega) (by omega)]
    omega
theorem wornX {d : DS} (hn : n ≤ 8) (hw : wfX n d) : sumW (dWo d) n = sumW (dWo d) 8 := by
  have := sumW_cut (g := dWo d) (m := n) (8 - n) (fun i a b => hw.2.2.2 i a (by omega))
  rw [show n + (8 - n) = 8 by omega] at this
  exact this.symm
theorem c_worn169 {f : Int → Mem → Prop} {M : Mem} {d : DS} (hn8 : n ≤ 8) (hn : M 98 12 = (n : Int)) (hv : vM 0 d M) (H : f (sumW (dWo d) n) M) : ∀ (j k : Nat), k + j = n → KW E mX11_count (qI f) M 169 [(0, pR 98), (2, pI (sumW (dWo d) k)), (3, pI (k : Int))] [] := by
  intro j
  induction j with
  | zero =>
    intro k hk
    have : k = n := by omega
    subst this
    apply vX11_count_169
    rw [hn]
    exact fun _ => ⟨⟨by omega, by omega⟩, fun _ => H, fun z => absurd z (by omega)⟩
  | succ j ih =>
    intro k hk
    apply vX11_count_169
    rw [hn]
    refine fun _ => ⟨⟨by omega, by omega⟩, fun z => absurd z (by omega), fun _ => ⟨⟨by omega, by omega⟩, fun _ => ?_⟩⟩
    rw [Int.toNat_natCast, show M 130 k = dWo d k by have := hv.2.2.2.2.2.2 k (by omega); rwa [show 8 * 0 + k = k by omega] at this]
    exact ih (k + 1) (by omega)
/-! what is done keeps the numbers in their bounds -/
theorem push_wo {o : Op} {d : DS} {l : Nat} (hl : l < n) (h : ∀ i, n ≤ i → i < 8 → dWo d i = 0) : ∀ i, n ≤ i → i < 8 → dWo (pushF o law may rust d l).2 i = 0 := by
  intro i h1 h2
  have key : dWo (movF law d l) i = 0 := by
    show va_up (dWo d) l _ i = 0
    rw [va_up_neq _ _ (by omega)]
    exact h i h1 h2
  unfold pushF
  split
  · dsimp only
    split
    · exact key
    · exact key
  · exact h i h1 h2
theorem on_wo {o : Op} {d : DS} {l : Nat} (hl : l < n) (h : ∀ i, n ≤ i → i < 8 → dWo d i = 0) : ∀ i, n ≤ i → i < 8 → dWo (onF o law may rust d l) i = 0 := by
  unfold onF
  split
  · exact push_wo hl h
  · exact h
theorem rp_wo {o : Op} {l : Nat} (hl : l < n) : ∀ (t : Nat) (d : DS), (∀ i, n ≤ i → i < 8 → dWo d i = 0) → ∀ i, n ≤ i → i < 8 → dWo (rpF o law may rust l t d) i = 0 := by
  intro t
  induction t with
  | zero => intro d h; exact h
  | succ t ih => intro d h; exact ih _ (on_wo hl h)
theorem ps_wo {o : Op} (hP : wfP n po) : ∀ (j k : Nat) (d : DS), k + j ≤ po.1 → (∀ i, n ≤ i → i < 8 → dWo d i = 0) → ∀ i, n ≤ i → i < 8 → dWo (psF o law may rust po.2.1 po.2.2.1 j k d) i = 0 := by
  intro j
  induction j with
  | zero => intro k d _ h; exact h
  | succ j ih =>
    intro k d hk h
    simp only [psF]
    refine ih (k + 1) _ (by omega) ?_
    split
    · exact rp_wo (hP.2.1 k (by omega)).1 _ _ h
    · exact h
theorem ol_wo {om : Nat → Int} : ∀ (j k : Nat) (d : DS), dWo (olF om j k d) = dWo d := by
  intro j
  induction j with
  | zero => intro k d; rfl
  | succ j ih =>
    intro k d
    simp only [olF]
    rw [ih]
    split
    · rfl
    · rfl
theorem go_wo {o : Op} (hP : wfP n po) : ∀ (j : Nat) (d : DS), (∀ i, n ≤ i → i < 8 → dWo d i = 0) → ∀ i, n ≤ i → i < 8 → dWo (goF o law may rust po j d) i = 0 := by
  intro j
  induction j with
  | zero => intro d h; exact h
  | succ j ih =>
    intro d h
    refine ih _ ?_
    show ∀ i, n ≤ i → i < 8 → dWo (psF o law may rust po.2.1 po.2.2.1 po.1 0 _) i = 0
    refine ps_wo hP _ _ _ (by omega) ?_
    split
    · exact h
    · rw [ol_wo]; exact h
theorem remU_wf {d d' : DS} {u : US} (hu : u.1 ≤ 20 ∧ ∀ i, i < u.1 → wfX n (ueD d (u.2 i))) (hd : wfX n d) (e1 : dMi d' = dMi d) (e2 : dVa d' = dVa d) (e3 : dNu d' = dNu d) : (remU u (dUe d)).1 ≤ 20 ∧ ∀ i, i < (remU u (dUe d)).1 → wfX n (ueD d' ((remU u (dUe d)).2 i)) := by
  have e : ∀ x, ueD d' x = ueD d x := fun x => by unfold ueD; rw [e1, e2, e3]
  unfold remU
  by_cases h20 : u.1 = 20
  · rw [if_pos h20]
    refine ⟨Nat.le_refl _, fun i hi => ?_⟩
    have hi' : i < 20 := hi
    rw [e]
    show wfX n (ueD d (if i = 19 then dUe d else u.2 (i + 1)))
    split
    · exact hd
    · exact hu.2 (i + 1) (by omega)
  · rw [if_neg h20]
    refine ⟨by show u.1 + 1 ≤ 20; omega, fun i hi => ?_⟩
    have hi' : i < u.1 + 1 := hi
    rw [e]
    show wfX n (ueD d (if i = u.1 then dUe d else u.2 i))
    split
    · exact hd
    · exact hu.2 i (by omega)
theorem pushY_wf {x : Int} (hw : wfY n y) : wfY n (pushY n may law rust x y).2 := by
  unfold pushY
  split
  · rename_i hx
    split
    · have hl : x.toNat < n := by omega
      have hm := push_mi (o := oPl) (law := law) (may := may) (rust := rust) (d := y.1) (l := x.toNat)
      refine ⟨⟨wfD_push hw.1.1 hl, ?_, ?_, push_wo hl hw.1.2.2.2⟩, remU_wf hw.2.1 hw.1 hm.1 hm.2 (push_nu rfl), hw.2.2⟩
      · unfold wfV; rw [hm.1, hm.2]; exact hw.1.2.1
      · rw [hm.1]; exact hw.1.2.2.1
    · exact hw
  · exact hw
theorem forceY_wf {x : Int} (hw : wfY n y) : wfY n (forceY n x y).2 := by
  unfold forceY
  split
  · rename_i hx
    have hl : x.toNat < n := by omega
    refine ⟨⟨⟨xor_lt hw.1.1.1 hl, hw.1.1.2⟩, hw.1.2⟩, remU_wf hw.2.1 hw.1 rfl rfl rfl, hw.2.2⟩
  · exact hw
theorem sealY_wf {x : Int} (hw : wfY n y) : wfY n (sealY n x y).2 := by
  unfold sealY
  split
  · rename_i hx
    have hl : x.toNat < n := by omega
    refine ⟨⟨⟨hw.1.1.1, xor_lt hw.1.1.2.1 hl, hw.1.1.2.2⟩, hw.1.2⟩, remU_wf hw.2.1 hw.1 rfl rfl rfl, hw.2.2⟩
  · exact hw
theorem goY_wf {x : Int} (hP : wfP n po) (hw : wfY n y) : wfY n (goY law may rust po x y).2 := by
  unfold goY
  split
  · rename_i hx
    have hb := go_b (o := oDn) (law := law) (may := may) (rust := rust) x.toNat y.1 hP hw.1.1 hw.1.2.1 (by omega)
    refine ⟨⟨hb.1, hb.2.1, by rw [hb.2.2]; omega, go_wo hP _ _ hw.1.2.2.2⟩, ?_, hw.2.2⟩
    by_cases h0 : x = 0
    · subst h0
      rw [if_pos rfl]
      exact hw.2.1
    · rw [if_neg h0]
      exact ⟨Nat.zero_le _, fun i hi => absurd hi (Nat.not_lt_zero i)⟩
  · exact hw
theorem undoY_wf (hw : wfY n y) : wfY n (undoY y).2 := by
  unfold undoY
  split
  · exact hw
  · rename_i h0
    refine ⟨hw.2.1.2 _ (by omega), ⟨by show y.2.1.1 - 1 ≤ 20; have := hw.2.1.1; omega, fun i hi => ?_⟩, hw.2.2⟩
    have hi' : i < y.2.1.1 - 1 := hi
    exact hw.2.1.2 i (by omega)
theorem keepY_wf (hw : wfY n y) : wfY n (keepY y).2 := ⟨hw.1, hw.2.1, fun _ => hw.1⟩
theorem backY_wf (hw : wfY n y) : wfY n (backY y).2 := by
  unfold backY
  split
  · rename_i hq
    exact ⟨hw.2.2 hq, ⟨Nat.zero_le _, fun i hi => absurd hi (Nat.not_lt_zero i)⟩, hw.2.2⟩
  · exact hw
end DYNM5
