/-! the class: the rows laid, looked around -/
def mvF (may : Nat → Nat) (se : Nat) (r : Nat) : Nat := andN (may r) se
/-- all but the paths stays -/
def FrQ (M M' : Mem) : Prop := ∀ a, ¬ (86 ≤ a ∧ a ≤ 92) → M' a = M a
theorem FrQ.rf (M : Mem) : FrQ M M := fun _ _ => rfl
theorem FrQ.tr {M M1 M2 : Mem} (h1 : FrQ M M1) (h2 : FrQ M1 M2) : FrQ M M2 := fun a a1 => (h2 a a1).trans (h1 a a1)
theorem FrB.toQ {M M' : Mem} (h : FrB M M') : FrQ M M' := fun a a1 => h.1 a (by omega) (by omega) (by omega)
section LOOKC
variable {E : Scr} {law : Lw} {may : Nat → Nat} {rust : Int} {n : Nat} {y : YS}
theorem c_bar {f : Mem → Prop} {M : Mem} {mv : Nat → Nat} {nev nv2 : Int} {s1 e1 s2 e2 : Nat} (h1 : iR nv2) (h2 : s2 < 2147483648) (h3 : e2 < 2147483648) (hG : GC n mv nev s1 e1 M) (H : ∀ M', (∀ a, a ≠ 86 → M' a = M a) → (∀ k, ¬ (10 ≤ k ∧ k ≤ 12) → M' 86 k = M 86 k) → GC n mv nv2 s2 e2 M' → f M') : CV E mX4_bar [pR 86, pI nv2, pI (s2 : Int), pI (e2 : Int)] M f := by
  refine vX4_bar_0 _ _ _ ⟨h1, ⟨by omega, by omega⟩, ⟨by omega, by omega⟩, H _ (fun a a1 => by rw [upM_ne _ _ _ a1, upM_ne _ _ _ a1, upM_ne _ _ _ a1]) (fun k hk => by rw [upM_self, va_up_neq _ _ (by omega), upM_self, va_up_neq _ _ (by omega), upM_self, va_up_neq _ _ (by omega)]) ?_⟩
  exact ⟨hG.1, hG.2.1, hG.2.2.1, rfl, rfl, rfl⟩
theorem c_layP {f : Mem → Prop} {M : Mem} {se : Nat} (hse : se < 2147483648) (hD : CD n may law rust M) (H : ∀ M', FrQ M M' → GC n (mvF may se) (-1) 0 0 M' → f M') : CV E mX4_lay [pR 86, pR 21, pI (se : Int)] M f := by
  have hn := hD.2.1
  have hp := pw8 hn
  have loop : ∀ (j k : Nat) (M1 : Mem), k + j = 2 ^ n → FrQ M M1 → M1 86 6 = (n : Int) → M1 86 7 = ((2 ^ n : Nat) : Int) → (∀ r, r < k → M1 87 r = (mvF may se r : Int)) → KW E mX4_lay (qV f) M1 26 [(0, pR 86), (1, pR 21), (2, pI (se : Int)), (3, pI (k : Int))] [] := by
    intro j
    induction j with
    | zero =>
      intro k M1 hk hF h6 h7 hr
      apply vX4_lay_26
      rw [h7]
      refine fun _ => ⟨⟨by omega, by omega⟩, fun _ => ?_, fun z => absurd z (by omega)⟩
      refine vX4_bar_0 _ _ _ ⟨⟨by decide, by decide⟩, ⟨by decide, by decide⟩, ⟨by decide, by decide⟩, H _ (fun a a1 => by rw [upM_ne _ _ _ (by omega), upM_ne _ _ _ (by omega), upM_ne _ _ _ (by omega)]; exact hF a a1) ⟨h6, h7, fun r hr2 => ⟨hr r (by omega), ?_⟩, rfl, rfl, rfl⟩⟩
      have h1 := andN_le (may r) se
      have h2 := (hD.2.2.1 r hr2).2
      unfold mvF
      omega
    | succ j ih =>
      intro k M1 hk hF h6 h7 hr
      apply vX4_lay_26
      rw [h7]
      refine fun _ => ⟨⟨by omega, by omega⟩, fun z => absurd z (by omega), fun _ => ?_⟩
      have hD1 : CD n may law rust M1 := hD.lo (fun a a1 a2 => hF a (by omega))
      have h1 := andN_le (may k) se
      have h2 := (hD.2.2.1 k (by omega)).2
      refine c_movable hD1 (by omega) hse ⟨⟨by omega, by omega⟩, ⟨by omega, by omega⟩, ?_⟩
      rw [Int.toNat_natCast]
      refine ih (k + 1) _ (by omega) (fun a a1 => by rw [upM_ne _ _ _ (by omega)]; exact hF a a1) h6 h7 (fun r hr2 => ?_)
      by_cases e : r = k
      · rw [e, upM_self, va_up_self]; rfl
      · rw [upM_self, va_up_neq _ _ e]; exact hr r (by omega)
  apply vX4_lay_0
  rw [hD.1, bOne_nat (by omega), show min (256 : Int) ((2 ^ n : Nat) : Int) = ((2 ^ n : Nat) : Int) by omega]
  refine fun _ _ => loop (2 ^ n) 0 _ (by omega) (fun a a1 => by rw [upM_ne _ _ _ (by omega), upM_ne _ _ _ (by omega)]) rfl rfl (fun r hr => by omega)
end LOOKC
