/-! the law from its first row to its loop -/
theorem upRs_fr {n : Nat} : ∀ (us : List (Nat × Nat × Nat)) (R : Rfs), (∀ s, s ∈ us → s.1 < n) → (∀ b, n ≤ b → ∀ k, R b k = none) → ∀ b, n ≤ b → ∀ k, upRs R us b k = none := by
  intro us
  induction us with
  | nil => intro R _ h; exact h
  | cons s us ih =>
    intro R hs h
    refine ih (upR R s.1 s.2.1 (some s.2.2)) (fun q hq => hs q (List.mem_cons_of_mem _ hq)) (fun b hb k => ?_)
    have := hs s List.mem_cons_self
    rw [upR_ne _ _ _ (by omega)]; exact h b hb k
theorem R98_us : R98 = upRs (fun _ _ => none) (usA.take 61) := rfl
theorem R98_fr : ∀ b, 98 ≤ b → ∀ k, R98 b k = none := by
  rw [R98_us]
  exact upRs_fr _ _ (show ∀ s, s ∈ usA.take 61 → s.1 < 98 from by decide +kernel) (fun _ _ _ => rfl)
theorem M98_ne {M8 : Mem} {b : Nat} (h1 : b ≠ 1) (h2 : b ≠ 42) (h3 : b ≠ 86) (h4 : b ≠ 93) : M98 M8 b = M8 b := by
  unfold M98
  rw [upM_ne _ _ _ h4, upM_ne _ _ _ h3, upM_ne _ _ _ h2, upM_ne _ _ _ h2, upM_ne _ _ _ h1, upM_ne _ _ _ h1]
theorem M11_ne {M : Mem} {b : Nat} (h1 : b ≠ 98) (h2 : b ≠ 100) : M11 M b = M b := by
  unfold M11
  rw [upM_ne _ _ _ h1, upM_ne _ _ _ h1]
  unfold wdM
  rw [if_neg h2]
section LAWALL
variable {E : Scr}
theorem law_all (hE : E.1 ≤ 3072) : MW E mLaw Sn QF (T0.take 0) (fun _ _ => none) (fun _ _ => 0) 0 0 0 [(0, pX 0)] [] := by
  have z0 : Fr0 0 (fun _ _ => none) (fun _ _ => 0) := fun b hb k => ⟨rfl, rfl⟩
  refine w_new (ci := 10) (N := 10) dL_law_0 (by decide) ⟨_, rfl⟩ nL_8 (fun b hb => hb.elim) rfl rfl (fun k => rfl) (fun k => rfl) ⟨Nat.le_of_ble_eq_true rfl, Nat.le_of_ble_eq_true rfl⟩ ?_
  rw [tkL (m := 0) (by decide), tkS (m := 0) (t := (10, 0)) rfl]
  refine w_dup dL_law_3 rfl ?_
  refine w_callI (as := []) dL_law_4 kL_17 ⟨⟨Nat.le_of_ble_eq_true rfl, Nat.le_of_ble_eq_true rfl, Nat.le_of_ble_eq_true rfl⟩, Nat.le_of_ble_eq_true rfl⟩ rfl (Nat.le_of_ble_eq_true rfl) (S2 := fun b => b < 1) (fun b hb => hb.elim) (Stb_lt rfl (okR (by decide) rfl)) (i_X10_init (z0.le (Nat.zero_le 1)) ?_)
  intro M8 h8a h8b
  show MW E mLaw Sn QF (T0.take 98) R98 (M98 M8) _ _ 7 [(0, pX 0)] [pR 0]
  have m8 : ∀ b, b ≠ 4 → ∀ k, M8 b k = 0 := fun b hb k => by rw [h8a b hb]
  have z98 : Fr0 98 R98 (M98 M8) := fun b hb k => ⟨by rw [M98_ne (by omega) (by omega) (by omega) (by omega)]; exact m8 b (by omega) k, R98_fr b hb k⟩
  refine w_astore_n dL_law_7 (by decide) ?_
  show MW E mLaw Sn QF (T0.take 98) R98 (M98 M8) _ _ 8 [(1, pR 0), (0, pX 0)] []
  refine w_new (ci := 11) (N := 87) dL_law_8 (by decide) ⟨_, rfl⟩ nL_18 (fun b hb => hb.elim) (by rw [tkL (m := 98) (by decide)]; rfl) rfl (fun k => by rw [tkL (m := 98) (by decide)]; exact (z98 98 (Nat.le_refl _) k).1) (fun k => by rw [tkL (m := 98) (by decide)]; exact (z98 98 (Nat.le_refl _) k).2) ⟨Nat.le_of_ble_eq_true rfl, Nat.le_of_ble_eq_true rfl⟩ ?_
  rw [tkL (m := 98) (by decide), tkS (m := 98) (t := (11, 0)) rfl]
  refine w_dup dL_law_11 rfl ?_
  refine w_callI (as := []) dL_law_12 kL_20 ⟨⟨Nat.le_of_ble_eq_true rfl, Nat.le_of_ble_eq_true rfl, Nat.le_of_ble_eq_true rfl⟩, Nat.le_of_ble_eq_true rfl⟩ rfl (Nat.le_of_ble_eq_true rfl) (S2 := fun b => b < 99) (fun b hb => hb.elim) (Stb_lt rfl (okR (by decide) rfl)) (i_X11_pre (z98.le (show 98 ≤ 99 by decide)) ?_)
  rw [show T0.take 144 = T0 from List.take_of_length_le (by rw [T0_len]; exact Nat.le_refl _), RF_eq]
  show MW E mX11_init (fun b => b < 99) _ T0 R0 (M11 (M98 M8)) 45 4984 1075 [(0, pR 98)] []
  refine w_aload_n dX11_init_1075 rfl ?_
  have h98 : ∀ k, k ≠ 5 → k ≠ 77 → M11 (M98 M8) 98 k = 0 := fun k k1 k2 => by
    unfold M11
    rw [upM_self, va_up_neq _ _ k2, upM_self, va_up_neq _ _ k1]
    unfold wdM
    rw [if_neg (by decide), M98_ne (by decide) (by decide) (by decide) (by decide)]
    exact m8 98 (by decide) k
  have hw : ∀ i, i < 116 → M11 (M98 M8) 100 i = (rwN i : Int) := fun i hi => by
    unfold M11
    rw [upM_ne _ _ _ (by decide), upM_ne _ _ _ (by decide)]
    unfold wdM
    rw [if_pos rfl, if_pos hi]
  refine w_callV (as := []) dX11_init_1076 kX11_154 ⟨⟨Nat.le_of_ble_eq_true rfl, Nat.le_of_ble_eq_true rfl, Nat.le_of_ble_eq_true rfl⟩, Nat.le_of_ble_eq_true rfl⟩ rfl (by decide) rfl (Nat.le_of_ble_eq_true rfl) (S2 := Top) (fun _ _ => trivial) Stb_top (MW_mono (fun r T' R' M' hq => ?_) (c_init11 (bs := fun _ => 0) (f := fun M9 => MW E mLaw Sn QF T0 R0 M9 (0 + 1 + miMc mX10_init + 1 + miMc mX11_init) (0 + 10 + miMs mX10_init + 87 + miMs mX11_init) 15 [(1, pR 0), (0, pX 0)] [pR 98]) h98 (by unfold M11; rw [upM_self, va_up_neq _ _ (by decide), upM_self, va_up_self]) hw (fun M9 f9 hR9 => ?_)))
  · obtain ⟨rfl, rfl, rfl, h2⟩ := hq
    show MW E mX11_init (fun b => b < 99) _ T0 R0 M' _ _ 1079 [(0, pR 98)] []
    refine w_aload_n dX11_init_1079 rfl ?_
    refine w_callV (as := []) dX11_init_1080 kX11_157 ⟨⟨Nat.le_of_ble_eq_true rfl, Nat.le_of_ble_eq_true rfl, Nat.le_of_ble_eq_true rfl⟩, Nat.le_of_ble_eq_true rfl⟩ rfl (by decide) rfl (Nat.le_of_ble_eq_true rfl) (S2 := Top) (fun _ _ => trivial) Stb_top (MW_mono (fun r T' R' M'' hq => ?_) h2)
    obtain ⟨rfl, rfl, rfl, h3⟩ := hq
    show MW E mX11_init (fun b => b < 99) _ T0 R0 M'' _ _ 1083 [(0, pR 98)] []
    exact w_vret dX11_init_1083 rfl ⟨Nat.le_of_ble_eq_true rfl, Nat.le_of_ble_eq_true rfl⟩ h3
  · have hcl := cls_start (bs := fun _ => 0) (M := M11 (M98 M8)) (fun a ha k => by rw [M11_ne (by omega) (by omega), M98_ne (by omega) (by omega) (by omega) (by omega)]; exact m8 a (by omega) k) (fun w hw9 => by rw [M11_ne (by decide) (by decide), M98_ne (by decide) (by decide) (by decide) (by decide)]; exact h8b w hw9)
      (by rw [M11_ne (by decide) (by decide)]; unfold M98; rw [upM_ne _ _ _ (by decide), upM_ne _ _ _ (by decide), upM_ne _ _ _ (by decide), upM_ne _ _ _ (by decide), upM_self, va_up_neq _ _ (by decide), upM_self, va_up_neq _ _ (by decide)]; exact m8 1 (by decide) 9)
      (by rw [M11_ne (by decide) (by decide)]; unfold M98; rw [upM_ne _ _ _ (by decide), upM_ne _ _ _ (by decide), upM_ne _ _ _ (by decide), upM_ne _ _ _ (by decide), upM_self, va_up_self])
      (by rw [M11_ne (by decide) (by decide)]; unfold M98; rw [upM_self, va_up_neq _ _ (by decide), upM_ne _ _ _ (by decide), upM_ne _ _ _ (by decide), upM_ne _ _ _ (by decide), upM_ne _ _ _ (by decide), upM_ne _ _ _ (by decide)]; exact m8 93 (by decide) 4)
      (by rw [M11_ne (by decide) (by decide)]; unfold M98; rw [upM_self, va_up_self])
    have hInv : Inv (fun _ => 0, 0, 0, -1) (ps0 (fun _ => 0) 0) (y0 (ps0 (fun _ => 0) 0)) n0 M9 := ⟨⟨⟨Nat.zero_le _, fun i hi => absurd hi (Nat.not_lt_zero _)⟩, ⟨0, PI.zero⟩, mayP_sym (L := 0) PI.zero PJ.zero, mayP_free (L := 0) PI.zero, lawO_B (L := 0) PI.zero, wf_po (L := 0) PI.zero, wf_y0 (L := 0) PI.zero, wf_n0⟩, Inv.ref hcl (fun a ha => f9 a (Or.inl ha)), hR9⟩
    have h144 : ∀ k, M9 144 k = 0 := fun k => by rw [f9 144 (Or.inr (Nat.le_refl _)), M11_ne (by decide) (by decide), M98_ne (by decide) (by decide) (by decide) (by decide)]; exact m8 144 (by decide) k
    refine w_astore_n dL_law_15 (by decide) ?_
    show MW E mLaw Sn QF T0 R0 M9 _ _ 16 [(2, pR 98), (1, pR 0), (0, pX 0)] []
    refine w_iconst dL_law_16 ?_
    refine w_newL (n := 1) dL_law_17 rfl (by decide) arr_long (fun b hb => hb.elim) (by rw [T0_len]; rfl) rfl (fun k => by rw [T0_len]; exact h144 k) ⟨Nat.le_of_ble_eq_true rfl, Nat.le_of_ble_eq_true rfl⟩ ?_
    rw [T0_len]
    refine w_astore_n dL_law_19 (by decide) ?_
    refine w_iconst dL_law_20 ?_
    refine w_istore (k := 4) dL_law_21 (by decide) ?_
    refine w_ls (ls' := LwS 0) (fun q hq => ?_) ?_
    · simp only [List.mem_cons, List.not_mem_nil, or_false] at hq
      rcases hq with rfl | rfl | rfl | rfl | rfl <;> simp [lset1, p2] <;> decide
    · exact law_loop hE 513 0 0 M9 (by omega) (Nat.le_refl _) (by decide) ⟨_, _, _, _, hInv⟩
end LAWALL
