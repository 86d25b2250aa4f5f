/-! the world behind both constructors: references, numbers -/
def stR (L : List (List (Option Nat))) (s : Nat × Nat × Nat) : List (List (Option Nat)) := L.set s.1 ((L.getD s.1 []).set s.2.1 (some s.2.2))
def upRs (R : Rfs) (us : List (Nat × Nat × Nat)) : Rfs := us.foldl (fun R s => upR R s.1 s.2.1 (some s.2.2)) R
def rcL (L : List (List (Option Nat))) : Prop := L.length = 144 ∧ ∀ r, r ∈ L → r.length = 87
theorem rcL_at {L : List (List (Option Nat))} (h : rcL L) {a : Nat} (ha : a < 144) : (L.getD a []).length = 87 := by
  apply h.2
  rw [List.getD_eq_getElem?_getD, List.getElem?_eq_getElem (by rw [h.1]; exact ha)]
  exact List.getElem_mem _
theorem rcL_st {L : List (List (Option Nat))} (h : rcL L) {s : Nat × Nat × Nat} (hs : s.1 < 144) : rcL (stR L s) := by
  refine ⟨by unfold stR; rw [List.length_set]; exact h.1, fun r hr => ?_⟩
  rcases List.mem_or_eq_of_mem_set hr with h1 | h1
  · exact h.2 r h1
  · rw [h1, List.length_set]; exact rcL_at h hs
theorem upRs_ofL : ∀ (us : List (Nat × Nat × Nat)) (L : List (List (Option Nat))), rcL L → (∀ s, s ∈ us → s.1 < 144 ∧ s.2.1 < 87) → upRs (ofL L) us = ofL (us.foldl stR L) := by
  intro us
  induction us with
  | nil => intro L _ _; rfl
  | cons s us ih =>
    intro L hL hs
    have h1 := hs s List.mem_cons_self
    show upRs (upR (ofL L) s.1 s.2.1 (some s.2.2)) us = ofL (us.foldl stR (stR L s))
    rw [ofL_up (by rw [hL.1]; exact h1.1) (by rw [rcL_at hL h1.1]; exact h1.2)]
    exact ih (stR L s) (rcL_st hL h1.1) (fun q hq => hs q (List.mem_cons_of_mem _ hq))
def noL : List (List (Option Nat)) := List.replicate 144 (List.replicate 87 none)
theorem noL_ok : rcL noL := ⟨by unfold noL; rw [List.length_replicate], fun r hr => by unfold noL at hr; rw [(List.mem_replicate.mp hr).2, List.length_replicate]⟩
theorem noL_no : ofL noL = fun _ _ => none := by
  funext a k
  show (noL.getD a []).getD k none = none
  rw [List.getD_eq_getElem?_getD (l := noL)]
  cases h : noL[a]? with
  | none => rfl
  | some r =>
    have hr : r = List.replicate 87 none := (List.mem_replicate.mp (List.mem_of_getElem? h)).2
    rw [hr]
    show (List.replicate 87 (none : Option Nat)).getD k none = none
    rw [List.getD_eq_getElem?_getD, List.getElem?_replicate]
    by_cases c : k < 87
    · rw [if_pos c]; rfl
    · rw [if_neg c]; rfl
def usA : List (Nat × Nat × Nat) := [(2, 0, 3), (2, 1, 4), (1, 0, 2), (5, 3, 6), (5, 6, 7), (5, 7, 8), (5, 8, 9), (5, 9, 10), (5, 11, 11), (5, 12, 12), (5, 14, 13), (5, 17, 14), (15, 0, 16), (15, 1, 17), (15, 2, 18), (5, 18, 15), (5, 19, 19), (1, 1, 5), (1, 2, 20), (0, 0, 1), (21, 3, 22), (21, 6, 23), (21, 7, 24), (21, 8, 25), (21, 9, 26), (21, 11, 27), (21, 12, 28), (21, 14, 29), (21, 17, 30), (31, 0, 32), (31, 1, 33), (31, 2, 34), (21, 18, 31), (21, 19, 35), (0, 1, 21), (36, 6, 37), (0, 2, 36), (38, 6, 39), (0, 3, 38), (40, 6, 41), (0, 4, 40), (42, 0, 43), (0, 6, 42), (44, 0, 45), (44, 1, 46), (44, 2, 47), (44, 3, 48), (44, 4, 49), (0, 7, 44), (86, 0, 87), (86, 1, 88), (86, 2, 89), (86, 3, 90), (86, 4, 91), (86, 5, 92), (0, 8, 86), (93, 0, 94), (93, 1, 95), (93, 2, 96), (93, 3, 97), (0, 9, 93), (98, 0, 99), (98, 3, 100), (98, 20, 101), (98, 21, 102), (98, 22, 103), (98, 23, 104), (98, 24, 105), (98, 25, 106), (98, 26, 107), (98, 27, 108), (98, 28, 109), (98, 29, 110), (98, 30, 111), (98, 31, 112), (98, 34, 113), (98, 35, 114), (98, 36, 115), (98, 37, 116), (98, 38, 117), (98, 39, 118), (98, 40, 119), (98, 41, 120), (98, 48, 121), (98, 49, 122), (98, 51, 123), (98, 52, 124), (98, 53, 125), (98, 54, 126), (98, 55, 127), (98, 56, 128), (98, 57, 129), (98, 58, 130), (98, 66, 131), (98, 67, 132), (98, 68, 133), (98, 70, 134), (98, 71, 135), (98, 72, 136), (98, 73, 137), (98, 74, 138), (98, 75, 139), (98, 78, 140), (98, 79, 141), (98, 81, 142), (98, 83, 143)]
theorem usA_ok : usA.foldl stR noL = R0L.map (fun r => r ++ List.replicate (87 - r.length) none) := by decide +kernel
theorem usA_in : ∀ s, s ∈ usA → s.1 < 144 ∧ s.2.1 < 87 := by decide +kernel
theorem usA_R0 : upRs (fun _ _ => none) usA = R0 := by
  rw [← noL_no, upRs_ofL usA noL noL_ok usA_in, usA_ok]
  funext a k
  show ((R0L.map (fun r => r ++ List.replicate (87 - r.length) none)).getD a []).getD k none = (R0L.getD a []).getD k none
  rw [List.getD_eq_getElem?_getD (l := R0L.map _), List.getElem?_map, List.getD_eq_getElem?_getD (l := R0L)]
  cases R0L[a]? with
  | none => rfl
  | some r =>
    show (r ++ List.replicate (87 - r.length) none).getD k none = r.getD k none
    rw [List.getD_eq_getElem?_getD, List.getD_eq_getElem?_getD]
    by_cases c : k < r.length
    · rw [List.getElem?_append_left c]
    · rw [List.getElem?_append_right (by omega), List.getElem?_eq_none (l := r) (by omega), List.getElem?_replicate]
      by_cases c2 : k - r.length < 87 - r.length
      · rw [if_pos c2]; rfl
      · rw [if_neg c2]
def R98 : Rfs := (upR (upR (upR (upR (upR (upR (upR (upR (upR (upR (upR (upR (upR (upR (upR (upR (upR (upR (upR (upR (upR (upR (upR (upR (upR (upR (upR (upR (upR (upR (upR (upR (upR (upR (upR (upR (upR (upR (upR (upR (upR (upR (upR (upR (upR (upR (upR (upR (upR (upR (upR (upR (upR (upR (upR (upR (upR (upR (upR (upR (upR (fun _ _ => none) 2 0 (some 3)) 2 1 (some 4)) 1 0 (some 2)) 5 3 (some 6)) 5 6 (some 7)) 5 7 (some 8)) 5 8 (some 9)) 5 9 (some 10)) 5 11 (some 11)) 5 12 (some 12)) 5 14 (some 13)) 5 17 (some 14)) 15 0 (some 16)) 15 1 (some 17)) 15 2 (some 18)) 5 18 (some 15)) 5 19 (some 19)) 1 1 (some 5)) 1 2 (some 20)) 0 0 (some 1)) 21 3 (some 22)) 21 6 (some 23)) 21 7 (some 24)) 21 8 (some 25)) 21 9 (some 26)) 21 11 (some 27)) 21 12 (some 28)) 21 14 (some 29)) 21 17 (some 30)) 31 0 (some 32)) 31 1 (some 33)) 31 2 (some 34)) 21 18 (some 31)) 21 19 (some 35)) 0 1 (some 21)) 36 6 (some 37)) 0 2 (some 36)) 38 6 (some 39)) 0 3 (some 38)) 40 6 (some 41)) 0 4 (some 40)) 42 0 (some 43)) 0 6 (some 42)) 44 0 (some 45)) 44 1 (some 46)) 44 2 (some 47)) 44 3 (some 48)) 44 4 (some 49)) 0 7 (some 44)) 86 0 (some 87)) 86 1 (some 88)) 86 2 (some 89)) 86 3 (some 90)) 86 4 (some 91)) 86 5 (some 92)) 0 8 (some 86)) 93 0 (some 94)) 93 1 (some 95)) 93 2 (some 96)) 93 3 (some 97)) 0 9 (some 93))
theorem RF_eq : (upR (upR (upR (upR (upR (upR (upR (upR (upR (upR (upR (upR (upR (upR (upR (upR (upR (upR (upR (upR (upR (upR (upR (upR (upR (upR (upR (upR (upR (upR (upR (upR (upR (upR (upR (upR (upR (upR (upR (upR (upR (upR (upR (upR (upR R98 98 0 (some 99)) 98 3 (some 100)) 98 20 (some 101)) 98 21 (some 102)) 98 22 (some 103)) 98 23 (some 104)) 98 24 (some 105)) 98 25 (some 106)) 98 26 (some 107)) 98 27 (some 108)) 98 28 (some 109)) 98 29 (some 110)) 98 30 (some 111)) 98 31 (some 112)) 98 34 (some 113)) 98 35 (some 114)) 98 36 (some 115)) 98 37 (some 116)) 98 38 (some 117)) 98 39 (some 118)) 98 40 (some 119)) 98 41 (some 120)) 98 48 (some 121)) 98 49 (some 122)) 98 51 (some 123)) 98 52 (some 124)) 98 53 (some 125)) 98 54 (some 126)) 98 55 (some 127)) 98 56 (some 128)) 98 57 (some 129)) 98 58 (some 130)) 98 66 (some 131)) 98 67 (some 132)) 98 68 (some 133)) 98 70 (some 134)) 98 71 (some 135)) 98 72 (some 136)) 98 73 (some 137)) 98 74 (some 138)) 98 75 (some 139)) 98 78 (some 140)) 98 79 (some 141)) 98 81 (some 142)) 98 83 (some 143)) = R0 := usA_R0
def M98 (M8 : Mem) : Mem := (upM (upM (upM (upM (upM (upM M8 1 5 (-1)) 1 10 (-1)) 42 2 (-1)) 42 3 (-1)) 86 10 (-1)) 93 5 (-1))
def M11 (M : Mem) : Mem := (upM (upM (wdM M 116) 98 5 (-1)) 98 77 (-1))
section START
variable {E : Scr} {bs : BF}
theorem c_init11 {f : Mem → Prop} {M : Mem} (h98 : ∀ k, k ≠ 5 → k ≠ 77 → M 98 k = 0) (h5 : M 98 5 = -1) (hw : ∀ i, i < 116 → M 100 i = (rwN i : Int)) (H : ∀ M9, (∀ a, a < 98 ∨ 144 ≤ a → M9 a = M a) → Rf (bs, 0, 0, -1) (ps0 bs 0) (y0 (ps0 bs 0)) n0 M9 → f M9) : CV E mX11_plain [pR 98] M (fun M1 => CV E mX11_keepText [pR 98] M1 f) := by
  refine c_plain (fun M1 a1 a2 a3 a4 a5 a6 => ?_)
  have q1 : ∀ k, k ≠ 5 → k ≠ 77 → ¬ (16 ≤ k ∧ k ≤ 19) → k ≠ 33 → k ≠ 45 → M1 98 k = 0 := fun k c1 c2 c3 c4 c5 => by rw [a2 k c3 c4 c5]; exact h98 k c1 c2
  have hw1 : ∀ i, i < 116 → M1 100 i = (rwN i : Int) := fun i hi => by rw [a1.1 100 (by decide) (by decide)]; exact hw i hi
  have hT1 : TPm bs 0 M1 := ⟨q1 6 (by decide) (by decide) (by decide) (by decide) (by decide), Nat.zero_le _, fun i hi => absurd hi (Nat.not_lt_zero _), hw1⟩
  have hTk : TM (tok bs 0 0) M1 := by
    refine ⟨?_, q1 10 (by decide) (by decide) (by decide) (by decide) (by decide), q1 7 (by decide) (by decide) (by decide) (by decide) (by decide)⟩
    unfold RK
    iterate 20 apply Or.inr
    exact Or.inl ⟨rfl, q1 8 (by decide) (by decide) (by decide) (by decide) (by decide)⟩
  have hP : PMr bs 0 (ps0 bs 0) M1 := ⟨hT1, hTk, ⟨a3.1, Nat.zero_le _, fun l hl => absurd hl (Nat.not_lt_zero _), fun l hl => absurd hl (Nat.not_lt_zero _)⟩, fun l hl _ => (a5 l hl).1, fun l hl => absurd hl (Nat.not_lt_zero _), fun l hl => (a5 l hl).2, ⟨a3.2.1, fun i o m he => absurd he (show ¬ ([] : List (Nat × Int))[i]? = some (o, m) by simp)⟩, ⟨a3.2.2.1, fun i m he => absurd he (show ¬ ([] : List Int)[i]? = some m by simp)⟩, ⟨(a4 0 (by decide)).2, (a4 1 (by decide)).2, (a4 0 (by decide)).1, (a4 1 (by decide)).1⟩, fun k hk => Or.inl ⟨rfl, a6 k hk⟩, fun e he => absurd he (show ¬ e ∈ ([] : List LF) by simp), ⟨a3.2.2.2.2.1, a3.2.2.2.1, a3.2.2.2.2.2⟩⟩
  refine c_keep (L := 0) PI.zero hP (fun M7 k1 k2 => c_layMay (L := 0) PI.zero PK.zero k2 (fun M8 f4 tb => ?_))
  refine c_beginM (L := 0) PI.zero (by rw [f4 98 (by decide) (by decide)]; exact k2.1.1) (fun l hl => by rw [f4 104 (by decide) (by decide)]; exact k2.2.2.2.1 l hl) (by rw [f4 102 (by decide) (by decide)]; exact k2.2.1.2) (fun M9 fb hy hn _ => ?_)
  refine H M9 (fun a ha => by rw [fb.1 a (by omega) (by omega), f4 a (by omega) (by omega), k1.1 a (by omega) (by omega), a1.1 a (by omega) (by omega)]) ?_
  exact ref_new (bs := bs) (L := 0) PI.zero hw1 (q1 1 (by decide) (by decide) (by decide) (by decide) (by decide)) (q1 4 (by decide) (by decide) (by decide) (by decide) (by decide)) (by rw [a2 5 (by decide) (by decide) (by decide)]; exact h5) k1 k2 f4 tb fb hy hn
theorem cls_start {M : Mem} (h0 : ∀ a, a = 0 ∨ a = 2 ∨ a = 21 ∨ a = 26 ∨ a = 30 ∨ a = 31 ∨ a = 36 ∨ a = 37 ∨ a = 44 → ∀ k, M a k = 0) (hw : ∀ w, w < 24 → M 4 w = (wcN w : Int)) (h9 : M 1 9 = 0) (h10 : M 1 10 = -1) (h934 : M 93 4 = 0) (h935 : M 93 5 = -1) : IC (bs, 0, 0, -1) (ps0 bs 0) M ∧ YC (y0 (ps0 bs 0)) M ∧ NC n0 M := by
  refine ⟨⟨⟨h0 2 (by decide) 2, fun i hi => absurd hi (Nat.not_lt_zero _), hw⟩, ⟨h9, h10⟩, ⟨h0 21 (by decide) 1, Nat.zero_le _, fun r hr => ?_, fun k hk => ⟨0, 0, h0 30 (by decide) _, h0 30 (by decide) _, Nat.le_refl _, Nat.zero_le _, Or.inl ⟨rfl, fun env => by unfold lawO; exact if_pos (Or.inr rfl)⟩⟩, h0 21 (by decide) 15, Int.le_refl _, (by decide : (0 : Int) ≤ 100)⟩, ⟨h0 21 (by decide) 10, fun k hk => absurd hk (Nat.not_lt_zero _), h0 21 (by decide) 13, fun k hk => absurd hk (Nat.not_lt_zero _)⟩, fun l hl => absurd hl (Nat.not_lt_zero _), h0 21 (by decide) 5, h0 21 (by decide) 4, h0 31 (by decide) 3⟩, ⟨⟨h0 36 (by decide) 0, h0 36 (by decide) 1, h0 36 (by decide) 2, h0 36 (by decide) 3, h0 36 (by decide) 4, h0 36 (by decide) 5, fun i hi => h0 37 (by decide) i⟩, ⟨Nat.zero_le _, 0, by decide, h0 44 (by decide) 5, h0 44 (by decide) 6, fun i hi => absurd hi (Nat.not_lt_zero _)⟩, h0 0 (by decide) 5, fun q => absurd (show false = true from q) (by decide)⟩, ⟨h934, h935, fun i hi => absurd hi (Nat.not_lt_zero _)⟩⟩
  have hr0 : r = 0 := by
    have : r < 1 := hr
    omega
  subst hr0
  have hlt : mayP (ps0 bs 0) 0 < 2 ^ sN (ps0 bs 0) := mayP_lt (L := 0) PI.zero
  have h1 : mayP (ps0 bs 0) 0 < 1 := hlt
  refine ⟨?_, hlt⟩
  rw [h0 26 (by decide) 0]
  omega
end START
