/-! what ties both sides together: tape, fault, text in force; the rest is YC YM NC NM -/
def poOf (s : PSt) : PO := ((sPu s).length, fun k => ((sPu s).getD k (0, 0)).1, fun k => ((sPu s).getD k (0, 0)).2, (sOi s).length, fun k => (sOi s).getD k 0)
abbrev ZT : Type := BF × Nat × Int × Int
def IC (z : ZT) (s : PSt) (M : Mem) : Prop :=
  (M 2 2 = (z.2.1 : Int) ∧ (∀ i, i < z.2.1 → M 3 i = (z.1 i : Int)) ∧ ∀ w, w < 24 → M 4 w = (wcN w : Int)) ∧ (M 1 9 = z.2.2.1 ∧ M 1 10 = z.2.2.2) ∧ CD (sN s) (mayP s) (lawO s) (sRu s) M ∧ PC (poOf s) M ∧ (∀ l, l < sN s → M 22 l = sM s l) ∧ M 21 5 = (sLn s : Int) ∧ M 21 4 = ((sLf s).length : Int) ∧ M 31 3 = (sC s : Int)
def IM (z : ZT) (s : PSt) (M : Mem) : Prop :=
  (M 98 1 = (z.2.1 : Int) ∧ (∀ i, i < z.2.1 → M 99 i = (z.1 i : Int)) ∧ ∀ i, i < 116 → M 100 i = (rwN i : Int)) ∧ (M 98 4 = z.2.2.1 ∧ M 98 5 = z.2.2.2) ∧ MD (sN s) (mayP s) (lawO s) (sRu s) M ∧ PM (poOf s) M ∧ (∀ l, l < sN s → M 103 l = sM s l) ∧ (∀ l, l < sN s → if (sLn s).testBit l = true then 0 ≤ M 105 l else M 105 l = -1) ∧ M 98 15 = (sC s : Int)
def IP (z : ZT) (s : PSt) (y : YS) (no : NS) : Prop :=
  (z.2.1 ≤ 700 ∧ ∀ i, i < z.2.1 → z.1 i < 256) ∧ (∃ L, PI L s) ∧ SymC (sN s) (mayP s) ∧ LnO (sN s) (mayP s) (sLn s) ∧ LwB (lawO s) ∧ wfP (sN s) (poOf s) ∧ wfY (sN s) y ∧ wfNo (sN s) no
theorem IC.of {z : ZT} {s : PSt} {M M' : Mem} (h : IC z s M) (hF : ∀ a, 1 ≤ a → a ≤ 33 → M' a = M a) : IC z s M' := by
  unfold IC CD PC LwC at h ⊢
  rw [hF 1 (by decide) (by decide), hF 2 (by decide) (by decide), hF 3 (by decide) (by decide), hF 4 (by decide) (by decide), hF 21 (by decide) (by decide), hF 22 (by decide) (by decide), hF 26 (by decide) (by decide), hF 27 (by decide) (by decide), hF 28 (by decide) (by decide), hF 29 (by decide) (by decide), hF 30 (by decide) (by decide), hF 31 (by decide) (by decide), hF 32 (by decide) (by decide), hF 33 (by decide) (by decide)]
  exact h
theorem IM.of {z : ZT} {s : PSt} {M M' : Mem} (h : IM z s M) (hF : ∀ a, (99 ≤ a ∧ a ≤ 118) ∨ a = 123 → M' a = M a) (hk : ∀ k, k = 1 ∨ k = 4 ∨ k = 5 ∨ (12 ≤ k ∧ k ≤ 15) → M' 98 k = M 98 k) : IM z s M' := by
  unfold IM MD PM LwM at h ⊢
  rw [hF 99 (by decide), hF 100 (by decide), hF 102 (by decide), hF 103 (by decide), hF 105 (by decide), hF 107 (by decide), hF 108 (by decide), hF 109 (by decide), hF 113 (by decide), hF 114 (by decide), hF 115 (by decide), hF 116 (by decide), hF 117 (by decide), hF 118 (by decide), hF 123 (by decide), hk 1 (by decide), hk 4 (by decide), hk 5 (by decide), hk 12 (by decide), hk 13 (by decide), hk 14 (by decide), hk 15 (by decide)]
  exact h
theorem vC.of {q : Nat} {d : DS} {M M' : Mem} (h : vC q d M) (h1 : M' q = M q) (h2 : M' (q + 1) = M (q + 1)) : vC q d M' := by
  unfold vC at h ⊢
  rw [h1, h2]; exact h
theorem YC.of {y : YS} {M M' : Mem} (h : YC y M) (hF : ∀ a, a = 0 ∨ a = 36 ∨ a = 37 ∨ a = 40 ∨ a = 41 ∨ (44 ≤ a ∧ a ≤ 85) → M' a = M a) : YC y M' := by
  obtain ⟨h1, h2, h7, h8⟩ := h
  refine ⟨h1.of (hF 36 (by decide)) (hF 37 (by decide)), h2.congr (fun a a1 a2 => hF a (by omega)), ?_, fun z => (h8 z).of (hF 40 (by decide)) (hF 41 (by decide))⟩
  rw [hF 0 (by decide)]; exact h7
theorem NC.of {s : NS} {M M' : Mem} (h : NC s M) (hF : ∀ a, 93 ≤ a → a ≤ 96 → M' a = M a) : NC s M' := by
  unfold NC at h ⊢
  rw [hF 93 (by decide) (by decide), hF 94 (by decide) (by decide), hF 95 (by decide) (by decide), hF 96 (by decide) (by decide)]
  exact h
theorem NM.of {s : NS} {M M' : Mem} (h : NM s M) (h1 : M' 140 = M 140) (h2 : M' 98 76 = M 98 76) (h3 : M' 98 77 = M 98 77) : NM s M' := by
  unfold NM at h ⊢
  rw [h1, h2, h3]; exact h
theorem YM.ofK {y : YS} {M M' : Mem} (h : YM y M) (hF : ∀ a, (125 ≤ a ∧ a ≤ 130) ∨ a = 142 ∨ a = 143 → M' a = M a) (hk : ∀ k, k = 59 ∨ k = 62 ∨ (80 ≤ k ∧ k ≤ 86) → M' 98 k = M 98 k) : YM y M' := by
  unfold YM vM UM ZM uM at h ⊢
  rw [hF 125 (by decide), hF 126 (by decide), hF 127 (by decide), hF 128 (by decide), hF 129 (by decide), hF 130 (by decide), hF 142 (by decide), hF 143 (by decide), hk 59 (by decide), hk 62 (by decide), hk 80 (by decide), hk 82 (by decide), hk 84 (by decide), hk 85 (by decide), hk 86 (by decide)]
  exact h
def Inv (z : ZT) (s : PSt) (y : YS) (no : NS) (M : Mem) : Prop := IP z s y no ∧ (IC z s M ∧ YC y M ∧ NC no M) ∧ IM z s M ∧ YM y M ∧ NM no M
/-- the class's half changes: what the reference holds stays -/
theorem Inv.cls {z : ZT} {s : PSt} {y : YS} {no : NS} {M M' : Mem} (h : IM z s M ∧ YM y M ∧ NM no M) (hF : ∀ a, 98 ≤ a → M' a = M a) : IM z s M' ∧ YM y M' ∧ NM no M' :=
  ⟨h.1.of (fun a _ => hF a (by omega)) (fun k _ => by rw [hF 98 (by decide)]), h.2.1.ofK (fun a _ => hF a (by omega)) (fun k _ => by rw [hF 98 (by decide)]), h.2.2.of (hF 140 (by decide)) (by rw [hF 98 (by decide)]) (by rw [hF 98 (by decide)])⟩
/-- the reference's half changes: what the class holds stays -/
theorem Inv.ref {z : ZT} {s : PSt} {y : YS} {no : NS} {M M' : Mem} (h : IC z s M ∧ YC y M ∧ NC no M) (hF : ∀ a, a < 98 → M' a = M a) : IC z s M' ∧ YC y M' ∧ NC no M' :=
  ⟨h.1.of (fun a _ _ => hF a (by omega)), h.2.1.of (fun a _ => hF a (by omega)), h.2.2.of (fun a _ _ => hF a (by omega))⟩
/-- both are asked, and answer alike -/
def Bo (E : Scr) (mc mm : Mi) (as : List PV) (M : Mem) (P : Mem → Prop) : Prop := CI E mc (pR 0 :: as) M (fun r M1 => CI E mm (pR 98 :: as) M1 (fun r' M2 => r' = r ∧ P M2))
def BoL (E : Scr) (mc mm : Mi) (as : List PV) (M : Mem) (P : Mem → Prop) : Prop := CL E mc (pR 0 :: as) M (fun r M1 => CL E mm (pR 98 :: as) M1 (fun r' M2 => r' = r ∧ P M2))
section SMALL
variable {E : Scr} {z : ZT} {s : PSt} {y : YS} {no : NS}
theorem IM.u2 {M : Mem} (h : IM z s M ∧ YM y M ∧ NM no M) : IM z s (upM M 98 2 0) ∧ YM y (upM M 98 2 0) ∧ NM no (upM M 98 2 0) := by
  have hc : ∀ a, a ≠ 98 → upM M 98 2 0 a = M a := fun a ha => upM_ne _ _ _ ha
  have hk : ∀ k, k ≠ 2 → upM M 98 2 0 98 k = M 98 k := fun k k2 => by rw [upM_self, va_up_neq _ _ k2]
  exact ⟨h.1.of (fun a _ => hc a (by omega)) (fun k _ => hk k (by omega)), h.2.1.ofK (fun a _ => hc a (by omega)) (fun k _ => hk k (by omega)), h.2.2.of (hc 140 (by decide)) (hk 76 (by decide)) (hk 77 (by decide))⟩
theorem Inv.u2 {M : Mem} (h : Inv z s y no M) : Inv z s y no (upM M 98 2 0) :=
  ⟨h.1, Inv.ref h.2.1 (fun a ha => upM_ne _ _ _ (by omega)), IM.u2 h.2.2⟩
theorem b_fault {M : Mem} {P : Mem → Prop} {x : Int} (hx : iR x) (h : Inv z s y no M) (H : ∀ M', Inv z s y no M' → P M') : Bo E mX10_fault mX11_fault [pI x] M P := by
  apply vX10_fault_0
  obtain ⟨c1, c2⟩ := h.2.1.1.2.1
  obtain ⟨r1, r2⟩ := h.2.2.1.2.1
  rw [c1, c2]
  have fin : ∀ v, (x = 0 → v = z.2.2.1) → (x = 1 → v = z.2.2.2) → (x ≠ 0 → x ≠ 1 → v = -1) → CI E mX11_fault [pR 98, pI x] M (fun r' M2 => r' = v ∧ P M2) := by
    intro v v0 v1 v2
    apply vX11_fault_0
    rw [r1, r2]
    exact ⟨hx, fun a => ⟨hx, fun b => ⟨(v2 a b).symm, H _ h.u2⟩, fun b _ => ⟨(v1 b).symm, H _ h.u2⟩⟩, fun a _ => ⟨(v0 a).symm, H _ h.u2⟩⟩
  exact ⟨hx, fun a => ⟨hx, fun b => fin _ (fun q => absurd q a) (fun q => absurd q b) (fun _ _ => rfl), fun b _ => fin _ (fun q => absurd q a) (fun _ => rfl) (fun _ q => absurd b q)⟩, fun a _ => fin _ (fun _ => rfl) (fun q => absurd (a.symm.trans q) (by decide)) (fun q _ => absurd a q)⟩
theorem b_named {M : Mem} {P : Mem → Prop} {x : Int} (hx : iR x) (h : Inv z s y no M) (H : ∀ M', Inv z s y no M' → P M') : Bo E mX10_named mX11_named [pI x] M P := by
  obtain ⟨L, hI⟩ := h.1.2.1
  have hn : sN s ≤ 8 := hI.2.1.1
  apply vX10_named_0
  refine c_numberOf (Or.inr rfl) hx h.2.1.1.2.2.1.1 hn h.2.1.1.2.2.2.2.1 ?_
  apply vX11_named_0
  rw [h.2.2.1.2.2.1.1]
  intro _
  exact c_findM (fr := 0) hx hn (by decide) (fun l hl => by rw [Nat.zero_add]; exact h.u2.2.2.1.2.2.2.2.1 l hl) ⟨rfl, H _ h.u2⟩
/-! what an observer keeps -/
def Rf (z : ZT) (s : PSt) (y : YS) (no : NS) (M : Mem) : Prop := IM z s M ∧ YM y M ∧ NM no M
def KpC (M M' : Mem) : Prop := ∀ a, a ≤ 33 ∨ a = 36 ∨ a = 37 ∨ a = 40 ∨ a = 41 ∨ (44 ≤ a ∧ a ≤ 85) ∨ (93 ≤ a ∧ a ≤ 96) ∨ 98 ≤ a → M' a = M a
def KpR (z : ZT) (s : PSt) (y : YS) (no : NS) (M M' : Mem) : Prop := Rf z s y no M' ∧ ∀ a, a < 98 → M' a = M a
theorem FrT.kpC {M M' : Mem} (h : FrT M M') : KpC M M' := fun a ha => h a (by omega) (by omega) (by omega) (by omega) (by omega)
theorem FrQ.kpC {M M' : Mem} (h : FrQ M M') : KpC M M' := fun a ha => h a (by omega)
theorem KpC.rf (M : Mem) : KpC M M := fun _ _ => rfl
theorem KpR.u2 {M : Mem} (h : Rf z s y no M) : KpR z s y no M (upM M 98 2 0) := ⟨IM.u2 h, fun a ha => upM_ne _ _ _ (by omega)⟩
theorem FrR.kpR {M M' : Mem} {y' : YS} (h : Rf z s y no M) (hF : FrR M M') (hy : YM y' M') : KpR z s y' no M M' :=
  ⟨⟨h.1.of (fun a ha => hF.1 a (by omega) (by omega) (by omega) (by omega) (by omega) (by omega)) (fun k hk => hF.2 k (by omega) (by omega) (by omega) (by omega)), hy, h.2.2.of (hF.1 140 (by decide) (by decide) (by decide) (by decide) (by decide) (by decide)) (hF.2 76 (by decide) (by decide) (by decide) (by decide)) (hF.2 77 (by decide) (by decide) (by decide) (by decide))⟩, fun a ha => hF.1 a (by omega) (by omega) (by omega) (by omega) (by omega) (by omega)⟩
theorem FrN.kpR {M M' : Mem} (h : Rf z s y no M) (hF : FrN M M') : KpR z s y no M M' :=
  ⟨⟨h.1.of (fun a ha => hF.1 a (by omega) (by omega)) (fun k hk => hF.2 k (by omega) (by omega)), h.2.1.ofK (fun a ha => hF.1 a (by omega) (by omega)) (fun k hk => hF.2 k (by omega) (by omega)), h.2.2.of (hF.1 140 (by decide) (by decide)) (hF.2 76 (by decide) (by decide)) (hF.2 77 (by decide) (by decide))⟩, fun a ha => hF.1 a (by omega) (by omega)⟩
theorem FrJ.kpR {M M' : Mem} {no' : NS} (h : Rf z s y no M) (hF : FrJ M M') (hN : NM no' M') : KpR z s y no' M M' :=
  ⟨⟨h.1.of (fun a ha => hF.1 a (by omega) (by omega) (by omega)) (fun k hk => hF.2 k (by omega) (by omega) (by omega)), h.2.1.ofK (fun a ha => hF.1 a (by omega) (by omega) (by omega)) (fun k hk => hF.2 k (by omega) (by omega) (by omega)), hN⟩, fun a ha => hF.1 a (by omega) (by omega) (by omega)⟩
theorem KpC.cls {M M' : Mem} (h : IC z s M ∧ YC y M ∧ NC no M) (hF : KpC M M') : IC z s M' ∧ YC y M' ∧ NC no M' :=
  ⟨h.1.of (fun a _ _ => hF a (by omega)), h.2.1.of (fun a _ => hF a (by omega)), h.2.2.of (fun a _ _ => hF a (by omega))⟩
theorem KpC.ref {M M' : Mem} (h : Rf z s y no M) (hF : KpC M M') : Rf z s y no M' := Inv.cls h (fun a _ => hF a (by omega))
/-- an observer, on both sides -/
theorem bo_obs {mc mm : Mi} {as : List PV} {M : Mem} {P : Mem → Prop} {r : Int} (h : Inv z s y no M) (H : ∀ M', Inv z s y no M' → P M')
    (hC : ∀ f : Int → Mem → Prop, (∀ M', KpC M M' → f r M') → CI E mc (pR 0 :: as) M f)
    (hM : ∀ (M1 : Mem) (f : Int → Mem → Prop), Rf z s y no M1 → (∀ M', KpR z s y no M1 M' → f r M') → CI E mm (pR 98 :: as) M1 f) : Bo E mc mm as M P :=
  hC _ (fun M1 f1 => hM M1 _ (KpC.ref h.2.2 f1) (fun M2 f2 => ⟨rfl, H M2 ⟨h.1, Inv.ref (KpC.cls h.2.1 f1) f2.2, f2.1⟩⟩))
theorem bo_obsL {mc mm : Mi} {as : List PV} {M : Mem} {P : Mem → Prop} {r : Int} (h : Inv z s y no M) (H : ∀ M', Inv z s y no M' → P M')
    (hC : ∀ f : Int → Mem → Prop, (∀ M', KpC M M' → f r M') → CL E mc (pR 0 :: as) M f)
    (hM : ∀ (M1 : Mem) (f : Int → Mem → Prop), Rf z s y no M1 → (∀ M', KpR z s y no M1 M' → f r M') → CL E mm (pR 98 :: as) M1 f) : BoL E mc mm as M P :=
  hC _ (fun M1 f1 => hM M1 _ (KpC.ref h.2.2 f1) (fun M2 f2 => ⟨rfl, H M2 ⟨h.1, Inv.ref (KpC.cls h.2.1 f1) f2.2, f2.1⟩⟩))
theorem bo_dyn {mc mm : Mi} {as : List PV} {M : Mem} {P : Mem → Prop} {r : Int} {y' : YS} (hw : wfY (sN s) y') (h : Inv z s y no M) (H : ∀ M', Inv z s y' no M' → P M')
    (hC : ∀ f : Int → Mem → Prop, (∀ M', FrD M M' → YC y' M' → f r M') → CI E mc (pR 0 :: as) M f)
    (hM : ∀ (M1 : Mem) (f : Int → Mem → Prop), Rf z s y no M1 → (∀ M', FrR M1 M' → YM y' M' → f r M') → CI E mm (pR 98 :: as) M1 f) : Bo E mc mm as M P := by
  refine hC _ (fun M1 f1 y1 => ?_)
  have h1 : Rf z s y no M1 := Inv.cls h.2.2 (fun a ha => f1 a (by omega) (by omega) (by omega))
  refine hM M1 _ h1 (fun M2 f2 y2 => ⟨rfl, H M2 ⟨⟨h.1.1, h.1.2.1, h.1.2.2.1, h.1.2.2.2.1, h.1.2.2.2.2.1, h.1.2.2.2.2.2.1, hw, h.1.2.2.2.2.2.2.2⟩, ?_, ?_⟩⟩)
  · exact Inv.ref ⟨h.2.1.1.of (fun a _ _ => f1 a (by omega) (by omega) (by omega)), y1, h.2.1.2.2.of (fun a _ _ => f1 a (by omega) (by omega) (by omega))⟩ (FrR.kpR h1 f2 y2).2
  · exact (FrR.kpR h1 f2 y2).1
theorem bo_nts {mc mm : Mi} {as : List PV} {M : Mem} {P : Mem → Prop} {r : Int} {no' : NS} (hw : wfNo (sN s) no') (h : Inv z s y no M) (H : ∀ M', Inv z s y no' M' → P M')
    (hC : ∀ f : Int → Mem → Prop, (∀ M', FrO M M' → NC no' M' → f r M') → CI E mc (pR 0 :: as) M f)
    (hM : ∀ (M1 : Mem) (f : Int → Mem → Prop), Rf z s y no M1 → (∀ M', FrJ M1 M' → NM no' M' → f r M') → CI E mm (pR 98 :: as) M1 f) : Bo E mc mm as M P := by
  refine hC _ (fun M1 f1 y1 => ?_)
  have h1 : Rf z s y no M1 := Inv.cls h.2.2 (fun a ha => f1 a (by omega))
  refine hM M1 _ h1 (fun M2 f2 y2 => ⟨rfl, H M2 ⟨⟨h.1.1, h.1.2.1, h.1.2.2.1, h.1.2.2.2.1, h.1.2.2.2.2.1, h.1.2.2.2.2.2.1, h.1.2.2.2.2.2.2.1, hw⟩, ?_, ?_⟩⟩)
  · exact Inv.ref ⟨h.2.1.1.of (fun a _ _ => f1 a (by omega)), h.2.1.2.1.of (fun a _ => f1 a (by omega)), y1⟩ (FrJ.kpR h1 f2 y2).2
  · exact (FrJ.kpR h1 f2 y2).1
end SMALL
