/-! a minute -/
def vnF (d : DS) (k : Int) : DS := (dMi d, dRo d, dSe d, dEf d, dVa d + k, dNu d, dWo d)
def onF (o : Op) (law : Lw) (may : Nat → Nat) (rust : Int) (d : DS) (l : Nat) : DS := if (pushF o law may rust d l).1 then (pushF o law may rust d l).2 else vnF d 1
def rpF (o : Op) (law : Lw) (may : Nat → Nat) (rust : Int) (l : Nat) : Nat → DS → DS
  | 0, d => d
  | t + 1, d => rpF o law may rust l t (onF o law may rust d l)
def psF (o : Op) (law : Lw) (may : Nat → Nat) (rust : Int) (pl : Nat → Nat) (pm : Nat → Int) : Nat → Nat → DS → DS
  | 0, _, d => d
  | j + 1, k, d => psF o law may rust pl pm j (k + 1) (if pm k = dMi d ∧ (pl k : Int) ≠ oId o then rpF o law may rust (pl k) (if oTw o then 2 else 1) d else d)
def olF (om : Nat → Int) : Nat → Nat → DS → DS
  | 0, _, d => d
  | j + 1, k, d => olF om j (k + 1) (if om k = dMi d then (dMi d, dRo d, 0, dEf d, dVa d, dNu d, dWo d) else d)
def tkF (d : DS) : DS := (dMi d + 1, dRo d, dSe d, dEf d, dVa d, dNu d, dWo d)
/-- pushes and oils told -/
abbrev PO : Type := Nat × (Nat → Nat) × (Nat → Int) × Nat × (Nat → Int)
def minF (o : Op) (law : Lw) (may : Nat → Nat) (rust : Int) (po : PO) (d : DS) : DS :=
  tkF (psF o law may rust po.2.1 po.2.2.1 po.1 0 (if oNo o then d else olF po.2.2.2.2 po.2.2.2.1 0 d))
def goF (o : Op) (law : Lw) (may : Nat → Nat) (rust : Int) (po : PO) : Nat → DS → DS
  | 0, d => d
  | j + 1, d => goF o law may rust po j (minF o law may rust po d)
def wfP (n : Nat) (po : PO) : Prop := po.1 ≤ 16 ∧ (∀ k, k < po.1 → po.2.1 k < n ∧ 0 ≤ po.2.2.1 k ∧ po.2.2.1 k ≤ 99) ∧ po.2.2.2.1 ≤ 4 ∧ ∀ k, k < po.2.2.2.1 → 0 ≤ po.2.2.2.2 k ∧ po.2.2.2.2 k ≤ 99
theorem push_mi {o : Op} {law : Lw} {may : Nat → Nat} {rust : Int} {d : DS} {l : Nat} : dMi (pushF o law may rust d l).2 = dMi d ∧ dVa (pushF o law may rust d l).2 = dVa d := by
  unfold pushF
  split
  · dsimp only
    split
    · exact ⟨rfl, rfl⟩
    · exact ⟨rfl, rfl⟩
  · exact ⟨rfl, rfl⟩
theorem push_false {o : Op} {law : Lw} {may : Nat → Nat} {rust : Int} {d : DS} {l : Nat} (h : (pushF o law may rust d l).1 = false) : (pushF o law may rust d l).2 = d := by
  unfold pushF at h ⊢
  split
  · rename_i hc
    rw [if_pos hc] at h
    dsimp only at h
    split at h <;> cases h
  · rfl
theorem on_b {o : Op} {law : Lw} {may : Nat → Nat} {rust : Int} {d : DS} {l n : Nat} (hw : wfD n d) (hl : l < n) : wfD n (onF o law may rust d l) ∧ dMi (onF o law may rust d l) = dMi d ∧ dVa d ≤ dVa (onF o law may rust d l) ∧ dVa (onF o law may rust d l) ≤ dVa d + 1 := by
  unfold onF
  split
  · have := push_mi (o := o) (law := law) (may := may) (rust := rust) (d := d) (l := l)
    exact ⟨wfD_push hw hl, this.1, by omega, by omega⟩
  · exact ⟨hw, rfl, by show dVa d ≤ dVa d + 1; omega, by show dVa d + 1 ≤ dVa d + 1; omega⟩
theorem rp_b {o : Op} {law : Lw} {may : Nat → Nat} {rust : Int} {l n : Nat} (hl : l < n) : ∀ (t : Nat) (d : DS), wfD n d → wfD n (rpF o law may rust l t d) ∧ dMi (rpF o law may rust l t d) = dMi d ∧ dVa d ≤ dVa (rpF o law may rust l t d) ∧ dVa (rpF o law may rust l t d) ≤ dVa d + t := by
  intro t
  induction t with
  | zero => intro d hw; exact ⟨hw, rfl, by show dVa d ≤ dVa d; omega, by show dVa d ≤ dVa d + _; omega⟩
  | succ t ih =>
    intro d hw
    have h1 := on_b (o := o) (law := law) (may := may) (rust := rust) hw hl
    have h2 := ih (onF o law may rust d l) h1.1
    refine ⟨h2.1, h2.2.1.trans h1.2.1, ?_, ?_⟩
    · show dVa d ≤ dVa (rpF o law may rust l t (onF o law may rust d l)); omega
    · show dVa (rpF o law may rust l t (onF o law may rust d l)) ≤ _; omega
/-- the reference's pushes and oils -/
def PM (po : PO) (M : Mem) : Prop := M 98 13 = (po.1 : Int) ∧ (∀ k, k < po.1 → M 107 k = (po.2.1 k : Int) ∧ M 108 k = po.2.2.1 k) ∧ M 98 14 = (po.2.2.2.1 : Int) ∧ ∀ k, k < po.2.2.2.1 → M 109 k = po.2.2.2.2 k
theorem PM.fr {b : Nat} {po : PO} {M M' : Mem} (h : PM po M) (hF : FrP b M M') : PM po M' := by
  obtain ⟨h1, h2, h3, h4⟩ := h
  refine ⟨by rw [hF.f98 (by decide)]; exact h1, ?_, by rw [hF.f98 (by decide)]; exact h3, ?_⟩
  · rw [hF.row (a := 107) (by decide), hF.row (a := 108) (by decide)]; exact h2
  · rw [hF.row (a := 109) (by decide)]; exact h4
section MINUTE
variable {E : Scr} {o : Op} {law : Lw} {may : Nat → Nat} {rust : Int} {po : PO} {n b : Nat}
theorem c_min97 {f : Mem → Prop} {k : Nat} (hb : b < 2) (hP : wfP n po) (hk : k < po.1) : ∀ (t : Nat) (x3 : Nat) (d : DS) (M : Mem), x3 + t = (if oTw o then 2 else 1) → wfD n d → (0 ≤ dVa d ∧ dVa d + t < 1000000) → MD n may law rust M → OpM o M → PM po M → vM b d M →
    (∀ M', FrP b M M' → vM b (rpF o law may rust (po.2.1 k) t d) M' → KW E mX11_minuteGoes (qV f) M' 56 [(0, pR 98), (1, pI (b : Int)), (2, pI ((k : Int) + 1))] []) →
    KW E mX11_minuteGoes (qV f) M 97 [(0, pR 98), (1, pI (b : Int)), (2, pI (k : Int)), (3, pI (x3 : Int))] [] := by
  intro t
  induction t with
  | zero =>
    intro x3 d M hx hw hva hD hO hPM hv H
    have h := H M (FrP.rf b M) hv
    apply vX11_minuteGoes_97
    rw [hO.2.2.2.2.1]
    intro _
    refine ⟨fun c => ?_, fun c => ?_⟩
    · rw [bI_eq0 c] at hx
      simp at hx
      exact vX11_minuteGoes_110 _ _ _ _ _ ⟨⟨by omega, by omega⟩, ⟨by omega, by omega⟩, fun _ => h, fun z => absurd z (by omega)⟩
    · rw [bI_ne c] at hx
      simp at hx
      exact vX11_minuteGoes_110 _ _ _ _ _ ⟨⟨by omega, by omega⟩, ⟨by omega, by omega⟩, fun _ => h, fun z => absurd z (by omega)⟩
  | succ t ih =>
    intro x3 d M hx hw hva hD hO hPM hv H
    have hin2 : (0 : Int) ≤ (b : Int) ∧ (b : Int) < 2 := ⟨by omega, by omega⟩
    have hin32 : (0 : Int) ≤ (k : Int) ∧ (k : Int) < 32 := ⟨by omega, by have := hP.1; omega⟩
    have hpl := (hP.2.1 k hk).1
    have key : ∀ s0 : Int, (x3 : Int) < s0 → s0 ≤ 2 → KW E mX11_minuteGoes (qV f) M 110 [(0, pR 98), (1, pI (b : Int)), (2, pI (k : Int)), (3, pI (x3 : Int))] [pI s0, pI (x3 : Int)] := by
      intro s0 hs0 hs2
      apply vX11_minuteGoes_110
      rw [Int.toNat_natCast, Int.toNat_natCast, (hPM.2.1 k hk).1, hv.2.2.2.2.1]
      refine ⟨⟨by omega, by omega⟩, ⟨by omega, by omega⟩, fun z => absurd z (by omega), fun _ => ⟨hin2, fun _ => ⟨hin32, fun _ => ?_⟩⟩⟩
      refine c_pushesOne hb hpl hw hD hO hv ?_
      intro M8 hF8 hv8
      have hm := push_mi (o := o) (law := law) (may := may) (rust := rust) (d := d) (l := po.2.1 k)
      have next : ∀ v0 : Int, vM b (onF o law may rust d (po.2.1 k)) (upM M8 128 b v0) → KW E mX11_minuteGoes (qV f) (upM M8 128 b v0) 97 [(0, pR 98), (1, pI (b : Int)), (2, pI (k : Int)), (3, pI ((x3 : Int) + 1))] [] := by
        intro v0 hvn
        have hF9 : FrP b M (upM M8 128 b v0) := hF8.tr (FrP.u M8 _ (Or.inl ⟨by decide, by decide, rfl⟩))
        have hob := on_b (o := o) (law := law) (may := may) (rust := rust) hw hpl
        exact ih (x3 + 1) _ _ (by omega) hob.1 ⟨by omega, by omega⟩ (hD.fr hF9) (hO.fr hF9) (hPM.fr hF9) hvn (fun M' a1 a2 => H M' (hF9.tr a1) a2)
      cases hp : (pushF o law may rust d (po.2.1 k)).1
      · refine ⟨⟨by decide, by decide⟩, fun _ => ⟨hin2, ⟨by omega, by omega⟩, next _ ?_⟩, fun z => absurd rfl z⟩
        rw [push_false hp] at hv8
        obtain ⟨v1, v2, v3, v4, v5, v6, v7⟩ := hv8
        simp only [onF, hp]
        exact ⟨v1, v2, v3, v4, va_up_self _ _ _, v6, v7⟩
      · refine ⟨⟨by decide, by decide⟩, fun z => absurd z (by decide), fun _ => ⟨hin2, ⟨by omega, by omega⟩, next _ ?_⟩⟩
        obtain ⟨v1, v2, v3, v4, v5, v6, v7⟩ := hv8
        simp only [onF, hp, if_true]
        exact ⟨v1, v2, v3, v4, (va_up_self _ _ _).trans (by omega), v6, v7⟩
    apply vX11_minuteGoes_97
    rw [hO.2.2.2.2.1]
    intro _
    refine ⟨fun c => ?_, fun c => ?_⟩
    · rw [bI_eq0 c] at hx
      simp at hx
      exact key 1 (by omega) (by omega)
    · rw [bI_ne c] at hx
      simp at hx
      exact key 2 (by omega) (by omega)
theorem c_min56 {f : Mem → Prop} (hb : b < 2) (hP : wfP n po) : ∀ (j k : Nat) (d : DS) (M : Mem), k + j = po.1 → wfD n d → (0 ≤ dVa d ∧ dVa d + 2 * j < 999990) → dMi d < 10000 → MD n may law rust M → OpM o M → PM po M → vM b d M →
    (∀ M', FrP b M M' → vM b (tkF (psF o law may rust po.2.1 po.2.2.1 j k d)) M' → f M') →
    KW E mX11_minuteGoes (qV f) M 56 [(0, pR 98), (1, pI (b : Int)), (2, pI (k : Int))] [] := by
  intro j
  induction j with
  | zero =>
    intro k d M hkj hw hva hmi hD hO hPM hv H
    apply vX11_minuteGoes_56
    rw [hPM.1, Int.toNat_natCast, Int.toNat_natCast, hv.1]
    have hw4 := hw.2.2.2.1
    have hp16 := hP.1
    refine fun _ => ⟨⟨by omega, by omega⟩, fun _ => ⟨⟨by omega, by omega⟩, fun _ => ⟨⟨by omega, by omega⟩, ⟨by omega, by omega⟩, ?_⟩⟩, fun z => absurd z (by omega)⟩
    refine H _ (FrP.u M _ (Or.inl ⟨by decide, by decide, rfl⟩)) ?_
    obtain ⟨v1, v2, v3, v4, v5, v6, v7⟩ := hv
    exact ⟨va_up_self _ _ _, v2, v3, v4, v5, v6, v7⟩
  | succ j ih =>
    intro k d M hkj hw hva hmi hD hO hPM hv H
    have hk : k < po.1 := by omega
    have hp16 := hP.1
    have hpk := hP.2.1 k hk
    have hin2 : (0 : Int) ≤ (b : Int) ∧ (b : Int) < 2 := ⟨by omega, by omega⟩
    have hin32 : (0 : Int) ≤ (k : Int) ∧ (k : Int) < 32 := ⟨by omega, by omega⟩
    apply vX11_minuteGoes_56
    rw [hPM.1, Int.toNat_natCast, Int.toNat_natCast, hv.1, (hPM.2.1 k hk).1, (hPM.2.1 k hk).2, hO.2.2.2.2.2]
    have skip : ¬ (po.2.2.1 k = dMi d ∧ (po.2.1 k : Int) ≠ oId o) → KW E mX11_minuteGoes (qV f) M 56 [(0, pR 98), (1, pI (b : Int)), (2, pI ((k : Int) + 1))] [] := by
      intro hc
      refine ih (k + 1) d M (by omega) hw ⟨by omega, by omega⟩ hmi hD hO hPM hv (fun M' a1 a2 => H M' a1 ?_)
      simp only [psF, if_neg hc]
      exact a2
    refine fun _ => ⟨⟨by omega, by omega⟩, fun z => absurd z (by omega), fun _ => ⟨hin32, fun _ => ⟨hin2, fun _ => ⟨fun c => skip (fun z => c z.1), fun c => ⟨hin32, fun _ _ => ⟨fun c2 => ?_, fun c2 => skip (fun z => z.2 c2)⟩⟩⟩⟩⟩⟩
    refine c_min97 (t := if oTw o then 2 else 1) (x3 := 0) hb hP hk d M (by omega) hw ⟨by omega, by split <;> omega⟩ hD hO hPM hv ?_
    intro M1 hF1 hv1
    have hrb := rp_b (o := o) (law := law) (may := may) (rust := rust) hpk.1 (if oTw o then 2 else 1) d hw
    have ht2 : (if oTw o then 2 else 1 : Nat) ≤ 2 := by split <;> omega
    refine ih (k + 1) _ M1 (by omega) hrb.1 ⟨by omega, by omega⟩ (by omega) (hD.fr hF1) (hO.fr hF1) (hPM.fr hF1) hv1 (fun M' a1 a2 => H M' (hF1.tr a1) ?_)
    simp only [psF, if_pos (show po.2.2.1 k = dMi d ∧ (po.2.1 k : Int) ≠ oId o from ⟨c, c2⟩)]
    exact a2
theorem ol_b {om : Nat → Int} : ∀ (j k : Nat) (d : DS), wfD n d → wfD n (olF om j k d) ∧ dMi (olF om j k d) = dMi d ∧ dVa (olF om j k d) = dVa d := by
  intro j
  induction j with
  | zero => intro k d hw; exact ⟨hw, rfl, rfl⟩
  | succ j ih =>
    intro k d hw
    simp only [olF]
    split
    · have := ih (k + 1) (dMi d, dRo d, 0, dEf d, dVa d, dNu d, dWo d) ⟨hw.1, Nat.two_pow_pos n, hw.2.2⟩
      exact this
    · exact ih (k + 1) d hw
theorem c_min2 {f : Mem → Prop} (hb : b < 2) (hP : wfP n po) : ∀ (j k : Nat) (d : DS) (M : Mem), k + j = po.2.2.2.1 → wfD n d → (0 ≤ dVa d ∧ dVa d + 32 < 999990) → dMi d < 10000 → MD n may law rust M → OpM o M → PM po M → vM b d M →
    (∀ M', FrP b M M' → vM b (tkF (psF o law may rust po.2.1 po.2.2.1 po.1 0 (if oNo o then d else olF po.2.2.2.2 j k d))) M' → f M') →
    KW E mX11_minuteGoes (qV f) M 2 [(0, pR 98), (1, pI (b : Int)), (2, pI (k : Int))] [] := by
  intro j
  induction j with
  | zero =>
    intro k d M hkj hw hva hmi hD hO hPM hv H
    have hp16 := hP.1
    have hp4 := hP.2.2.1
    have e : (if oNo o then d else olF po.2.2.2.2 0 k d) = d := by split <;> rfl
    rw [e] at H
    apply vX11_minuteGoes_2
    rw [hPM.2.2.1]
    exact fun _ => ⟨⟨by omega, by omega⟩, fun _ => c_min56 hb hP po.1 0 d M (by omega) hw ⟨by omega, by omega⟩ hmi hD hO hPM hv H, fun z => absurd z (by omega)⟩
  | succ j ih =>
    intro k d M hkj hw hva hmi hD hO hPM hv H
    have hp16 := hP.1
    have hp4 := hP.2.2.1
    have hk : k < po.2.2.2.1 := by omega
    have hin2 : (0 : Int) ≤ (b : Int) ∧ (b : Int) < 2 := ⟨by omega, by omega⟩
    apply vX11_minuteGoes_2
    rw [hPM.2.2.1, hO.2.2.2.1, Int.toNat_natCast, Int.toNat_natCast, hv.1, hPM.2.2.2 k hk]
    refine fun _ => ⟨⟨by omega, by omega⟩, fun z => absurd z (by omega), fun _ _ => ⟨fun c => ?_, fun c => ⟨⟨by omega, by omega⟩, fun _ => ⟨hin2, fun _ => ⟨fun c2 => ⟨hin2, fun _ => ⟨hin2, ?_⟩⟩, fun c2 => ⟨hin2, ?_⟩⟩⟩⟩⟩⟩
    · rw [bI_ne c] at H
      exact c_min56 hb hP po.1 0 d M (by omega) hw ⟨by omega, by omega⟩ hmi hD hO hPM hv H
    · rw [bI_eq0 c] at H
      rw [upM_same rfl]
      refine ih (k + 1) d M (by omega) hw hva hmi hD hO hPM hv (fun M' a1 a2 => H M' a1 ?_)
      rw [bI_eq0 c] at a2
      simp only [olF, if_neg c2]
      exact a2
    · rw [bI_eq0 c] at H
      have hF1 : FrP b M (upM M 126 b 0) := FrP.u M _ (Or.inl ⟨by decide, by decide, rfl⟩)
      have hv1 : vM b (dMi d, dRo d, 0, dEf d, dVa d, dNu d, dWo d) (upM M 126 b 0) := by
        obtain ⟨v1, v2, v3, v4, v5, v6, v7⟩ := hv
        exact ⟨v1, v2, va_up_self _ _ _, v4, v5, v6, v7⟩
      refine ih (k + 1) (dMi d, dRo d, 0, dEf d, dVa d, dNu d, dWo d) _ (by omega) ⟨hw.1, Nat.two_pow_pos n, hw.2.2⟩ hva hmi (hD.fr hF1) (hO.fr hF1) (hPM.fr hF1) hv1 (fun M' a1 a2 => H M' (hF1.tr a1) ?_)
      rw [bI_eq0 c] at a2
      simp only [olF, if_pos c2]
      exact a2
theorem ps_b : ∀ (j k : Nat) (d : DS), wfP n po → k + j ≤ po.1 → wfD n d → wfD n (psF o law may rust po.2.1 po.2.2.1 j k d) ∧ dMi (psF o law may rust po.2.1 po.2.2.1 j k d) = dMi d ∧ dVa d ≤ dVa (psF o law may rust po.2.1 po.2.2.1 j k d) ∧ dVa (psF o law may rust po.2.1 po.2.2.1 j k d) ≤ dVa d + 2 * j := by
  intro j
  induction j with
  | zero => intro k d _ _ hw; exact ⟨hw, rfl, by show dVa d ≤ dVa d; omega, by show dVa d ≤ dVa d + _; omega⟩
  | succ j ih =>
    intro k d hP hk hw
    simp only [psF]
    split
    · have hrb := rp_b (o := o) (law := law) (may := may) (rust := rust) (hP.2.1 k (by omega)).1 (if oTw o then 2 else 1) d hw
      have ht2 : (if oTw o then 2 else 1 : Nat) ≤ 2 := by split <;> omega
      have := ih (k + 1) _ hP (by omega) hrb.1
      exact ⟨this.1, this.2.1.trans hrb.2.1, by omega, by omega⟩
    · have := ih (k + 1) d hP (by omega) hw
      exact ⟨this.1, this.2.1, this.2.2.1, by omega⟩
theorem min_b {d : DS} (hP : wfP n po) (hw : wfD n d) (hmi : dMi d < 10000) : wfD n (minF o law may rust po d) ∧ dMi (minF o law may rust po d) = dMi d + 1 ∧ dVa d ≤ dVa (minF o law may rust po d) ∧ dVa (minF o law may rust po d) ≤ dVa d + 32 := by
  have h0 : wfD n (if oNo o then d else olF po.2.2.2.2 po.2.2.2.1 0 d) ∧ dMi (if oNo o then d else olF po.2.2.2.2 po.2.2.2.1 0 d) = dMi d ∧ dVa (if oNo o then d else olF po.2.2.2.2 po.2.2.2.1 0 d) = dVa d := by
    split
    · exact ⟨hw, rfl, rfl⟩
    · exact ol_b _ _ d hw
  have h1 := ps_b (o := o) (law := law) (may := may) (rust := rust) po.1 0 _ hP (by omega) h0.1
  have hp16 := hP.1
  obtain ⟨w1, w2, w3, w4, w5, w6⟩ := h1.1
  have e1 : dMi (minF o law may rust po d) = dMi d + 1 := by
    show dMi (psF o law may rust po.2.1 po.2.2.1 po.1 0 (if oNo o then d else olF po.2.2.2.2 po.2.2.2.1 0 d)) + 1 = _
    omega
  refine ⟨⟨w1, w2, w3, ?_, w5, w6⟩, e1, ?_, ?_⟩
  · have := hw.2.2.2.1
    rw [e1]; omega
  · show dVa d ≤ dVa (psF o law may rust po.2.1 po.2.2.1 po.1 0 (if oNo o then d else olF po.2.2.2.2 po.2.2.2.1 0 d)); omega
  · show dVa (psF o law may rust po.2.1 po.2.2.1 po.1 0 (if oNo o then d else olF po.2.2.2.2 po.2.2.2.1 0 d)) ≤ _; omega
theorem c_minuteGoes {f : Mem → Prop} {d : DS} {M : Mem} (hb : b < 2) (hP : wfP n po) (hw : wfD n d) (hva : 0 ≤ dVa d ∧ dVa d + 32 < 999990) (hmi : dMi d < 10000) (hD : MD n may law rust M) (hO : OpM o M) (hPM : PM po M) (hv : vM b d M) (H : ∀ M', FrP b M M' → vM b (minF o law may rust po d) M' → f M') : CV E mX11_minuteGoes [pR 98, pI (b : Int)] M f :=
  vX11_minuteGoes_0 _ (c_min2 hb hP po.2.2.2.1 0 d M (by omega) hw hva hmi hD hO hPM hv H)
/-- vain is at most 32 a minute -/
def wfV (d : DS) : Prop := 0 ≤ dVa d ∧ dVa d ≤ 32 * dMi d
theorem go_b : ∀ (j : Nat) (d : DS), wfP n po → wfD n d → wfV d → dMi d + j ≤ 10000 → wfD n (goF o law may rust po j d) ∧ wfV (goF o law may rust po j d) ∧ dMi (goF o law may rust po j d) = dMi d + j := by
  intro j
  induction j with
  | zero => intro d _ hw hv _; exact ⟨hw, hv, by show dMi d = dMi d + _; omega⟩
  | succ j ih =>
    intro d hP hw hv hm
    have h1 := min_b (o := o) (law := law) (may := may) (rust := rust) hP hw (by omega)
    have h2 := ih (minF o law may rust po d) hP h1.1 (by unfold wfV at hv ⊢; omega) (by omega)
    refine ⟨h2.1, h2.2.1, ?_⟩
    show dMi (goF o law may rust po j (minF o law may rust po d)) = _
    omega
theorem c_goMany_loop {f : Mem → Prop} {m : Nat} (hm : m ≤ 200) (hP : wfP n po) : ∀ (j k : Nat) (d : DS) (M : Mem), k + j = m → wfD n d → wfV d → dMi d + j ≤ 10000 → MD n may law rust M → OpM o M → PM po M → vM 1 d M →
    (∀ M', FrP 1 M M' → vM 1 (goF o law may rust po j d) M' → f M') → KW E mX11_goMany (qV f) M 2 [(0, pR 98), (1, pI (m : Int)), (2, pI (k : Int))] [] := by
  intro j
  induction j with
  | zero =>
    intro k d M hk hw hv hmi hD hO hPM hvm H
    exact vX11_goMany_2 _ _ ⟨⟨by omega, by omega⟩, ⟨by omega, by omega⟩, fun _ => H M (FrP.rf 1 M) hvm, fun z => absurd z (by omega)⟩
  | succ j ih =>
    intro k d M hk hw hv hmi hD hO hPM hvm H
    refine vX11_goMany_2 _ _ ⟨⟨by omega, by omega⟩, ⟨by omega, by omega⟩, fun z => absurd z (by omega), fun _ => ?_⟩
    have hvv := hv
    unfold wfV at hvv
    have hw4 := hw.2.2.2.1
    refine c_minuteGoes (b := 1) (by decide) hP hw ⟨by omega, by omega⟩ (by omega) hD hO hPM hvm ?_
    intro M1 hF1 hv1
    have h1 := min_b (o := o) (law := law) (may := may) (rust := rust) hP hw (by omega)
    exact ih (k + 1) _ M1 (by omega) h1.1 (by unfold wfV; omega) (by omega) (hD.fr hF1) (hO.fr hF1) (hPM.fr hF1) hv1 (fun M' a1 a2 => H M' (hF1.tr a1) a2)
theorem c_goMany {f : Mem → Prop} {m : Nat} {d : DS} {M : Mem} (hm : m ≤ 200) (hP : wfP n po) (hw : wfD n d) (hv : wfV d) (hmi : dMi d + m ≤ 10000) (hD : MD n may law rust M) (hO : OpM o M) (hPM : PM po M) (hvm : vM 1 d M) (H : ∀ M', FrP 1 M M' → vM 1 (goF o law may rust po m d) M' → f M') : CV E mX11_goMany [pR 98, pI (m : Int)] M f :=
  vX11_goMany_0 _ (c_goMany_loop hm hP m 0 d M (by omega) hw hv hmi hD hO hPM hvm H)
end MINUTE
