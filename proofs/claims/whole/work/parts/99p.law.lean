/-! the law: its rows -/
def mLaw : Mi := (yL_law, cL_law, 7, some .boolean, 12, 1135, 17040)
abbrev Sn : Nat → Prop := fun _ => False
abbrev LwS (i : Nat) : List (Nat × PV) := [(0, pX 0), (1, pR 0), (2, pR 98), (3, pR 144), (4, pI (i : Int))]
def Iv (M : Mem) : Prop := ∃ z s y no, Inv z s y no M
theorem Inv.cong {z : ZT} {s : PSt} {y : YS} {no : NS} {M M' : Mem} (h : Inv z s y no M) (hF : ∀ a, a < 144 → M' a = M a) : Inv z s y no M' :=
  ⟨h.1, ⟨h.2.1.1.of (fun a _ _ => hF a (by omega)), h.2.1.2.1.of (fun a _ => hF a (by omega)), h.2.1.2.2.of (fun a _ _ => hF a (by omega))⟩, h.2.2.1.of (fun a _ => hF a (by omega)) (fun k _ => by rw [hF 98 (by decide)]), h.2.2.2.1.ofK (fun a _ => hF a (by omega)) (fun k _ => by rw [hF 98 (by decide)]), h.2.2.2.2.of (hF 140 (by decide)) (by rw [hF 98 (by decide)]) (by rw [hF 98 (by decide)])⟩
theorem Iv.ov {M0 M : Mem} (h : Iv M) : Iv (ov M0 M) := by
  obtain ⟨z, s, y, no, h⟩ := h
  exact ⟨z, s, y, no, h.cong (fun a ha => ov_ne _ _ (by omega))⟩
theorem ov_lt {M0 M : Mem} : ∀ a, a < T0.length → ov M0 M a = M a := fun a ha => by rw [T0_len] at ha; exact ov_ne _ _ (by omega)
def nz (x : Int) : Int := if x = 0 then 0 else 1
theorem nz_z {x : Int} : zR (nz x) := by
  unfold nz
  by_cases h : x = 0
  · rw [if_pos h]; exact Or.inl rfl
  · rw [if_neg h]; exact Or.inr rfl
theorem stbT {ls : List (Nat × PV)} {st : List PV} : Stb (fun a => Top a ∨ a = 144) ls st := fun φ φ' ex h => by
  have e : φ' = φ := funext fun a => h a (Or.inl trivial)
  rw [e]; exact ⟨rfl, rfl⟩
theorem stbD {i : Nat} : Stb (fun a => Sd a ∨ a = 144) (LwS i) [] := fun φ φ' ex h => by
  have e0 : φ' 0 = φ 0 := h 0 (Or.inl (Or.inl rfl))
  have e1 : φ' 98 = φ 98 := h 98 (Or.inl (Or.inr (by decide)))
  have e2 : φ' 144 = φ 144 := h 144 (Or.inr rfl)
  refine ⟨?_, rfl⟩
  show [(0, Value.ref (ex 0)), (1, va_rf (some (φ' 0))), (2, va_rf (some (φ' 98))), (3, va_rf (some (φ' 144))), (4, .int (Int32.ofInt (i : Int)))] = [(0, Value.ref (ex 0)), (1, va_rf (some (φ 0))), (2, va_rf (some (φ 98))), (3, va_rf (some (φ 144))), (4, .int (Int32.ofInt (i : Int)))]
  rw [e0, e1, e2]
section LAWR
variable {E : Scr} {mi : Mi} {S : Nat → Prop} {Q : Post} {T : Shp} {R : Rfs} {M : Mem} {u v pc i : Nat} {st : List PV}
/-- script[i + k] -/
theorem x_arg {k : Nat} (d0 : decode (miC mi) pc = .ok (.aload_n 0, 1)) (d1 : decode (miC mi) (pc + 1) = .ok (.iload 4, 2)) (d3 : decode (miC mi) (pc + 3) = .ok (.iconst (k : Int), 1)) (d4 : decode (miC mi) (pc + 4) = .ok (.iadd, 1)) (d5 : decode (miC mi) (pc + 5) = .ok (.iaload, 1)) (hi : i + k < E.1)
    (h : iR (E.2 (i + k)) → MW E mi S Q T R M u v (pc + 6) (LwS i) (pI (E.2 (i + k)) :: st)) : MW E mi S Q T R M u v pc (LwS i) st := by
  refine w_xload_n d0 rfl ?_
  refine w_iload d1 rfl ?_
  refine w_iconst d3 ?_
  refine w_iadd d4 ?_
  refine w_sld d5 ⟨by omega, by omega⟩ ?_
  rw [show ((i : Int) + (k : Int)).toNat = i + k by omega]
  exact h
/-- script[..] != 0 -/
theorem x_bool {x : Int} {off off2 : Int} {t0 : Nat} {ls : List (Nat × PV)} (d0 : decode (miC mi) pc = .ok (.ifCond .eq off, 3)) (d3 : decode (miC mi) (pc + 3) = .ok (.iconst 1, 1)) (d4 : decode (miC mi) (pc + 4) = .ok (.goto off2, 3)) (d8 : decode (miC mi) t0 = .ok (.iconst 0, 1)) (h0 : (pc : Int) + off = (t0 : Int)) (h1 : ((pc + 4 : Nat) : Int) + off2 = ((t0 + 1 : Nat) : Int)) (hx : iR x)
    (h : MW E mi S Q T R M u v (t0 + 1) ls (pI (nz x) :: st)) : MW E mi S Q T R M u v pc ls (pI x :: st) := by
  refine w_if_eq d0 h0 hx (fun c => ?_) (fun c => ?_)
  · refine w_iconst d8 ?_
    have e : nz x = 0 := by unfold nz; rw [if_pos c]
    rw [e] at h; exact h
  · refine w_iconst d3 ?_
    refine w_goto d4 h1 ?_
    have e : nz x = 1 := by unfold nz; rw [if_neg c]
    rw [e] at h; exact h
theorem w_leqS {x : Int} {off : Int} {tgt : Nat} {ls : List (Nat × PV)} (hd0 : decode (miC mi) pc = .ok (.lcmp, 1)) (hd : decode (miC mi) (pc + 1) = .ok (.ifCond .eq off, 3)) (ht : ((pc + 1 : Nat) : Int) + off = (tgt : Int)) (h1 : MW E mi S Q T R M u v tgt ls st) : MW E mi S Q T R M u v pc ls (pL x :: pL x :: st) := by
  intro l p e s m args below meth c H locs la D ar A φ ex B hl
  obtain ⟨⟨hx, hb, hr, hml, hts, hown, hlocks, hnm⟩, ⟨hN, hEx, hK, hA⟩, ⟨hP, hD, hS⟩, hR, hRC⟩ := id B
  refine W.lcmp hx hb hd0 ?_
  rw [show lg_cmp (Int64.ofInt x) (Int64.ofInt x) = 0 by simp [lg_cmp]]
  exact lv_if_eq hx hb hd ht (fun _ => h1 l p e s m args below meth c H locs la D ar A φ ex B hl) (fun q => absurd rfl q)
end LAWR
