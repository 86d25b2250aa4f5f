theorem RK.cmp {t : Tk} {kd wh : Int} (h : RK t kd wh) (h5 : kd = 5) : (tK t = 27 ∧ wh = 0) ∨ (tK t = 34 ∧ wh = 1) ∨ (tK t = 28 ∧ wh = 2) ∨ (tK t = 35 ∧ wh = 3) ∨ (tK t = 36 ∧ wh = 4) ∨ (tK t = 29 ∧ wh = 5) := by
  unfold RK at h
  rcases h with z|z|z|z|z|z|z|z|z|z|z|z|z|z|z|z|z|z|z|z|z|z <;> omega
theorem RK.bad {t : Tk} {kd wh : Int} (h : RK t kd wh) (h1 : ¬ (kd = 1 ∧ wh = 14)) (h2 : ¬ (kd = 1 ∧ wh = 15)) (h3 : kd ≠ 5) (h4 : ¬ (kd = 4 ∧ wh = 43)) (h5 : ¬ (kd = 4 ∧ wh = 45)) (h6 : ¬ (kd = 4 ∧ wh = 42)) (h7 : ¬ (kd = 4 ∧ wh = 47)) : rk (tK t) = 0 ∨ tK t = 12 := by
  by_cases z : rk (tK t) = 0
  · exact Or.inl z
  · have hk := rk_ok z
    refine Or.inr ?_
    clear z
    unfold RK at h
    rcases h with z|z|z|z|z|z|z|z|z|z|z|z|z|z|z|z|z|z|z|z|z|z <;> omega
theorem RK.sg {t : Tk} {kd wh : Int} (h : RK t kd wh) (h4 : kd = 4) : (wh = 59 → tK t = 24) ∧ (wh = 40 → tK t = 25) ∧ (wh = 41 → tK t = 26) ∧ (wh = 43 → tK t = 30) ∧ (wh = 45 → tK t = 31) ∧ (wh = 42 → tK t = 32) ∧ (wh = 47 → tK t = 33) := by
  unfold RK at h
  rcases h with z|z|z|z|z|z|z|z|z|z|z|z|z|z|z|z|z|z|z|z|z|z <;> (refine ⟨?_, ?_, ?_, ?_, ?_, ?_, ?_⟩ <;> omega)
theorem RK.ky {t : Tk} {kd wh : Int} (h : RK t kd wh) (h1 : kd = 1) : (wh = 14 → tK t = 11) ∧ (wh = 15 → tK t = 10) ∧ (wh = 16 → tK t = 12) ∧ (17 ≤ wh → wh = tK t ∧ tK t ≤ 23) ∧ (10 ≤ wh → wh ≤ 13 → tK t = wh + 3) ∧ (wh ≤ 9 → tK t = wh) ∧ (0 ≤ wh ∧ wh ≤ 23) := by
  unfold RK at h
  rcases h with z|z|z|z|z|z|z|z|z|z|z|z|z|z|z|z|z|z|z|z|z|z <;> (refine ⟨?_, ?_, ?_, ?_, ?_, ?_, ?_⟩ <;> omega)
theorem RK.of {t : Tk} {kd wh : Int} (h : RK t kd wh) : (tK t = 24 → kd = 4 ∧ wh = 59) ∧ (tK t = 25 → kd = 4 ∧ wh = 40) ∧ (tK t = 26 → kd = 4 ∧ wh = 41) ∧ (tK t = 12 → kd = 1 ∧ wh = 16) ∧ (tK t = 11 → kd = 1 ∧ wh = 14) ∧ (tK t = 10 → kd = 1 ∧ wh = 15) ∧ (tK t = 39 ↔ kd = 0) ∧ (tK t = 38 ↔ kd = 2) ∧ (tK t = 37 ↔ kd = 3) ∧ (tK t ≤ 23 ↔ kd = 1) ∧ (0 ≤ kd ∧ kd ≤ 6) := by
  unfold RK at h
  rcases h with z|z|z|z|z|z|z|z|z|z|z|z|z|z|z|z|z|z|z|z|z|z <;> (refine ⟨?_, ?_, ?_, ?_, ?_, ?_, ?_, ?_, ?_, ?_, ?_⟩ <;> omega)
theorem RK.nu {t : Tk} {kd wh : Int} (h : RK t kd wh) (h3 : kd = 3) : 0 ≤ wh ∧ wh ≤ 999999 ∧ ((tV t = wh ∧ wh ≤ 99999) ∨ (99999 < tV t ∧ 99999 < wh)) := by
  unfold RK at h
  rcases h with z|z|z|z|z|z|z|z|z|z|z|z|z|z|z|z|z|z|z|z|z|z <;> omega
theorem RK.nmv {t : Tk} {kd wh : Int} (h : RK t kd wh) (h3 : kd = 2) : wh = tV t := by
  unfold RK at h
  rcases h with z|z|z|z|z|z|z|z|z|z|z|z|z|z|z|z|z|z|z|z|z|z <;> omega
