/-! the reference's own constructor, up to its two calls (by a program) -/
def wdM (M : Mem) (k : Nat) : Mem := fun b => if b = 100 then (fun j => if j < k then (rwN j : Int) else M 100 j) else M b
theorem wd_zero {M : Mem} : M = wdM M 0 := by
  funext b j
  unfold wdM
  by_cases h : b = 100
  · rw [if_pos h, if_neg (Nat.not_lt_zero _), h]
  · rw [if_neg h]
theorem wd_step {M : Mem} {k : Nat} {i c : Int} (hi : i = (k : Int)) (hc : (rwN k : Int) = c) : upM (wdM M k) 100 i.toNat c = wdM M (k + 1) := by
  subst hi; subst hc
  rw [Int.toNat_natCast]
  funext b j
  by_cases h : b = 100
  · subst h
    rw [upM_self]
    show va_up (fun j => if j < k then (rwN j : Int) else M 100 j) k (rwN k : Int) j = if j < k + 1 then (rwN j : Int) else M 100 j
    by_cases e : j = k
    · subst e; rw [va_up_self, if_pos (by omega)]
    · rw [va_up_neq _ _ e]
      by_cases e2 : j < k
      · rw [if_pos e2, if_pos (by omega)]
      · rw [if_neg e2, if_neg (by omega)]
  · rw [upM_ne _ _ _ h]; unfold wdM; rw [if_neg h, if_neg h]
theorem wd_fr {n k : Nat} {R : Rfs} {M : Mem} (hn : 100 < n) (h : Fr0 n R M) : Fr0 n R (wdM M k) := fun b hb j => ⟨by unfold wdM; rw [if_neg (by omega)]; exact (h b hb j).1, (h b hb j).2⟩
section INIT3
variable {E : Scr} {Q : Post} {R : Rfs} {M : Mem}
set_option maxHeartbeats 64000000 in
theorem i_X11_pre (hz : Fr0 99 R M) (h : MW E mX11_init (fun b => b < 99) Q (T0.take 144) (upR (upR (upR (upR (upR (upR (upR (upR (upR (upR (upR (upR (upR (upR (upR (upR (upR (upR (upR (upR (upR (upR (upR (upR (upR (upR (upR (upR (upR (upR (upR (upR (upR (upR (upR (upR (upR (upR (upR (upR (upR (upR (upR (upR (upR R 98 0 (some 99)) 98 3 (some 100)) 98 20 (some 101)) 98 21 (some 102)) 98 22 (some 103)) 98 23 (some 104)) 98 24 (some 105)) 98 25 (some 106)) 98 26 (some 107)) 98 27 (some 108)) 98 28 (some 109)) 98 29 (some 110)) 98 30 (some 111)) 98 31 (some 112)) 98 34 (some 113)) 98 35 (some 114)) 98 36 (some 115)) 98 37 (some 116)) 98 38 (some 117)) 98 39 (some 118)) 98 40 (some 119)) 98 41 (some 120)) 98 48 (some 121)) 98 49 (some 122)) 98 51 (some 123)) 98 52 (some 124)) 98 53 (some 125)) 98 54 (some 126)) 98 55 (some 127)) 98 56 (some 128)) 98 57 (some 129)) 98 58 (some 130)) 98 66 (some 131)) 98 67 (some 132)) 98 68 (some 133)) 98 70 (some 134)) 98 71 (some 135)) 98 72 (some 136)) 98 73 (some 137)) 98 74 (some 138)) 98 75 (some 139)) 98 78 (some 140)) 98 79 (some 141)) 98 81 (some 142)) 98 83 (some 143)) (upM (upM (wdM M 116) 98 5 (-1)) 98 77 (-1)) 45 4984 1075 [(0, pR 98)] []) : MW E mX11_init (fun b => b < 99) Q (T0.take 99) R M 0 0 0 [(0, pR 98)] [] := by
  refine w_aload_n dX11_init_0 rfl ?_
  refine w_objInit dX11_init_1 kX11_1 ⟨Nat.le_of_ble_eq_true rfl, Nat.le_of_ble_eq_true rfl⟩ ?_
  refine w_aload_n dX11_init_4 rfl ?_
  refine w_sipush dX11_init_5 (by decide) ?_
  refine w_newI (n := 700) dX11_init_8 rfl (by decide) arr_int (fun b (hb : b < 99) => by rw [tkL (by decide)]; omega) (okL (by rw [tkL (by decide)]; decide)) (okR (by rw [tkL (by decide)]; decide) rfl) (fun k => by rw [tkL (by decide)]; exact (hz _ (Nat.le_refl _) k).1) ⟨Nat.le_of_ble_eq_true rfl, Nat.le_of_ble_eq_true rfl⟩ ?_
  rw [tkL (m := 99) (by decide), tkS (m := 99) (t := (20, 700)) rfl]
  have z1 := hz.le (show 99 ≤ 100 by decide)
  refine w_putR (ci := 11) (k := 0) dX11_init_10 (Or.inr ⟨⟨rfl, rfl, rfl⟩, ⟨by decide, by decide⟩, (wgt6 174 rfl rfl)⟩) (tkG (by decide) rfl) rfl rfl (by rw [tkL (by decide)]; decide) ?_
  have z2 := z1.uR (a := 98) (k := 0) (v := some 99) (by decide)
  refine w_aload_n dX11_init_13 rfl ?_
  refine w_bipush dX11_init_14 (by decide) ?_
  refine w_newI (n := 116) dX11_init_16 rfl (by decide) arr_int (fun b (hb : b < 99) => by rw [tkL (by decide)]; omega) (okL (by rw [tkL (by decide)]; decide)) (okR (by rw [tkL (by decide)]; decide) rfl) (fun k => by rw [tkL (by decide)]; exact (z2 _ (Nat.le_refl _) k).1) ⟨Nat.le_of_ble_eq_true rfl, Nat.le_of_ble_eq_true rfl⟩ ?_
  rw [tkL (m := 100) (by decide), tkS (m := 100) (t := (20, 116)) rfl]
  have z3 := z2.le (show 100 ≤ 101 by decide)
  rw [wd_zero (M := M)]
  refine w_dup dX11_init_18 rfl ?_
  refine w_iconst dX11_init_19 ?_
  refine w_bipush dX11_init_20 (by decide) ?_
  refine w_iast (n := 116) dX11_init_22 (tkG (by decide) rfl) ⟨by decide, by decide⟩ ⟨by decide, by decide⟩ ?_
  rw [wd_step (M := M) (k := 0) (i := 0) (c := 108) rfl rfl]
  refine w_dup dX11_init_23 rfl ?_
  refine w_iconst dX11_init_24 ?_
  refine w_bipush dX11_init_25 (by decide) ?_
  refine w_iast (n := 116) dX11_init_27 (tkG (by decide) rfl) ⟨by decide, by decide⟩ ⟨by decide, by decide⟩ ?_
  rw [wd_step (M := M) (k := 1) (i := 1) (c := 97) rfl rfl]
  refine w_dup dX11_init_28 rfl ?_
  refine w_iconst dX11_init_29 ?_
  refine w_bipush dX11_init_30 (by decide) ?_
  refine w_iast (n := 116) dX11_init_32 (tkG (by decide) rfl) ⟨by decide, by decide⟩ ⟨by decide, by decide⟩ ?_
  rw [wd_step (M := M) (k := 2) (i := 2) (c := 116) rfl rfl]
  refine w_dup dX11_init_33 rfl ?_
  refine w_iconst dX11_init_34 ?_
  refine w_bipush dX11_init_35 (by decide) ?_
  refine w_iast (n := 116) dX11_init_37 (tkG (by decide) rfl) ⟨by decide, by decide⟩ ⟨by decide, by decide⟩ ?_
  rw [wd_step (M := M) (k := 3) (i := 3) (c := 99) rfl rfl]
  refine w_dup dX11_init_38 rfl ?_
  refine w_iconst dX11_init_39 ?_
  refine w_bipush dX11_init_40 (by decide) ?_
  refine w_iast (n := 116) dX11_init_42 (tkG (by decide) rfl) ⟨by decide, by decide⟩ ⟨by decide, by decide⟩ ?_
  rw [wd_step (M := M) (k := 4) (i := 4) (c := 104) rfl rfl]
  refine w_dup dX11_init_43 rfl ?_
  refine w_iconst dX11_init_44 ?_
  refine w_bipush dX11_init_45 (by decide) ?_
  refine w_iast (n := 116) dX11_init_47 (tkG (by decide) rfl) ⟨by decide, by decide⟩ ⟨by decide, by decide⟩ ?_
  rw [wd_step (M := M) (k := 5) (i := 5) (c := 32) rfl rfl]
  refine w_dup dX11_init_48 rfl ?_
  refine w_bipush dX11_init_49 (by decide) ?_
  refine w_bipush dX11_init_51 (by decide) ?_
  refine w_iast (n := 116) dX11_init_53 (tkG (by decide) rfl) ⟨by decide, by decide⟩ ⟨by decide, by decide⟩ ?_
  rw [wd_step (M := M) (k := 6) (i := 6) (c := 108) rfl rfl]
  refine w_dup dX11_init_54 rfl ?_
  refine w_bipush dX11_init_55 (by decide) ?_
  refine w_bipush dX11_init_57 (by decide) ?_
  refine w_iast (n := 116) dX11_init_59 (tkG (by decide) rfl) ⟨by decide, by decide⟩ ⟨by decide, by decide⟩ ?_
  rw [wd_step (M := M) (k := 7) (i := 7) (c := 101) rfl rfl]
  refine w_dup dX11_init_60 rfl ?_
  refine w_bipush dX11_init_61 (by decide) ?_
  refine w_bipush dX11_init_63 (by decide) ?_
  refine w_iast (n := 116) dX11_init_65 (tkG (by decide) rfl) ⟨by decide, by decide⟩ ⟨by decide, by decide⟩ ?_
  rw [wd_step (M := M) (k := 8) (i := 8) (c := 97) rfl rfl]
  refine w_dup dX11_init_66 rfl ?_
  refine w_bipush dX11_init_67 (by decide) ?_
  refine w_bipush dX11_init_69 (by decide) ?_
  refine w_iast (n := 116) dX11_init_71 (tkG (by decide) rfl) ⟨by decide, by decide⟩ ⟨by decide, by decide⟩ ?_
  rw [wd_step (M := M) (k := 9) (i := 9) (c := 110) rfl rfl]
  refine w_dup dX11_init_72 rfl ?_
  refine w_bipush dX11_init_73 (by decide) ?_
  refine w_bipush dX11_init_75 (by decide) ?_
  refine w_iast (n := 116) dX11_init_77 (tkG (by decide) rfl) ⟨by decide, by decide⟩ ⟨by decide, by decide⟩ ?_
  rw [wd_step (M := M) (k := 10) (i := 10) (c := 32) rfl rfl]
  refine w_dup dX11_init_78 rfl ?_
  refine w_bipush dX11_init_79 (by decide) ?_
  refine w_bipush dX11_init_81 (by decide) ?_
  refine w_iast (n := 116) dX11_init_83 (tkG (by decide) rfl) ⟨by decide, by decide⟩ ⟨by decide, by decide⟩ ?_
  rw [wd_step (M := M) (k := 11) (i := 11) (c := 112) rfl rfl]
  refine w_dup dX11_init_84 rfl ?_
  refine w_bipush dX11_init_85 (by decide) ?_
  refine w_bipush dX11_init_87 (by decide) ?_
  refine w_iast (n := 116) dX11_init_89 (tkG (by decide) rfl) ⟨by decide, by decide⟩ ⟨by decide, by decide⟩ ?_
  rw [wd_step (M := M) (k := 12) (i := 12) (c := 117) rfl rfl]
  refine w_dup dX11_init_90 rfl ?_
  refine w_bipush dX11_init_91 (by decide) ?_
  refine w_bipush dX11_init_93 (by decide) ?_
  refine w_iast (n := 116) dX11_init_95 (tkG (by decide) rfl) ⟨by decide, by decide⟩ ⟨by decide, by decide⟩ ?_
  rw [wd_step (M := M) (k := 13) (i := 13) (c := 115) rfl rfl]
  refine w_dup dX11_init_96 rfl ?_
  refine w_bipush dX11_init_97 (by decide) ?_
  refine w_bipush dX11_init_99 (by decide) ?_
  refine w_iast (n := 116) dX11_init_101 (tkG (by decide) rfl) ⟨by decide, by decide⟩ ⟨by decide, by decide⟩ ?_
  rw [wd_step (M := M) (k := 14) (i := 14) (c := 104) rfl rfl]
  refine w_dup dX11_init_102 rfl ?_
  refine w_bipush dX11_init_103 (by decide) ?_
  refine w_bipush dX11_init_105 (by decide) ?_
  refine w_iast (n := 116) dX11_init_107 (tkG (by decide) rfl) ⟨by decide, by decide⟩ ⟨by decide, by decide⟩ ?_
  rw [wd_step (M := M) (k := 15) (i := 15) (c := 32) rfl rfl]
  refine w_dup dX11_init_108 rfl ?_
  refine w_bipush dX11_init_109 (by decide) ?_
  refine w_bipush dX11_init_111 (by decide) ?_
  refine w_iast (n := 116) dX11_init_113 (tkG (by decide) rfl) ⟨by decide, by decide⟩ ⟨by decide, by decide⟩ ?_
  rw [wd_step (M := M) (k := 16) (i := 16) (c := 111) rfl rfl]
  refine w_dup dX11_init_114 rfl ?_
  refine w_bipush dX11_init_115 (by decide) ?_
  refine w_bipush dX11_init_117 (by decide) ?_
  refine w_iast (n := 116) dX11_init_119 (tkG (by decide) rfl) ⟨by decide, by decide⟩ ⟨by decide, by decide⟩ ?_
  rw [wd_step (M := M) (k := 17) (i := 17) (c := 105) rfl rfl]
  refine w_dup dX11_init_120 rfl ?_
  refine w_bipush dX11_init_121 (by decide) ?_
  refine w_bipush dX11_init_123 (by decide) ?_
  refine w_iast (n := 116) dX11_init_125 (tkG (by decide) rfl) ⟨by decide, by decide⟩ ⟨by decide, by decide⟩ ?_
  rw [wd_step (M := M) (k := 18) (i := 18) (c := 108) rfl rfl]
  refine w_dup dX11_init_126 rfl ?_
  refine w_bipush dX11_init_127 (by decide) ?_
  refine w_bipush dX11_init_129 (by decide) ?_
  refine w_iast (n := 116) dX11_init_131 (tkG (by decide) rfl) ⟨by decide, by decide⟩ ⟨by decide, by decide⟩ ?_
  rw [wd_step (M := M) (k := 19) (i := 19) (c := 32) rfl rfl]
  refine w_dup dX11_init_132 rfl ?_
  refine w_bipush dX11_init_133 (by decide) ?_
  refine w_bipush dX11_init_135 (by decide) ?_
  refine w_iast (n := 116) dX11_init_137 (tkG (by decide) rfl) ⟨by decide, by decide⟩ ⟨by decide, by decide⟩ ?_
  rw [wd_step (M := M) (k := 20) (i := 20) (c := 114) rfl rfl]
  refine w_dup dX11_init_138 rfl ?_
  refine w_bipush dX11_init_139 (by decide) ?_
  refine w_bipush dX11_init_141 (by decide) ?_
  refine w_iast (n := 116) dX11_init_143 (tkG (by decide) rfl) ⟨by decide, by decide⟩ ⟨by decide, by decide⟩ ?_
  rw [wd_step (M := M) (k := 21) (i := 21) (c := 117) rfl rfl]
  refine w_dup dX11_init_144 rfl ?_
  refine w_bipush dX11_init_145 (by decide) ?_
  refine w_bipush dX11_init_147 (by decide) ?_
  refine w_iast (n := 116) dX11_init_149 (tkG (by decide) rfl) ⟨by decide, by decide⟩ ⟨by decide, by decide⟩ ?_
  rw [wd_step (M := M) (k := 22) (i := 22) (c := 115) rfl rfl]
  refine w_dup dX11_init_150 rfl ?_
  refine w_bipush dX11_init_151 (by decide) ?_
  refine w_bipush dX11_init_153 (by decide) ?_
  refine w_iast (n := 116) dX11_init_155 (tkG (by decide) rfl) ⟨by decide, by decide⟩ ⟨by decide, by decide⟩ ?_
  rw [wd_step (M := M) (k := 23) (i := 23) (c := 116) rfl rfl]
  refine w_dup dX11_init_156 rfl ?_
  refine w_bipush dX11_init_157 (by decide) ?_
  refine w_bipush dX11_init_159 (by decide) ?_
  refine w_iast (n := 116) dX11_init_161 (tkG (by decide) rfl) ⟨by decide, by decide⟩ ⟨by decide, by decide⟩ ?_
  rw [wd_step (M := M) (k := 24) (i := 24) (c := 32) rfl rfl]
  refine w_dup dX11_init_162 rfl ?_
  refine w_bipush dX11_init_163 (by decide) ?_
  refine w_bipush dX11_init_165 (by decide) ?_
  refine w_iast (n := 116) dX11_init_167 (tkG (by decide) rfl) ⟨by decide, by decide⟩ ⟨by decide, by decide⟩ ?_
  rw [wd_step (M := M) (k := 25) (i := 25) (c := 115) rfl rfl]
  refine w_dup dX11_init_168 rfl ?_
  refine w_bipush dX11_init_169 (by decide) ?_
  refine w_bipush dX11_init_171 (by decide) ?_
  refine w_iast (n := 116) dX11_init_173 (tkG (by decide) rfl) ⟨by decide, by decide⟩ ⟨by decide, by decide⟩ ?_
  rw [wd_step (M := M) (k := 26) (i := 26) (c := 101) rfl rfl]
  refine w_dup dX11_init_174 rfl ?_
  refine w_bipush dX11_init_175 (by decide) ?_
  refine w_bipush dX11_init_177 (by decide) ?_
  refine w_iast (n := 116) dX11_init_179 (tkG (by decide) rfl) ⟨by decide, by decide⟩ ⟨by decide, by decide⟩ ?_
  rw [wd_step (M := M) (k := 27) (i := 27) (c := 101) rfl rfl]
  refine w_dup dX11_init_180 rfl ?_
  refine w_bipush dX11_init_181 (by decide) ?_
  refine w_bipush dX11_init_183 (by decide) ?_
  refine w_iast (n := 116) dX11_init_185 (tkG (by decide) rfl) ⟨by decide, by decide⟩ ⟨by decide, by decide⟩ ?_
  rw [wd_step (M := M) (k := 28) (i := 28) (c := 100) rfl rfl]
  refine w_dup dX11_init_186 rfl ?_
  refine w_bipush dX11_init_187 (by decide) ?_
  refine w_bipush dX11_init_189 (by decide) ?_
  refine w_iast (n := 116) dX11_init_191 (tkG (by decide) rfl) ⟨by decide, by decide⟩ ⟨by decide, by decide⟩ ?_
  rw [wd_step (M := M) (k := 29) (i := 29) (c := 32) rfl rfl]
  refine w_dup dX11_init_192 rfl ?_
  refine w_bipush dX11_init_193 (by decide) ?_
  refine w_bipush dX11_init_195 (by decide) ?_
  refine w_iast (n := 116) dX11_init_197 (tkG (by decide) rfl) ⟨by decide, by decide⟩ ⟨by decide, by decide⟩ ?_
  rw [wd_step (M := M) (k := 30) (i := 30) (c := 108) rfl rfl]
  refine w_dup dX11_init_198 rfl ?_
  refine w_bipush dX11_init_199 (by decide) ?_
  refine w_bipush dX11_init_201 (by decide) ?_
  refine w_iast (n := 116) dX11_init_203 (tkG (by decide) rfl) ⟨by decide, by decide⟩ ⟨by decide, by decide⟩ ?_
  rw [wd_step (M := M) (k := 31) (i := 31) (c := 97) rfl rfl]
  refine w_dup dX11_init_204 rfl ?_
  refine w_bipush dX11_init_205 (by decide) ?_
  refine w_bipush dX11_init_207 (by decide) ?_
  refine w_iast (n := 116) dX11_init_209 (tkG (by decide) rfl) ⟨by decide, by decide⟩ ⟨by decide, by decide⟩ ?_
  rw [wd_step (M := M) (k := 32) (i := 32) (c := 119) rfl rfl]
  refine w_dup dX11_init_210 rfl ?_
  refine w_bipush dX11_init_211 (by decide) ?_
  refine w_bipush dX11_init_213 (by decide) ?_
  refine w_iast (n := 116) dX11_init_215 (tkG (by decide) rfl) ⟨by decide, by decide⟩ ⟨by decide, by decide⟩ ?_
  rw [wd_step (M := M) (k := 33) (i := 33) (c := 32) rfl rfl]
  refine w_dup dX11_init_216 rfl ?_
  refine w_bipush dX11_init_217 (by decide) ?_
  refine w_bipush dX11_init_219 (by decide) ?_
  refine w_iast (n := 116) dX11_init_221 (tkG (by decide) rfl) ⟨by decide, by decide⟩ ⟨by decide, by decide⟩ ?_
  rw [wd_step (M := M) (k := 34) (i := 34) (c := 101) rfl rfl]
  refine w_dup dX11_init_222 rfl ?_
  refine w_bipush dX11_init_223 (by decide) ?_
  refine w_bipush dX11_init_225 (by decide) ?_
  refine w_iast (n := 116) dX11_init_227 (tkG (by decide) rfl) ⟨by decide, by decide⟩ ⟨by decide, by decide⟩ ?_
  rw [wd_step (M := M) (k := 35) (i := 35) (c := 102) rfl rfl]
  refine w_dup dX11_init_228 rfl ?_
  refine w_bipush dX11_init_229 (by decide) ?_
  refine w_bipush dX11_init_231 (by decide) ?_
  refine w_iast (n := 116) dX11_init_233 (tkG (by decide) rfl) ⟨by decide, by decide⟩ ⟨by decide, by decide⟩ ?_
  rw [wd_step (M := M) (k := 36) (i := 36) (c := 102) rfl rfl]
  refine w_dup dX11_init_234 rfl ?_
  refine w_bipush dX11_init_235 (by decide) ?_
  refine w_bipush dX11_init_237 (by decide) ?_
  refine w_iast (n := 116) dX11_init_239 (tkG (by decide) rfl) ⟨by decide, by decide⟩ ⟨by decide, by decide⟩ ?_
  rw [wd_step (M := M) (k := 37) (i := 37) (c := 111) rfl rfl]
  refine w_dup dX11_init_240 rfl ?_
  refine w_bipush dX11_init_241 (by decide) ?_
  refine w_bipush dX11_init_243 (by decide) ?_
  refine w_iast (n := 116) dX11_init_245 (tkG (by decide) rfl) ⟨by decide, by decide⟩ ⟨by decide, by decide⟩ ?_
  rw [wd_step (M := M) (k := 38) (i := 38) (c := 114) rfl rfl]
  refine w_dup dX11_init_246 rfl ?_
  refine w_bipush dX11_init_247 (by decide) ?_
  refine w_bipush dX11_init_249 (by decide) ?_
  refine w_iast (n := 116) dX11_init_251 (tkG (by decide) rfl) ⟨by decide, by decide⟩ ⟨by decide, by decide⟩ ?_
  rw [wd_step (M := M) (k := 39) (i := 39) (c := 116) rfl rfl]
  refine w_dup dX11_init_252 rfl ?_
  refine w_bipush dX11_init_253 (by decide) ?_
  refine w_bipush dX11_init_255 (by decide) ?_
  refine w_iast (n := 116) dX11_init_257 (tkG (by decide) rfl) ⟨by decide, by decide⟩ ⟨by decide, by decide⟩ ?_
  rw [wd_step (M := M) (k := 40) (i := 40) (c := 32) rfl rfl]
  refine w_dup dX11_init_258 rfl ?_
  refine w_bipush dX11_init_259 (by decide) ?_
  refine w_bipush dX11_init_261 (by decide) ?_
  refine w_iast (n := 116) dX11_init_263 (tkG (by decide) rfl) ⟨by decide, by decide⟩ ⟨by decide, by decide⟩ ?_
  rw [wd_step (M := M) (k := 41) (i := 41) (c := 115) rfl rfl]
  refine w_dup dX11_init_264 rfl ?_
  refine w_bipush dX11_init_265 (by decide) ?_
  refine w_bipush dX11_init_267 (by decide) ?_
  refine w_iast (n := 116) dX11_init_269 (tkG (by decide) rfl) ⟨by decide, by decide⟩ ⟨by decide, by decide⟩ ?_
  rw [wd_step (M := M) (k := 42) (i := 42) (c := 101) rfl rfl]
  refine w_dup dX11_init_270 rfl ?_
  refine w_bipush dX11_init_271 (by decide) ?_
  refine w_bipush dX11_init_273 (by decide) ?_
  refine w_iast (n := 116) dX11_init_275 (tkG (by decide) rfl) ⟨by decide, by decide⟩ ⟨by decide, by decide⟩ ?_
  rw [wd_step (M := M) (k := 43) (i := 43) (c := 97) rfl rfl]
  refine w_dup dX11_init_276 rfl ?_
  refine w_bipush dX11_init_277 (by decide) ?_
  refine w_bipush dX11_init_279 (by decide) ?_
  refine w_iast (n := 116) dX11_init_281 (tkG (by decide) rfl) ⟨by decide, by decide⟩ ⟨by decide, by decide⟩ ?_
  rw [wd_step (M := M) (k := 44) (i := 44) (c := 108) rfl rfl]
  refine w_dup dX11_init_282 rfl ?_
  refine w_bipush dX11_init_283 (by decide) ?_
  refine w_bipush dX11_init_285 (by decide) ?_
  refine w_iast (n := 116) dX11_init_287 (tkG (by decide) rfl) ⟨by decide, by decide⟩ ⟨by decide, by decide⟩ ?_
  rw [wd_step (M := M) (k := 45) (i := 45) (c := 32) rfl rfl]
  refine w_dup dX11_init_288 rfl ?_
  refine w_bipush dX11_init_289 (by decide) ?_
  refine w_bipush dX11_init_291 (by decide) ?_
  refine w_iast (n := 116) dX11_init_293 (tkG (by decide) rfl) ⟨by decide, by decide⟩ ⟨by decide, by decide⟩ ?_
  rw [wd_step (M := M) (k := 46) (i := 46) (c := 101) rfl rfl]
  refine w_dup dX11_init_294 rfl ?_
  refine w_bipush dX11_init_295 (by decide) ?_
  refine w_bipush dX11_init_297 (by decide) ?_
  refine w_iast (n := 116) dX11_init_299 (tkG (by decide) rfl) ⟨by decide, by decide⟩ ⟨by decide, by decide⟩ ?_
  rw [wd_step (M := M) (k := 47) (i := 47) (c := 97) rfl rfl]
  refine w_dup dX11_init_300 rfl ?_
  refine w_bipush dX11_init_301 (by decide) ?_
  refine w_bipush dX11_init_303 (by decide) ?_
  refine w_iast (n := 116) dX11_init_305 (tkG (by decide) rfl) ⟨by decide, by decide⟩ ⟨by decide, by decide⟩ ?_
  rw [wd_step (M := M) (k := 48) (i := 48) (c := 116) rfl rfl]
  refine w_dup dX11_init_306 rfl ?_
  refine w_bipush dX11_init_307 (by decide) ?_
  refine w_bipush dX11_init_309 (by decide) ?_
  refine w_iast (n := 116) dX11_init_311 (tkG (by decide) rfl) ⟨by decide, by decide⟩ ⟨by decide, by decide⟩ ?_
  rw [wd_step (M := M) (k := 49) (i := 49) (c := 32) rfl rfl]
  refine w_dup dX11_init_312 rfl ?_
  refine w_bipush dX11_init_313 (by decide) ?_
  refine w_bipush dX11_init_315 (by decide) ?_
  refine w_iast (n := 116) dX11_init_317 (tkG (by decide) rfl) ⟨by decide, by decide⟩ ⟨by decide, by decide⟩ ?_
  rw [wd_step (M := M) (k := 50) (i := 50) (c := 117) rfl rfl]
  refine w_dup dX11_init_318 rfl ?_
  refine w_bipush dX11_init_319 (by decide) ?_
  refine w_bipush dX11_init_321 (by decide) ?_
  refine w_iast (n := 116) dX11_init_323 (tkG (by decide) rfl) ⟨by decide, by decide⟩ ⟨by decide, by decide⟩ ?_
  rw [wd_step (M := M) (k := 51) (i := 51) (c := 112) rfl rfl]
  refine w_dup dX11_init_324 rfl ?_
  refine w_bipush dX11_init_325 (by decide) ?_
  refine w_bipush dX11_init_327 (by decide) ?_
  refine w_iast (n := 116) dX11_init_329 (tkG (by decide) rfl) ⟨by decide, by decide⟩ ⟨by decide, by decide⟩ ?_
  rw [wd_step (M := M) (k := 52) (i := 52) (c := 32) rfl rfl]
  refine w_dup dX11_init_330 rfl ?_
  refine w_bipush dX11_init_331 (by decide) ?_
  refine w_bipush dX11_init_333 (by decide) ?_
  refine w_iast (n := 116) dX11_init_335 (tkG (by decide) rfl) ⟨by decide, by decide⟩ ⟨by decide, by decide⟩ ?_
  rw [wd_step (M := M) (k := 53) (i := 53) (c := 100) rfl rfl]
  refine w_dup dX11_init_336 rfl ?_
  refine w_bipush dX11_init_337 (by decide) ?_
  refine w_bipush dX11_init_339 (by decide) ?_
  refine w_iast (n := 116) dX11_init_341 (tkG (by decide) rfl) ⟨by decide, by decide⟩ ⟨by decide, by decide⟩ ?_
  rw [wd_step (M := M) (k := 54) (i := 54) (c := 111) rfl rfl]
  refine w_dup dX11_init_342 rfl ?_
  refine w_bipush dX11_init_343 (by decide) ?_
  refine w_bipush dX11_init_345 (by decide) ?_
  refine w_iast (n := 116) dX11_init_347 (tkG (by decide) rfl) ⟨by decide, by decide⟩ ⟨by decide, by decide⟩ ?_
  rw [wd_step (M := M) (k := 55) (i := 55) (c := 119) rfl rfl]
  refine w_dup dX11_init_348 rfl ?_
  refine w_bipush dX11_init_349 (by decide) ?_
  refine w_bipush dX11_init_351 (by decide) ?_
  refine w_iast (n := 116) dX11_init_353 (tkG (by decide) rfl) ⟨by decide, by decide⟩ ⟨by decide, by decide⟩ ?_
  rw [wd_step (M := M) (k := 56) (i := 56) (c := 110) rfl rfl]
  refine w_dup dX11_init_354 rfl ?_
  refine w_bipush dX11_init_355 (by decide) ?_
  refine w_bipush dX11_init_357 (by decide) ?_
  refine w_iast (n := 116) dX11_init_359 (tkG (by decide) rfl) ⟨by decide, by decide⟩ ⟨by decide, by decide⟩ ?_
  rw [wd_step (M := M) (k := 57) (i := 57) (c := 32) rfl rfl]
  refine w_dup dX11_init_360 rfl ?_
  refine w_bipush dX11_init_361 (by decide) ?_
  refine w_bipush dX11_init_363 (by decide) ?_
  refine w_iast (n := 116) dX11_init_365 (tkG (by decide) rfl) ⟨by decide, by decide⟩ ⟨by decide, by decide⟩ ?_
  rw [wd_step (M := M) (k := 58) (i := 58) (c := 109) rfl rfl]
  refine w_dup dX11_init_366 rfl ?_
  refine w_bipush dX11_init_367 (by decide) ?_
  refine w_bipush dX11_init_369 (by decide) ?_
  refine w_iast (n := 116) dX11_init_371 (tkG (by decide) rfl) ⟨by decide, by decide⟩ ⟨by decide, by decide⟩ ?_
  rw [wd_step (M := M) (k := 59) (i := 59) (c := 97) rfl rfl]
  refine w_dup dX11_init_372 rfl ?_
  refine w_bipush dX11_init_373 (by decide) ?_
  refine w_bipush dX11_init_375 (by decide) ?_
  refine w_iast (n := 116) dX11_init_377 (tkG (by decide) rfl) ⟨by decide, by decide⟩ ⟨by decide, by decide⟩ ?_
  rw [wd_step (M := M) (k := 60) (i := 60) (c := 110) rfl rfl]
  refine w_dup dX11_init_378 rfl ?_
  refine w_bipush dX11_init_379 (by decide) ?_
  refine w_bipush dX11_init_381 (by decide) ?_
  refine w_iast (n := 116) dX11_init_383 (tkG (by decide) rfl) ⟨by decide, by decide⟩ ⟨by decide, by decide⟩ ?_
  rw [wd_step (M := M) (k := 61) (i := 61) (c := 121) rfl rfl]
  refine w_dup dX11_init_384 rfl ?_
  refine w_bipush dX11_init_385 (by decide) ?_
  refine w_bipush dX11_init_387 (by decide) ?_
  refine w_iast (n := 116) dX11_init_389 (tkG (by decide) rfl) ⟨by decide, by decide⟩ ⟨by decide, by decide⟩ ?_
  rw [wd_step (M := M) (k := 62) (i := 62) (c := 32) rfl rfl]
  refine w_dup dX11_init_390 rfl ?_
  refine w_bipush dX11_init_391 (by decide) ?_
  refine w_bipush dX11_init_393 (by decide) ?_
  refine w_iast (n := 116) dX11_init_395 (tkG (by decide) rfl) ⟨by decide, by decide⟩ ⟨by decide, by decide⟩ ?_
  rw [wd_step (M := M) (k := 63) (i := 63) (c := 97) rfl rfl]
  refine w_dup dX11_init_396 rfl ?_
  refine w_bipush dX11_init_397 (by decide) ?_
  refine w_bipush dX11_init_399 (by decide) ?_
  refine w_iast (n := 116) dX11_init_401 (tkG (by decide) rfl) ⟨by decide, by decide⟩ ⟨by decide, by decide⟩ ?_
  rw [wd_step (M := M) (k := 64) (i := 64) (c := 115) rfl rfl]
  refine w_dup dX11_init_402 rfl ?_
  refine w_bipush dX11_init_403 (by decide) ?_
  refine w_bipush dX11_init_405 (by decide) ?_
  refine w_iast (n := 116) dX11_init_407 (tkG (by decide) rfl) ⟨by decide, by decide⟩ ⟨by decide, by decide⟩ ?_
  rw [wd_step (M := M) (k := 65) (i := 65) (c := 32) rfl rfl]
  refine w_dup dX11_init_408 rfl ?_
  refine w_bipush dX11_init_409 (by decide) ?_
  refine w_bipush dX11_init_411 (by decide) ?_
  refine w_iast (n := 116) dX11_init_413 (tkG (by decide) rfl) ⟨by decide, by decide⟩ ⟨by decide, by decide⟩ ?_
  rw [wd_step (M := M) (k := 66) (i := 66) (c := 97) rfl rfl]
  refine w_dup dX11_init_414 rfl ?_
  refine w_bipush dX11_init_415 (by decide) ?_
  refine w_bipush dX11_init_417 (by decide) ?_
  refine w_iast (n := 116) dX11_init_419 (tkG (by decide) rfl) ⟨by decide, by decide⟩ ⟨by decide, by decide⟩ ?_
  rw [wd_step (M := M) (k := 67) (i := 67) (c := 110) rfl rfl]
  refine w_dup dX11_init_420 rfl ?_
  refine w_bipush dX11_init_421 (by decide) ?_
  refine w_bipush dX11_init_423 (by decide) ?_
  refine w_iast (n := 116) dX11_init_425 (tkG (by decide) rfl) ⟨by decide, by decide⟩ ⟨by decide, by decide⟩ ?_
  rw [wd_step (M := M) (k := 68) (i := 68) (c := 100) rfl rfl]
  refine w_dup dX11_init_426 rfl ?_
  refine w_bipush dX11_init_427 (by decide) ?_
  refine w_bipush dX11_init_429 (by decide) ?_
  refine w_iast (n := 116) dX11_init_431 (tkG (by decide) rfl) ⟨by decide, by decide⟩ ⟨by decide, by decide⟩ ?_
  rw [wd_step (M := M) (k := 69) (i := 69) (c := 32) rfl rfl]
  refine w_dup dX11_init_432 rfl ?_
  refine w_bipush dX11_init_433 (by decide) ?_
  refine w_bipush dX11_init_435 (by decide) ?_
  refine w_iast (n := 116) dX11_init_437 (tkG (by decide) rfl) ⟨by decide, by decide⟩ ⟨by decide, by decide⟩ ?_
  rw [wd_step (M := M) (k := 70) (i := 70) (c := 111) rfl rfl]
  refine w_dup dX11_init_438 rfl ?_
  refine w_bipush dX11_init_439 (by decide) ?_
  refine w_bipush dX11_init_441 (by decide) ?_
  refine w_iast (n := 116) dX11_init_443 (tkG (by decide) rfl) ⟨by decide, by decide⟩ ⟨by decide, by decide⟩ ?_
  rw [wd_step (M := M) (k := 71) (i := 71) (c := 114) rfl rfl]
  refine w_dup dX11_init_444 rfl ?_
  refine w_bipush dX11_init_445 (by decide) ?_
  refine w_bipush dX11_init_447 (by decide) ?_
  refine w_iast (n := 116) dX11_init_449 (tkG (by decide) rfl) ⟨by decide, by decide⟩ ⟨by decide, by decide⟩ ?_
  rw [wd_step (M := M) (k := 72) (i := 72) (c := 32) rfl rfl]
  refine w_dup dX11_init_450 rfl ?_
  refine w_bipush dX11_init_451 (by decide) ?_
  refine w_bipush dX11_init_453 (by decide) ?_
  refine w_iast (n := 116) dX11_init_455 (tkG (by decide) rfl) ⟨by decide, by decide⟩ ⟨by decide, by decide⟩ ?_
  rw [wd_step (M := M) (k := 73) (i := 73) (c := 110) rfl rfl]
  refine w_dup dX11_init_456 rfl ?_
  refine w_bipush dX11_init_457 (by decide) ?_
  refine w_bipush dX11_init_459 (by decide) ?_
  refine w_iast (n := 116) dX11_init_461 (tkG (by decide) rfl) ⟨by decide, by decide⟩ ⟨by decide, by decide⟩ ?_
  rw [wd_step (M := M) (k := 74) (i := 74) (c := 111) rfl rfl]
  refine w_dup dX11_init_462 rfl ?_
  refine w_bipush dX11_init_463 (by decide) ?_
  refine w_bipush dX11_init_465 (by decide) ?_
  refine w_iast (n := 116) dX11_init_467 (tkG (by decide) rfl) ⟨by decide, by decide⟩ ⟨by decide, by decide⟩ ?_
  rw [wd_step (M := M) (k := 75) (i := 75) (c := 116) rfl rfl]
  refine w_dup dX11_init_468 rfl ?_
  refine w_bipush dX11_init_469 (by decide) ?_
  refine w_bipush dX11_init_471 (by decide) ?_
  refine w_iast (n := 116) dX11_init_473 (tkG (by decide) rfl) ⟨by decide, by decide⟩ ⟨by decide, by decide⟩ ?_
  rw [wd_step (M := M) (k := 76) (i := 76) (c := 32) rfl rfl]
  refine w_dup dX11_init_474 rfl ?_
  refine w_bipush dX11_init_475 (by decide) ?_
  refine w_bipush dX11_init_477 (by decide) ?_
  refine w_iast (n := 116) dX11_init_479 (tkG (by decide) rfl) ⟨by decide, by decide⟩ ⟨by decide, by decide⟩ ?_
  rw [wd_step (M := M) (k := 77) (i := 77) (c := 119) rfl rfl]
  refine w_dup dX11_init_480 rfl ?_
  refine w_bipush dX11_init_481 (by decide) ?_
  refine w_bipush dX11_init_483 (by decide) ?_
  refine w_iast (n := 116) dX11_init_485 (tkG (by decide) rfl) ⟨by decide, by decide⟩ ⟨by decide, by decide⟩ ?_
  rw [wd_step (M := M) (k := 78) (i := 78) (c := 111) rfl rfl]
  refine w_dup dX11_init_486 rfl ?_
  refine w_bipush dX11_init_487 (by decide) ?_
  refine w_bipush dX11_init_489 (by decide) ?_
  refine w_iast (n := 116) dX11_init_491 (tkG (by decide) rfl) ⟨by decide, by decide⟩ ⟨by decide, by decide⟩ ?_
  rw [wd_step (M := M) (k := 79) (i := 79) (c := 114) rfl rfl]
  refine w_dup dX11_init_492 rfl ?_
  refine w_bipush dX11_init_493 (by decide) ?_
  refine w_bipush dX11_init_495 (by decide) ?_
  refine w_iast (n := 116) dX11_init_497 (tkG (by decide) rfl) ⟨by decide, by decide⟩ ⟨by decide, by decide⟩ ?_
  rw [wd_step (M := M) (k := 80) (i := 80) (c := 110) rfl rfl]
  refine w_dup dX11_init_498 rfl ?_
  refine w_bipush dX11_init_499 (by decide) ?_
  refine w_bipush dX11_init_501 (by decide) ?_
  refine w_iast (n := 116) dX11_init_503 (tkG (by decide) rfl) ⟨by decide, by decide⟩ ⟨by decide, by decide⟩ ?_
  rw [wd_step (M := M) (k := 81) (i := 81) (c := 32) rfl rfl]
  refine w_dup dX11_init_504 rfl ?_
  refine w_bipush dX11_init_505 (by decide) ?_
  refine w_bipush dX11_init_507 (by decide) ?_
  refine w_iast (n := 116) dX11_init_509 (tkG (by decide) rfl) ⟨by decide, by decide⟩ ⟨by decide, by decide⟩ ?_
  rw [wd_step (M := M) (k := 82) (i := 82) (c := 112) rfl rfl]
  refine w_dup dX11_init_510 rfl ?_
  refine w_bipush dX11_init_511 (by decide) ?_
  refine w_bipush dX11_init_513 (by decide) ?_
  refine w_iast (n := 116) dX11_init_515 (tkG (by decide) rfl) ⟨by decide, by decide⟩ ⟨by decide, by decide⟩ ?_
  rw [wd_step (M := M) (k := 83) (i := 83) (c := 108) rfl rfl]
  refine w_dup dX11_init_516 rfl ?_
  refine w_bipush dX11_init_517 (by decide) ?_
  refine w_bipush dX11_init_519 (by decide) ?_
  refine w_iast (n := 116) dX11_init_521 (tkG (by decide) rfl) ⟨by decide, by decide⟩ ⟨by decide, by decide⟩ ?_
  rw [wd_step (M := M) (k := 84) (i := 84) (c := 97) rfl rfl]
  refine w_dup dX11_init_522 rfl ?_
  refine w_bipush dX11_init_523 (by decide) ?_
  refine w_bipush dX11_init_525 (by decide) ?_
  refine w_iast (n := 116) dX11_init_527 (tkG (by decide) rfl) ⟨by decide, by decide⟩ ⟨by decide, by decide⟩ ?_
  rw [wd_step (M := M) (k := 85) (i := 85) (c := 99) rfl rfl]
  refine w_dup dX11_init_528 rfl ?_
  refine w_bipush dX11_init_529 (by decide) ?_
  refine w_bipush dX11_init_531 (by decide) ?_
  refine w_iast (n := 116) dX11_init_533 (tkG (by decide) rfl) ⟨by decide, by decide⟩ ⟨by decide, by decide⟩ ?_
  rw [wd_step (M := M) (k := 86) (i := 86) (c := 101) rfl rfl]
  refine w_dup dX11_init_534 rfl ?_
  refine w_bipush dX11_init_535 (by decide) ?_
  refine w_bipush dX11_init_537 (by decide) ?_
  refine w_iast (n := 116) dX11_init_539 (tkG (by decide) rfl) ⟨by decide, by decide⟩ ⟨by decide, by decide⟩ ?_
  rw [wd_step (M := M) (k := 87) (i := 87) (c := 32) rfl rfl]
  refine w_dup dX11_init_540 rfl ?_
  refine w_bipush dX11_init_541 (by decide) ?_
  refine w_bipush dX11_init_543 (by decide) ?_
  refine w_iast (n := 116) dX11_init_545 (tkG (by decide) rfl) ⟨by decide, by decide⟩ ⟨by decide, by decide⟩ ?_
  rw [wd_step (M := M) (k := 88) (i := 88) (c := 117) rfl rfl]
  refine w_dup dX11_init_546 rfl ?_
  refine w_bipush dX11_init_547 (by decide) ?_
  refine w_bipush dX11_init_549 (by decide) ?_
  refine w_iast (n := 116) dX11_init_551 (tkG (by decide) rfl) ⟨by decide, by decide⟩ ⟨by decide, by decide⟩ ?_
  rw [wd_step (M := M) (k := 89) (i := 89) (c := 112) rfl rfl]
  refine w_dup dX11_init_552 rfl ?_
  refine w_bipush dX11_init_553 (by decide) ?_
  refine w_bipush dX11_init_555 (by decide) ?_
  refine w_iast (n := 116) dX11_init_557 (tkG (by decide) rfl) ⟨by decide, by decide⟩ ⟨by decide, by decide⟩ ?_
  rw [wd_step (M := M) (k := 90) (i := 90) (c := 115) rfl rfl]
  refine w_dup dX11_init_558 rfl ?_
  refine w_bipush dX11_init_559 (by decide) ?_
  refine w_bipush dX11_init_561 (by decide) ?_
  refine w_iast (n := 116) dX11_init_563 (tkG (by decide) rfl) ⟨by decide, by decide⟩ ⟨by decide, by decide⟩ ?_
  rw [wd_step (M := M) (k := 91) (i := 91) (c := 32) rfl rfl]
  refine w_dup dX11_init_564 rfl ?_
  refine w_bipush dX11_init_565 (by decide) ?_
  refine w_bipush dX11_init_567 (by decide) ?_
  refine w_iast (n := 116) dX11_init_569 (tkG (by decide) rfl) ⟨by decide, by decide⟩ ⟨by decide, by decide⟩ ?_
  rw [wd_step (M := M) (k := 92) (i := 92) (c := 115) rfl rfl]
  refine w_dup dX11_init_570 rfl ?_
  refine w_bipush dX11_init_571 (by decide) ?_
  refine w_bipush dX11_init_573 (by decide) ?_
  refine w_iast (n := 116) dX11_init_575 (tkG (by decide) rfl) ⟨by decide, by decide⟩ ⟨by decide, by decide⟩ ?_
  rw [wd_step (M := M) (k := 93) (i := 93) (c := 101) rfl rfl]
  refine w_dup dX11_init_576 rfl ?_
  refine w_bipush dX11_init_577 (by decide) ?_
  refine w_bipush dX11_init_579 (by decide) ?_
  refine w_iast (n := 116) dX11_init_581 (tkG (by decide) rfl) ⟨by decide, by decide⟩ ⟨by decide, by decide⟩ ?_
  rw [wd_step (M := M) (k := 94) (i := 94) (c := 97) rfl rfl]
  refine w_dup dX11_init_582 rfl ?_
  refine w_bipush dX11_init_583 (by decide) ?_
  refine w_bipush dX11_init_585 (by decide) ?_
  refine w_iast (n := 116) dX11_init_587 (tkG (by decide) rfl) ⟨by decide, by decide⟩ ⟨by decide, by decide⟩ ?_
  rw [wd_step (M := M) (k := 95) (i := 95) (c := 108) rfl rfl]
  refine w_dup dX11_init_588 rfl ?_
  refine w_bipush dX11_init_589 (by decide) ?_
  refine w_bipush dX11_init_591 (by decide) ?_
  refine w_iast (n := 116) dX11_init_593 (tkG (by decide) rfl) ⟨by decide, by decide⟩ ⟨by decide, by decide⟩ ?_
  rw [wd_step (M := M) (k := 96) (i := 96) (c := 115) rfl rfl]
  refine w_dup dX11_init_594 rfl ?_
  refine w_bipush dX11_init_595 (by decide) ?_
  refine w_bipush dX11_init_597 (by decide) ?_
  refine w_iast (n := 116) dX11_init_599 (tkG (by decide) rfl) ⟨by decide, by decide⟩ ⟨by decide, by decide⟩ ?_
  rw [wd_step (M := M) (k := 97) (i := 97) (c := 32) rfl rfl]
  refine w_dup dX11_init_600 rfl ?_
  refine w_bipush dX11_init_601 (by decide) ?_
  refine w_bipush dX11_init_603 (by decide) ?_
  refine w_iast (n := 116) dX11_init_605 (tkG (by decide) rfl) ⟨by decide, by decide⟩ ⟨by decide, by decide⟩ ?_
  rw [wd_step (M := M) (k := 98) (i := 98) (c := 104) rfl rfl]
  refine w_dup dX11_init_606 rfl ?_
  refine w_bipush dX11_init_607 (by decide) ?_
  refine w_bipush dX11_init_609 (by decide) ?_
  refine w_iast (n := 116) dX11_init_611 (tkG (by decide) rfl) ⟨by decide, by decide⟩ ⟨by decide, by decide⟩ ?_
  rw [wd_step (M := M) (k := 99) (i := 99) (c := 105) rfl rfl]
  refine w_dup dX11_init_612 rfl ?_
  refine w_bipush dX11_init_613 (by decide) ?_
  refine w_bipush dX11_init_615 (by decide) ?_
  refine w_iast (n := 116) dX11_init_617 (tkG (by decide) rfl) ⟨by decide, by decide⟩ ⟨by decide, by decide⟩ ?_
  rw [wd_step (M := M) (k := 100) (i := 100) (c := 103) rfl rfl]
  refine w_dup dX11_init_618 rfl ?_
  refine w_bipush dX11_init_619 (by decide) ?_
  refine w_bipush dX11_init_621 (by decide) ?_
  refine w_iast (n := 116) dX11_init_623 (tkG (by decide) rfl) ⟨by decide, by decide⟩ ⟨by decide, by decide⟩ ?_
  rw [wd_step (M := M) (k := 101) (i := 101) (c := 104) rfl rfl]
  refine w_dup dX11_init_624 rfl ?_
  refine w_bipush dX11_init_625 (by decide) ?_
  refine w_bipush dX11_init_627 (by decide) ?_
  refine w_iast (n := 116) dX11_init_629 (tkG (by decide) rfl) ⟨by decide, by decide⟩ ⟨by decide, by decide⟩ ?_
  rw [wd_step (M := M) (k := 102) (i := 102) (c := 32) rfl rfl]
  refine w_dup dX11_init_630 rfl ?_
  refine w_bipush dX11_init_631 (by decide) ?_
  refine w_bipush dX11_init_633 (by decide) ?_
  refine w_iast (n := 116) dX11_init_635 (tkG (by decide) rfl) ⟨by decide, by decide⟩ ⟨by decide, by decide⟩ ?_
  rw [wd_step (M := M) (k := 103) (i := 103) (c := 116) rfl rfl]
  refine w_dup dX11_init_636 rfl ?_
  refine w_bipush dX11_init_637 (by decide) ?_
  refine w_bipush dX11_init_639 (by decide) ?_
  refine w_iast (n := 116) dX11_init_641 (tkG (by decide) rfl) ⟨by decide, by decide⟩ ⟨by decide, by decide⟩ ?_
  rw [wd_step (M := M) (k := 104) (i := 104) (c := 105) rfl rfl]
  refine w_dup dX11_init_642 rfl ?_
  refine w_bipush dX11_init_643 (by decide) ?_
  refine w_bipush dX11_init_645 (by decide) ?_
  refine w_iast (n := 116) dX11_init_647 (tkG (by decide) rfl) ⟨by decide, by decide⟩ ⟨by decide, by decide⟩ ?_
  rw [wd_step (M := M) (k := 105) (i := 105) (c := 114) rfl rfl]
  refine w_dup dX11_init_648 rfl ?_
  refine w_bipush dX11_init_649 (by decide) ?_
  refine w_bipush dX11_init_651 (by decide) ?_
  refine w_iast (n := 116) dX11_init_653 (tkG (by decide) rfl) ⟨by decide, by decide⟩ ⟨by decide, by decide⟩ ?_
  rw [wd_step (M := M) (k := 106) (i := 106) (c := 101) rfl rfl]
  refine w_dup dX11_init_654 rfl ?_
  refine w_bipush dX11_init_655 (by decide) ?_
  refine w_bipush dX11_init_657 (by decide) ?_
  refine w_iast (n := 116) dX11_init_659 (tkG (by decide) rfl) ⟨by decide, by decide⟩ ⟨by decide, by decide⟩ ?_
  rw [wd_step (M := M) (k := 107) (i := 107) (c := 100) rfl rfl]
  refine w_dup dX11_init_660 rfl ?_
  refine w_bipush dX11_init_661 (by decide) ?_
  refine w_bipush dX11_init_663 (by decide) ?_
  refine w_iast (n := 116) dX11_init_665 (tkG (by decide) rfl) ⟨by decide, by decide⟩ ⟨by decide, by decide⟩ ?_
  rw [wd_step (M := M) (k := 108) (i := 108) (c := 32) rfl rfl]
  refine w_dup dX11_init_666 rfl ?_
  refine w_bipush dX11_init_667 (by decide) ?_
  refine w_bipush dX11_init_669 (by decide) ?_
  refine w_iast (n := 116) dX11_init_671 (tkG (by decide) rfl) ⟨by decide, by decide⟩ ⟨by decide, by decide⟩ ?_
  rw [wd_step (M := M) (k := 109) (i := 109) (c := 109) rfl rfl]
  refine w_dup dX11_init_672 rfl ?_
  refine w_bipush dX11_init_673 (by decide) ?_
  refine w_bipush dX11_init_675 (by decide) ?_
  refine w_iast (n := 116) dX11_init_677 (tkG (by decide) rfl) ⟨by decide, by decide⟩ ⟨by decide, by decide⟩ ?_
  rw [wd_step (M := M) (k := 110) (i := 110) (c := 105) rfl rfl]
  refine w_dup dX11_init_678 rfl ?_
  refine w_bipush dX11_init_679 (by decide) ?_
  refine w_bipush dX11_init_681 (by decide) ?_
  refine w_iast (n := 116) dX11_init_683 (tkG (by decide) rfl) ⟨by decide, by decide⟩ ⟨by decide, by decide⟩ ?_
  rw [wd_step (M := M) (k := 111) (i := 111) (c := 110) rfl rfl]
  refine w_dup dX11_init_684 rfl ?_
  refine w_bipush dX11_init_685 (by decide) ?_
  refine w_bipush dX11_init_687 (by decide) ?_
  refine w_iast (n := 116) dX11_init_689 (tkG (by decide) rfl) ⟨by decide, by decide⟩ ⟨by decide, by decide⟩ ?_
  rw [wd_step (M := M) (k := 112) (i := 112) (c := 117) rfl rfl]
  refine w_dup dX11_init_690 rfl ?_
  refine w_bipush dX11_init_691 (by decide) ?_
  refine w_bipush dX11_init_693 (by decide) ?_
  refine w_iast (n := 116) dX11_init_695 (tkG (by decide) rfl) ⟨by decide, by decide⟩ ⟨by decide, by decide⟩ ?_
  rw [wd_step (M := M) (k := 113) (i := 113) (c := 116) rfl rfl]
  refine w_dup dX11_init_696 rfl ?_
  refine w_bipush dX11_init_697 (by decide) ?_
  refine w_bipush dX11_init_699 (by decide) ?_
  refine w_iast (n := 116) dX11_init_701 (tkG (by decide) rfl) ⟨by decide, by decide⟩ ⟨by decide, by decide⟩ ?_
  rw [wd_step (M := M) (k := 114) (i := 114) (c := 101) rfl rfl]
  refine w_dup dX11_init_702 rfl ?_
  refine w_bipush dX11_init_703 (by decide) ?_
  refine w_bipush dX11_init_705 (by decide) ?_
  refine w_iast (n := 116) dX11_init_707 (tkG (by decide) rfl) ⟨by decide, by decide⟩ ⟨by decide, by decide⟩ ?_
  rw [wd_step (M := M) (k := 115) (i := 115) (c := 32) rfl rfl]
  have z4 := wd_fr (M := M) (k := 116) (show 100 < 101 by decide) z3
  refine w_putR (ci := 11) (k := 3) dX11_init_708 (Or.inr ⟨⟨rfl, rfl, rfl⟩, ⟨by decide, by decide⟩, (wgt6 177 rfl rfl)⟩) (tkG (by decide) rfl) rfl rfl (by rw [tkL (by decide)]; decide) ?_
  have z5 := z4.uR (a := 98) (k := 3) (v := some 100) (by decide)
  refine w_aload_n dX11_init_711 rfl ?_
  refine w_iconst dX11_init_712 ?_
  refine w_putI (ci := 11) (k := 5) dX11_init_713 (Or.inl ⟨rfl, fX11_16⟩) (tkG (by decide) rfl) rfl (by decide) ?_
  have z6 := z5.uM (a := 98) (k := 5) (v := (-1)) (by decide)
  refine w_aload_n dX11_init_716 rfl ?_
  refine w_iconst dX11_init_717 ?_
  refine w_newZ (n := 2) dX11_init_718 rfl (by decide) arr_boolean (fun b (hb : b < 99) => by rw [tkL (by decide)]; omega) (okL (by rw [tkL (by decide)]; decide)) (okR (by rw [tkL (by decide)]; decide) rfl) (fun k => by rw [tkL (by decide)]; exact (z6 _ (Nat.le_refl _) k).1) ⟨Nat.le_of_ble_eq_true rfl, Nat.le_of_ble_eq_true rfl⟩ ?_
  rw [tkL (m := 101) (by decide), tkS (m := 101) (t := (22, 2)) rfl]
  have z7 := z6.le (show 101 ≤ 102 by decide)
  refine w_putR (ci := 11) (k := 20) dX11_init_720 (Or.inr ⟨⟨rfl, rfl, rfl⟩, ⟨by decide, by decide⟩, (wgt6 194 rfl rfl)⟩) (tkG (by decide) rfl) rfl rfl (by rw [tkL (by decide)]; decide) ?_
  have z8 := z7.uR (a := 98) (k := 20) (v := some 101) (by decide)
  refine w_aload_n dX11_init_723 rfl ?_
  refine w_iconst dX11_init_724 ?_
  refine w_newI (n := 4) dX11_init_725 rfl (by decide) arr_int (fun b (hb : b < 99) => by rw [tkL (by decide)]; omega) (okL (by rw [tkL (by decide)]; decide)) (okR (by rw [tkL (by decide)]; decide) rfl) (fun k => by rw [tkL (by decide)]; exact (z8 _ (Nat.le_refl _) k).1) ⟨Nat.le_of_ble_eq_true rfl, Nat.le_of_ble_eq_true rfl⟩ ?_
  rw [tkL (m := 102) (by decide), tkS (m := 102) (t := (20, 4)) rfl]
  have z9 := z8.le (show 102 ≤ 103 by decide)
  refine w_putR (ci := 11) (k := 21) dX11_init_727 (Or.inr ⟨⟨rfl, rfl, rfl⟩, ⟨by decide, by decide⟩, (wgt6 195 rfl rfl)⟩) (tkG (by decide) rfl) rfl rfl (by rw [tkL (by decide)]; decide) ?_
  have z10 := z9.uR (a := 98) (k := 21) (v := some 102) (by decide)
  refine w_aload_n dX11_init_730 rfl ?_
  refine w_bipush dX11_init_731 (by decide) ?_
  refine w_newI (n := 16) dX11_init_733 rfl (by decide) arr_int (fun b (hb : b < 99) => by rw [tkL (by decide)]; omega) (okL (by rw [tkL (by decide)]; decide)) (okR (by rw [tkL (by decide)]; decide) rfl) (fun k => by rw [tkL (by decide)]; exact (z10 _ (Nat.le_refl _) k).1) ⟨Nat.le_of_ble_eq_true rfl, Nat.le_of_ble_eq_true rfl⟩ ?_
  rw [tkL (m := 103) (by decide), tkS (m := 103) (t := (20, 16)) rfl]
  have z11 := z10.le (show 103 ≤ 104 by decide)
  refine w_putR (ci := 11) (k := 22) dX11_init_735 (Or.inr ⟨⟨rfl, rfl, rfl⟩, ⟨by decide, by decide⟩, (wgt6 196 rfl rfl)⟩) (tkG (by decide) rfl) rfl rfl (by rw [tkL (by decide)]; decide) ?_
  have z12 := z11.uR (a := 98) (k := 22) (v := some 103) (by decide)
  refine w_aload_n dX11_init_738 rfl ?_
  refine w_bipush dX11_init_739 (by decide) ?_
  refine w_newI (n := 16) dX11_init_741 rfl (by decide) arr_int (fun b (hb : b < 99) => by rw [tkL (by decide)]; omega) (okL (by rw [tkL (by decide)]; decide)) (okR (by rw [tkL (by decide)]; decide) rfl) (fun k => by rw [tkL (by decide)]; exact (z12 _ (Nat.le_refl _) k).1) ⟨Nat.le_of_ble_eq_true rfl, Nat.le_of_ble_eq_true rfl⟩ ?_
  rw [tkL (m := 104) (by decide), tkS (m := 104) (t := (20, 16)) rfl]
  have z13 := z12.le (show 104 ≤ 105 by decide)
  refine w_putR (ci := 11) (k := 23) dX11_init_743 (Or.inr ⟨⟨rfl, rfl, rfl⟩, ⟨by decide, by decide⟩, (wgt6 197 rfl rfl)⟩) (tkG (by decide) rfl) rfl rfl (by rw [tkL (by decide)]; decide) ?_
  have z14 := z13.uR (a := 98) (k := 23) (v := some 104) (by decide)
  refine w_aload_n dX11_init_746 rfl ?_
  refine w_bipush dX11_init_747 (by decide) ?_
  refine w_newI (n := 16) dX11_init_749 rfl (by decide) arr_int (fun b (hb : b < 99) => by rw [tkL (by decide)]; omega) (okL (by rw [tkL (by decide)]; decide)) (okR (by rw [tkL (by decide)]; decide) rfl) (fun k => by rw [tkL (by decide)]; exact (z14 _ (Nat.le_refl _) k).1) ⟨Nat.le_of_ble_eq_true rfl, Nat.le_of_ble_eq_true rfl⟩ ?_
  rw [tkL (m := 105) (by decide), tkS (m := 105) (t := (20, 16)) rfl]
  have z15 := z14.le (show 105 ≤ 106 by decide)
  refine w_putR (ci := 11) (k := 24) dX11_init_751 (Or.inr ⟨⟨rfl, rfl, rfl⟩, ⟨by decide, by decide⟩, (wgt6 198 rfl rfl)⟩) (tkG (by decide) rfl) rfl rfl (by rw [tkL (by decide)]; decide) ?_
  have z16 := z15.uR (a := 98) (k := 24) (v := some 105) (by decide)
  refine w_aload_n dX11_init_754 rfl ?_
  refine w_bipush dX11_init_755 (by decide) ?_
  refine w_newI (n := 16) dX11_init_757 rfl (by decide) arr_int (fun b (hb : b < 99) => by rw [tkL (by decide)]; omega) (okL (by rw [tkL (by decide)]; decide)) (okR (by rw [tkL (by decide)]; decide) rfl) (fun k => by rw [tkL (by decide)]; exact (z16 _ (Nat.le_refl _) k).1) ⟨Nat.le_of_ble_eq_true rfl, Nat.le_of_ble_eq_true rfl⟩ ?_
  rw [tkL (m := 106) (by decide), tkS (m := 106) (t := (20, 16)) rfl]
  have z17 := z16.le (show 106 ≤ 107 by decide)
  refine w_putR (ci := 11) (k := 25) dX11_init_759 (Or.inr ⟨⟨rfl, rfl, rfl⟩, ⟨by decide, by decide⟩, (wgt6 199 rfl rfl)⟩) (tkG (by decide) rfl) rfl rfl (by rw [tkL (by decide)]; decide) ?_
  have z18 := z17.uR (a := 98) (k := 25) (v := some 106) (by decide)
  refine w_aload_n dX11_init_762 rfl ?_
  refine w_bipush dX11_init_763 (by decide) ?_
  refine w_newI (n := 32) dX11_init_765 rfl (by decide) arr_int (fun b (hb : b < 99) => by rw [tkL (by decide)]; omega) (okL (by rw [tkL (by decide)]; decide)) (okR (by rw [tkL (by decide)]; decide) rfl) (fun k => by rw [tkL (by decide)]; exact (z18 _ (Nat.le_refl _) k).1) ⟨Nat.le_of_ble_eq_true rfl, Nat.le_of_ble_eq_true rfl⟩ ?_
  rw [tkL (m := 107) (by decide), tkS (m := 107) (t := (20, 32)) rfl]
  have z19 := z18.le (show 107 ≤ 108 by decide)
  refine w_putR (ci := 11) (k := 26) dX11_init_767 (Or.inr ⟨⟨rfl, rfl, rfl⟩, ⟨by decide, by decide⟩, (wgt6 200 rfl rfl)⟩) (tkG (by decide) rfl) rfl rfl (by rw [tkL (by decide)]; decide) ?_
  have z20 := z19.uR (a := 98) (k := 26) (v := some 107) (by decide)
  refine w_aload_n dX11_init_770 rfl ?_
  refine w_bipush dX11_init_771 (by decide) ?_
  refine w_newI (n := 32) dX11_init_773 rfl (by decide) arr_int (fun b (hb : b < 99) => by rw [tkL (by decide)]; omega) (okL (by rw [tkL (by decide)]; decide)) (okR (by rw [tkL (by decide)]; decide) rfl) (fun k => by rw [tkL (by decide)]; exact (z20 _ (Nat.le_refl _) k).1) ⟨Nat.le_of_ble_eq_true rfl, Nat.le_of_ble_eq_true rfl⟩ ?_
  rw [tkL (m := 108) (by decide), tkS (m := 108) (t := (20, 32)) rfl]
  have z21 := z20.le (show 108 ≤ 109 by decide)
  refine w_putR (ci := 11) (k := 27) dX11_init_775 (Or.inr ⟨⟨rfl, rfl, rfl⟩, ⟨by decide, by decide⟩, (wgt6 201 rfl rfl)⟩) (tkG (by decide) rfl) rfl rfl (by rw [tkL (by decide)]; decide) ?_
  have z22 := z21.uR (a := 98) (k := 27) (v := some 108) (by decide)
  refine w_aload_n dX11_init_778 rfl ?_
  refine w_bipush dX11_init_779 (by decide) ?_
  refine w_newI (n := 8) dX11_init_781 rfl (by decide) arr_int (fun b (hb : b < 99) => by rw [tkL (by decide)]; omega) (okL (by rw [tkL (by decide)]; decide)) (okR (by rw [tkL (by decide)]; decide) rfl) (fun k => by rw [tkL (by decide)]; exact (z22 _ (Nat.le_refl _) k).1) ⟨Nat.le_of_ble_eq_true rfl, Nat.le_of_ble_eq_true rfl⟩ ?_
  rw [tkL (m := 109) (by decide), tkS (m := 109) (t := (20, 8)) rfl]
  have z23 := z22.le (show 109 ≤ 110 by decide)
  refine w_putR (ci := 11) (k := 28) dX11_init_783 (Or.inr ⟨⟨rfl, rfl, rfl⟩, ⟨by decide, by decide⟩, (wgt6 202 rfl rfl)⟩) (tkG (by decide) rfl) rfl rfl (by rw [tkL (by decide)]; decide) ?_
  have z24 := z23.uR (a := 98) (k := 28) (v := some 109) (by decide)
  refine w_aload_n dX11_init_786 rfl ?_
  refine w_sipush dX11_init_787 (by decide) ?_
  refine w_newI (n := 128) dX11_init_790 rfl (by decide) arr_int (fun b (hb : b < 99) => by rw [tkL (by decide)]; omega) (okL (by rw [tkL (by decide)]; decide)) (okR (by rw [tkL (by decide)]; decide) rfl) (fun k => by rw [tkL (by decide)]; exact (z24 _ (Nat.le_refl _) k).1) ⟨Nat.le_of_ble_eq_true rfl, Nat.le_of_ble_eq_true rfl⟩ ?_
  rw [tkL (m := 110) (by decide), tkS (m := 110) (t := (20, 128)) rfl]
  have z25 := z24.le (show 110 ≤ 111 by decide)
  refine w_putR (ci := 11) (k := 29) dX11_init_792 (Or.inr ⟨⟨rfl, rfl, rfl⟩, ⟨by decide, by decide⟩, (wgt6 203 rfl rfl)⟩) (tkG (by decide) rfl) rfl rfl (by rw [tkL (by decide)]; decide) ?_
  have z26 := z25.uR (a := 98) (k := 29) (v := some 110) (by decide)
  refine w_aload_n dX11_init_795 rfl ?_
  refine w_sipush dX11_init_796 (by decide) ?_
  refine w_newI (n := 128) dX11_init_799 rfl (by decide) arr_int (fun b (hb : b < 99) => by rw [tkL (by decide)]; omega) (okL (by rw [tkL (by decide)]; decide)) (okR (by rw [tkL (by decide)]; decide) rfl) (fun k => by rw [tkL (by decide)]; exact (z26 _ (Nat.le_refl _) k).1) ⟨Nat.le_of_ble_eq_true rfl, Nat.le_of_ble_eq_true rfl⟩ ?_
  rw [tkL (m := 111) (by decide), tkS (m := 111) (t := (20, 128)) rfl]
  have z27 := z26.le (show 111 ≤ 112 by decide)
  refine w_putR (ci := 11) (k := 30) dX11_init_801 (Or.inr ⟨⟨rfl, rfl, rfl⟩, ⟨by decide, by decide⟩, (wgt6 204 rfl rfl)⟩) (tkG (by decide) rfl) rfl rfl (by rw [tkL (by decide)]; decide) ?_
  have z28 := z27.uR (a := 98) (k := 30) (v := some 111) (by decide)
  refine w_aload_n dX11_init_804 rfl ?_
  refine w_sipush dX11_init_805 (by decide) ?_
  refine w_newI (n := 128) dX11_init_808 rfl (by decide) arr_int (fun b (hb : b < 99) => by rw [tkL (by decide)]; omega) (okL (by rw [tkL (by decide)]; decide)) (okR (by rw [tkL (by decide)]; decide) rfl) (fun k => by rw [tkL (by decide)]; exact (z28 _ (Nat.le_refl _) k).1) ⟨Nat.le_of_ble_eq_true rfl, Nat.le_of_ble_eq_true rfl⟩ ?_
  rw [tkL (m := 112) (by decide), tkS (m := 112) (t := (20, 128)) rfl]
  have z29 := z28.le (show 112 ≤ 113 by decide)
  refine w_putR (ci := 11) (k := 31) dX11_init_810 (Or.inr ⟨⟨rfl, rfl, rfl⟩, ⟨by decide, by decide⟩, (wgt6 205 rfl rfl)⟩) (tkG (by decide) rfl) rfl rfl (by rw [tkL (by decide)]; decide) ?_
  have z30 := z29.uR (a := 98) (k := 31) (v := some 112) (by decide)
  refine w_aload_n dX11_init_813 rfl ?_
  refine w_bipush dX11_init_814 (by decide) ?_
  refine w_newZ (n := 6) dX11_init_816 rfl (by decide) arr_boolean (fun b (hb : b < 99) => by rw [tkL (by decide)]; omega) (okL (by rw [tkL (by decide)]; decide)) (okR (by rw [tkL (by decide)]; decide) rfl) (fun k => by rw [tkL (by decide)]; exact (z30 _ (Nat.le_refl _) k).1) ⟨Nat.le_of_ble_eq_true rfl, Nat.le_of_ble_eq_true rfl⟩ ?_
  rw [tkL (m := 113) (by decide), tkS (m := 113) (t := (22, 6)) rfl]
  have z31 := z30.le (show 113 ≤ 114 by decide)
  refine w_putR (ci := 11) (k := 34) dX11_init_818 (Or.inr ⟨⟨rfl, rfl, rfl⟩, ⟨by decide, by decide⟩, (wgt6 208 rfl rfl)⟩) (tkG (by decide) rfl) rfl rfl (by rw [tkL (by decide)]; decide) ?_
  have z32 := z31.uR (a := 98) (k := 34) (v := some 113) (by decide)
  refine w_aload_n dX11_init_821 rfl ?_
  refine w_bipush dX11_init_822 (by decide) ?_
  refine w_newI (n := 6) dX11_init_824 rfl (by decide) arr_int (fun b (hb : b < 99) => by rw [tkL (by decide)]; omega) (okL (by rw [tkL (by decide)]; decide)) (okR (by rw [tkL (by decide)]; decide) rfl) (fun k => by rw [tkL (by decide)]; exact (z32 _ (Nat.le_refl _) k).1) ⟨Nat.le_of_ble_eq_true rfl, Nat.le_of_ble_eq_true rfl⟩ ?_
  rw [tkL (m := 114) (by decide), tkS (m := 114) (t := (20, 6)) rfl]
  have z33 := z32.le (show 114 ≤ 115 by decide)
  refine w_putR (ci := 11) (k := 35) dX11_init_826 (Or.inr ⟨⟨rfl, rfl, rfl⟩, ⟨by decide, by decide⟩, (wgt6 209 rfl rfl)⟩) (tkG (by decide) rfl) rfl rfl (by rw [tkL (by decide)]; decide) ?_
  have z34 := z33.uR (a := 98) (k := 35) (v := some 114) (by decide)
  refine w_aload_n dX11_init_829 rfl ?_
  refine w_bipush dX11_init_830 (by decide) ?_
  refine w_newI (n := 6) dX11_init_832 rfl (by decide) arr_int (fun b (hb : b < 99) => by rw [tkL (by decide)]; omega) (okL (by rw [tkL (by decide)]; decide)) (okR (by rw [tkL (by decide)]; decide) rfl) (fun k => by rw [tkL (by decide)]; exact (z34 _ (Nat.le_refl _) k).1) ⟨Nat.le_of_ble_eq_true rfl, Nat.le_of_ble_eq_true rfl⟩ ?_
  rw [tkL (m := 115) (by decide), tkS (m := 115) (t := (20, 6)) rfl]
  have z35 := z34.le (show 115 ≤ 116 by decide)
  refine w_putR (ci := 11) (k := 36) dX11_init_834 (Or.inr ⟨⟨rfl, rfl, rfl⟩, ⟨by decide, by decide⟩, (wgt6 210 rfl rfl)⟩) (tkG (by decide) rfl) rfl rfl (by rw [tkL (by decide)]; decide) ?_
  have z36 := z35.uR (a := 98) (k := 36) (v := some 115) (by decide)
  refine w_aload_n dX11_init_837 rfl ?_
  refine w_sipush dX11_init_838 (by decide) ?_
  refine w_newI (n := 128) dX11_init_841 rfl (by decide) arr_int (fun b (hb : b < 99) => by rw [tkL (by decide)]; omega) (okL (by rw [tkL (by decide)]; decide)) (okR (by rw [tkL (by decide)]; decide) rfl) (fun k => by rw [tkL (by decide)]; exact (z36 _ (Nat.le_refl _) k).1) ⟨Nat.le_of_ble_eq_true rfl, Nat.le_of_ble_eq_true rfl⟩ ?_
  rw [tkL (m := 116) (by decide), tkS (m := 116) (t := (20, 128)) rfl]
  have z37 := z36.le (show 116 ≤ 117 by decide)
  refine w_putR (ci := 11) (k := 37) dX11_init_843 (Or.inr ⟨⟨rfl, rfl, rfl⟩, ⟨by decide, by decide⟩, (wgt6 211 rfl rfl)⟩) (tkG (by decide) rfl) rfl rfl (by rw [tkL (by decide)]; decide) ?_
  have z38 := z37.uR (a := 98) (k := 37) (v := some 116) (by decide)
  refine w_aload_n dX11_init_846 rfl ?_
  refine w_sipush dX11_init_847 (by decide) ?_
  refine w_newI (n := 128) dX11_init_850 rfl (by decide) arr_int (fun b (hb : b < 99) => by rw [tkL (by decide)]; omega) (okL (by rw [tkL (by decide)]; decide)) (okR (by rw [tkL (by decide)]; decide) rfl) (fun k => by rw [tkL (by decide)]; exact (z38 _ (Nat.le_refl _) k).1) ⟨Nat.le_of_ble_eq_true rfl, Nat.le_of_ble_eq_true rfl⟩ ?_
  rw [tkL (m := 117) (by decide), tkS (m := 117) (t := (20, 128)) rfl]
  have z39 := z38.le (show 117 ≤ 118 by decide)
  refine w_putR (ci := 11) (k := 38) dX11_init_852 (Or.inr ⟨⟨rfl, rfl, rfl⟩, ⟨by decide, by decide⟩, (wgt6 212 rfl rfl)⟩) (tkG (by decide) rfl) rfl rfl (by rw [tkL (by decide)]; decide) ?_
  have z40 := z39.uR (a := 98) (k := 38) (v := some 117) (by decide)
  refine w_aload_n dX11_init_855 rfl ?_
  refine w_sipush dX11_init_856 (by decide) ?_
  refine w_newI (n := 128) dX11_init_859 rfl (by decide) arr_int (fun b (hb : b < 99) => by rw [tkL (by decide)]; omega) (okL (by rw [tkL (by decide)]; decide)) (okR (by rw [tkL (by decide)]; decide) rfl) (fun k => by rw [tkL (by decide)]; exact (z40 _ (Nat.le_refl _) k).1) ⟨Nat.le_of_ble_eq_true rfl, Nat.le_of_ble_eq_true rfl⟩ ?_
  rw [tkL (m := 118) (by decide), tkS (m := 118) (t := (20, 128)) rfl]
  have z41 := z40.le (show 118 ≤ 119 by decide)
  refine w_putR (ci := 11) (k := 39) dX11_init_861 (Or.inr ⟨⟨rfl, rfl, rfl⟩, ⟨by decide, by decide⟩, (wgt6 213 rfl rfl)⟩) (tkG (by decide) rfl) rfl rfl (by rw [tkL (by decide)]; decide) ?_
  have z42 := z41.uR (a := 98) (k := 39) (v := some 118) (by decide)
  refine w_aload_n dX11_init_864 rfl ?_
  refine w_bipush dX11_init_865 (by decide) ?_
  refine w_newI (n := 96) dX11_init_867 rfl (by decide) arr_int (fun b (hb : b < 99) => by rw [tkL (by decide)]; omega) (okL (by rw [tkL (by decide)]; decide)) (okR (by rw [tkL (by decide)]; decide) rfl) (fun k => by rw [tkL (by decide)]; exact (z42 _ (Nat.le_refl _) k).1) ⟨Nat.le_of_ble_eq_true rfl, Nat.le_of_ble_eq_true rfl⟩ ?_
  rw [tkL (m := 119) (by decide), tkS (m := 119) (t := (20, 96)) rfl]
  have z43 := z42.le (show 119 ≤ 120 by decide)
  refine w_putR (ci := 11) (k := 40) dX11_init_869 (Or.inr ⟨⟨rfl, rfl, rfl⟩, ⟨by decide, by decide⟩, (wgt6 214 rfl rfl)⟩) (tkG (by decide) rfl) rfl rfl (by rw [tkL (by decide)]; decide) ?_
  have z44 := z43.uR (a := 98) (k := 40) (v := some 119) (by decide)
  refine w_aload_n dX11_init_872 rfl ?_
  refine w_bipush dX11_init_873 (by decide) ?_
  refine w_newI (n := 96) dX11_init_875 rfl (by decide) arr_int (fun b (hb : b < 99) => by rw [tkL (by decide)]; omega) (okL (by rw [tkL (by decide)]; decide)) (okR (by rw [tkL (by decide)]; decide) rfl) (fun k => by rw [tkL (by decide)]; exact (z44 _ (Nat.le_refl _) k).1) ⟨Nat.le_of_ble_eq_true rfl, Nat.le_of_ble_eq_true rfl⟩ ?_
  rw [tkL (m := 120) (by decide), tkS (m := 120) (t := (20, 96)) rfl]
  have z45 := z44.le (show 120 ≤ 121 by decide)
  refine w_putR (ci := 11) (k := 41) dX11_init_877 (Or.inr ⟨⟨rfl, rfl, rfl⟩, ⟨by decide, by decide⟩, (wgt6 215 rfl rfl)⟩) (tkG (by decide) rfl) rfl rfl (by rw [tkL (by decide)]; decide) ?_
  have z46 := z45.uR (a := 98) (k := 41) (v := some 120) (by decide)
  refine w_aload_n dX11_init_880 rfl ?_
  refine w_bipush dX11_init_881 (by decide) ?_
  refine w_newL (n := 7) dX11_init_883 rfl (by decide) arr_long (fun b (hb : b < 99) => by rw [tkL (by decide)]; omega) (okL (by rw [tkL (by decide)]; decide)) (okR (by rw [tkL (by decide)]; decide) rfl) (fun k => by rw [tkL (by decide)]; exact (z46 _ (Nat.le_refl _) k).1) ⟨Nat.le_of_ble_eq_true rfl, Nat.le_of_ble_eq_true rfl⟩ ?_
  rw [tkL (m := 121) (by decide), tkS (m := 121) (t := (21, 7)) rfl]
  have z47 := z46.le (show 121 ≤ 122 by decide)
  refine w_putR (ci := 11) (k := 48) dX11_init_885 (Or.inr ⟨⟨rfl, rfl, rfl⟩, ⟨by decide, by decide⟩, (wgt6 222 rfl rfl)⟩) (tkG (by decide) rfl) rfl rfl (by rw [tkL (by decide)]; decide) ?_
  have z48 := z47.uR (a := 98) (k := 48) (v := some 121) (by decide)
  refine w_aload_n dX11_init_888 rfl ?_
  refine w_bipush dX11_init_889 (by decide) ?_
  refine w_newL (n := 64) dX11_init_891 rfl (by decide) arr_long (fun b (hb : b < 99) => by rw [tkL (by decide)]; omega) (okL (by rw [tkL (by decide)]; decide)) (okR (by rw [tkL (by decide)]; decide) rfl) (fun k => by rw [tkL (by decide)]; exact (z48 _ (Nat.le_refl _) k).1) ⟨Nat.le_of_ble_eq_true rfl, Nat.le_of_ble_eq_true rfl⟩ ?_
  rw [tkL (m := 122) (by decide), tkS (m := 122) (t := (21, 64)) rfl]
  have z49 := z48.le (show 122 ≤ 123 by decide)
  refine w_putR (ci := 11) (k := 49) dX11_init_893 (Or.inr ⟨⟨rfl, rfl, rfl⟩, ⟨by decide, by decide⟩, (wgt6 223 rfl rfl)⟩) (tkG (by decide) rfl) rfl rfl (by rw [tkL (by decide)]; decide) ?_
  have z50 := z49.uR (a := 98) (k := 49) (v := some 122) (by decide)
  refine w_aload_n dX11_init_896 rfl ?_
  refine w_sipush dX11_init_897 (by decide) ?_
  refine w_newI (n := 256) dX11_init_900 rfl (by decide) arr_int (fun b (hb : b < 99) => by rw [tkL (by decide)]; omega) (okL (by rw [tkL (by decide)]; decide)) (okR (by rw [tkL (by decide)]; decide) rfl) (fun k => by rw [tkL (by decide)]; exact (z50 _ (Nat.le_refl _) k).1) ⟨Nat.le_of_ble_eq_true rfl, Nat.le_of_ble_eq_true rfl⟩ ?_
  rw [tkL (m := 123) (by decide), tkS (m := 123) (t := (20, 256)) rfl]
  have z51 := z50.le (show 123 ≤ 124 by decide)
  refine w_putR (ci := 11) (k := 51) dX11_init_902 (Or.inr ⟨⟨rfl, rfl, rfl⟩, ⟨by decide, by decide⟩, (wgt6 225 rfl rfl)⟩) (tkG (by decide) rfl) rfl rfl (by rw [tkL (by decide)]; decide) ?_
  have z52 := z51.uR (a := 98) (k := 51) (v := some 123) (by decide)
  refine w_aload_n dX11_init_905 rfl ?_
  refine w_bipush dX11_init_906 (by decide) ?_
  refine w_newZ (n := 64) dX11_init_908 rfl (by decide) arr_boolean (fun b (hb : b < 99) => by rw [tkL (by decide)]; omega) (okL (by rw [tkL (by decide)]; decide)) (okR (by rw [tkL (by decide)]; decide) rfl) (fun k => by rw [tkL (by decide)]; exact (z52 _ (Nat.le_refl _) k).1) ⟨Nat.le_of_ble_eq_true rfl, Nat.le_of_ble_eq_true rfl⟩ ?_
  rw [tkL (m := 124) (by decide), tkS (m := 124) (t := (22, 64)) rfl]
  have z53 := z52.le (show 124 ≤ 125 by decide)
  refine w_putR (ci := 11) (k := 52) dX11_init_910 (Or.inr ⟨⟨rfl, rfl, rfl⟩, ⟨by decide, by decide⟩, (wgt6 226 rfl rfl)⟩) (tkG (by decide) rfl) rfl rfl (by rw [tkL (by decide)]; decide) ?_
  have z54 := z53.uR (a := 98) (k := 52) (v := some 124) (by decide)
  refine w_aload_n dX11_init_913 rfl ?_
  refine w_iconst dX11_init_914 ?_
  refine w_newI (n := 2) dX11_init_915 rfl (by decide) arr_int (fun b (hb : b < 99) => by rw [tkL (by decide)]; omega) (okL (by rw [tkL (by decide)]; decide)) (okR (by rw [tkL (by decide)]; decide) rfl) (fun k => by rw [tkL (by decide)]; exact (z54 _ (Nat.le_refl _) k).1) ⟨Nat.le_of_ble_eq_true rfl, Nat.le_of_ble_eq_true rfl⟩ ?_
  rw [tkL (m := 125) (by decide), tkS (m := 125) (t := (20, 2)) rfl]
  have z55 := z54.le (show 125 ≤ 126 by decide)
  refine w_putR (ci := 11) (k := 53) dX11_init_917 (Or.inr ⟨⟨rfl, rfl, rfl⟩, ⟨by decide, by decide⟩, (wgt6 227 rfl rfl)⟩) (tkG (by decide) rfl) rfl rfl (by rw [tkL (by decide)]; decide) ?_
  have z56 := z55.uR (a := 98) (k := 53) (v := some 125) (by decide)
  refine w_aload_n dX11_init_920 rfl ?_
  refine w_iconst dX11_init_921 ?_
  refine w_newI (n := 2) dX11_init_922 rfl (by decide) arr_int (fun b (hb : b < 99) => by rw [tkL (by decide)]; omega) (okL (by rw [tkL (by decide)]; decide)) (okR (by rw [tkL (by decide)]; decide) rfl) (fun k => by rw [tkL (by decide)]; exact (z56 _ (Nat.le_refl _) k).1) ⟨Nat.le_of_ble_eq_true rfl, Nat.le_of_ble_eq_true rfl⟩ ?_
  rw [tkL (m := 126) (by decide), tkS (m := 126) (t := (20, 2)) rfl]
  have z57 := z56.le (show 126 ≤ 127 by decide)
  refine w_putR (ci := 11) (k := 54) dX11_init_924 (Or.inr ⟨⟨rfl, rfl, rfl⟩, ⟨by decide, by decide⟩, (wgt6 228 rfl rfl)⟩) (tkG (by decide) rfl) rfl rfl (by rw [tkL (by decide)]; decide) ?_
  have z58 := z57.uR (a := 98) (k := 54) (v := some 126) (by decide)
  refine w_aload_n dX11_init_927 rfl ?_
  refine w_iconst dX11_init_928 ?_
  refine w_newI (n := 2) dX11_init_929 rfl (by decide) arr_int (fun b (hb : b < 99) => by rw [tkL (by decide)]; omega) (okL (by rw [tkL (by decide)]; decide)) (okR (by rw [tkL (by decide)]; decide) rfl) (fun k => by rw [tkL (by decide)]; exact (z58 _ (Nat.le_refl _) k).1) ⟨Nat.le_of_ble_eq_true rfl, Nat.le_of_ble_eq_true rfl⟩ ?_
  rw [tkL (m := 127) (by decide), tkS (m := 127) (t := (20, 2)) rfl]
  have z59 := z58.le (show 127 ≤ 128 by decide)
  refine w_putR (ci := 11) (k := 55) dX11_init_931 (Or.inr ⟨⟨rfl, rfl, rfl⟩, ⟨by decide, by decide⟩, (wgt6 229 rfl rfl)⟩) (tkG (by decide) rfl) rfl rfl (by rw [tkL (by decide)]; decide) ?_
  have z60 := z59.uR (a := 98) (k := 55) (v := some 127) (by decide)
  refine w_aload_n dX11_init_934 rfl ?_
  refine w_iconst dX11_init_935 ?_
  refine w_newI (n := 2) dX11_init_936 rfl (by decide) arr_int (fun b (hb : b < 99) => by rw [tkL (by decide)]; omega) (okL (by rw [tkL (by decide)]; decide)) (okR (by rw [tkL (by decide)]; decide) rfl) (fun k => by rw [tkL (by decide)]; exact (z60 _ (Nat.le_refl _) k).1) ⟨Nat.le_of_ble_eq_true rfl, Nat.le_of_ble_eq_true rfl⟩ ?_
  rw [tkL (m := 128) (by decide), tkS (m := 128) (t := (20, 2)) rfl]
  have z61 := z60.le (show 128 ≤ 129 by decide)
  refine w_putR (ci := 11) (k := 56) dX11_init_938 (Or.inr ⟨⟨rfl, rfl, rfl⟩, ⟨by decide, by decide⟩, (wgt6 230 rfl rfl)⟩) (tkG (by decide) rfl) rfl rfl (by rw [tkL (by decide)]; decide) ?_
  have z62 := z61.uR (a := 98) (k := 56) (v := some 128) (by decide)
  refine w_aload_n dX11_init_941 rfl ?_
  refine w_iconst dX11_init_942 ?_
  refine w_newI (n := 2) dX11_init_943 rfl (by decide) arr_int (fun b (hb : b < 99) => by rw [tkL (by decide)]; omega) (okL (by rw [tkL (by decide)]; decide)) (okR (by rw [tkL (by decide)]; decide) rfl) (fun k => by rw [tkL (by decide)]; exact (z62 _ (Nat.le_refl _) k).1) ⟨Nat.le_of_ble_eq_true rfl, Nat.le_of_ble_eq_true rfl⟩ ?_
  rw [tkL (m := 129) (by decide), tkS (m := 129) (t := (20, 2)) rfl]
  have z63 := z62.le (show 129 ≤ 130 by decide)
  refine w_putR (ci := 11) (k := 57) dX11_init_945 (Or.inr ⟨⟨rfl, rfl, rfl⟩, ⟨by decide, by decide⟩, (wgt6 231 rfl rfl)⟩) (tkG (by decide) rfl) rfl rfl (by rw [tkL (by decide)]; decide) ?_
  have z64 := z63.uR (a := 98) (k := 57) (v := some 129) (by decide)
  refine w_aload_n dX11_init_948 rfl ?_
  refine w_bipush dX11_init_949 (by decide) ?_
  refine w_newI (n := 16) dX11_init_951 rfl (by decide) arr_int (fun b (hb : b < 99) => by rw [tkL (by decide)]; omega) (okL (by rw [tkL (by decide)]; decide)) (okR (by rw [tkL (by decide)]; decide) rfl) (fun k => by rw [tkL (by decide)]; exact (z64 _ (Nat.le_refl _) k).1) ⟨Nat.le_of_ble_eq_true rfl, Nat.le_of_ble_eq_true rfl⟩ ?_
  rw [tkL (m := 130) (by decide), tkS (m := 130) (t := (20, 16)) rfl]
  have z65 := z64.le (show 130 ≤ 131 by decide)
  refine w_putR (ci := 11) (k := 58) dX11_init_953 (Or.inr ⟨⟨rfl, rfl, rfl⟩, ⟨by decide, by decide⟩, (wgt6 232 rfl rfl)⟩) (tkG (by decide) rfl) rfl rfl (by rw [tkL (by decide)]; decide) ?_
  have z66 := z65.uR (a := 98) (k := 58) (v := some 130) (by decide)
  refine w_aload_n dX11_init_956 rfl ?_
  refine w_sipush dX11_init_957 (by decide) ?_
  refine w_newI (n := 256) dX11_init_960 rfl (by decide) arr_int (fun b (hb : b < 99) => by rw [tkL (by decide)]; omega) (okL (by rw [tkL (by decide)]; decide)) (okR (by rw [tkL (by decide)]; decide) rfl) (fun k => by rw [tkL (by decide)]; exact (z66 _ (Nat.le_refl _) k).1) ⟨Nat.le_of_ble_eq_true rfl, Nat.le_of_ble_eq_true rfl⟩ ?_
  rw [tkL (m := 131) (by decide), tkS (m := 131) (t := (20, 256)) rfl]
  have z67 := z66.le (show 131 ≤ 132 by decide)
  refine w_putR (ci := 11) (k := 66) dX11_init_962 (Or.inr ⟨⟨rfl, rfl, rfl⟩, ⟨by decide, by decide⟩, (wgt7 0 rfl rfl)⟩) (tkG (by decide) rfl) rfl rfl (by rw [tkL (by decide)]; decide) ?_
  have z68 := z67.uR (a := 98) (k := 66) (v := some 131) (by decide)
  refine w_aload_n dX11_init_965 rfl ?_
  refine w_sipush dX11_init_966 (by decide) ?_
  refine w_newI (n := 256) dX11_init_969 rfl (by decide) arr_int (fun b (hb : b < 99) => by rw [tkL (by decide)]; omega) (okL (by rw [tkL (by decide)]; decide)) (okR (by rw [tkL (by decide)]; decide) rfl) (fun k => by rw [tkL (by decide)]; exact (z68 _ (Nat.le_refl _) k).1) ⟨Nat.le_of_ble_eq_true rfl, Nat.le_of_ble_eq_true rfl⟩ ?_
  rw [tkL (m := 132) (by decide), tkS (m := 132) (t := (20, 256)) rfl]
  have z69 := z68.le (show 132 ≤ 133 by decide)
  refine w_putR (ci := 11) (k := 67) dX11_init_971 (Or.inr ⟨⟨rfl, rfl, rfl⟩, ⟨by decide, by decide⟩, (wgt7 1 rfl rfl)⟩) (tkG (by decide) rfl) rfl rfl (by rw [tkL (by decide)]; decide) ?_
  have z70 := z69.uR (a := 98) (k := 67) (v := some 132) (by decide)
  refine w_aload_n dX11_init_974 rfl ?_
  refine w_sipush dX11_init_975 (by decide) ?_
  refine w_newI (n := 256) dX11_init_978 rfl (by decide) arr_int (fun b (hb : b < 99) => by rw [tkL (by decide)]; omega) (okL (by rw [tkL (by decide)]; decide)) (okR (by rw [tkL (by decide)]; decide) rfl) (fun k => by rw [tkL (by decide)]; exact (z70 _ (Nat.le_refl _) k).1) ⟨Nat.le_of_ble_eq_true rfl, Nat.le_of_ble_eq_true rfl⟩ ?_
  rw [tkL (m := 133) (by decide), tkS (m := 133) (t := (20, 256)) rfl]
  have z71 := z70.le (show 133 ≤ 134 by decide)
  refine w_putR (ci := 11) (k := 68) dX11_init_980 (Or.inr ⟨⟨rfl, rfl, rfl⟩, ⟨by decide, by decide⟩, (wgt7 2 rfl rfl)⟩) (tkG (by decide) rfl) rfl rfl (by rw [tkL (by decide)]; decide) ?_
  have z72 := z71.uR (a := 98) (k := 68) (v := some 133) (by decide)
  refine w_aload_n dX11_init_983 rfl ?_
  refine w_sipush dX11_init_984 (by decide) ?_
  refine w_newI (n := 256) dX11_init_987 rfl (by decide) arr_int (fun b (hb : b < 99) => by rw [tkL (by decide)]; omega) (okL (by rw [tkL (by decide)]; decide)) (okR (by rw [tkL (by decide)]; decide) rfl) (fun k => by rw [tkL (by decide)]; exact (z72 _ (Nat.le_refl _) k).1) ⟨Nat.le_of_ble_eq_true rfl, Nat.le_of_ble_eq_true rfl⟩ ?_
  rw [tkL (m := 134) (by decide), tkS (m := 134) (t := (20, 256)) rfl]
  have z73 := z72.le (show 134 ≤ 135 by decide)
  refine w_putR (ci := 11) (k := 70) dX11_init_989 (Or.inr ⟨⟨rfl, rfl, rfl⟩, ⟨by decide, by decide⟩, (wgt7 4 rfl rfl)⟩) (tkG (by decide) rfl) rfl rfl (by rw [tkL (by decide)]; decide) ?_
  have z74 := z73.uR (a := 98) (k := 70) (v := some 134) (by decide)
  refine w_aload_n dX11_init_992 rfl ?_
  refine w_sipush dX11_init_993 (by decide) ?_
  refine w_newZ (n := 256) dX11_init_996 rfl (by decide) arr_boolean (fun b (hb : b < 99) => by rw [tkL (by decide)]; omega) (okL (by rw [tkL (by decide)]; decide)) (okR (by rw [tkL (by decide)]; decide) rfl) (fun k => by rw [tkL (by decide)]; exact (z74 _ (Nat.le_refl _) k).1) ⟨Nat.le_of_ble_eq_true rfl, Nat.le_of_ble_eq_true rfl⟩ ?_
  rw [tkL (m := 135) (by decide), tkS (m := 135) (t := (22, 256)) rfl]
  have z75 := z74.le (show 135 ≤ 136 by decide)
  refine w_putR (ci := 11) (k := 71) dX11_init_998 (Or.inr ⟨⟨rfl, rfl, rfl⟩, ⟨by decide, by decide⟩, (wgt7 5 rfl rfl)⟩) (tkG (by decide) rfl) rfl rfl (by rw [tkL (by decide)]; decide) ?_
  have z76 := z75.uR (a := 98) (k := 71) (v := some 135) (by decide)
  refine w_aload_n dX11_init_1001 rfl ?_
  refine w_sipush dX11_init_1002 (by decide) ?_
  refine w_newI (n := 256) dX11_init_1005 rfl (by decide) arr_int (fun b (hb : b < 99) => by rw [tkL (by decide)]; omega) (okL (by rw [tkL (by decide)]; decide)) (okR (by rw [tkL (by decide)]; decide) rfl) (fun k => by rw [tkL (by decide)]; exact (z76 _ (Nat.le_refl _) k).1) ⟨Nat.le_of_ble_eq_true rfl, Nat.le_of_ble_eq_true rfl⟩ ?_
  rw [tkL (m := 136) (by decide), tkS (m := 136) (t := (20, 256)) rfl]
  have z77 := z76.le (show 136 ≤ 137 by decide)
  refine w_putR (ci := 11) (k := 72) dX11_init_1007 (Or.inr ⟨⟨rfl, rfl, rfl⟩, ⟨by decide, by decide⟩, (wgt7 6 rfl rfl)⟩) (tkG (by decide) rfl) rfl rfl (by rw [tkL (by decide)]; decide) ?_
  have z78 := z77.uR (a := 98) (k := 72) (v := some 136) (by decide)
  refine w_aload_n dX11_init_1010 rfl ?_
  refine w_sipush dX11_init_1011 (by decide) ?_
  refine w_newZ (n := 256) dX11_init_1014 rfl (by decide) arr_boolean (fun b (hb : b < 99) => by rw [tkL (by decide)]; omega) (okL (by rw [tkL (by decide)]; decide)) (okR (by rw [tkL (by decide)]; decide) rfl) (fun k => by rw [tkL (by decide)]; exact (z78 _ (Nat.le_refl _) k).1) ⟨Nat.le_of_ble_eq_true rfl, Nat.le_of_ble_eq_true rfl⟩ ?_
  rw [tkL (m := 137) (by decide), tkS (m := 137) (t := (22, 256)) rfl]
  have z79 := z78.le (show 137 ≤ 138 by decide)
  refine w_putR (ci := 11) (k := 73) dX11_init_1016 (Or.inr ⟨⟨rfl, rfl, rfl⟩, ⟨by decide, by decide⟩, (wgt7 7 rfl rfl)⟩) (tkG (by decide) rfl) rfl rfl (by rw [tkL (by decide)]; decide) ?_
  have z80 := z79.uR (a := 98) (k := 73) (v := some 137) (by decide)
  refine w_aload_n dX11_init_1019 rfl ?_
  refine w_sipush dX11_init_1020 (by decide) ?_
  refine w_newL (n := 256) dX11_init_1023 rfl (by decide) arr_long (fun b (hb : b < 99) => by rw [tkL (by decide)]; omega) (okL (by rw [tkL (by decide)]; decide)) (okR (by rw [tkL (by decide)]; decide) rfl) (fun k => by rw [tkL (by decide)]; exact (z80 _ (Nat.le_refl _) k).1) ⟨Nat.le_of_ble_eq_true rfl, Nat.le_of_ble_eq_true rfl⟩ ?_
  rw [tkL (m := 138) (by decide), tkS (m := 138) (t := (21, 256)) rfl]
  have z81 := z80.le (show 138 ≤ 139 by decide)
  refine w_putR (ci := 11) (k := 74) dX11_init_1025 (Or.inr ⟨⟨rfl, rfl, rfl⟩, ⟨by decide, by decide⟩, (wgt7 8 rfl rfl)⟩) (tkG (by decide) rfl) rfl rfl (by rw [tkL (by decide)]; decide) ?_
  have z82 := z81.uR (a := 98) (k := 74) (v := some 138) (by decide)
  refine w_aload_n dX11_init_1028 rfl ?_
  refine w_sipush dX11_init_1029 (by decide) ?_
  refine w_newL (n := 256) dX11_init_1032 rfl (by decide) arr_long (fun b (hb : b < 99) => by rw [tkL (by decide)]; omega) (okL (by rw [tkL (by decide)]; decide)) (okR (by rw [tkL (by decide)]; decide) rfl) (fun k => by rw [tkL (by decide)]; exact (z82 _ (Nat.le_refl _) k).1) ⟨Nat.le_of_ble_eq_true rfl, Nat.le_of_ble_eq_true rfl⟩ ?_
  rw [tkL (m := 139) (by decide), tkS (m := 139) (t := (21, 256)) rfl]
  have z83 := z82.le (show 139 ≤ 140 by decide)
  refine w_putR (ci := 11) (k := 75) dX11_init_1034 (Or.inr ⟨⟨rfl, rfl, rfl⟩, ⟨by decide, by decide⟩, (wgt7 9 rfl rfl)⟩) (tkG (by decide) rfl) rfl rfl (by rw [tkL (by decide)]; decide) ?_
  have z84 := z83.uR (a := 98) (k := 75) (v := some 139) (by decide)
  refine w_aload_n dX11_init_1037 rfl ?_
  refine w_iconst dX11_init_1038 ?_
  refine w_putI (ci := 11) (k := 77) dX11_init_1039 (Or.inl ⟨rfl, fX11_139⟩) (tkG (by decide) rfl) rfl (by decide) ?_
  have z85 := z84.uM (a := 98) (k := 77) (v := (-1)) (by decide)
  refine w_aload_n dX11_init_1042 rfl ?_
  refine w_bipush dX11_init_1043 (by decide) ?_
  refine w_newI (n := 72) dX11_init_1045 rfl (by decide) arr_int (fun b (hb : b < 99) => by rw [tkL (by decide)]; omega) (okL (by rw [tkL (by decide)]; decide)) (okR (by rw [tkL (by decide)]; decide) rfl) (fun k => by rw [tkL (by decide)]; exact (z85 _ (Nat.le_refl _) k).1) ⟨Nat.le_of_ble_eq_true rfl, Nat.le_of_ble_eq_true rfl⟩ ?_
  rw [tkL (m := 140) (by decide), tkS (m := 140) (t := (20, 72)) rfl]
  have z86 := z85.le (show 140 ≤ 141 by decide)
  refine w_putR (ci := 11) (k := 78) dX11_init_1047 (Or.inr ⟨⟨rfl, rfl, rfl⟩, ⟨by decide, by decide⟩, (wgt7 12 rfl rfl)⟩) (tkG (by decide) rfl) rfl rfl (by rw [tkL (by decide)]; decide) ?_
  have z87 := z86.uR (a := 98) (k := 78) (v := some 140) (by decide)
  refine w_aload_n dX11_init_1050 rfl ?_
  refine w_bipush dX11_init_1051 (by decide) ?_
  refine w_newZ (n := 24) dX11_init_1053 rfl (by decide) arr_boolean (fun b (hb : b < 99) => by rw [tkL (by decide)]; omega) (okL (by rw [tkL (by decide)]; decide)) (okR (by rw [tkL (by decide)]; decide) rfl) (fun k => by rw [tkL (by decide)]; exact (z87 _ (Nat.le_refl _) k).1) ⟨Nat.le_of_ble_eq_true rfl, Nat.le_of_ble_eq_true rfl⟩ ?_
  rw [tkL (m := 141) (by decide), tkS (m := 141) (t := (22, 24)) rfl]
  have z88 := z87.le (show 141 ≤ 142 by decide)
  refine w_putR (ci := 11) (k := 79) dX11_init_1055 (Or.inr ⟨⟨rfl, rfl, rfl⟩, ⟨by decide, by decide⟩, (wgt7 13 rfl rfl)⟩) (tkG (by decide) rfl) rfl rfl (by rw [tkL (by decide)]; decide) ?_
  have z89 := z88.uR (a := 98) (k := 79) (v := some 141) (by decide)
  refine w_aload_n dX11_init_1058 rfl ?_
  refine w_sipush dX11_init_1059 (by decide) ?_
  refine w_newI (n := 220) dX11_init_1062 rfl (by decide) arr_int (fun b (hb : b < 99) => by rw [tkL (by decide)]; omega) (okL (by rw [tkL (by decide)]; decide)) (okR (by rw [tkL (by decide)]; decide) rfl) (fun k => by rw [tkL (by decide)]; exact (z89 _ (Nat.le_refl _) k).1) ⟨Nat.le_of_ble_eq_true rfl, Nat.le_of_ble_eq_true rfl⟩ ?_
  rw [tkL (m := 142) (by decide), tkS (m := 142) (t := (20, 220)) rfl]
  have z90 := z89.le (show 142 ≤ 143 by decide)
  refine w_putR (ci := 11) (k := 81) dX11_init_1064 (Or.inr ⟨⟨rfl, rfl, rfl⟩, ⟨by decide, by decide⟩, (wgt7 15 rfl rfl)⟩) (tkG (by decide) rfl) rfl rfl (by rw [tkL (by decide)]; decide) ?_
  have z91 := z90.uR (a := 98) (k := 81) (v := some 142) (by decide)
  refine w_aload_n dX11_init_1067 rfl ?_
  refine w_bipush dX11_init_1068 (by decide) ?_
  refine w_newI (n := 11) dX11_init_1070 rfl (by decide) arr_int (fun b (hb : b < 99) => by rw [tkL (by decide)]; omega) (okL (by rw [tkL (by decide)]; decide)) (okR (by rw [tkL (by decide)]; decide) rfl) (fun k => by rw [tkL (by decide)]; exact (z91 _ (Nat.le_refl _) k).1) ⟨Nat.le_of_ble_eq_true rfl, Nat.le_of_ble_eq_true rfl⟩ ?_
  rw [tkL (m := 143) (by decide), tkS (m := 143) (t := (20, 11)) rfl]
  have z92 := z91.le (show 143 ≤ 144 by decide)
  refine w_putR (ci := 11) (k := 83) dX11_init_1072 (Or.inr ⟨⟨rfl, rfl, rfl⟩, ⟨by decide, by decide⟩, (wgt7 17 rfl rfl)⟩) (tkG (by decide) rfl) rfl rfl (by rw [tkL (by decide)]; decide) ?_
  have z93 := z92.uR (a := 98) (k := 83) (v := some 143) (by decide)
  exact h
end INIT3
