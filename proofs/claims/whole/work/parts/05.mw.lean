def strT : List String := ["latch lean push oil rust seed law effort seal eat or and not up down many as worn place ups seals high tired minute ", ";()<=>+-*/", "no such latch", "no such what"]
def strL : List Nat := [116, 10, 13, 12]
def strB : List (List Int32) := [[108, 97, 116, 99, 104, 32, 108, 101, 97, 110, 32, 112, 117, 115, 104, 32, 111, 105, 108, 32, 114, 117, 115, 116, 32, 115, 101, 101, 100, 32, 108, 97, 119, 32, 101, 102, 102, 111, 114, 116, 32, 115, 101, 97, 108, 32, 101, 97, 116, 32, 111, 114, 32, 97, 110, 100, 32, 110, 111, 116, 32, 117, 112, 32, 100, 111, 119, 110, 32, 109, 97, 110, 121, 32, 97, 115, 32, 119, 111, 114, 110, 32, 112, 108, 97, 99, 101, 32, 117, 112, 115, 32, 115, 101, 97, 108, 115, 32, 104, 105, 103, 104, 32, 116, 105, 114, 101, 100, 32, 109, 105, 110, 117, 116, 101, 32], [59, 40, 41, 60, 61, 62, 43, 45, 42, 47], [110, 111, 32, 115, 117, 99, 104, 32, 108, 97, 116, 99, 104], [110, 111, 32, 115, 117, 99, 104, 32, 119, 104, 97, 116]]
/-- what lies outside: the script (0), the four text constants (1 .. 4), their bytes (5 .. 8), a static -/
abbrev Scr : Type := Nat × (Nat → Int)
/-- launches that keep no stack traces -/
abbrev Lch : Type := { l : Launch // l.stackTraces = false }
/-- a static of the JDK's that holds a reference or null: where it lies is the tenth of ex -/
def FmOk (ex : Nat → Nat) (A : Nat → Prop) (U : State) (H : Heap) : Prop := va_Z "jdk/internal/util/Preconditions" "SIOOBE_FORMATTER" "Ljava/util/function/BiFunction;" .null A U H ∨ va_Z "jdk/internal/util/Preconditions" "SIOOBE_FORMATTER" "Ljava/util/function/BiFunction;" (.ref (ex 9)) A U H
theorem FmOk.moved {ex : Nat → Nat} {A : Nat → Prop} {u U : State} {H : Heap} (hvm : u.vm.Alike U.vm) (h : FmOk ex A u H) : FmOk ex A U H := h.elim (fun q => Or.inl (q.moved hvm)) (fun q => Or.inr (q.moved hvm))
theorem FmOk.kept {ex : Nat → Nat} {A : Nat → Prop} {U : State} {H H1 : Heap} (h : FmOk ex A U H) (hq : ∀ a : Nat, a < H.size → ¬ A a → H1[a]? = H[a]?) : FmOk ex A U H1 := h.elim (fun q => Or.inl (q.kept hq)) (fun q => Or.inr (q.kept hq))
theorem FmOk.narrow {ex : Nat → Nat} {A B : Nat → Prop} {U : State} {H : Heap} (h : FmOk ex A U H) (hAB : ∀ q, B q → A q) : FmOk ex B U H := h.elim (fun q => Or.inl (q.narrow hAB)) (fun q => Or.inr (q.narrow hAB))
def ExOk (ex : Nat → Nat) (E : Scr) (A : Nat → Prop) (U : State) (H : Heap) : Prop :=
  (va_T .int (ex 0) E.1 (fun j => .int (Int32.ofInt (E.2 j))) A U H ∧ E.1 < 2147483648 ∧ ∀ j, iR (E.2 j)) ∧ vk_S 4 strL strB (fun i => ex (i + 1)) (fun i => ex (i + 5)) A U H ∧
  (vk_R "LeanLatches$Tape" 18 (strT.getD 0 "") (ex 1) U ∧ vk_R "LeanLatches$Tape" 75 (strT.getD 1 "") (ex 2) U ∧ vk_R "LeanLatches" 115 (strT.getD 2 "") (ex 3) U ∧ vk_R "LeanLatches" 135 (strT.getD 3 "") (ex 4) U) ∧
  va_Z "java/lang/String" "COMPACT_STRINGS" "Z" (.int 1) A U H ∧ vx_Zq Bundle.tN "UNASSIGNED_STACK" Bundle.steD A U H ∧ vx_Zq Bundle.tN "SUPPRESSED_SENTINEL" Bundle.listD A U H ∧ va_Nc "java/util/NoSuchElementException" "java/lang/IndexOutOfBoundsException" U ∧ FmOk ex A U H
theorem ExOk.warm {ex : Nat → Nat} {E : Scr} {A : Nat → Prop} {s U : State} {H : Heap} (hW : s.WarmedH U.vm) (h : ExOk ex E A s H) : ExOk ex E A U H :=
  ⟨⟨h.1.1.moved hW.alike, h.1.2⟩, h.2.1.moved hW.alike, ⟨h.2.2.1.1.warm hW, h.2.2.1.2.1.warm hW, h.2.2.1.2.2.1.warm hW, h.2.2.1.2.2.2.warm hW⟩, h.2.2.2.1.moved hW.alike, h.2.2.2.2.1.moved hW.alike, h.2.2.2.2.2.1.moved hW.alike, h.2.2.2.2.2.2.1.moved hW.alike, h.2.2.2.2.2.2.2.moved hW.alike⟩
theorem ExOk.same {ex : Nat → Nat} {E : Scr} {A : Nat → Prop} {s U : State} {H : Heap} (hv : U.vm = s.vm) (h : ExOk ex E A s H) : ExOk ex E A U H := by
  have ha : s.vm.Alike U.vm := by rw [hv]; exact Vm.Alike.refl s.vm
  exact ⟨⟨h.1.1.moved ha, h.1.2⟩, h.2.1.moved ha, ⟨h.2.2.1.1.same hv, h.2.2.1.2.1.same hv, h.2.2.1.2.2.1.same hv, h.2.2.1.2.2.2.same hv⟩, h.2.2.2.1.moved ha, h.2.2.2.2.1.moved ha, h.2.2.2.2.2.1.moved ha, h.2.2.2.2.2.2.1.moved ha, h.2.2.2.2.2.2.2.moved ha⟩
theorem ExOk.kept {ex : Nat → Nat} {E : Scr} {A : Nat → Prop} {U : State} {H H1 : Heap} (h : ExOk ex E A U H) (hq : ∀ a : Nat, a < H.size → ¬ A a → H1[a]? = H[a]?) : ExOk ex E A U H1 :=
  ⟨⟨h.1.1.kept hq, h.1.2⟩, h.2.1.kept hq, h.2.2.1, h.2.2.2.1.kept hq, h.2.2.2.2.1.kept hq, h.2.2.2.2.2.1.kept hq, h.2.2.2.2.2.2.1, h.2.2.2.2.2.2.2.kept hq⟩
theorem ExOk.narrow {ex : Nat → Nat} {E : Scr} {A B : Nat → Prop} {U : State} {H : Heap} (h : ExOk ex E A U H) (hAB : ∀ q, B q → A q) : ExOk ex E B U H :=
  ⟨⟨h.1.1.narrow hAB, h.1.2⟩, h.2.1.narrow hAB, h.2.2.1, h.2.2.2.1.narrow hAB, h.2.2.2.2.1.narrow hAB, h.2.2.2.2.2.1.narrow hAB, h.2.2.2.2.2.2.1, h.2.2.2.2.2.2.2.narrow hAB⟩
/-! the words: those that any call keeps, and the links among nest mates -/
def isNest : Cond → Bool
  | .methodLinkNest _ _ _ _ => true
  | .fieldLinkNest _ _ _ _ _ _ => true
  | .arrayOver (.object _) => true
  | .declares _ => true
  | .castable _ _ => true
  | _ => false
def wgT : List Cond := lw_tbl.filter goodWord
def nsT : List Cond := lw_tbl.filter isNest
theorem wgT_in {w : Cond} (h : w ∈ lw_tbl) (hg : goodWord w = true) : w ∈ wgT := List.mem_filter.mpr ⟨h, hg⟩
theorem wg {w : Cond} (i : Nat) (h : lw_tbl[i]? = some w) (hg : goodWord w = true) : w ∈ wgT := wgT_in (List.mem_of_getElem? h) hg
theorem ns {w : Cond} (i : Nat) (h : lw_tbl[i]? = some w) (hg : isNest w = true) : w ∈ nsT := List.mem_filter.mpr ⟨List.mem_of_getElem? h, hg⟩
def NW (U : State) : Prop := ∀ w ∈ nsT, va_Nw w U
theorem NW.warm {s U : State} (hW : s.WarmedH U.vm) (h : NW s) : NW U := by
  intro w hw
  have h1 := h w hw
  have h2 := (List.mem_filter.mp hw).2
  cases w <;> first | exact va_Nw.warmF hW h1 | exact va_Nw.warmM hW h1 | exact va_Nw.warmD hW h1 | exact va_Nw.warmC hW h1 | (simp [isNest] at h2; done) | (rename_i ty; cases ty <;> first | exact va_AO.moved hW.alike h1 | (simp [isNest] at h2; done))
theorem NW.same {s U : State} (hv : s.vm = U.vm) (h : NW s) : NW U := by
  intro w hw
  have h1 := h w hw
  have h2 := (List.mem_filter.mp hw).2
  cases w <;> first | exact va_Nw.same rfl hv h1 | (simp [isNest] at h2; done) | (rename_i ty; cases ty <;> first | exact va_AO.moved (by rw [hv]; exact Vm.Alike.refl _) h1 | (simp [isNest] at h2; done))
theorem goodIn_wg {w1 : Cond} (h : w1 ∈ wgT) : GoodIn wgT (w1 :: wgT) := by
  intro w hw
  have h1 : w ∈ wgT := by
    rcases List.mem_cons.mp hw with rfl | h2
    · exact h
    · exact h2
  exact ⟨h1, good_of_word (List.mem_filter.mp h1).2⟩
/-! a method: name, code, locals, result, height of its calls, cells and slots that it makes -/
abbrev Mi : Type := MethodName × ByteArray × Nat × Option FieldType × Nat × Nat × Nat
abbrev miY (mi : Mi) : MethodName := mi.1
abbrev miC (mi : Mi) : ByteArray := mi.2.1
abbrev miL (mi : Mi) : Nat := mi.2.2.1
abbrev miT (mi : Mi) : Option FieldType := mi.2.2.2.1
abbrev miH (mi : Mi) : Nat := mi.2.2.2.2.1
abbrev miMc (mi : Mi) : Nat := mi.2.2.2.2.2.1
abbrev miMs (mi : Mi) : Nat := mi.2.2.2.2.2.2
def miW (mi : Mi) : List Cond := Cond.code (miY mi) (miC mi) (miL mi) (miT mi) :: wgT
def miR (mi : Mi) : Room := { frames := miH mi, cells := miMc mi, slots := miMs mi, locals := 45 * miH mi }
def RC (n : Nat) (R : Rfs) : Prop := ∀ a k b, R a k = some b → b < n
abbrev Post : Type := Option PV → Shp → Rfs → Mem → Prop
/-- the method's end: its answer, the world in the pure picture, what was there and isn't its own stays -/
def QcO (D : va_G) (ar : Nat → ClassId) (φ ex : Nat → Nat) (S : Nat → Prop) (A : Nat → Prop) (Q : Post) : Array Value → State → Outcome → State → Prop := fun _ st o t =>
  (∃ (r : Option PV) (T : Shp) (R : Rfs) (M : Mem) (φ' : Nat → Nat), o = .returned (r.map (toV φ' ex)) ∧ Q r T R M ∧ (∀ a, S a → φ' a = φ a) ∧ va_P D vwCl (wsO φ' ar T R M) t.heap ∧ va_K D vwCl (tysO ar) t ∧ va_D A (wsO φ' ar T R M) ∧ Rng T M ∧ RC T.length R) ∧ va_F A st t
def mB (E : Scr) (mi : Mi) (p : Program) (s : State) (m : MethodId) (args : Array Value) (meth : Method) (c : Code) (H : Heap) (locs : List Loc) (D : va_G) (ar : Nat → ClassId) (A : Nat → Prop) (φ ex : Nat → Nat) (T : Shp) (R : Rfs) (M : Mem) : Prop :=
  (p.tables.exec = Jvm.exec ∧ c.code = miC mi ∧ meth.sig.returnType = miT mi ∧ c.maxLocals = miL mi ∧ (∀ w ∈ wgT, w.before args s = true) ∧ s.vm.findClass (miY mi).cls = some m.cls ∧ meth.locks = false ∧ meth.name = (miY mi).name) ∧
  (NW s ∧ ExOk ex E A s s.heap ∧ va_K D vwCl (tysO ar) s ∧ ∀ q, s.heap.size ≤ q → A q) ∧
  (va_P D vwCl (wsO φ ar T R M) H ∧ va_D A (wsO φ ar T R M) ∧ va_S A s.heap H locs) ∧ Rng T M ∧ RC T.length R
abbrev lsV (φ ex : Nat → Nat) (ls : List (Nat × PV)) : List (Nat × Value) := ls.map fun q => (q.1, toV φ ex q.2)
/-- from here the method comes to its end, and Q holds there -/
def MW (E : Scr) (mi : Mi) (S : Nat → Prop) (Q : Post) (T : Shp) (R : Rfs) (M : Mem) (u v pc : Nat) (ls : List (Nat × PV)) (st : List PV) : Prop :=
  ∀ (l : Lch) (p : Program) (e : Env) (s : State) (m : MethodId) (args : Array Value) (below : List Frame) (meth : Method) (c : Code) (H : Heap) (locs : List Loc) (la : Array Slot) (D : va_G) (ar : Nat → ClassId) (A : Nat → Prop) (φ ex : Nat → Nat),
    mB E mi p s m args meth c H locs D ar A φ ex T R M → lv_has la (miL mi) (lsV φ ex ls) →
    W p l.val e (miR mi) s m args below meth c H locs u v (MQ below (QcO D ar φ ex S A Q) args s (miMc mi) (miMs mi) A) (F0 m pc la (st.map (toV φ ex)))
