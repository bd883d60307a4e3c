/-! contracts of methods that throw -/
/-- a static of the JDK that holds a reference or null, in a cell that nobody of ours may change -/
def ax_ZL (C n d : String) (A : Nat → Prop) (U : State) (H : Heap) : Prop := ∃ (c : ClassId) (k : Class) (i : Nat) (f : Field) (a : Nat) (cell : Cell) (v : Value), U.vm.findClass C = some c ∧ U.fieldFound? C n d = some (c, k, i, f) ∧ f.isStatic = true ∧ k.statics = some a ∧ H[a]? = some cell ∧ cell.vm.isStatics = true ∧ cell.cls = c ∧ f.slot < cell.slots.size ∧ k.staticTypes[f.slot]? = some f.type ∧ cell.slots[f.slot]? = some v ∧ v.isRef = true ∧ ¬ A a
theorem ax_ZL.moved {C n d : String} {A : Nat → Prop} {u U : State} {H : Heap} (hvm : u.vm.Alike U.vm) (h : ax_ZL C n d A u H) : ax_ZL C n d A U H := by
  obtain ⟨c, k, i, f, a, cell, v, h1, h2, h3, h4, h5, h6, h7, h8, h9, h10⟩ := h
  obtain ⟨k', hi', he⟩ := State.fieldFound?_setVm hvm h2
  exact ⟨c, k', i, f, a, cell, v, by rw [hvm.findClass]; exact h1, hi', h3, by rw [he]; exact h4, h5, h6, h7, h8, by rw [he]; exact h9, h10⟩
theorem ax_ZL.kept {C n d : String} {A : Nat → Prop} {U : State} {H H1 : Heap} (h : ax_ZL C n d A U H) (hq : ∀ a : Nat, a < H.size → ¬ A a → H1[a]? = H[a]?) : ax_ZL C n d A U H1 := by
  obtain ⟨c, k, i, f, a, cell, v, h1, h2, h3, h4, h5, h6, h7, h8, h9, h10, h11, h12⟩ := h
  exact ⟨c, k, i, f, a, cell, v, h1, h2, h3, h4, by rw [hq a (Array.getElem?_eq_some_iff.mp h5).1 h12]; exact h5, h6, h7, h8, h9, h10, h11, h12⟩
theorem ax_ZL.narrow {C n d : String} {A B : Nat → Prop} {U : State} {H : Heap} (h : ax_ZL C n d A U H) (hAB : ∀ q, B q → A q) : ax_ZL C n d B U H := by
  obtain ⟨c, k, i, f, a, cell, v, h1, h2, h3, h4, h5, h6, h7, h8, h9, h10, h11, h12⟩ := h
  exact ⟨c, k, i, f, a, cell, v, h1, h2, h3, h4, h5, h6, h7, h8, h9, h10, h11, fun z => h12 (hAB a z)⟩
theorem ax_ZL.of {args : Array Value} {s : State} {C n d : String} {A : Nat → Prop} (hl : (Cond.laysStatic C n d).before args s = true) (hr : (Cond.isRef (.static C n d)).before args s = true) (hA : ∀ a : Nat, a < s.heap.size → ¬ A a) : ax_ZL C n d A s s.heap := by
  obtain ⟨c, k, i, f, a, cell, h1, h2, h3, h4, h5, h6, h7, h8, h9⟩ := Cond.laysStatic_spec hl
  obtain ⟨u, hu⟩ := Cond.staticRefV h2 h3 h4 h5 h6 hr
  exact ⟨c, k, i, f, a, cell, u.v, h1, h2, h3, h4, h5, h6, h7, h8, h9, hu, u.2, hA a (Array.getElem?_eq_some_iff.mp h5).1⟩
theorem ax_ZL.use1 {args : Array Value} {U : State} {C n d : String} {A : Nat → Prop} (h : ax_ZL C n d A U U.heap) : (Cond.laysStatic C n d).before args U = true := by
  obtain ⟨c, k, i, f, a, cell, v, h1, h2, h3, h4, h5, h6, h7, h8, h9, h10, h11, h12⟩ := h
  simp [Cond.before, Cond.holds, Cond.value, h1, h2, h3, h4, h5, h6, h7, h8, h9]
theorem ax_ZL.use2 {args : Array Value} {U : State} {C n d : String} {A : Nat → Prop} (h : ax_ZL C n d A U U.heap) : (Cond.isRef (.static C n d)).before args U = true := by
  obtain ⟨c, k, i, f, a, cell, v, h1, h2, h3, h4, h5, h6, h7, h8, h9, h10, h11, h12⟩ := h
  have hev : (Term.static C n d).eval args U none [] U = some v := by
    simp [Term.eval, State.fieldNamed?, h2, h3, h4, h5, h6, h10]
  cases v <;> simp_all [Cond.before, Cond.holds, Cond.value, Value.isRef]
def ax_strs : List (Nat × String) := [(89, "no room on the tape"), (102, "not within the tape"), (138, "not 1 .. 100 steps"), (156, "no such clause"), (159, "no such what"), (165, "no such clause or rewriter"), (170, "no such literal"), (255, "no such byte"), (259, "no such symbol"), (267, "no such clause of the proof"), (269, "not 1 .. 3 elements"), (278, "not 1 .. 3 elements or not 1 .. 50 seeds")]
def ax_decls : List MethodName := [⟨"java/lang/RuntimeException", "<init>", "(Ljava/lang/String;)V"⟩, ⟨"java/lang/Exception", "<init>", "(Ljava/lang/String;)V"⟩, ⟨"java/lang/Throwable", "<init>", "(Ljava/lang/String;)V"⟩]
/-- what a throw rests on beside the good words -/
def ax_X (A : Nat → Prop) (U : State) (H : Heap) : Prop := ax_ZL "java/lang/Throwable" "UNASSIGNED_STACK" "[Ljava/lang/StackTraceElement;" A U H ∧ ax_ZL "java/lang/Throwable" "SUPPRESSED_SENTINEL" "Ljava/util/List;" A U H ∧ (∀ q ∈ ax_strs, ∃ a, vk_R "ClauseProver" q.1 q.2 a U) ∧ (∀ y ∈ ax_decls, (Cond.declares y).before #[] U = true) ∧ va_Nc "java/lang/IllegalArgumentException" "java/util/NoSuchElementException" U
theorem ax_X.go {A B : Nat → Prop} {s U : State} {H H1 : Heap} (h : ax_X A s H) (hW : s.WarmedH U.vm) (hq : ∀ a : Nat, a < H.size → ¬ A a → H1[a]? = H[a]?) (hAB : ∀ q, B q → A q) : ax_X B U H1 := by
  obtain ⟨h1, h2, h3, h4, h5⟩ := h
  refine ⟨((h1.moved hW.alike).kept hq).narrow hAB, ((h2.moved hW.alike).kept hq).narrow hAB, fun q hq => ?_, fun y hy => ?_, h5.moved hW.alike⟩
  · obtain ⟨a, ha⟩ := h3 q hq
    exact ⟨a, ha.warm hW⟩
  · have h6 := h4 y hy
    refine va_tabs rfl (rfl : (s.setVm U.vm).vm = U.vm) (A := #[]) ?_
    rw [Cond.declares_setVm hW.alike]; exact h6
theorem ax_X.same {A : Nat → Prop} {s U : State} {H : Heap} (h : ax_X A s H) (hv : s.vm = U.vm) : ax_X A U H := by
  obtain ⟨h1, h2, h3, h4, h5⟩ := h
  have hal : s.vm.Alike U.vm := hv ▸ Vm.Alike.refl s.vm
  refine ⟨h1.moved hal, h2.moved hal, fun q hq => ?_, fun y hy => va_tabs rfl hv (h4 y hy), h5.moved hal⟩
  obtain ⟨a, ha⟩ := h3 q hq
  exact ⟨a, ha.same hv.symm⟩
