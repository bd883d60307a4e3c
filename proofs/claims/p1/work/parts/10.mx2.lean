/-! a method that throws: its contract, and how its walk ends -/
def ax_PreX (D : va_G) (kA : Nat → ClassId) (As : List Value) (w0 : va_W) (sz : Nat) : Array Value → State → Prop := fun v U => ax_Pre D kA As w0 sz v U ∧ ax_X (va_A w0 sz) U U.heap
def ax_Qx (D : va_G) (kA : Nat → ClassId) (w0 : va_W) (sz mc ms : Nat) (cls : String) (post : va_W → Prop) (st : State) (o : Outcome) (t : State) : Prop := ∃ (x : Addr) (ce : Cell) (L : List Loc) (w1 : va_W), o = .threw x ∧ st.WarmedH t.vm ∧ st.sameButNew ({ t with vm := st.vm } : State) L mc ms ∧ (∀ q ∈ L, va_A w0 sz q.base) ∧ t.heap[x]? = some ce ∧ ce.vm = .none ∧ st.vm.findClass cls = some ce.cls ∧ post w1 ∧ ax_B D kA w0 sz w1 t ∧ va_F (va_A w0 sz) st t
/-- the contract of a method that throws a new cls -/
def ax_Mx (l : Launch) (D : va_G) (kA : Nat → ClassId) (y : MethodName) (cc : ByteArray) (nL : Nat) (ret : Option FieldType) (fr lo mc ms : Nat) (As : List Value) (w0 : va_W) (cls : String) (post : va_W → Prop) : Prop :=
  ∀ sz : Nat, MetFree l y (headSpec (ax_WS y cc nL ret) ({ frames := fr, cells := mc, slots := ms, locals := lo })) (ax_PreX D kA As w0 sz) (fun _ _ _ _ _ => True) (fun _ st o t => ax_Qx D kA w0 sz mc ms cls post st o t)
abbrev ax_QX (below : List Frame) (s : State) (D : va_G) (kA : Nat → ClassId) (w0 : va_W) (mc ms : Nat) (cls : String) (post : va_W → Prop) : State → Prop := fun t => ∃ o, t.status = .running ∧ Ended t below o ∧ ax_Qx D kA w0 s.heap.size mc ms cls post s o t
theorem ax_Mx.of {l : Launch} {D : va_G} {kA : Nat → ClassId} {y : MethodName} {cc : ByteArray} {nL : Nat} {ret : Option FieldType} {fr lo mc ms : Nat} {As : List Value} {w0 : va_W} {cls : String} {post : va_W → Prop} (hy : plainName y.cls = true) (hlen : (lg_sl As).length ≤ nL)
    (body : ∀ (p : Program) (e : Env) (s : State) (m : MethodId) (args : Array Value) (below : List Frame) (meth : Method) (c : Code), ax_C p s m args meth c cc y.cls nL ret D kA (va_A w0 s.heap.size) → l.admits e → c.exceptionTable.isEmpty = true → ax_X (va_A w0 s.heap.size) s s.heap → va_P D ax_cl w0 s.heap →
      AW p l e { frames := fr, cells := mc, slots := ms, locals := lo } s m args below meth c D kA (va_A w0 s.heap.size) nL (ax_QX below s D kA w0 mc ms cls post) 0 (lv_args 0 As) [] w0 0 0) : ax_Mx l D kA y cc nL ret fr lo mc ms As w0 cls post := by
  intro sz
  refine MetFree.of_bodyS (code := cc) (maxLocals := nL) (ret := ret) hy ?_ ?_
  · intro args s m h hn
    obtain ⟨meth, c, h1, h2, h3, h4, h5, h6, -, -⟩ := Cond.code_spec hn (atoms_spec (ws := ax_WS y cc nL ret) h _ List.mem_cons_self)
    exact ⟨meth, c, h1, h2, h3, h4, h5, h6⟩
  · intro p e s m args below meth c s₁ B hml hv _
    obtain ⟨⟨rfl, hsz, hP, hK, hN, hD0⟩, hX⟩ := hv
    subst hsz
    have C : ax_C p s m As.toArray meth c cc y.cls nL ret D kA (va_A w0 s.heap.size) := ⟨B.exec, B.bytes, hml, findClass_of_methodNamed B.named, fun w hw => atoms_spec (ws := ax_WS y cc nL ret) B.pre w (List.mem_cons_of_mem _ hw), hK, fun q h => Or.inr h, B.notSynchronized, B.returns, hN⟩
    have hl := lv_entry As hlen
    have hh0 : s₁.heap = s.heap := by rw [B.state]; rfl
    have X0 := Stand.of_body B
    have hbody := body p e s m _ below meth c C X0.admits (B.noHandlers (atoms_spec (ws := ax_WS y cc nL ret) B.pre _ List.mem_cons_self)) hX hP s.heap [] _ hP (hD0.self) va_S.rf hl
    rw [← lg_entry_eq] at hbody
    obtain ⟨t, a1, o, b1, b2, b3⟩ := hbody s₁ hh0 X0
    exact ⟨t, o, a1, b1, b2, b3⟩
def ax_bad : List Cond := [.laysStatic "java/lang/Throwable" "UNASSIGNED_STACK" "[Ljava/lang/StackTraceElement;", .laysStatic "java/lang/Throwable" "SUPPRESSED_SENTINEL" "Ljava/util/List;", .isRef (.static "java/lang/Throwable" "UNASSIGNED_STACK" "[Ljava/lang/StackTraceElement;"), .isRef (.static "java/lang/Throwable" "SUPPRESSED_SENTINEL" "Ljava/util/List;")] ++ ax_decls.map Cond.declares
/-- the words of a throw of cls: all good ones in the tables, the others known -/
def ax_ta (ic : Nat) (cls : String) (i1 : Nat) (b1 : ByteArray) : Prop := ∀ a ∈ tx_atoms "ClauseProver" ic cls i1 b1, a ∈ lw_tbg ∨ a ∈ ax_bad
theorem ax_ta.mk {ic : Nat} {cls : String} {i1 : Nat} {b1 : ByteArray} (ps : List Nat) (h : (tx_atoms "ClauseProver" ic cls i1 b1).filter goodWord = ps.filterMap (fun i => tables_1[i]?)) (hb : (tx_atoms "ClauseProver" ic cls i1 b1).all (fun a => goodWord a || decide (a ∈ ax_bad)) = true) : ax_ta ic cls i1 b1 := by
  intro a ha
  have h1 := List.all_eq_true.mp hb a ha
  cases hg : goodWord a with
  | true =>
    refine Or.inl ?_
    have h2 : a ∈ (tx_atoms "ClauseProver" ic cls i1 b1).filter goodWord := List.mem_filter.mpr ⟨ha, hg⟩
    rw [h] at h2
    obtain ⟨i, -, hi⟩ := List.mem_filterMap.mp h2
    exact tb_in hi hg
  | false => rw [hg] at h1; exact Or.inr (by simpa using h1)
theorem ax_ta.use {ic : Nat} {cls : String} {i1 : Nat} {b1 : ByteArray} (h : ax_ta ic cls i1 b1) {args : Array Value} {s : State} {A : Nat → Prop} (hts : ∀ w ∈ lw_tbg, w.before args s = true) (hX : ax_X A s s.heap) : ∀ a ∈ tx_atoms "ClauseProver" ic cls i1 b1, a.before args s = true := by
  intro a ha
  rcases h a ha with h1 | h1
  · exact hts a h1
  · simp only [ax_bad, List.mem_append, List.mem_cons, List.not_mem_nil, or_false, List.mem_map] at h1
    rcases h1 with (rfl | rfl | rfl | rfl) | ⟨y, hy, rfl⟩
    · exact hX.1.use1
    · exact hX.2.1.use1
    · exact hX.1.use2
    · exact hX.2.1.use2
    · exact va_tabs rfl rfl (hX.2.2.2.1 y hy)
set_option maxRecDepth 100000 in
theorem ta_ISE : ax_ta 91 "java/lang/IllegalStateException" 7 prog_20_method_2_code := ax_ta.mk [15, 922, 931, 938, 941, 943, 923, 924, 37, 38, 925, 930, 939, 959, 912, 960, 914, 961, 916, 926, 928, 918, 955, 956, 958, 918, 946, 947, 948, 949, 949, 950, 951, 952, 952, 953, 954, 955, 945, 901, 909, 910, 911, 913, 915, 917, 921, 920, 919] (by decide +kernel) (by decide +kernel)
set_option maxRecDepth 100000 in
theorem ta_IAE : ax_ta 104 "java/lang/IllegalArgumentException" 7 prog_19_method_2_code := ax_ta.mk [15, 922, 931, 938, 941, 943, 923, 924, 37, 38, 925, 930, 939, 959, 912, 960, 914, 961, 916, 926, 928, 918, 955, 956, 958, 918, 995, 996, 997, 949, 949, 950, 951, 952, 952, 953, 954, 955, 994, 985, 987, 935, 988, 989, 990, 991, 921, 920, 992] (by decide +kernel) (by decide +kernel)
set_option maxRecDepth 100000 in
theorem ta_NSE : ax_ta 158 "java/util/NoSuchElementException" 13 prog_31_method_4_code := ax_ta.mk [15, 922, 931, 938, 941, 943, 923, 924, 37, 38, 925, 930, 939, 959, 912, 960, 914, 961, 916, 926, 928, 918, 955, 956, 958, 918, 1301, 1302, 1303, 949, 949, 950, 951, 952, 952, 953, 954, 955, 1300, 1291, 1293, 937, 1294, 1295, 1296, 1297, 921, 920, 1298] (by decide +kernel) (by decide +kernel)
set_option maxRecDepth 100000 in
theorem ta_IOB : ax_ta 257 "java/lang/IndexOutOfBoundsException" 7 prog_21_method_2_code := ax_ta.mk [15, 922, 931, 938, 941, 943, 923, 924, 37, 38, 925, 930, 939, 959, 912, 960, 914, 961, 916, 926, 928, 918, 955, 956, 958, 918, 1437, 1438, 1439, 949, 949, 950, 951, 952, 952, 953, 954, 955, 1436, 1427, 1429, 936, 1430, 1431, 1432, 1433, 921, 920, 1434] (by decide +kernel) (by decide +kernel)
