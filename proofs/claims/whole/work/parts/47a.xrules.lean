/-! methods that throw an object which the world has -/
def ax_Qy (D : va_G) (kA : Nat → ClassId) (w0 : va_W) (sz mc ms : Nat) (cls : String) (post : Nat → va_W → Prop) (st : State) (o : Outcome) (t : State) : Prop := ∃ (x : Addr) (ce : Cell) (L : List Loc) (w1 : va_W), o = .threw x ∧ st.WarmedH t.vm ∧ st.sameButNew ({ t with vm := st.vm } : State) L mc ms ∧ (∀ q ∈ L, va_A w0 sz q.base) ∧ t.heap[x]? = some ce ∧ ce.vm = .none ∧ st.vm.findClass cls = some ce.cls ∧ post x w1 ∧ ax_B D kA w0 sz w1 t ∧ va_F (va_A w0 sz) st t
def ax_My (l : Launch) (D : va_G) (kA : Nat → ClassId) (y : MethodName) (cc : ByteArray) (nL : Nat) (ret : Option FieldType) (fr lo mc ms : Nat) (As : List Value) (w0 : va_W) (cls : String) (post : Nat → va_W → Prop) : Prop :=
  ∀ sz : Nat, MetFree l y (headSpec (ax_WS y cc nL ret) ({ frames := fr, cells := mc, slots := ms, locals := lo })) (ax_PreX D kA As w0 sz) (fun _ _ _ _ _ => True) (fun _ st o t => ax_Qy D kA w0 sz mc ms cls post st o t)
abbrev ax_QY (below : List Frame) (s : State) (D : va_G) (kA : Nat → ClassId) (w0 : va_W) (mc ms : Nat) (cls : String) (post : Nat → va_W → Prop) : State → Prop := fun t => ∃ o, t.status = .running ∧ Ended t below o ∧ ax_Qy D kA w0 s.heap.size mc ms cls post s o t
theorem ax_My.of {l : Launch} {D : va_G} {kA : Nat → ClassId} {y : MethodName} {cc : ByteArray} {nL : Nat} {ret : Option FieldType} {fr lo mc ms : Nat} {As : List Value} {w0 : va_W} {cls : String} {post : Nat → va_W → Prop} (hy : plainName y.cls = true) (hlen : (lg_sl As).length ≤ nL)
    (body : ∀ (p : Program) (e : Env) (s : State) (m : MethodId) (args : Array Value) (below : List Frame) (meth : Method) (c : Code), ax_C p s m args meth c cc y.cls nL ret D kA (va_A w0 s.heap.size) → c.exceptionTable.isEmpty = true → ax_X (va_A w0 s.heap.size) s s.heap →
      AW p l e { frames := fr, cells := mc, slots := ms, locals := lo } s m args below meth c D kA (va_A w0 s.heap.size) nL (ax_QY below s D kA w0 mc ms cls post) 0 (lv_args 0 As) [] w0 0 0) : ax_My l D kA y cc nL ret fr lo mc ms As w0 cls post := by
  intro sz
  refine MetFree.of_bodyS (code := cc) (maxLocals := nL) (ret := ret) hy ?_ ?_
  · intro args s m h hn
    obtain ⟨meth, c, h1, h2, h3, h4, h5, h6, -, -⟩ := Cond.code_spec hn (atoms_spec (ws := ax_WS y cc nL ret) h _ List.mem_cons_self)
    exact ⟨meth, c, h1, h2, h3, h4, h5, h6⟩
  · intro p e s m args below meth c s₁ B hml hv _
    obtain ⟨⟨rfl, hsz, hP, hK, hN, hD0⟩, hX⟩ := hv
    subst hsz
    have C : ax_C p s m As.toArray meth c cc y.cls nL ret D kA (va_A w0 s.heap.size) := ⟨B.exec, B.bytes, hml, findClass_of_methodNamed B.named, fun w hw => atoms_spec (ws := ax_WS y cc nL ret) B.pre w (List.mem_cons_of_mem _ hw), hK, fun q h => Or.inr h, B.notSynchronized, B.returns, hN⟩
    have hl := lv_entry As hlen
    have hh0 : s₁.heap = s.heap := by rw [B.state]; rfl
    have X0 := Stand.of_body B
    have hbody := body p e s m _ below meth c C (B.noHandlers (atoms_spec (ws := ax_WS y cc nL ret) B.pre _ List.mem_cons_self)) hX s.heap [] _ hP (hD0.self) va_S.rf hl
    rw [← lg_entry_eq] at hbody
    obtain ⟨t, a1, o, b1, b2, b3⟩ := hbody s₁ hh0 X0
    exact ⟨t, o, a1, b1, b2, b3⟩
theorem xt_none {c : Code} (hex : c.exceptionTable.isEmpty = true) (pc : Nat) : ∀ x ∈ c.exceptionTable.toList, covers x pc = false := by
  have h0 : c.exceptionTable.size = 0 := by simpa [Array.isEmpty] using hex
  have h1 : c.exceptionTable.toList = [] := List.eq_nil_of_length_eq_zero (by simpa using h0)
  intro y hy
  rw [h1] at hy
  cases hy
section XTH
variable {p : Program} {l : Launch} {e : Env} {R : Room} {s : State} {m : MethodId} {args : Array Value} {below : List Frame} {meth : Method} {c : Code} {Q : State → Prop} {D : va_G} {kA : Nat → ClassId} {A : Nat → Prop} {nL : Nat} {cc : ByteArray} {own : String} {ret : Option FieldType} {pc cells slots : Nat} {ls : List (Nat × Value)} {st rest : List Value} {ws : va_W}
variable {w0 : va_W} {mc ms : Nat} {cls : String}
theorem ax_athrow {post : Nat → va_W → Prop} (C : ax_C p s m args meth c cc own nL ret D kA (va_A w0 s.heap.size)) (hout : ∀ x ∈ c.exceptionTable.toList, covers x pc = false) {x ci : Nat} {fs : List Value} {r : vw_C} (q0 : Nat) (he : ws[q0]? = some (x, .inr (ci, fs))) (hc : ax_cl[ci]? = some r) (hrc : r.1 = cls) (hdg : decode cc pc = .ok (.athrow, 1)) (hpost : post x ws) (hce : cells ≤ mc) (hsl : slots ≤ ms) : AW p l e R s m args below meth c D kA (va_A w0 s.heap.size) nL (ax_QY below s D kA w0 mc ms cls post) (pc) (ls) (.ref x :: rest) (ws) (cells) (slots) := fun H locs la hP hD hS hl => by
  refine W.widen hce hsl ?_
  intro T hT X
  have hq := hP q0 _ he
  obtain ⟨r9, h11, cell9, h12, h13, h14, h15⟩ := hq
  obtain rfl := Option.some.inj (hc.symm.trans h11)
  obtain ⟨cellB, hcB, hoB, hclB⟩ := va_recv C.2.2.2.2.2.1 hP hc he
  obtain rfl := Option.some.inj (hcB.symm.trans h12)
  obtain ⟨hwalk, hrun, hended, hWU, hsame⟩ := X.athrowLeaves C.1 (g := F0 m pc la (.ref x :: rest)) rfl rfl rfl hout (a := x) (rest := rest) rfl (by rw [C.2.1]; exact hdg) C.2.2.2.2.2.2.2.1
  refine ⟨_, hwalk, .threw x, hrun, hended, x, cellB, locs, ws, rfl, hWU, hsame, hS.2.2, ?_, h14, by rw [← hrc]; exact hclB, hpost, ⟨?_, va_K.moved hWU.alike C.2.2.2.2.2.1, hD⟩, ?_, ?_⟩
  · show T.heap[x]? = _; rw [hT]; exact h12
  · show va_P D ax_cl ws T.heap; rw [hT]; exact hP
  · show s.heap.size ≤ T.heap.size; rw [hT]; exact hS.1
  · intro a h1 h2; show T.heap[a]? = _; rw [hT]; exact hS.2.1 a h1 h2
theorem ax_callVp (C : ax_C p s m args meth c cc own nL ret D kA (va_A w0 s.heap.size)) (hXs : ax_X (va_A w0 s.heap.size) s s.heap) (hout : ∀ x ∈ c.exceptionTable.toList, covers x pc = false) {idx n : Nat} {y : MethodName} {cc2 : ByteArray} {nL2 : Nat} {ret2 : Option FieldType} {fr lo mc2 ms2 : Nat} {b : Nat} {As : List Value} {wc : va_W} {post post2 : Nat → va_W → Prop} (hM : ax_My l D kA y cc2 nL2 ret2 fr lo mc2 ms2 (.ref b :: As) wc cls post) (L : ax_LV own idx y cc2 nL2 ret2 n) (q0 : Nat) {ci : Nat} {fs : List Value} {r : vw_C} (he : ws[q0]? = some (b, .inr (ci, fs))) (hc : ax_cl[ci]? = some r) (hrc : r.1 = y.cls) (hdg : decode cc pc = .ok (.invokevirtual idx, 3)) (hst : st = As.reverse ++ .ref b :: rest) (hlen : As.length = n)
    (isC isR : List Nat) {wr : va_W} (hC : isC.map (fun i => ws[i]?) = wc.map some) (hnC : va_nd isC = true) (hR : isR.map (fun i => ws[i]?) = wr.map some) (hn : va_nd isR = true) (hdis : ∀ i ∈ isR, i ∉ isC) (hfr : fr + 1 ≤ R.frames) (hlo : 8 + (nL2 + 11) + lo ≤ R.locals) (hce : cells + mc2 ≤ R.cells) (hsl : slots + ms2 ≤ R.slots) (hsum : (rest.map fun v => v.category).sum ≤ 8)
    (hcm : cells + mc2 ≤ mc) (hsm : slots + ms2 ≤ ms) (hRc : mc ≤ R.cells) (hRs : ms ≤ R.slots) (kk : ∀ (x : Nat) (w1 : va_W), post x w1 → post2 x (wr ++ w1)) : AW p l e R s m args below meth c D kA (va_A w0 s.heap.size) nL (ax_QY below s D kA w0 mc ms cls post2) (pc) (ls) (st) (ws) (cells) (slots) := fun H locs la hP hD hS hl => by
  subst hst
  have hFc := va_free (wc := wc) hD hS C.2.2.2.2.2.2.1 isC hC
  have hPc := hP.sub isC (ax_fm hC)
  have hDc := hD.sub isC hnC hC
  have cw := cwV (R := R) (rm := { frames := fr, cells := mc2, slots := ms2, locals := lo }) (mc := mc2) (ms := ms2) n C.2.2.2.2.1 L.1 rfl rfl rfl L.2 ⟨hfr, hlo⟩
  obtain ⟨⟨-, -, -, -, hws, -, hcode, hini, hy, hlen2, hl2⟩, hin, hse⟩ := cw
  refine W.widen (k := mc - mc2) (n := ms - ms2) (by omega) (by omega) ?_
  intro T hT X
  obtain ⟨mk, methM, hnamed, hmethM, hstM, habM⟩ := Cond.instanceMethod_spec hin
  obtain ⟨methM', cM, hmethM', hcM, -, hlM, -, -, -, hsigM⟩ := Cond.code_spec hnamed hcode
  obtain rfl := Option.some.inj (hmethM.symm.trans hmethM')
  obtain ⟨cellB, hcB, hoB, hclB⟩ := va_recv C.2.2.2.2.2.1 hP hc he
  rw [hrc] at hclB
  obtain ⟨c2, r2, m2, q1, q2, q3, q4, kP, hkP, hkPi⟩ := Cond.selects_spec hse
  obtain rfl := Option.some.inj (hclB.symm.trans q1)
  obtain rfl := Option.some.inj ((State.methodFound?_of_named hnamed hy).symm.trans q2)
  obtain rfl := Option.some.inj (hnamed.symm.trans q3)
  have hselP : selectMethod e.platform s.vm cellB.cls mk = .method mk := by rw [Launch.admits_selectMethod X.admits]; exact q4
  obtain ⟨vm₁, X₁, hstep₁⟩ := X.invokevirtual C.1 C.2.2.2.1 hl2 hnamed hmethM hstM hkP hkPi hy (a := b) (cell := cellB) (by rw [hT]; exact hcB)
    (fun z h => by rw [h] at hoB; cases hoB) hselP hmethM habM hkP hkPi (g := F0 m pc la (As.reverse ++ .ref b :: rest)) rfl (argsL := As) (rest := rest) (hlen.trans (hlen2 _ hsigM)) rfl (by rw [C.2.1]; exact hdg)
  have hcodeU : (Cond.code y cc2 nL2 ret2).before (Value.ref b :: As).toArray (T.setVm vm₁) = true := hws _ List.mem_cons_self _ _ X₁.warmed
  have hiniU : (Cond.initialized y.cls).before (Value.ref b :: As).toArray (T.setVm vm₁) = true := word_at X₁.warmed (Or.inl rfl) hini
  have hnU : (T.setVm vm₁).methodNamed? y = some mk := X₁.named hnamed
  obtain ⟨methY, cY, hmY, hcY, -, hlY, -, -, -, -⟩ := Cond.code_spec hnU hcodeU
  obtain ⟨kY, hkY, -⟩ := className_of_methodNamed hnU
  have hinitY : kY.init = .initialized := Cond.initialized_spec (findClass_of_methodNamed hnU) hkY hiniU
  have hpre : (headSpec (ax_WS y cc2 nL2 ret2) ({ frames := fr, cells := mc2, slots := ms2, locals := lo })).pre.before (Value.ref b :: As).toArray (T.setVm vm₁) = true := atoms_intro fun w hw => hws w hw _ _ X₁.warmed
  have happ : (headSpec (ax_WS y cc2 nL2 ret2) ({ frames := fr, cells := mc2, slots := ms2, locals := lo })).appliesLoose y e.platform ((T.setVm vm₁).calling (F0 m pc la rest) mk (Value.ref b :: As).toArray) = true :=
    Spec.appliesLoose_calling (g := F0 m pc la rest) X₁.here (by rw [C.2.1]; exact hdg) hnU hkY hinitY (X₁.room_calling (g := F0 m pc la rest) (R' := { frames := fr, cells := mc2, slots := ms2, locals := lo }) (by rw [C.2.2.1]; exact hl.1) hmY hcY hfr (by rw [hlY]; have h9 := lv_room (m := m) (pc := pc) (ls := la) (rest := rest) hsum; dsimp only at h9 ⊢; omega) (by dsimp only; omega) (by dsimp only; omega)) hpre
  obtain ⟨g₀, hfeq⟩ := X₁.frames_eq
  have hfrs : ((T.setVm vm₁).setTop (F0 m pc la rest)).frames = [.java (F0 m pc la rest)] ++ below := by
    rw [State.frames_setTop' _ X₁.here.top, hfeq]; rfl
  have hPre : ax_PreX D kA (.ref b :: As) wc H.size (Value.ref b :: As).toArray ((T.setVm vm₁).calling (F0 m pc la rest) mk (Value.ref b :: As).toArray) := by
    have hW := X₁.warmed
    refine ⟨ax_blind _ (T.setVm vm₁) _ _ ⟨rfl, by show T.heap.size = _; rw [hT], by show va_P _ _ _ T.heap; rw [hT]; exact hPc, va_K.moved hW.alike C.2.2.2.2.2.1, (C.2.2.2.2.2.2.2.2.2).warm hW, hDc.weaken (fun _ _ _ _ => trivial)⟩, ?_⟩
    refine ax_X.same (s := T.setVm vm₁) ?_ rfl
    show ax_X _ (T.setVm vm₁) T.heap
    rw [hT]
    exact hXs.go hW (fun a h1 h2 => hS.2.1 a h1 h2) (fun q h => hFc q h)
  obtain ⟨oc, s₂, hsteps, -, hend, x, ce, L2, w1, rfl, hW2, hsame2, hL2, hx1, hx2, hx3, hw1, ⟨hP1, hK1, hD1⟩, hz1, hk1⟩ := Steps.callFree (hM H.size) p X.admits X.cas X.clock (acts := []) hfrs happ hPre trivial
  rw [hfrs] at hend
  obtain ⟨T', X', hWT, -, ht⟩ := X₁.outOfThrown (g := F0 m pc la rest) rfl (mk := mk) (a := (Value.ref b :: As).toArray) hend hW2 hsame2
  have hheap : T'.heap = s₂.heap := by rw [ht, Stand.throwing_heap]
  have hvm : T'.vm = s₂.vm := by rw [ht, Stand.throwing_vm]
  have hk2 : ∀ q : Nat, q < H.size → ¬ va_A wc H.size q → s₂.heap[q]? = H[q]? := fun q h1 h2 => by
    have h3 := hk1 q (by show q < T.heap.size; rw [hT]; exact h1) h2
    rw [h3]
    show T.heap[q]? = _
    rw [hT]
  have hz2 : H.size ≤ s₂.heap.size := by
    have h3 : T.heap.size ≤ s₂.heap.size := hz1
    rw [hT] at h3; exact h3
  obtain ⟨hP2, hD2⟩ := va_join (wr := wr) (w1 := w1) hP hD isC isR hC hR hn hdis hk2 hFc hP1 hD1
  obtain ⟨hwalk, hrun, hended, hWU, hsame⟩ := X'.leaveThrown x (g := F0 m pc la rest) rfl rfl rfl hout C.2.2.2.2.2.2.2.1
  have hmc9 : mc - mc2 + mc2 = mc := by omega
  have hms9 : ms - ms2 + ms2 = ms := by omega
  rw [hmc9, hms9] at hsame
  refine ⟨_, hstep₁ _ (fun acts => ?_), .threw x, hrun, hended, x, ce, locs ++ L2, wr ++ w1, rfl, hWU, hsame, fun q hq => ?_, ?_, hx2, by rw [← X₁.warmed.alike.findClass]; exact hx3, kk x w1 hw1, ⟨?_, va_K.moved hWU.alike C.2.2.2.2.2.1, hD2⟩, ?_, ?_⟩
  · rw [doInvoke_state]
    refine hsteps.trans ?_
    rw [ht]
    exact hwalk
  · rcases List.mem_append.mp hq with h | h
    · exact hS.2.2 q h
    · exact hFc _ (hL2 q h)
  · show T'.heap[x]? = _; rw [hheap]; exact hx1
  · show va_P D ax_cl _ T'.heap; rw [hheap]; exact hP2
  · show s.heap.size ≤ T'.heap.size; rw [hheap]; exact Nat.le_trans hS.1 hz2
  · intro a h1 h2
    show T'.heap[a]? = _
    rw [hheap]
    exact (hk2 a (Nat.lt_of_lt_of_le h1 hS.1) (fun z => h2 (hFc a z))).trans (hS.2.1 a h1 h2)
theorem ax_callVy (C : ax_C p s m args meth c cc own nL ret D kA A) (hXs : ax_X A s s.heap) {idx n hpc : Nat} {y : MethodName} {cc2 : ByteArray} {nL2 : Nat} {ret2 : Option FieldType} {fr lo mc2 ms2 : Nat} {b : Nat} {As : List Value} {wc : va_W} {post : Nat → va_W → Prop} (hM : ax_My l D kA y cc2 nL2 ret2 fr lo mc2 ms2 (.ref b :: As) wc cls post) (L : ax_LV own idx y cc2 nL2 ret2 n) (q0 : Nat) {ci : Nat} {fs : List Value} {r : vw_C} (he : ws[q0]? = some (b, .inr (ci, fs))) (hc : ax_cl[ci]? = some r) (hrc : r.1 = y.cls) (hdg : decode cc pc = .ok (.invokevirtual idx, 3)) (hst : st = As.reverse ++ .ref b :: rest) (hlen : As.length = n)
    (isC isR : List Nat) {wr : va_W} (hC : isC.map (fun i => ws[i]?) = wc.map some) (hnC : va_nd isC = true) (hR : isR.map (fun i => ws[i]?) = wr.map some) (hn : va_nd isR = true) (hdis : ∀ i ∈ isR, i ∉ isC) (hfr : fr + 1 ≤ R.frames) (hlo : 8 + (nL2 + 11) + lo ≤ R.locals) (hce : cells + mc2 ≤ R.cells) (hsl : slots + ms2 ≤ R.slots) (hsum : (rest.map fun v => v.category).sum ≤ 8)
    (hF : cx_F e s m pc cls hpc) (kk : ∀ (x : Nat) (w1 : va_W), post x w1 → AW p l e R s m args below meth c D kA A nL Q (hpc) (ls) ([.ref x]) (wr ++ w1) (cells + mc2) (slots + ms2)) : AW p l e R s m args below meth c D kA A nL Q (pc) (ls) (st) (ws) (cells) (slots) := fun H locs la hP hD hS hl => by
  subst hst
  have hFc := va_free (wc := wc) hD hS C.2.2.2.2.2.2.1 isC hC
  have hPc := hP.sub isC (ax_fm hC)
  have hDc := hD.sub isC hnC hC
  have cw := cwV (R := R) (rm := { frames := fr, cells := mc2, slots := ms2, locals := lo }) (mc := mc2) (ms := ms2) n C.2.2.2.2.1 L.1 rfl rfl rfl L.2 ⟨hfr, hlo⟩
  obtain ⟨⟨-, -, -, -, hws, -, hcode, hini, hy, hlen2, hl2⟩, hin, hse⟩ := cw
  intro T hT X
  obtain ⟨mk, methM, hnamed, hmethM, hstM, habM⟩ := Cond.instanceMethod_spec hin
  obtain ⟨methM', cM, hmethM', hcM, -, hlM, -, -, -, hsigM⟩ := Cond.code_spec hnamed hcode
  obtain rfl := Option.some.inj (hmethM.symm.trans hmethM')
  obtain ⟨cellB, hcB, hoB, hclB⟩ := va_recv C.2.2.2.2.2.1 hP hc he
  rw [hrc] at hclB
  obtain ⟨c2, r2, m2, q1, q2, q3, q4, kP, hkP, hkPi⟩ := Cond.selects_spec hse
  obtain rfl := Option.some.inj (hclB.symm.trans q1)
  obtain rfl := Option.some.inj ((State.methodFound?_of_named hnamed hy).symm.trans q2)
  obtain rfl := Option.some.inj (hnamed.symm.trans q3)
  have hselP : selectMethod e.platform s.vm cellB.cls mk = .method mk := by rw [Launch.admits_selectMethod X.admits]; exact q4
  obtain ⟨vm₁, X₁, hstep₁⟩ := X.invokevirtual C.1 C.2.2.2.1 hl2 hnamed hmethM hstM hkP hkPi hy (a := b) (cell := cellB) (by rw [hT]; exact hcB)
    (fun z h => by rw [h] at hoB; cases hoB) hselP hmethM habM hkP hkPi (g := F0 m pc la (As.reverse ++ .ref b :: rest)) rfl (argsL := As) (rest := rest) (hlen.trans (hlen2 _ hsigM)) rfl (by rw [C.2.1]; exact hdg)
  have hcodeU : (Cond.code y cc2 nL2 ret2).before (Value.ref b :: As).toArray (T.setVm vm₁) = true := hws _ List.mem_cons_self _ _ X₁.warmed
  have hiniU : (Cond.initialized y.cls).before (Value.ref b :: As).toArray (T.setVm vm₁) = true := word_at X₁.warmed (Or.inl rfl) hini
  have hnU : (T.setVm vm₁).methodNamed? y = some mk := X₁.named hnamed
  obtain ⟨methY, cY, hmY, hcY, -, hlY, -, -, -, -⟩ := Cond.code_spec hnU hcodeU
  obtain ⟨kY, hkY, -⟩ := className_of_methodNamed hnU
  have hinitY : kY.init = .initialized := Cond.initialized_spec (findClass_of_methodNamed hnU) hkY hiniU
  have hpre : (headSpec (ax_WS y cc2 nL2 ret2) ({ frames := fr, cells := mc2, slots := ms2, locals := lo })).pre.before (Value.ref b :: As).toArray (T.setVm vm₁) = true := atoms_intro fun w hw => hws w hw _ _ X₁.warmed
  have happ : (headSpec (ax_WS y cc2 nL2 ret2) ({ frames := fr, cells := mc2, slots := ms2, locals := lo })).appliesLoose y e.platform ((T.setVm vm₁).calling (F0 m pc la rest) mk (Value.ref b :: As).toArray) = true :=
    Spec.appliesLoose_calling (g := F0 m pc la rest) X₁.here (by rw [C.2.1]; exact hdg) hnU hkY hinitY (X₁.room_calling (g := F0 m pc la rest) (R' := { frames := fr, cells := mc2, slots := ms2, locals := lo }) (by rw [C.2.2.1]; exact hl.1) hmY hcY hfr (by rw [hlY]; have h9 := lv_room (m := m) (pc := pc) (ls := la) (rest := rest) hsum; dsimp only at h9 ⊢; omega) hce hsl) hpre
  obtain ⟨g₀, hfeq⟩ := X₁.frames_eq
  have hfrs : ((T.setVm vm₁).setTop (F0 m pc la rest)).frames = [.java (F0 m pc la rest)] ++ below := by
    rw [State.frames_setTop' _ X₁.here.top, hfeq]; rfl
  have hPre : ax_PreX D kA (.ref b :: As) wc H.size (Value.ref b :: As).toArray ((T.setVm vm₁).calling (F0 m pc la rest) mk (Value.ref b :: As).toArray) := by
    have hW := X₁.warmed
    refine ⟨ax_blind _ (T.setVm vm₁) _ _ ⟨rfl, by show T.heap.size = _; rw [hT], by show va_P _ _ _ T.heap; rw [hT]; exact hPc, va_K.moved hW.alike C.2.2.2.2.2.1, (C.2.2.2.2.2.2.2.2.2).warm hW, hDc.weaken (fun _ _ _ _ => trivial)⟩, ?_⟩
    refine ax_X.same (s := T.setVm vm₁) ?_ rfl
    show ax_X _ (T.setVm vm₁) T.heap
    rw [hT]
    exact hXs.go hW (fun a h1 h2 => hS.2.1 a h1 h2) (fun q h => hFc q h)
  obtain ⟨oc, s₂, hsteps, -, hend, x, ce, L2, w1, rfl, hW2, hsame2, hL2, hx1, hx2, hx3, hw1, ⟨hP1, hK1, hD1⟩, hz1, hk1⟩ := Steps.callFree (hM H.size) p X.admits X.cas X.clock (acts := []) hfrs happ hPre trivial
  rw [hfrs] at hend
  obtain ⟨T', X', hWT, -, ht⟩ := X₁.outOfThrown (g := F0 m pc la rest) rfl (mk := mk) (a := (Value.ref b :: As).toArray) hend hW2 hsame2
  have hheap : T'.heap = s₂.heap := by rw [ht, Stand.throwing_heap]
  have hvm : T'.vm = s₂.vm := by rw [ht, Stand.throwing_vm]
  have hk2 : ∀ q : Nat, q < H.size → ¬ va_A wc H.size q → s₂.heap[q]? = H[q]? := fun q h1 h2 => by
    have h3 := hk1 q (by show q < T.heap.size; rw [hT]; exact h1) h2
    rw [h3]
    show T.heap[q]? = _
    rw [hT]
  have hz2 : H.size ≤ s₂.heap.size := by
    have h3 : T.heap.size ≤ s₂.heap.size := hz1
    rw [hT] at h3; exact h3
  obtain ⟨hP2, hD2⟩ := va_join (wr := wr) (w1 := w1) hP hD isC isR hC hR hn hdis hk2 hFc hP1 hD1
  obtain ⟨vm', hWv, hfind⟩ := hF T' (F0 m pc la rest) x ce X'.warmed rfl rfl (by rw [hheap]; exact hx1) hx2 (by rw [← X₁.warmed.alike.findClass]; exact hx3)
  have X2 := X'.noted hWv
  obtain ⟨t, a1, b1⟩ := kk x w1 hw1 s₂.heap (locs ++ L2) la hP2 hD2 ⟨Nat.le_trans hS.1 hz2, fun q h1 h2 => (hk2 q (Nat.lt_of_lt_of_le h1 hS.1) (fun z => h2 (hFc q z))).trans (hS.2.1 q h1 h2), fun q hq => by
      rcases List.mem_append.mp hq with h | h
      · exact hS.2.2 q h
      · exact hFc _ (hL2 q h)⟩ hl (T'.setVm vm') hheap X2
  refine ⟨t, hstep₁ _ fun acts => ?_, b1⟩
  rw [doInvoke_state]
  refine hsteps.trans ?_
  rw [ht]
  exact cx_caught X'.here hfind a1
end XTH
theorem ax_blindX {D : va_G} {kA : Nat → ClassId} {As : List Value} {w0 : va_W} {sz : Nat} : FrameBlind (ax_PreX D kA As w0 sz) := fun a U g mk q => ⟨ax_blind a U g mk q.1, ax_X.same (s := U) (U := U.calling g mk a) q.2 rfl⟩
def ax_MvX (l : Launch) (D : va_G) (kA : Nat → ClassId) (y : MethodName) (cc : ByteArray) (nL : Nat) (fr lo mc ms : Nat) (As : List Value) (w0 : va_W) (post : va_W → Prop) : Prop :=
  ∀ sz : Nat, Met l y (ax_WS y cc nL none) ({ frames := fr, cells := mc, slots := ms, locals := lo }) (ax_PreX D kA As w0 sz) (va_Qv post (ax_B D kA w0 sz) (va_A w0 sz)) mc ms (va_A w0 sz)
theorem ax_MvX.of {l : Launch} {D : va_G} {kA : Nat → ClassId} {y : MethodName} {cc : ByteArray} {nL : Nat} {fr lo mc ms : Nat} {As : List Value} {w0 : va_W} {post : va_W → Prop} (hy : plainName y.cls = true) (hlen : (lg_sl As).length ≤ nL)
    (body : ∀ (p : Program) (e : Env) (s : State) (m : MethodId) (args : Array Value) (below : List Frame) (meth : Method) (c : Code), ax_C p s m args meth c cc y.cls nL none D kA (va_A w0 s.heap.size) → meth.name = y.name → ax_X (va_A w0 s.heap.size) s s.heap →
      AW p l e { frames := fr, cells := mc, slots := ms, locals := lo } s m args below meth c D kA (va_A w0 s.heap.size) nL (ax_Qv below args s D kA w0 mc ms post) 0 (lv_args 0 As) [] w0 0 0) : ax_MvX l D kA y cc nL fr lo mc ms As w0 post := by
  intro sz
  refine Met.ofW (cc := cc) (maxL := nL) (ret := none) hy rfl ?_
  intro p e s m args below meth c s₁ B hml hv
  obtain ⟨⟨rfl, hsz, hP, hK, hN, hD0⟩, hX⟩ := hv
  subst hsz
  have C : ax_C p s m As.toArray meth c cc y.cls nL none D kA (va_A w0 s.heap.size) := ⟨B.exec, B.bytes, hml, findClass_of_methodNamed B.named, fun w hw => atoms_spec (ws := ax_WS y cc nL none) B.pre w (List.mem_cons_of_mem _ hw), hK, fun q h => Or.inr h, B.notSynchronized, B.returns, hN⟩
  have hl := lv_entry As hlen
  rw [lg_entry_eq]
  exact body p e s m _ below meth c C (name_of_methodNamed B.named B.method).1 hX s.heap [] _ hP (hD0.self) va_S.rf hl
def ax_MrX (l : Launch) (D : va_G) (kA : Nat → ClassId) (y : MethodName) (cc : ByteArray) (nL : Nat) (ret : FieldType) (fr lo mc ms : Nat) (As : List Value) (w0 : va_W) (post : Nat → va_W → Prop) : Prop :=
  ∀ sz : Nat, Met l y (ax_WS y cc nL (some ret)) ({ frames := fr, cells := mc, slots := ms, locals := lo }) (ax_PreX D kA As w0 sz) (va_Qr (fun u : Nat × va_W => post u.1 u.2) (ax_Br D kA w0 sz) (va_A w0 sz)) mc ms (va_A w0 sz)
theorem ax_MrX.of {l : Launch} {D : va_G} {kA : Nat → ClassId} {y : MethodName} {cc : ByteArray} {nL : Nat} {ret : FieldType} {fr lo mc ms : Nat} {As : List Value} {w0 : va_W} {post : Nat → va_W → Prop} (hy : plainName y.cls = true) (hlen : (lg_sl As).length ≤ nL)
    (body : ∀ (p : Program) (e : Env) (s : State) (m : MethodId) (args : Array Value) (below : List Frame) (meth : Method) (c : Code), ax_C p s m args meth c cc y.cls nL (some ret) D kA (va_A w0 s.heap.size) → meth.name = y.name → ax_X (va_A w0 s.heap.size) s s.heap →
      AW p l e { frames := fr, cells := mc, slots := ms, locals := lo } s m args below meth c D kA (va_A w0 s.heap.size) nL (ax_Qr below args s D kA w0 mc ms post) 0 (lv_args 0 As) [] w0 0 0) : ax_MrX l D kA y cc nL ret fr lo mc ms As w0 post := by
  intro sz
  refine Met.ofW (cc := cc) (maxL := nL) (ret := (some ret)) hy rfl ?_
  intro p e s m args below meth c s₁ B hml hv
  obtain ⟨⟨rfl, hsz, hP, hK, hN, hD0⟩, hX⟩ := hv
  subst hsz
  have C : ax_C p s m As.toArray meth c cc y.cls nL (some ret) D kA (va_A w0 s.heap.size) := ⟨B.exec, B.bytes, hml, findClass_of_methodNamed B.named, fun w hw => atoms_spec (ws := ax_WS y cc nL (some ret)) B.pre w (List.mem_cons_of_mem _ hw), hK, fun q h => Or.inr h, B.notSynchronized, B.returns, hN⟩
  have hl := lv_entry As hlen
  rw [lg_entry_eq]
  exact body p e s m _ below meth c C (name_of_methodNamed B.named B.method).1 hX s.heap [] _ hP (hD0.self) va_S.rf hl
section XRL
variable {p : Program} {l : Launch} {e : Env} {R : Room} {s : State} {m : MethodId} {args : Array Value} {below : List Frame} {meth : Method} {c : Code} {Q : State → Prop} {D : va_G} {kA : Nat → ClassId} {A : Nat → Prop} {nL : Nat} {cc : ByteArray} {own : String} {ret : Option FieldType} {pc cells slots : Nat} {ls : List (Nat × Value)} {st rest : List Value} {ws : va_W}
variable {w0 : va_W} {mc ms : Nat}
theorem ax_callIvX (C : ax_C p s m args meth c cc own nL ret D kA A) (hXs : ax_X A s s.heap) {idx n : Nat} {y : MethodName} {cc2 : ByteArray} {nL2 : Nat} {fr lo mc2 ms2 : Nat} {b : Nat} {As : List Value} {wc : va_W} {post : va_W → Prop} (hM : ax_MvX l D kA y cc2 nL2 fr lo mc2 ms2 (.ref b :: As) wc post) (L : ax_LI own idx y cc2 nL2 n) (hdg : decode cc pc = .ok (.invokespecial idx, 3)) (hst : st = As.reverse ++ .ref b :: rest) (hlen : As.length = n) (isC isR : List Nat) {wr : va_W} (hC : isC.map (fun i => ws[i]?) = wc.map some) (hnC : va_nd isC = true) (hR : isR.map (fun i => ws[i]?) = wr.map some) (hn : va_nd isR = true) (hdis : ∀ i ∈ isR, i ∉ isC) (hfr : fr + 1 ≤ R.frames) (hlo : 8 + (nL2 + 11) + lo ≤ R.locals) (hce : cells + mc2 ≤ R.cells) (hsl : slots + ms2 ≤ R.slots) (hsum : (rest.map fun v => v.category).sum ≤ 8)
    (kk : ∀ w1 : va_W, post w1 → AW p l e R s m args below meth c D kA A nL Q (pc + 3) (ls) (rest) (wr ++ w1) (cells + mc2) (slots + ms2)) : AW p l e R s m args below meth c D kA A nL Q (pc) (ls) (st) (ws) (cells) (slots) := fun H locs la hP hD hS hl => by
  subst hst
  have hFc := va_free (wc := wc) hD hS C.2.2.2.2.2.2.1 isC hC
  have hPc := hP.sub isC (ax_fm hC)
  have hDc := hD.sub isC hnC hC
  refine va_callv (va_runI (As := As) (rest := rest) ⟨C.1, C.2.1, C.2.2.1, C.2.2.2.1, C.2.2.2.2.1⟩ (hM H.size) (cwI n C.2.2.2.2.1 L.1 rfl rfl rfl (C.2.2.2.2.1 _ L.2.2.2.1) (C.2.2.2.2.1 _ L.2.1) (C.2.2.2.2.1 _ L.2.2.1) L.2.2.2.2.1 L.2.2.2.2.2 ⟨hfr, hlo⟩) ⟨ax_blindX, fun U hU hW => ⟨⟨rfl, by rw [hU], by rw [hU]; exact hPc, va_K.moved hW.alike C.2.2.2.2.2.1, (C.2.2.2.2.2.2.2.2.2).warm hW, hDc.weaken (fun _ _ _ _ => trivial)⟩, hXs.go hW (fun a h1 h2 => by rw [hU]; exact hS.2.1 a h1 h2) hFc⟩⟩ rfl hlen hl.1 rfl (lv_room hsum) hdg ⟨hce, hsl⟩) hS (fun q _ h => hFc q h) hFc (fun w1 t H1 locs1 ht hvm hw hB hz1 hk1 hS1 => ?_)
  obtain ⟨hP1, hK1, hD1⟩ := hB
  rw [ht] at hP1
  obtain ⟨hP2, hD2⟩ := va_join (wr := wr) (w1 := w1) hP hD isC isR hC hR hn hdis hk1 hFc hP1 hD1
  exact kk w1 hw H1 locs1 la hP2 hD2 hS1 hl
theorem ax_callVrX (C : ax_C p s m args meth c cc own nL ret D kA A) (hXs : ax_X A s s.heap) {idx n : Nat} {y : MethodName} {cc2 : ByteArray} {nL2 : Nat} {ret2 : FieldType} {fr lo mc2 ms2 : Nat} {b : Nat} {As : List Value} {wc : va_W} {post : Nat → va_W → Prop} (hM : ax_MrX l D kA y cc2 nL2 ret2 fr lo mc2 ms2 (.ref b :: As) wc post) (L : ax_LV own idx y cc2 nL2 (some ret2) n) (q0 : Nat) {ci : Nat} {fs : List Value} {r : vw_C} (he : ws[q0]? = some (b, .inr (ci, fs))) (hc : ax_cl[ci]? = some r) (hrc : r.1 = y.cls) (hdg : decode cc pc = .ok (.invokevirtual idx, 3)) (hst : st = As.reverse ++ .ref b :: rest) (hlen : As.length = n) (isC isR : List Nat) {wr : va_W} (hC : isC.map (fun i => ws[i]?) = wc.map some) (hnC : va_nd isC = true) (hR : isR.map (fun i => ws[i]?) = wr.map some) (hn : va_nd isR = true) (hdis : ∀ i ∈ isR, i ∉ isC) (hfr : fr + 1 ≤ R.frames) (hlo : 8 + (nL2 + 11) + lo ≤ R.locals) (hce : cells + mc2 ≤ R.cells) (hsl : slots + ms2 ≤ R.slots) (hsum : (rest.map fun v => v.category).sum ≤ 8)
    (kk : ∀ (ra : Nat) (w1 : va_W), post ra w1 → AW p l e R s m args below meth c D kA A nL Q (pc + 3) (ls) (.ref ra :: rest) (wr ++ w1) (cells + mc2) (slots + ms2)) : AW p l e R s m args below meth c D kA A nL Q (pc) (ls) (st) (ws) (cells) (slots) := fun H locs la hP hD hS hl => by
  subst hst
  have hFc := va_free (wc := wc) hD hS C.2.2.2.2.2.2.1 isC hC
  have hPc := hP.sub isC (ax_fm hC)
  have hDc := hD.sub isC hnC hC
  refine va_callr (va_runV (As := As) (rest := rest) ⟨C.1, C.2.1, C.2.2.1, C.2.2.2.1, C.2.2.2.2.1⟩ (hM H.size) (cwV n C.2.2.2.2.1 L.1 rfl rfl rfl L.2 ⟨hfr, hlo⟩) ⟨ax_blindX, (by rw [← hrc]; exact va_recv C.2.2.2.2.2.1 hP hc he), fun U hU hW => ⟨⟨rfl, by rw [hU], by rw [hU]; exact hPc, va_K.moved hW.alike C.2.2.2.2.2.1, (C.2.2.2.2.2.2.2.2.2).warm hW, hDc.weaken (fun _ _ _ _ => trivial)⟩, hXs.go hW (fun a h1 h2 => by rw [hU]; exact hS.2.1 a h1 h2) hFc⟩⟩ rfl hlen hl.1 rfl (lv_room hsum) hdg ⟨hce, hsl⟩) hS (fun q _ h => hFc q h) hFc (fun u1 ra t H1 locs1 ht hvm hw hB hz1 hk1 hS1 => ?_)
  obtain ⟨ra1, w1⟩ := u1
  obtain ⟨he1, hP1, hK1, hD1⟩ := hB
  dsimp only at he1 hP1 hD1 hw
  subst he1
  rw [ht] at hP1
  obtain ⟨hP2, hD2⟩ := va_join (wr := wr) (w1 := w1) hP hD isC isR hC hR hn hdis hk1 hFc hP1 hD1
  exact kk ra1 w1 hw H1 locs1 la hP2 hD2 hS1 hl
theorem ax_aload_nN (C : ax_C p s m args meth c cc own nL ret D kA A) {k : Fin 4} {i : Nat} (hdg : decode cc pc = .ok (.aload_n k, 1)) (hi : (k : Nat) = i) (j : Nat) (hj : ls[j]? = some (i, .null)) (k : AW p l e R s m args below meth c D kA A nL Q (pc + 1) (ls) (.null :: st) (ws) (cells) (slots)) : AW p l e R s m args below meth c D kA A nL Q (pc) (ls) (st) (ws) (cells) (slots) := fun H locs la hP hD hS hl => lv_aload_nN C.1 C.2.1 hdg hi (lv_at hl j hj) (k H locs la hP hD hS hl)
theorem ax_gets (C : ax_C p s m args meth c cc own nL ret D kA A) {Cn n d : String} {index : Nat} (hZ : ax_ZL Cn n d A s s.heap) (hini : Cond.initialized Cn ∈ lw_tbg) (hlink : Cond.fieldLink own index Cn n d ∈ lw_tbg) (hdg : decode cc pc = .ok (.getstatic index, 3)) (k : ∀ v : Value, v.isRef = true → AW p l e R s m args below meth c D kA A nL Q (pc + 3) (ls) (v :: st) (ws) (cells) (slots)) : AW p l e R s m args below meth c D kA A nL Q (pc) (ls) (st) (ws) (cells) (slots) := fun H locs la hP hD hS hl => by
  obtain ⟨c9, k9, i9, f9, a9, cell9, v, h1, h2, h3, h4, h5, h6, h7, h8, h9, h10, h11, h12⟩ := hZ
  exact va_gets C.1 C.2.1 (v := v) (C := Cn) ⟨c9, k9, i9, f9, a9, cell9, h2, h3, Cond.initialized_spec h1 (State.fieldFound?_spec h2).1 (C.2.2.2.2.1 _ hini), h4, h5, h6, h10, h12⟩ hS C.2.2.2.1 (C.2.2.2.2.1 _ hlink) (fun _ h => h) hdg (k v h11 H locs la hP hD hS hl)
end XRL
/-- the contract of a method with handlers -/
def ax_Mvw (l : Launch) (D : va_G) (kA : Nat → ClassId) (y : MethodName) (cc : ByteArray) (nL : Nat) (hh : List (Nat × Nat × Nat × Nat)) (fr lo mc ms : Nat) (As : List Value) (w0 : va_W) (post : va_W → Prop) : Prop :=
  ∀ sz : Nat, Met l y (ax_WSw y cc nL none hh) ({ frames := fr, cells := mc, slots := ms, locals := lo }) (ax_Pre D kA As w0 sz) (va_Qv post (ax_B D kA w0 sz) (va_A w0 sz)) mc ms (va_A w0 sz)
theorem ax_Mvw.of {l : Launch} {D : va_G} {kA : Nat → ClassId} {y : MethodName} {cc : ByteArray} {nL : Nat} {hh : List (Nat × Nat × Nat × Nat)} {fr lo mc ms : Nat} {As : List Value} {w0 : va_W} {post : va_W → Prop} (hy : plainName y.cls = true) (hlen : (lg_sl As).length ≤ nL)
    (body : ∀ (p : Program) (e : Env) (s : State) (m : MethodId) (args : Array Value) (below : List Frame) (meth : Method) (c : Code), ax_C p s m args meth c cc y.cls nL none D kA (va_A w0 s.heap.size) → l.admits e → s.vm.method? m = some meth → meth.code = some c → c.exceptionTable.toList = tableOf hh →
      AW p l e { frames := fr, cells := mc, slots := ms, locals := lo } s m args below meth c D kA (va_A w0 s.heap.size) nL (ax_Qv below args s D kA w0 mc ms post) 0 (lv_args 0 As) [] w0 0 0) : ax_Mvw l D kA y cc nL hh fr lo mc ms As w0 post := by
  intro sz
  refine va_MetW (cc := cc) (maxL := nL) (ret := none) (hh := hh) hy rfl ?_
  intro p e s m args below meth c s₁ B hml hv
  obtain ⟨rfl, hsz, hP, hK, hN, hD0⟩ := hv
  subst hsz
  have C : ax_C p s m As.toArray meth c cc y.cls nL none D kA (va_A w0 s.heap.size) := ⟨B.exec, B.bytes, hml, findClass_of_methodNamed B.named, fun w hw => atoms_spec (ws := ax_WSw y cc nL none hh) B.pre w (List.mem_cons_of_mem _ hw), hK, fun q h => Or.inr h, B.notSynchronized, B.returns, hN⟩
  have hl := lv_entry As hlen
  have X0 := Stand.of_body B
  obtain ⟨m9, meth9, c9, hn9, h1, h2, h3, h4, h5, -⟩ := Cond.codeWith_spec (atoms_spec (ws := ax_WSw y cc nL none hh) B.pre _ List.mem_cons_self)
  obtain rfl := Option.some.inj (B.named.symm.trans hn9)
  obtain rfl := Option.some.inj (B.method.symm.trans h1)
  obtain rfl := Option.some.inj (X0.code.symm.trans h2)
  rw [lg_entry_eq]
  exact body p e s m _ below meth c C X0.admits B.method X0.code (by rw [← h5, table_eq]) s.heap [] _ hP (hD0.self) va_S.rf hl
def ax_LVvw (own : String) (idx : Nat) (y : MethodName) (cc : ByteArray) (nL : Nat) (hh : List (Nat × Nat × Nat × Nat)) (n : Nat) : Prop := GoodIn lw_tbg (wsV own idx y.cls y (ax_WSw y cc nL none hh)) ∧ (y.cls ≠ "java/lang/invoke/MethodHandle" ∧ y.cls ≠ "java/lang/invoke/VarHandle" ∧ (parseMethodDescriptor y.desc).map (fun d => d.parameters.length) = some n)
theorem ax_LVvw.mk {own : String} {idx : Nat} {y : MethodName} {cc : ByteArray} {nL : Nat} {hh : List (Nat × Nat × Nat × Nat)} {n : Nat} (h1 : Cond.methodLink own idx y ∈ lw_tbg) (h2 : Cond.instanceMethod y ∈ lw_tbg) (h3 : Cond.selects y.cls y y ∈ lw_tbg) (h4 : Cond.initialized y.cls ∈ lw_tbg) (h5 : Cond.codeWith y cc nL none hh ∈ lw_tbg) (hd : y.cls ≠ "java/lang/invoke/MethodHandle" ∧ y.cls ≠ "java/lang/invoke/VarHandle" ∧ (parseMethodDescriptor y.desc).map (fun d => d.parameters.length) = some n) : ax_LVvw own idx y cc nL hh n := by
  refine ⟨lw_goodIn fun w hw => ?_, hd⟩
  simp only [wsV, ax_WSw, List.mem_append, List.mem_cons, List.not_mem_nil, or_false] at hw
  rcases hw with (rfl | rfl | rfl | rfl) | rfl | hw
  all_goals assumption
section WRW
variable {p : Program} {l : Launch} {e : Env} {R : Room} {s : State} {m : MethodId} {args : Array Value} {below : List Frame} {meth : Method} {c : Code} {Q : State → Prop} {D : va_G} {kA : Nat → ClassId} {A : Nat → Prop} {nL : Nat} {cc : ByteArray} {own : String} {ret : Option FieldType} {pc cells slots : Nat} {ls : List (Nat × Value)} {st rest : List Value} {ws : va_W}
theorem ax_callVvw (C : ax_C p s m args meth c cc own nL ret D kA A) {idx n : Nat} {y : MethodName} {cc2 : ByteArray} {nL2 : Nat} {hh : List (Nat × Nat × Nat × Nat)} {fr lo mc2 ms2 : Nat} {b : Nat} {As : List Value} {wc : va_W} {post : va_W → Prop} (hM : ax_Mvw l D kA y cc2 nL2 hh fr lo mc2 ms2 (.ref b :: As) wc post) (L : ax_LVvw own idx y cc2 nL2 hh n) (q0 : Nat) {ci : Nat} {fs : List Value} {r : vw_C} (he : ws[q0]? = some (b, .inr (ci, fs))) (hc : ax_cl[ci]? = some r) (hrc : r.1 = y.cls) (hdg : decode cc pc = .ok (.invokevirtual idx, 3)) (hst : st = As.reverse ++ .ref b :: rest) (hlen : As.length = n)
    (isC isR : List Nat) {wr : va_W} (hC : isC.map (fun i => ws[i]?) = wc.map some) (hnC : va_nd isC = true) (hR : isR.map (fun i => ws[i]?) = wr.map some) (hn : va_nd isR = true) (hdis : ∀ i ∈ isR, i ∉ isC) (hfr : fr + 1 ≤ R.frames) (hlo : 8 + (nL2 + 11) + lo ≤ R.locals) (hce : cells + mc2 ≤ R.cells) (hsl : slots + ms2 ≤ R.slots) (hsum : (rest.map fun v => v.category).sum ≤ 8)
    (kk : ∀ (w1 : va_W), post w1 → AW p l e R s m args below meth c D kA A nL Q (pc + 3) (ls) (rest) (wr ++ w1) (cells + mc2) (slots + ms2)) : AW p l e R s m args below meth c D kA A nL Q (pc) (ls) (st) (ws) (cells) (slots) := fun H locs la hP hD hS hl => by
  subst hst
  have hFc := va_free (wc := wc) hD hS C.2.2.2.2.2.2.1 isC hC
  have hPc := hP.sub isC (ax_fm hC)
  have hDc := hD.sub isC hnC hC
  have ok : ∀ w ∈ wsV own idx y.cls y (ax_WSw y cc2 nL2 none hh), w.before args s = true := fun w h => C.2.2.2.2.1 w (L.1 w h).1
  have hlink : (Cond.methodLink own idx y).before args s = true := ok _ (by simp [wsV])
  have hin : (Cond.instanceMethod y).before args s = true := ok _ (by simp [wsV])
  have hse : (Cond.selects y.cls y y).before args s = true := ok _ (by simp [wsV])
  have hini : (Cond.initialized y.cls).before args s = true := ok _ (by simp [wsV])
  have hcode : (Cond.codeWith y cc2 nL2 none hh).before args s = true := ok _ (by simp [wsV, ax_WSw])
  have hws := pay_in C.2.2.2.2.1 (fun w h => L.1 w (by unfold wsV; exact List.mem_append_right _ h))
  have hblind : FrameBlind (ax_Pre D kA (.ref b :: As) wc H.size) := ax_blind
  have hK : Back l R p e below s args y 3 8 (PreOf R mc2 ms2 (ax_Pre D kA (.ref b :: As) wc H.size)) (PostOf (va_Qv post (ax_B D kA wc H.size) (va_A wc H.size)) mc2 ms2 (va_A wc H.size)) := va_backW (bytes := cc2) (maxL := nL2) (ret := none) (hh := hh) (hM H.size) hblind rfl rfl hfr hlo hws List.mem_cons_self (fun a' U hW => word_at hW (Or.inl rfl) hini)
  have hrun : va_Run p l e R s m args below meth c H locs cells slots mc2 ms2 (F0 m pc la (As.reverse ++ .ref b :: rest)) rest (va_Qv post (ax_B D kA wc H.size) (va_A wc H.size) (Value.ref b :: As).toArray) (va_A wc H.size) := by
    intro T hT X
    obtain ⟨mk, methM, hnamed, hmethM, hstM, habM⟩ := Cond.instanceMethod_spec hin
    obtain ⟨mk9, methM9, cM9, hn9, hm9, -, -, -, -, -, -, hsigM⟩ := Cond.codeWith_spec hcode
    obtain rfl := Option.some.inj (hnamed.symm.trans hn9)
    obtain rfl := Option.some.inj (hmethM.symm.trans hm9)
    obtain ⟨cellB, hcB, hoB, hclB⟩ := va_recv C.2.2.2.2.2.1 hP hc he
    rw [hrc] at hclB
    obtain ⟨c2, r2, m2, q1, q2, q3, q4, kP, hkP, hkPi⟩ := Cond.selects_spec hse
    obtain rfl := Option.some.inj (hclB.symm.trans q1)
    obtain rfl := Option.some.inj ((State.methodFound?_of_named hnamed ⟨L.2.1, L.2.2.1⟩).symm.trans q2)
    obtain rfl := Option.some.inj (hnamed.symm.trans q3)
    have hselP : selectMethod e.platform s.vm cellB.cls mk = .method mk := by rw [Launch.admits_selectMethod X.admits]; exact q4
    have hn2 : As.length = methM.sig.parameters.length := by
      have h9 := L.2.2.2
      rw [hsigM] at h9
      rw [hlen]
      exact (Option.some.inj h9).symm
    obtain ⟨vm₁, X₁, hstep₁⟩ := X.invokevirtual C.1 C.2.2.2.1 hlink hnamed hmethM hstM hkP hkPi ⟨L.2.1, L.2.2.1⟩ (a := b) (cell := cellB) (by rw [hT]; exact hcB)
      (fun z h => by rw [h] at hoB; cases hoB) hselP hmethM habM hkP hkPi (g := F0 m pc la (As.reverse ++ .ref b :: rest)) rfl (argsL := As) (rest := rest) hn2 rfl (by rw [C.2.1]; exact hdg)
    obtain ⟨v, ⟨U', l2, c2, s2⟩, X', ⟨g', mk', t, L2, e1, e2, hq, h1, hL, h2, h3⟩, hsteps⟩ := hK m meth c ⟨T.setVm vm₁, locs, cells, slots⟩ (F0 m pc la rest) (.invokevirtual idx) mk (Value.ref b :: As).toArray X₁ rfl (by rw [C.2.2.1]; exact hl.1) (by rw [C.2.1]; exact hdg) (lv_room hsum) (X₁.named hnamed) ⟨hce, hsl, by
      have hW := X₁.warmed
      exact ⟨rfl, by show T.heap.size = _; rw [hT], by show va_P _ _ _ T.heap; rw [hT]; exact hPc, va_K.moved hW.alike C.2.2.2.2.2.1, (C.2.2.2.2.2.2.2.2.2).warm hW, hDc.weaken (fun _ _ _ _ => trivial)⟩⟩
    dsimp only [Pt.U, Pt.locs, Pt.cells, Pt.slots] at X' e1 e2 h1 h2 h3 hsteps
    subst h1; subst h2; subst h3
    exact ⟨v, (T.setVm vm₁).calling g' mk' (Value.ref b :: As).toArray, t, U', L2, hT, X', hL, e1, e2, hq, fun target h => hstep₁ _ fun acts => by rw [doInvoke_state]; exact hsteps.trans h⟩
  refine va_callv hrun hS (fun q _ h => hFc q h) hFc (fun w1 t H1 locs1 ht hvm hw hB hz1 hk1 hS1 => ?_)
  obtain ⟨hP1, hK1, hD1⟩ := hB
  rw [ht] at hP1
  obtain ⟨hP2, hD2⟩ := va_join (wr := wr) (w1 := w1) hP hD isC isR hC hR hn hdis hk1 hFc hP1 hD1
  exact kk w1 hw H1 locs1 la hP2 hD2 hS1 hl
end WRW
def ax_Myw (l : Launch) (D : va_G) (kA : Nat → ClassId) (y : MethodName) (cc : ByteArray) (nL : Nat) (hh : List (Nat × Nat × Nat × Nat)) (ret : Option FieldType) (fr lo mc ms : Nat) (As : List Value) (w0 : va_W) (cls : String) (post : Nat → va_W → Prop) : Prop :=
  ∀ sz : Nat, MetFree l y (headSpec (ax_WSw y cc nL ret hh) ({ frames := fr, cells := mc, slots := ms, locals := lo })) (ax_PreX D kA As w0 sz) (fun _ _ _ _ _ => True) (fun _ st o t => ax_Qy D kA w0 sz mc ms cls post st o t)
theorem ax_Myw.of {l : Launch} {D : va_G} {kA : Nat → ClassId} {y : MethodName} {cc : ByteArray} {nL : Nat} {hh : List (Nat × Nat × Nat × Nat)} {ret : Option FieldType} {fr lo mc ms : Nat} {As : List Value} {w0 : va_W} {cls : String} {post : Nat → va_W → Prop} (hy : plainName y.cls = true) (hlen : (lg_sl As).length ≤ nL)
    (body : ∀ (p : Program) (e : Env) (s : State) (m : MethodId) (args : Array Value) (below : List Frame) (meth : Method) (c : Code), ax_C p s m args meth c cc y.cls nL ret D kA (va_A w0 s.heap.size) → l.admits e → s.vm.method? m = some meth → meth.code = some c → c.exceptionTable.toList = tableOf hh → ax_X (va_A w0 s.heap.size) s s.heap →
      AW p l e { frames := fr, cells := mc, slots := ms, locals := lo } s m args below meth c D kA (va_A w0 s.heap.size) nL (ax_QY below s D kA w0 mc ms cls post) 0 (lv_args 0 As) [] w0 0 0) : ax_Myw l D kA y cc nL hh ret fr lo mc ms As w0 cls post := by
  intro sz
  refine MetFree.of_bodyS (code := cc) (maxLocals := nL) (ret := ret) hy ?_ ?_
  · intro args s m h hn
    obtain ⟨m9, meth, c, hn9, h1, h2, h3, h4, h5, h6, h7, h8⟩ := Cond.codeWith_spec (atoms_spec (ws := ax_WSw y cc nL ret hh) h _ List.mem_cons_self)
    obtain rfl := Option.some.inj (hn.symm.trans hn9)
    exact ⟨meth, c, h1, h2, h3, h4, h6, h7⟩
  · intro p e s m args below meth c s₁ B hml hv _
    obtain ⟨⟨rfl, hsz, hP, hK, hN, hD0⟩, hX⟩ := hv
    subst hsz
    have C : ax_C p s m As.toArray meth c cc y.cls nL ret D kA (va_A w0 s.heap.size) := ⟨B.exec, B.bytes, hml, findClass_of_methodNamed B.named, fun w hw => atoms_spec (ws := ax_WSw y cc nL ret hh) B.pre w (List.mem_cons_of_mem _ hw), hK, fun q h => Or.inr h, B.notSynchronized, B.returns, hN⟩
    have hl := lv_entry As hlen
    have hh0 : s₁.heap = s.heap := by rw [B.state]; rfl
    have X0 := Stand.of_body B
    obtain ⟨m9, meth9, c9, hn9, h1, h2, h3, h4, h5, -⟩ := Cond.codeWith_spec (atoms_spec (ws := ax_WSw y cc nL ret hh) B.pre _ List.mem_cons_self)
    obtain rfl := Option.some.inj (B.named.symm.trans hn9)
    obtain rfl := Option.some.inj (B.method.symm.trans h1)
    obtain rfl := Option.some.inj (X0.code.symm.trans h2)
    have hbody := body p e s m _ below meth c C X0.admits B.method X0.code (by rw [← h5, table_eq]) hX s.heap [] _ hP (hD0.self) va_S.rf hl
    rw [← lg_entry_eq] at hbody
    obtain ⟨t, a1, o, b1, b2, b3⟩ := hbody s₁ hh0 X0
    exact ⟨t, o, a1, b1, b2, b3⟩
section XTW
variable {p : Program} {l : Launch} {e : Env} {R : Room} {s : State} {m : MethodId} {args : Array Value} {below : List Frame} {meth : Method} {c : Code} {Q : State → Prop} {D : va_G} {kA : Nat → ClassId} {A : Nat → Prop} {nL : Nat} {cc : ByteArray} {own : String} {ret : Option FieldType} {pc cells slots : Nat} {ls : List (Nat × Value)} {st rest : List Value} {ws : va_W}
variable {w0 : va_W} {mc ms : Nat} {cls : String}
theorem ax_callVpw (C : ax_C p s m args meth c cc own nL ret D kA (va_A w0 s.heap.size)) (hXs : ax_X (va_A w0 s.heap.size) s s.heap) (hout : ∀ x ∈ c.exceptionTable.toList, covers x pc = false) {idx n : Nat} {y : MethodName} {cc2 : ByteArray} {nL2 : Nat} {hh : List (Nat × Nat × Nat × Nat)} {fr lo mc2 ms2 : Nat} {b : Nat} {As : List Value} {wc : va_W} {post post2 : Nat → va_W → Prop} (hM : ax_Myw l D kA y cc2 nL2 hh none fr lo mc2 ms2 (.ref b :: As) wc cls post) (L : ax_LVvw own idx y cc2 nL2 hh n) (q0 : Nat) {ci : Nat} {fs : List Value} {r : vw_C} (he : ws[q0]? = some (b, .inr (ci, fs))) (hc : ax_cl[ci]? = some r) (hrc : r.1 = y.cls) (hdg : decode cc pc = .ok (.invokevirtual idx, 3)) (hst : st = As.reverse ++ .ref b :: rest) (hlen : As.length = n)
    (isC isR : List Nat) {wr : va_W} (hC : isC.map (fun i => ws[i]?) = wc.map some) (hnC : va_nd isC = true) (hR : isR.map (fun i => ws[i]?) = wr.map some) (hn : va_nd isR = true) (hdis : ∀ i ∈ isR, i ∉ isC) (hfr : fr + 1 ≤ R.frames) (hlo : 8 + (nL2 + 11) + lo ≤ R.locals) (hce : cells + mc2 ≤ R.cells) (hsl : slots + ms2 ≤ R.slots) (hsum : (rest.map fun v => v.category).sum ≤ 8)
    (hcm : cells + mc2 ≤ mc) (hsm : slots + ms2 ≤ ms) (hRc : mc ≤ R.cells) (hRs : ms ≤ R.slots) (kk : ∀ (x : Nat) (w1 : va_W), post x w1 → post2 x (wr ++ w1)) : AW p l e R s m args below meth c D kA (va_A w0 s.heap.size) nL (ax_QY below s D kA w0 mc ms cls post2) (pc) (ls) (st) (ws) (cells) (slots) := fun H locs la hP hD hS hl => by
  subst hst
  have hFc := va_free (wc := wc) hD hS C.2.2.2.2.2.2.1 isC hC
  have hPc := hP.sub isC (ax_fm hC)
  have hDc := hD.sub isC hnC hC
  have ok : ∀ w ∈ wsV own idx y.cls y (ax_WSw y cc2 nL2 none hh), w.before args s = true := fun w h => C.2.2.2.2.1 w (L.1 w h).1
  have hl2 : (Cond.methodLink own idx y).before args s = true := ok _ (by simp [wsV])
  have hin : (Cond.instanceMethod y).before args s = true := ok _ (by simp [wsV])
  have hse : (Cond.selects y.cls y y).before args s = true := ok _ (by simp [wsV])
  have hini : (Cond.initialized y.cls).before args s = true := ok _ (by simp [wsV])
  have hcode : (Cond.codeWith y cc2 nL2 none hh).before args s = true := ok _ (by simp [wsV, ax_WSw])
  have hws := pay_in C.2.2.2.2.1 (fun w h => L.1 w (by unfold wsV; exact List.mem_append_right _ h))
  have hy : y.cls ≠ "java/lang/invoke/MethodHandle" ∧ y.cls ≠ "java/lang/invoke/VarHandle" := ⟨L.2.1, L.2.2.1⟩
  refine W.widen (k := mc - mc2) (n := ms - ms2) (by omega) (by omega) ?_
  intro T hT X
  obtain ⟨mk, methM, hnamed, hmethM, hstM, habM⟩ := Cond.instanceMethod_spec hin
  obtain ⟨mk9, methM9, cM9, hn9, hm9, -, -, -, -, -, -, hsigM⟩ := Cond.codeWith_spec hcode
  obtain rfl := Option.some.inj (hnamed.symm.trans hn9)
  obtain rfl := Option.some.inj (hmethM.symm.trans hm9)
  have hn2 : As.length = methM.sig.parameters.length := by
    have h9 := L.2.2.2
    rw [hsigM] at h9
    rw [hlen]
    exact (Option.some.inj h9).symm
  obtain ⟨cellB, hcB, hoB, hclB⟩ := va_recv C.2.2.2.2.2.1 hP hc he
  rw [hrc] at hclB
  obtain ⟨c2, r2, m2, q1, q2, q3, q4, kP, hkP, hkPi⟩ := Cond.selects_spec hse
  obtain rfl := Option.some.inj (hclB.symm.trans q1)
  obtain rfl := Option.some.inj ((State.methodFound?_of_named hnamed hy).symm.trans q2)
  obtain rfl := Option.some.inj (hnamed.symm.trans q3)
  have hselP : selectMethod e.platform s.vm cellB.cls mk = .method mk := by rw [Launch.admits_selectMethod X.admits]; exact q4
  obtain ⟨vm₁, X₁, hstep₁⟩ := X.invokevirtual C.1 C.2.2.2.1 hl2 hnamed hmethM hstM hkP hkPi hy (a := b) (cell := cellB) (by rw [hT]; exact hcB)
    (fun z h => by rw [h] at hoB; cases hoB) hselP hmethM habM hkP hkPi (g := F0 m pc la (As.reverse ++ .ref b :: rest)) rfl (argsL := As) (rest := rest) hn2 rfl (by rw [C.2.1]; exact hdg)
  have hcodeU : (Cond.codeWith y cc2 nL2 none hh).before (Value.ref b :: As).toArray (T.setVm vm₁) = true := hws _ List.mem_cons_self _ _ X₁.warmed
  have hiniU : (Cond.initialized y.cls).before (Value.ref b :: As).toArray (T.setVm vm₁) = true := word_at X₁.warmed (Or.inl rfl) hini
  have hnU : (T.setVm vm₁).methodNamed? y = some mk := X₁.named hnamed
  obtain ⟨mk8, methY, cY, hn8, hmY, hcY, -, hlY, -, -, -, -⟩ := Cond.codeWith_spec hcodeU
  obtain rfl := Option.some.inj (hnU.symm.trans hn8)
  obtain ⟨kY, hkY, -⟩ := className_of_methodNamed hnU
  have hinitY : kY.init = .initialized := Cond.initialized_spec (findClass_of_methodNamed hnU) hkY hiniU
  have hpre : (headSpec (ax_WSw y cc2 nL2 none hh) ({ frames := fr, cells := mc2, slots := ms2, locals := lo })).pre.before (Value.ref b :: As).toArray (T.setVm vm₁) = true := atoms_intro fun w hw => hws w hw _ _ X₁.warmed
  have happ : (headSpec (ax_WSw y cc2 nL2 none hh) ({ frames := fr, cells := mc2, slots := ms2, locals := lo })).appliesLoose y e.platform ((T.setVm vm₁).calling (F0 m pc la rest) mk (Value.ref b :: As).toArray) = true :=
    Spec.appliesLoose_calling (g := F0 m pc la rest) X₁.here (by rw [C.2.1]; exact hdg) hnU hkY hinitY (X₁.room_calling (g := F0 m pc la rest) (R' := { frames := fr, cells := mc2, slots := ms2, locals := lo }) (by rw [C.2.2.1]; exact hl.1) hmY hcY hfr (by rw [hlY]; have h9 := lv_room (m := m) (pc := pc) (ls := la) (rest := rest) hsum; dsimp only at h9 ⊢; omega) (by dsimp only; omega) (by dsimp only; omega)) hpre
  obtain ⟨g₀, hfeq⟩ := X₁.frames_eq
  have hfrs : ((T.setVm vm₁).setTop (F0 m pc la rest)).frames = [.java (F0 m pc la rest)] ++ below := by
    rw [State.frames_setTop' _ X₁.here.top, hfeq]; rfl
  have hPre : ax_PreX D kA (.ref b :: As) wc H.size (Value.ref b :: As).toArray ((T.setVm vm₁).calling (F0 m pc la rest) mk (Value.ref b :: As).toArray) := by
    have hW := X₁.warmed
    refine ⟨ax_blind _ (T.setVm vm₁) _ _ ⟨rfl, by show T.heap.size = _; rw [hT], by show va_P _ _ _ T.heap; rw [hT]; exact hPc, va_K.moved hW.alike C.2.2.2.2.2.1, (C.2.2.2.2.2.2.2.2.2).warm hW, hDc.weaken (fun _ _ _ _ => trivial)⟩, ?_⟩
    refine ax_X.same (s := T.setVm vm₁) ?_ rfl
    show ax_X _ (T.setVm vm₁) T.heap
    rw [hT]
    exact hXs.go hW (fun a h1 h2 => hS.2.1 a h1 h2) (fun q h => hFc q h)
  obtain ⟨oc, s₂, hsteps, -, hend, x, ce, L2, w1, rfl, hW2, hsame2, hL2, hx1, hx2, hx3, hw1, ⟨hP1, hK1, hD1⟩, hz1, hk1⟩ := Steps.callFree (hM H.size) p X.admits X.cas X.clock (acts := []) hfrs happ hPre trivial
  rw [hfrs] at hend
  obtain ⟨T', X', hWT, -, ht⟩ := X₁.outOfThrown (g := F0 m pc la rest) rfl (mk := mk) (a := (Value.ref b :: As).toArray) hend hW2 hsame2
  have hheap : T'.heap = s₂.heap := by rw [ht, Stand.throwing_heap]
  have hvm : T'.vm = s₂.vm := by rw [ht, Stand.throwing_vm]
  have hk2 : ∀ q : Nat, q < H.size → ¬ va_A wc H.size q → s₂.heap[q]? = H[q]? := fun q h1 h2 => by
    have h3 := hk1 q (by show q < T.heap.size; rw [hT]; exact h1) h2
    rw [h3]
    show T.heap[q]? = _
    rw [hT]
  have hz2 : H.size ≤ s₂.heap.size := by
    have h3 : T.heap.size ≤ s₂.heap.size := hz1
    rw [hT] at h3; exact h3
  obtain ⟨hP2, hD2⟩ := va_join (wr := wr) (w1 := w1) hP hD isC isR hC hR hn hdis hk2 hFc hP1 hD1
  obtain ⟨hwalk, hrun, hended, hWU, hsame⟩ := X'.leaveThrown x (g := F0 m pc la rest) rfl rfl rfl hout C.2.2.2.2.2.2.2.1
  have hmc9 : mc - mc2 + mc2 = mc := by omega
  have hms9 : ms - ms2 + ms2 = ms := by omega
  rw [hmc9, hms9] at hsame
  refine ⟨_, hstep₁ _ (fun acts => ?_), .threw x, hrun, hended, x, ce, locs ++ L2, wr ++ w1, rfl, hWU, hsame, fun q hq => ?_, ?_, hx2, by rw [← X₁.warmed.alike.findClass]; exact hx3, kk x w1 hw1, ⟨?_, va_K.moved hWU.alike C.2.2.2.2.2.1, hD2⟩, ?_, ?_⟩
  · rw [doInvoke_state]
    refine hsteps.trans ?_
    rw [ht]
    exact hwalk
  · rcases List.mem_append.mp hq with h | h
    · exact hS.2.2 q h
    · exact hFc _ (hL2 q h)
  · show T'.heap[x]? = _; rw [hheap]; exact hx1
  · show va_P D ax_cl _ T'.heap; rw [hheap]; exact hP2
  · show s.heap.size ≤ T'.heap.size; rw [hheap]; exact Nat.le_trans hS.1 hz2
  · intro a h1 h2
    show T'.heap[a]? = _
    rw [hheap]
    exact (hk2 a (Nat.lt_of_lt_of_le h1 hS.1) (fun z => h2 (hFc a z))).trans (hS.2.1 a h1 h2)
end XTW
