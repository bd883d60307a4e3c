/-! the law's small methods: each with a table of handlers -/
section WRP
variable {p : Program} {l : Launch} {e : Env} {R : Room} {s : State} {m : MethodId} {args : Array Value} {below : List Frame} {meth : Method} {c : Code} {Q : State → Prop} {D : va_G} {kA : Nat → ClassId} {A : Nat → Prop} {nL : Nat} {cc : ByteArray} {own : String} {ret : Option FieldType} {pc cells slots : Nat} {ls : List (Nat × Value)} {st rest : List Value} {ws : va_W}
/-- a catch type is resolved: the tables noted -/
theorem cx_res {e : Env} {s T : State} {m : MethodId} {args : Array Value} {l : Launch} (hadm : l.admits e) {own cls : String} {index : Nat} (hW : s.WarmedH T.vm) (hown : s.vm.findClass own = some m.cls) (hcl : (Cond.classLink own index cls).before args s = true) : ∃ (cX : ClassId) (vm' : Vm), s.vm.findClass cls = some cX ∧ (Jvm.resolveClass m.cls index).Gives e.toSetting T.vm (.ok cX) vm' ∧ s.WarmedH vm' ∧ vm'.classes.size ≤ T.vm.classes.size := by
  have hpl : e.platform.magicAccessors = ({} : Platform).magicAccessors := by rw [hadm.platform]
  obtain ⟨cX, hfc, hlk⟩ := Cond.classLink_spec hown hcl e.platform hpl
  obtain ⟨hg₁, hwarm₁, hready₁⟩ := State.classEntry (e := e) hW hlk
  exact ⟨cX, _, hfc, hg₁, hwarm₁, by no_record⟩
theorem cx_F1 {e : Env} {s : State} {m : MethodId} {args : Array Value} {l : Launch} {meth : Method} {c : Code} (hadm : l.admits e) (hmeth : s.vm.method? m = some meth) (hcode : meth.code = some c) {own cls : String} (hown : s.vm.findClass own = some m.cls) {a0 b0 hpc index pc : Nat} {rest : List ExceptionTableEntry} (htb : c.exceptionTable.toList = ⟨a0, b0, hpc, index⟩ :: rest) (hcov : a0 ≤ pc ∧ pc < b0) (hi : index ≠ 0) (hcl : (Cond.classLink own index cls).before args s = true) : cx_F e s m pc cls hpc := by
  intro T g x ce hW hg hpc2 hx hvm hcc
  obtain ⟨cX, vm', hfc, hgv, hWv, hsz⟩ := cx_res hadm hW hown hcl
  obtain rfl := Option.some.inj (hfc.symm.trans hcc)
  refine ⟨vm', hWv, fun Q E d acts hq => ?_⟩
  have hm2 : ((T.setTop g).pushFrame (.throwing x)).vm.method? g.method = some meth := by rw [Stand.throwing_vm, hg, hW.alike.method?]; exact hmeth
  rw [W.findHandler_eq hm2 hcode, htb]
  obtain ⟨k, hk⟩ := Vm.classAt_of_findClass (show vm'.findClass cls = some ce.cls by rw [hWv.alike.findClass]; exact hcc)
  refine cx_yes (cell := ce) (by simp [covers, hpc2, hcov.1, hcov.2]) hi (by rw [Stand.throwing_vm, hg]; exact hgv) (by rw [Stand.throwing_vm]; exact hsz) (by rw [Stand.throwing_heap]; exact hx) (fun z h => by rw [hvm] at h; cases h) ⟨k, hk⟩ ⟨k, hk⟩ (va_asg _ _) hq
theorem cx_F2 {e : Env} {s : State} {m : MethodId} {args : Array Value} {l : Launch} {meth : Method} {c : Code} (hadm : l.admits e) (hmeth : s.vm.method? m = some meth) (hcode : meth.code = some c) {own cls cls0 : String} (hown : s.vm.findClass own = some m.cls) {a0 b0 hpc0 i0 a1 b1 hpc index pc : Nat} {rest : List ExceptionTableEntry} (htb : c.exceptionTable.toList = ⟨a0, b0, hpc0, i0⟩ :: ⟨a1, b1, hpc, index⟩ :: rest) (hcov0 : a0 ≤ pc ∧ pc < b0) (hcov : a1 ≤ pc ∧ pc < b1) (hi0 : i0 ≠ 0) (hi : index ≠ 0) (hcl0 : (Cond.classLink own i0 cls0).before args s = true) (hcl : (Cond.classLink own index cls).before args s = true) (hno : va_Nc cls cls0 s) : cx_F e s m pc cls hpc := by
  intro T g x ce hW hg hpc2 hx hvm hcc
  obtain ⟨c0, vm0, hfc0, hgv0, hWv0, hsz0⟩ := cx_res hadm hW hown hcl0
  obtain ⟨cX, vm', hfc, hgv, hWv, hsz⟩ := cx_res (T := T.setVm vm0) hadm hWv0 hown hcl
  obtain rfl := Option.some.inj (hfc.symm.trans hcc)
  refine ⟨vm', hWv, fun Q E d acts hq => ?_⟩
  have hm2 : ((T.setTop g).pushFrame (.throwing x)).vm.method? g.method = some meth := by rw [Stand.throwing_vm, hg, hW.alike.method?]; exact hmeth
  rw [W.findHandler_eq hm2 hcode, htb]
  obtain ⟨k, hk⟩ := Vm.classAt_of_findClass (show vm'.findClass cls = some ce.cls by rw [hWv.alike.findClass]; exact hcc)
  obtain ⟨k1, hk1⟩ := Vm.classAt_of_findClass (show vm0.findClass cls = some ce.cls by rw [hWv0.alike.findClass]; exact hcc)
  obtain ⟨k0, hk0⟩ := Vm.classAt_of_findClass (show vm0.findClass cls0 = some c0 by rw [hWv0.alike.findClass]; exact hfc0)
  obtain ⟨y1, y2, n1, n2, n3⟩ := hno
  obtain rfl := Option.some.inj (n1.symm.trans hcc)
  obtain rfl := Option.some.inj (n2.symm.trans hfc0)
  refine cx_no (cell := ce) (vm' := vm0) (by simp [covers, hpc2, hcov0.1, hcov0.2]) hi0 (by rw [Stand.throwing_vm, hg]; exact hgv0) (by rw [Stand.throwing_vm]; exact hsz0) (by rw [Stand.throwing_heap]; exact hx) (fun z h => by rw [hvm] at h; cases h) ⟨k1, hk1⟩ ⟨k0, hk0⟩ (by rw [hWv0.alike.assignable]; exact n3) ?_
  refine cx_yes (cell := ce) (vm' := vm') (by simp [covers, hpc2, hcov.1, hcov.2]) hi (by rw [hg]; exact hgv) hsz (by show ((T.setTop g).pushFrame (.throwing x)).heap[x]? = _; rw [Stand.throwing_heap]; exact hx) (fun z h => by rw [hvm] at h; cases h) ⟨k, hk⟩ ⟨k, hk⟩ (va_asg _ _) hq
end WRP
def ax_WSw (y : MethodName) (cc : ByteArray) (nL : Nat) (ret : Option FieldType) (hh : List (Nat × Nat × Nat × Nat)) : List Cond := .codeWith y cc nL ret hh :: lw_tbg
/-- the contract of a method with handlers -/
def ax_Mw (l : Launch) (D : va_G) (kA : Nat → ClassId) (y : MethodName) (cc : ByteArray) (nL : Nat) (hh : List (Nat × Nat × Nat × Nat)) (fr lo mc ms : Nat) (As : List Value) (w0 : va_W) (post : Int32 → va_W → Prop) : Prop :=
  ∀ sz : Nat, Met l y (ax_WSw y cc nL (some .int) hh) ({ frames := fr, cells := mc, slots := ms, locals := lo }) (ax_PreX D kA As w0 sz) (va_Qi post (ax_B D kA w0 sz) (va_A w0 sz)) mc ms (va_A w0 sz)
theorem ax_Mw.of {l : Launch} {D : va_G} {kA : Nat → ClassId} {y : MethodName} {cc : ByteArray} {nL : Nat} {hh : List (Nat × Nat × Nat × Nat)} {fr lo mc ms : Nat} {As : List Value} {w0 : va_W} {post : Int32 → va_W → Prop} (hy : plainName y.cls = true) (hlen : (lg_sl As).length ≤ nL)
    (body : ∀ (p : Program) (e : Env) (s : State) (m : MethodId) (args : Array Value) (below : List Frame) (meth : Method) (c : Code), ax_C p s m args meth c cc y.cls nL (some .int) D kA (va_A w0 s.heap.size) → l.admits e → s.vm.method? m = some meth → meth.code = some c → c.exceptionTable.toList = tableOf hh → ax_X (va_A w0 s.heap.size) s s.heap →
      AW p l e { frames := fr, cells := mc, slots := ms, locals := lo } s m args below meth c D kA (va_A w0 s.heap.size) nL (ax_Qi below args s D kA w0 mc ms post) 0 (lv_args 0 As) [] w0 0 0) : ax_Mw l D kA y cc nL hh fr lo mc ms As w0 post := by
  intro sz
  refine va_MetW (cc := cc) (maxL := nL) (ret := some .int) (hh := hh) hy rfl ?_
  intro p e s m args below meth c s₁ B hml hv
  obtain ⟨⟨rfl, hsz, hP, hK, hN, hD0⟩, hX⟩ := hv
  subst hsz
  have C : ax_C p s m As.toArray meth c cc y.cls nL (some .int) D kA (va_A w0 s.heap.size) := ⟨B.exec, B.bytes, hml, findClass_of_methodNamed B.named, fun w hw => atoms_spec (ws := ax_WSw y cc nL (some .int) hh) B.pre w (List.mem_cons_of_mem _ hw), hK, fun q h => Or.inr h, B.notSynchronized, B.returns, hN⟩
  have hl := lv_entry As hlen
  have X0 := Stand.of_body B
  obtain ⟨m9, meth9, c9, hn9, h1, h2, h3, h4, h5, -⟩ := Cond.codeWith_spec (atoms_spec (ws := ax_WSw y cc nL (some .int) hh) B.pre _ List.mem_cons_self)
  obtain rfl := Option.some.inj (B.named.symm.trans hn9)
  obtain rfl := Option.some.inj (B.method.symm.trans h1)
  obtain rfl := Option.some.inj (X0.code.symm.trans h2)
  rw [lg_entry_eq]
  exact body p e s m _ below meth c C X0.admits B.method X0.code (by rw [← h5, table_eq]) hX s.heap [] _ hP (hD0.self) va_S.rf hl
def ax_LSw (own : String) (idx : Nat) (y : MethodName) (cc : ByteArray) (nL : Nat) (hh : List (Nat × Nat × Nat × Nat)) (n : Nat) : Prop := GoodIn lw_tbg (va_wsS own idx y (ax_WSw y cc nL (some .int) hh)) ∧ (y.cls ≠ "java/lang/invoke/MethodHandle" ∧ y.cls ≠ "java/lang/invoke/VarHandle" ∧ (parseMethodDescriptor y.desc).map (fun d => d.parameters.length) = some n)
theorem ax_LSw.mk {own : String} {idx : Nat} {y : MethodName} {cc : ByteArray} {nL : Nat} {hh : List (Nat × Nat × Nat × Nat)} {n : Nat} (h1 : Cond.methodLink own idx y ∈ lw_tbg) (h2 : Cond.static y ∈ lw_tbg) (h4 : Cond.initialized y.cls ∈ lw_tbg) (h5 : Cond.codeWith y cc nL (some .int) hh ∈ lw_tbg) (hd : y.cls ≠ "java/lang/invoke/MethodHandle" ∧ y.cls ≠ "java/lang/invoke/VarHandle" ∧ (parseMethodDescriptor y.desc).map (fun d => d.parameters.length) = some n) : ax_LSw own idx y cc nL hh n := by
  refine ⟨lw_goodIn fun w hw => ?_, hd⟩
  simp only [va_wsS, ax_WSw, List.mem_append, List.mem_cons, List.not_mem_nil, or_false] at hw
  rcases hw with (rfl | rfl | rfl) | rfl | hw
  all_goals assumption
section WRS
variable {p : Program} {l : Launch} {e : Env} {R : Room} {s : State} {m : MethodId} {args : Array Value} {below : List Frame} {meth : Method} {c : Code} {Q : State → Prop} {D : va_G} {kA : Nat → ClassId} {A : Nat → Prop} {nL : Nat} {cc : ByteArray} {own : String} {ret : Option FieldType} {pc cells slots : Nat} {ls : List (Nat × Value)} {st rest : List Value} {ws : va_W}
theorem ax_callSw (C : ax_C p s m args meth c cc own nL ret D kA A) (hXs : ax_X A s s.heap) {idx n : Nat} {y : MethodName} {cc2 : ByteArray} {nL2 : Nat} {hh : List (Nat × Nat × Nat × Nat)} {fr lo mc2 ms2 : Nat} {As : List Value} {wc : va_W} {post : Int32 → va_W → Prop} (hM : ax_Mw l D kA y cc2 nL2 hh fr lo mc2 ms2 As wc post) (L : ax_LSw own idx y cc2 nL2 hh n) (hdg : decode cc pc = .ok (.invokestatic idx, 3)) (hst : st = As.reverse ++ rest) (hlen : As.length = n)
    (isC isR : List Nat) {wr : va_W} (hC : isC.map (fun i => ws[i]?) = wc.map some) (hnC : va_nd isC = true) (hR : isR.map (fun i => ws[i]?) = wr.map some) (hn : va_nd isR = true) (hdis : ∀ i ∈ isR, i ∉ isC) (hfr : fr + 1 ≤ R.frames) (hlo : 8 + (nL2 + 11) + lo ≤ R.locals) (hce : cells + mc2 ≤ R.cells) (hsl : slots + ms2 ≤ R.slots) (hsum : (rest.map fun v => v.category).sum ≤ 8)
    (kk : ∀ (r : Int32) (w1 : va_W), post r w1 → AW p l e R s m args below meth c D kA A nL Q (pc + 3) (ls) (.int r :: rest) (wr ++ w1) (cells + mc2) (slots + ms2)) : AW p l e R s m args below meth c D kA A nL Q (pc) (ls) (st) (ws) (cells) (slots) := fun H locs la hP hD hS hl => by
  subst hst
  have hFc := va_free (wc := wc) hD hS C.2.2.2.2.2.2.1 isC hC
  have hPc := hP.sub isC (ax_fm hC)
  have hDc := hD.sub isC hnC hC
  have ok : ∀ w ∈ va_wsS own idx y (ax_WSw y cc2 nL2 (some .int) hh), w.before args s = true := fun w h => C.2.2.2.2.1 w (L.1 w h).1
  have hlink : (Cond.methodLink own idx y).before args s = true := ok _ (by simp [va_wsS])
  have hstat : (Cond.static y).before args s = true := ok _ (by simp [va_wsS])
  have hini : (Cond.initialized y.cls).before args s = true := ok _ (by simp [va_wsS])
  have hcode : (Cond.codeWith y cc2 nL2 (some .int) hh).before args s = true := ok _ (by simp [va_wsS, ax_WSw])
  have hws := pay_in C.2.2.2.2.1 (fun w h => L.1 w (by unfold va_wsS; exact List.mem_append_right _ h))
  have hblind : FrameBlind (ax_PreX D kA As wc H.size) := fun a U g mk q => ⟨ax_blind a U g mk q.1, ax_X.same (s := U) (U := U.calling g mk a) q.2 rfl⟩
  have hK : Back l R p e below s args y 3 8 (PreOf R mc2 ms2 (ax_PreX D kA As wc H.size)) (PostOf (va_Qi post (ax_B D kA wc H.size) (va_A wc H.size)) mc2 ms2 (va_A wc H.size)) := va_backW (bytes := cc2) (maxL := nL2) (ret := some .int) (hh := hh) (hM H.size) hblind rfl rfl hfr hlo hws List.mem_cons_self (fun a' U hW => word_at hW (Or.inl rfl) hini)
  have hrun : va_Run p l e R s m args below meth c H locs cells slots mc2 ms2 (F0 m pc la (As.reverse ++ rest)) rest (va_Qi post (ax_B D kA wc H.size) (va_A wc H.size) As.toArray) (va_A wc H.size) := by
    intro T hT X
    obtain ⟨mk, methM, cM, hnamed, hmethM, -, -, -, -, -, -, hsigM⟩ := Cond.codeWith_spec hcode
    have hstatic : methM.isStatic = true := Cond.static_spec hnamed hmethM hstat
    obtain ⟨kP, hkP, -⟩ := className_of_methodNamed hnamed
    have hinitP : kP.init = .initialized := Cond.initialized_spec (findClass_of_methodNamed hnamed) hkP hini
    have hn2 : As.length = methM.sig.parameters.length := by
      have h9 := L.2.2.2
      rw [hsigM] at h9
      rw [hlen]
      exact (Option.some.inj h9).symm
    obtain ⟨vm₁, X₁, hstep₁⟩ := X.invokestatic C.1 C.2.2.2.1 hlink hnamed hmethM hstatic hkP hinitP ⟨L.2.1, L.2.2.1⟩ (g := F0 m pc la (As.reverse ++ rest)) rfl (argsL := As) (rest := rest) hn2 rfl (by rw [C.2.1]; exact hdg)
    obtain ⟨v, ⟨U', l2, c2, s2⟩, X', ⟨g', mk', t, L2, e1, e2, hq, h1, hL, h2, h3⟩, hsteps⟩ := hK m meth c ⟨T.setVm vm₁, locs, cells, slots⟩ (F0 m pc la rest) (.invokestatic idx) mk As.toArray X₁ rfl (by rw [C.2.2.1]; exact hl.1) (by rw [C.2.1]; exact hdg) (lv_room hsum) (X₁.named hnamed) ⟨hce, hsl, by
      have hW := X₁.warmed
      refine ⟨⟨rfl, by show T.heap.size = _; rw [hT], by show va_P _ _ _ T.heap; rw [hT]; exact hPc, va_K.moved hW.alike C.2.2.2.2.2.1, (C.2.2.2.2.2.2.2.2.2).warm hW, hDc.weaken (fun _ _ _ _ => trivial)⟩, ?_⟩
      show ax_X _ (T.setVm vm₁) T.heap
      rw [hT]
      exact hXs.go hW (fun a h1 h2 => hS.2.1 a h1 h2) (fun q h => hFc q h)⟩
    dsimp only [Pt.U, Pt.locs, Pt.cells, Pt.slots] at X' e1 e2 h1 h2 h3 hsteps
    subst h1; subst h2; subst h3
    exact ⟨v, (T.setVm vm₁).calling g' mk' As.toArray, t, U', L2, hT, X', hL, e1, e2, hq, fun target h => hstep₁ _ fun acts => by rw [doInvoke_state]; exact hsteps.trans h⟩
  refine va_calli hrun hS (fun q _ h => hFc q h) hFc (fun r w1 t H1 locs1 ht hvm hw hB hz1 hk1 hS1 => ?_)
  obtain ⟨hP1, hK1, hD1⟩ := hB
  rw [ht] at hP1
  obtain ⟨hP2, hD2⟩ := va_join (wr := wr) (w1 := w1) hP hD isC isR hC hR hn hdis hk1 hFc hP1 hD1
  exact kk r w1 hw H1 locs1 la hP2 hD2 hS1 hl
end WRS
def ax_LVw (own : String) (idx : Nat) (y : MethodName) (cc : ByteArray) (nL : Nat) (hh : List (Nat × Nat × Nat × Nat)) (n : Nat) : Prop := GoodIn lw_tbg (wsV own idx y.cls y (ax_WSw y cc nL (some .int) hh)) ∧ (y.cls ≠ "java/lang/invoke/MethodHandle" ∧ y.cls ≠ "java/lang/invoke/VarHandle" ∧ (parseMethodDescriptor y.desc).map (fun d => d.parameters.length) = some n)
theorem ax_LVw.mk {own : String} {idx : Nat} {y : MethodName} {cc : ByteArray} {nL : Nat} {hh : List (Nat × Nat × Nat × Nat)} {n : Nat} (h1 : Cond.methodLink own idx y ∈ lw_tbg) (h2 : Cond.instanceMethod y ∈ lw_tbg) (h3 : Cond.selects y.cls y y ∈ lw_tbg) (h4 : Cond.initialized y.cls ∈ lw_tbg) (h5 : Cond.codeWith y cc nL (some .int) hh ∈ lw_tbg) (hd : y.cls ≠ "java/lang/invoke/MethodHandle" ∧ y.cls ≠ "java/lang/invoke/VarHandle" ∧ (parseMethodDescriptor y.desc).map (fun d => d.parameters.length) = some n) : ax_LVw own idx y cc nL hh n := by
  refine ⟨lw_goodIn fun w hw => ?_, hd⟩
  simp only [wsV, ax_WSw, List.mem_append, List.mem_cons, List.not_mem_nil, or_false] at hw
  rcases hw with (rfl | rfl | rfl | rfl) | rfl | hw
  all_goals assumption
section WRV
variable {p : Program} {l : Launch} {e : Env} {R : Room} {s : State} {m : MethodId} {args : Array Value} {below : List Frame} {meth : Method} {c : Code} {Q : State → Prop} {D : va_G} {kA : Nat → ClassId} {A : Nat → Prop} {nL : Nat} {cc : ByteArray} {own : String} {ret : Option FieldType} {pc cells slots : Nat} {ls : List (Nat × Value)} {st rest : List Value} {ws : va_W}
theorem ax_callVw (C : ax_C p s m args meth c cc own nL ret D kA A) (hXs : ax_X A s s.heap) {idx n : Nat} {y : MethodName} {cc2 : ByteArray} {nL2 : Nat} {hh : List (Nat × Nat × Nat × Nat)} {fr lo mc2 ms2 : Nat} {b : Nat} {As : List Value} {wc : va_W} {post : Int32 → va_W → Prop} (hM : ax_Mw l D kA y cc2 nL2 hh fr lo mc2 ms2 (.ref b :: As) wc post) (L : ax_LVw own idx y cc2 nL2 hh n) (q0 : Nat) {ci : Nat} {fs : List Value} {r : vw_C} (he : ws[q0]? = some (b, .inr (ci, fs))) (hc : ax_cl[ci]? = some r) (hrc : r.1 = y.cls) (hdg : decode cc pc = .ok (.invokevirtual idx, 3)) (hst : st = As.reverse ++ .ref b :: rest) (hlen : As.length = n)
    (isC isR : List Nat) {wr : va_W} (hC : isC.map (fun i => ws[i]?) = wc.map some) (hnC : va_nd isC = true) (hR : isR.map (fun i => ws[i]?) = wr.map some) (hn : va_nd isR = true) (hdis : ∀ i ∈ isR, i ∉ isC) (hfr : fr + 1 ≤ R.frames) (hlo : 8 + (nL2 + 11) + lo ≤ R.locals) (hce : cells + mc2 ≤ R.cells) (hsl : slots + ms2 ≤ R.slots) (hsum : (rest.map fun v => v.category).sum ≤ 8)
    (kk : ∀ (r : Int32) (w1 : va_W), post r w1 → AW p l e R s m args below meth c D kA A nL Q (pc + 3) (ls) (.int r :: rest) (wr ++ w1) (cells + mc2) (slots + ms2)) : AW p l e R s m args below meth c D kA A nL Q (pc) (ls) (st) (ws) (cells) (slots) := fun H locs la hP hD hS hl => by
  subst hst
  have hFc := va_free (wc := wc) hD hS C.2.2.2.2.2.2.1 isC hC
  have hPc := hP.sub isC (ax_fm hC)
  have hDc := hD.sub isC hnC hC
  have ok : ∀ w ∈ wsV own idx y.cls y (ax_WSw y cc2 nL2 (some .int) hh), w.before args s = true := fun w h => C.2.2.2.2.1 w (L.1 w h).1
  have hlink : (Cond.methodLink own idx y).before args s = true := ok _ (by simp [wsV])
  have hin : (Cond.instanceMethod y).before args s = true := ok _ (by simp [wsV])
  have hse : (Cond.selects y.cls y y).before args s = true := ok _ (by simp [wsV])
  have hini : (Cond.initialized y.cls).before args s = true := ok _ (by simp [wsV])
  have hcode : (Cond.codeWith y cc2 nL2 (some .int) hh).before args s = true := ok _ (by simp [wsV, ax_WSw])
  have hws := pay_in C.2.2.2.2.1 (fun w h => L.1 w (by unfold wsV; exact List.mem_append_right _ h))
  have hblind : FrameBlind (ax_PreX D kA (.ref b :: As) wc H.size) := fun a U g mk q => ⟨ax_blind a U g mk q.1, ax_X.same (s := U) (U := U.calling g mk a) q.2 rfl⟩
  have hK : Back l R p e below s args y 3 8 (PreOf R mc2 ms2 (ax_PreX D kA (.ref b :: As) wc H.size)) (PostOf (va_Qi post (ax_B D kA wc H.size) (va_A wc H.size)) mc2 ms2 (va_A wc H.size)) := va_backW (bytes := cc2) (maxL := nL2) (ret := some .int) (hh := hh) (hM H.size) hblind rfl rfl hfr hlo hws List.mem_cons_self (fun a' U hW => word_at hW (Or.inl rfl) hini)
  have hrun : va_Run p l e R s m args below meth c H locs cells slots mc2 ms2 (F0 m pc la (As.reverse ++ .ref b :: rest)) rest (va_Qi post (ax_B D kA wc H.size) (va_A wc H.size) (Value.ref b :: As).toArray) (va_A wc H.size) := by
    intro T hT X
    obtain ⟨mk, methM, hnamed, hmethM, hstM, habM⟩ := Cond.instanceMethod_spec hin
    obtain ⟨mk9, methM9, cM9, hn9, hm9, -, -, -, -, -, -, hsigM⟩ := Cond.codeWith_spec hcode
    obtain rfl := Option.some.inj (hnamed.symm.trans hn9)
    obtain rfl := Option.some.inj (hmethM.symm.trans hm9)
    obtain ⟨cellB, hcB, hoB, hclB⟩ := va_recv C.2.2.2.2.2.1 hP hc he
    rw [hrc] at hclB
    obtain ⟨c2, r2, m2, q1, q2, q3, q4, kP, hkP, hkPi⟩ := Cond.selects_spec hse
    obtain rfl := Option.some.inj (hclB.symm.trans q1)
    obtain rfl := Option.some.inj ((State.methodFound?_of_named hnamed ⟨L.2.1, L.2.2.1⟩).symm.trans q2)
    obtain rfl := Option.some.inj (hnamed.symm.trans q3)
    have hselP : selectMethod e.platform s.vm cellB.cls mk = .method mk := by rw [Launch.admits_selectMethod X.admits]; exact q4
    have hn2 : As.length = methM.sig.parameters.length := by
      have h9 := L.2.2.2
      rw [hsigM] at h9
      rw [hlen]
      exact (Option.some.inj h9).symm
    obtain ⟨vm₁, X₁, hstep₁⟩ := X.invokevirtual C.1 C.2.2.2.1 hlink hnamed hmethM hstM hkP hkPi ⟨L.2.1, L.2.2.1⟩ (a := b) (cell := cellB) (by rw [hT]; exact hcB)
      (fun z h => by rw [h] at hoB; cases hoB) hselP hmethM habM hkP hkPi (g := F0 m pc la (As.reverse ++ .ref b :: rest)) rfl (argsL := As) (rest := rest) hn2 rfl (by rw [C.2.1]; exact hdg)
    obtain ⟨v, ⟨U', l2, c2, s2⟩, X', ⟨g', mk', t, L2, e1, e2, hq, h1, hL, h2, h3⟩, hsteps⟩ := hK m meth c ⟨T.setVm vm₁, locs, cells, slots⟩ (F0 m pc la rest) (.invokevirtual idx) mk (Value.ref b :: As).toArray X₁ rfl (by rw [C.2.2.1]; exact hl.1) (by rw [C.2.1]; exact hdg) (lv_room hsum) (X₁.named hnamed) ⟨hce, hsl, by
      have hW := X₁.warmed
      refine ⟨⟨rfl, by show T.heap.size = _; rw [hT], by show va_P _ _ _ T.heap; rw [hT]; exact hPc, va_K.moved hW.alike C.2.2.2.2.2.1, (C.2.2.2.2.2.2.2.2.2).warm hW, hDc.weaken (fun _ _ _ _ => trivial)⟩, ?_⟩
      show ax_X _ (T.setVm vm₁) T.heap
      rw [hT]
      exact hXs.go hW (fun a h1 h2 => hS.2.1 a h1 h2) (fun q h => hFc q h)⟩
    dsimp only [Pt.U, Pt.locs, Pt.cells, Pt.slots] at X' e1 e2 h1 h2 h3 hsteps
    subst h1; subst h2; subst h3
    exact ⟨v, (T.setVm vm₁).calling g' mk' (Value.ref b :: As).toArray, t, U', L2, hT, X', hL, e1, e2, hq, fun target h => hstep₁ _ fun acts => by rw [doInvoke_state]; exact hsteps.trans h⟩
  refine va_calli hrun hS (fun q _ h => hFc q h) hFc (fun r w1 t H1 locs1 ht hvm hw hB hz1 hk1 hS1 => ?_)
  obtain ⟨hP1, hK1, hD1⟩ := hB
  rw [ht] at hP1
  obtain ⟨hP2, hD2⟩ := va_join (wr := wr) (w1 := w1) hP hD isC isR hC hR hn hdis hk1 hFc hP1 hD1
  exact kk r w1 hw H1 locs1 la hP2 hD2 hS1 hl
end WRV
section NRM
variable {p : Program} {l : Launch} {e : Env} {R : Room} {s : State} {m : MethodId} {args : Array Value} {below : List Frame} {meth : Method} {c : Code} {Q : State → Prop} {D : va_G} {kA : Nat → ClassId} {A : Nat → Prop} {nL : Nat} {cc : ByteArray} {own : String} {ret : Option FieldType} {pc cells slots : Nat} {ls : List (Nat × Value)} {st rest : List Value} {ws : va_W}
theorem ax_nrm {x : Int32} (y : Int32) (h : x = y) (k : AW p l e R s m args below meth c D kA A nL Q (pc) (ls) (.int y :: rest) (ws) (cells) (slots)) : AW p l e R s m args below meth c D kA A nL Q (pc) (ls) (.int x :: rest) (ws) (cells) (slots) := by subst h; exact k
theorem ax_nrmL {x : Int64} (y : Int64) (h : x = y) (k : AW p l e R s m args below meth c D kA A nL Q (pc) (ls) (.long y :: rest) (ws) (cells) (slots)) : AW p l e R s m args below meth c D kA A nL Q (pc) (ls) (.long x :: rest) (ws) (cells) (slots) := by subst h; exact k
end NRM
