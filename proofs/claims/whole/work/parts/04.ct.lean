/-! contracts: one list of words for all methods -/
theorem lw_goodIn {ws : List Cond} (h : ∀ w ∈ ws, w ∈ lw_tbg) : GoodIn lw_tbg ws := fun w hw => ⟨h w hw, good_of_word (List.mem_filter.mp (h w hw)).2⟩
def ax_WS (y : MethodName) (cc : ByteArray) (nL : Nat) (ret : Option FieldType) : List Cond := .code y cc nL ret :: lw_tbg
def ax_Pre (D : va_G) (kA : Nat → ClassId) (As : List Value) (w0 : va_W) (sz : Nat) : Array Value → State → Prop := va_Pc As (fun U => U.heap.size = sz ∧ va_P D ax_cl w0 U.heap ∧ va_K D ax_cl (ax_tys kA) U ∧ ax_N U ∧ va_D (fun _ => True) w0)
def ax_B (D : va_G) (kA : Nat → ClassId) (w0 : va_W) (sz : Nat) (w1 : va_W) (t : State) : Prop := va_P D ax_cl w1 t.heap ∧ va_K D ax_cl (ax_tys kA) t ∧ va_D (va_A w0 sz) w1
theorem ax_blind {D : va_G} {kA : Nat → ClassId} {As : List Value} {w0 : va_W} {sz : Nat} : FrameBlind (ax_Pre D kA As w0 sz) := fun a U g mk q => by
  obtain ⟨q0, q1, qP, qK, qN, qD⟩ := q
  exact ⟨q0, q1, qP, va_K.moved (u := U) (U := U.calling g mk a) (Vm.Alike.refl U.vm) qK, qN.same (U := U.calling g mk a) rfl, qD⟩
/-- the contract of a method that answers an int: fr frames, lo words of locals below it, mc new cells of ms slots -/
def ax_Mi (l : Launch) (D : va_G) (kA : Nat → ClassId) (y : MethodName) (cc : ByteArray) (nL : Nat) (ret : FieldType) (fr lo mc ms : Nat) (As : List Value) (w0 : va_W) (post : Int32 → va_W → Prop) : Prop :=
  ∀ sz : Nat, Met l y (ax_WS y cc nL (some ret)) ({ frames := fr, cells := mc, slots := ms, locals := lo }) (ax_Pre D kA As w0 sz) (va_Qi post (ax_B D kA w0 sz) (va_A w0 sz)) mc ms (va_A w0 sz)
def ax_Mv (l : Launch) (D : va_G) (kA : Nat → ClassId) (y : MethodName) (cc : ByteArray) (nL : Nat) (fr lo mc ms : Nat) (As : List Value) (w0 : va_W) (post : va_W → Prop) : Prop :=
  ∀ sz : Nat, Met l y (ax_WS y cc nL none) ({ frames := fr, cells := mc, slots := ms, locals := lo }) (ax_Pre D kA As w0 sz) (va_Qv post (ax_B D kA w0 sz) (va_A w0 sz)) mc ms (va_A w0 sz)
abbrev ax_Qi (below : List Frame) (args : Array Value) (s : State) (D : va_G) (kA : Nat → ClassId) (w0 : va_W) (mc ms : Nat) (post : Int32 → va_W → Prop) : State → Prop := MQ below (va_Qi post (ax_B D kA w0 s.heap.size) (va_A w0 s.heap.size)) args s mc ms (va_A w0 s.heap.size)
abbrev ax_Qv (below : List Frame) (args : Array Value) (s : State) (D : va_G) (kA : Nat → ClassId) (w0 : va_W) (mc ms : Nat) (post : va_W → Prop) : State → Prop := MQ below (va_Qv post (ax_B D kA w0 s.heap.size) (va_A w0 s.heap.size)) args s mc ms (va_A w0 s.heap.size)
theorem ax_Mi.of {l : Launch} {D : va_G} {kA : Nat → ClassId} {y : MethodName} {cc : ByteArray} {nL : Nat} {ret : FieldType} {fr lo mc ms : Nat} {As : List Value} {w0 : va_W} {post : Int32 → va_W → Prop} (hy : plainName y.cls = true) (hlen : (lg_sl As).length ≤ nL)
    (body : ∀ (p : Program) (e : Env) (s : State) (m : MethodId) (args : Array Value) (below : List Frame) (meth : Method) (c : Code), ax_C p s m args meth c cc y.cls nL (some ret) D kA (va_A w0 s.heap.size) → meth.name = y.name →
      AW p l e { frames := fr, cells := mc, slots := ms, locals := lo } s m args below meth c D kA (va_A w0 s.heap.size) nL (ax_Qi below args s D kA w0 mc ms post) 0 (lv_args 0 As) [] w0 0 0) : ax_Mi l D kA y cc nL ret fr lo mc ms As w0 post := by
  intro sz
  refine Met.ofW (cc := cc) (maxL := nL) (ret := (some ret)) hy rfl ?_
  intro p e s m args below meth c s₁ B hml hv
  obtain ⟨rfl, hsz, hP, hK, hN, hD0⟩ := hv
  subst hsz
  have C : ax_C p s m As.toArray meth c cc y.cls nL (some ret) D kA (va_A w0 s.heap.size) := ⟨B.exec, B.bytes, hml, findClass_of_methodNamed B.named, fun w hw => atoms_spec (ws := ax_WS y cc nL (some ret)) B.pre w (List.mem_cons_of_mem _ hw), hK, fun q h => Or.inr h, B.notSynchronized, B.returns, hN⟩
  have hl := lv_entry As hlen
  rw [lg_entry_eq]
  exact body p e s m _ below meth c C (name_of_methodNamed B.named B.method).1 s.heap [] _ hP (hD0.self) va_S.rf hl
theorem ax_Mv.of {l : Launch} {D : va_G} {kA : Nat → ClassId} {y : MethodName} {cc : ByteArray} {nL : Nat} {fr lo mc ms : Nat} {As : List Value} {w0 : va_W} {post : va_W → Prop} (hy : plainName y.cls = true) (hlen : (lg_sl As).length ≤ nL)
    (body : ∀ (p : Program) (e : Env) (s : State) (m : MethodId) (args : Array Value) (below : List Frame) (meth : Method) (c : Code), ax_C p s m args meth c cc y.cls nL none D kA (va_A w0 s.heap.size) → meth.name = y.name →
      AW p l e { frames := fr, cells := mc, slots := ms, locals := lo } s m args below meth c D kA (va_A w0 s.heap.size) nL (ax_Qv below args s D kA w0 mc ms post) 0 (lv_args 0 As) [] w0 0 0) : ax_Mv l D kA y cc nL fr lo mc ms As w0 post := by
  intro sz
  refine Met.ofW (cc := cc) (maxL := nL) (ret := none) hy rfl ?_
  intro p e s m args below meth c s₁ B hml hv
  obtain ⟨rfl, hsz, hP, hK, hN, hD0⟩ := hv
  subst hsz
  have C : ax_C p s m As.toArray meth c cc y.cls nL none D kA (va_A w0 s.heap.size) := ⟨B.exec, B.bytes, hml, findClass_of_methodNamed B.named, fun w hw => atoms_spec (ws := ax_WS y cc nL none) B.pre w (List.mem_cons_of_mem _ hw), hK, fun q h => Or.inr h, B.notSynchronized, B.returns, hN⟩
  have hl := lv_entry As hlen
  rw [lg_entry_eq]
  exact body p e s m _ below meth c C (name_of_methodNamed B.named B.method).1 s.heap [] _ hP (hD0.self) va_S.rf hl
section CT
variable {p : Program} {l : Launch} {e : Env} {R : Room} {s : State} {m : MethodId} {args : Array Value} {below : List Frame} {meth : Method} {c : Code} {Q : State → Prop} {D : va_G} {kA : Nat → ClassId} {A : Nat → Prop} {nL : Nat} {cc : ByteArray} {own : String} {ret : Option FieldType} {pc cells slots : Nat} {ls : List (Nat × Value)} {st rest : List Value} {ws : va_W}
variable {w0 : va_W} {mc ms : Nat}
theorem ax_iret {post : Int32 → va_W → Prop} (C : ax_C p s m args meth c cc own nL (some .int) D kA (va_A w0 s.heap.size)) (hdg : decode cc pc = .ok (.ireturn, 1)) {v : Int32} (hpost : post v ws) (hc : cells ≤ mc) (hs : slots ≤ ms) : AW p l e R s m args below meth c D kA (va_A w0 s.heap.size) nL (ax_Qi below args s D kA w0 mc ms post) (pc) (ls) ([.int v]) (ws) (cells) (slots) := fun H locs la hP hD hS hl =>
  W.widen hc hs (W.iret C.1 C.2.1 C.2.2.2.2.2.2.2.2.1 (fun t ht hW => ⟨⟨v, ws, rfl, hpost, by rw [ht]; exact hP, va_K.moved hW.alike C.2.2.2.2.2.1, hD⟩, hS.F ht⟩) hS.2.2 hdg C.2.2.2.2.2.2.2.1)
theorem ax_zret {post : Int32 → va_W → Prop} (C : ax_C p s m args meth c cc own nL (some .boolean) D kA (va_A w0 s.heap.size)) (hdg : decode cc pc = .ok (.ireturn, 1)) {v : Int32} (hn : narrow .boolean (.int v) = .int v) (hpost : post v ws) (hc : cells ≤ mc) (hs : slots ≤ ms) : AW p l e R s m args below meth c D kA (va_A w0 s.heap.size) nL (ax_Qi below args s D kA w0 mc ms post) (pc) (ls) ([.int v]) (ws) (cells) (slots) := fun H locs la hP hD hS hl =>
  W.widen hc hs (W.zret C.1 C.2.1 C.2.2.2.2.2.2.2.2.1 hn (fun t ht hW => ⟨⟨v, ws, rfl, hpost, by rw [ht]; exact hP, va_K.moved hW.alike C.2.2.2.2.2.1, hD⟩, hS.F ht⟩) hS.2.2 hdg C.2.2.2.2.2.2.2.1)
theorem ax_vret {post : va_W → Prop} (C : ax_C p s m args meth c cc own nL none D kA (va_A w0 s.heap.size)) (hdg : decode cc pc = .ok (.return_, 1)) (hpost : post ws) (hc : cells ≤ mc) (hs : slots ≤ ms) : AW p l e R s m args below meth c D kA (va_A w0 s.heap.size) nL (ax_Qv below args s D kA w0 mc ms post) (pc) (ls) ([]) (ws) (cells) (slots) := fun H locs la hP hD hS hl =>
  W.widen hc hs (W.vret C.1 C.2.1 C.2.2.2.2.2.2.2.2.1 (fun t ht hW => ⟨⟨ws, rfl, hpost, by rw [ht]; exact hP, va_K.moved hW.alike C.2.2.2.2.2.1, hD⟩, hS.F ht⟩) hS.2.2 hdg C.2.2.2.2.2.2.2.1)
/-- the link of a virtual call, of a call of a constructor, of a static call, as the tables have it; n: how many arguments -/
def ax_LV (own : String) (idx : Nat) (y : MethodName) (cc : ByteArray) (nL : Nat) (ret : Option FieldType) (n : Nat) : Prop := GoodIn lw_tbg (wsV own idx y.cls y (ax_WS y cc nL ret)) ∧ (y.cls = y.cls ∧ y.cls ≠ "java/lang/invoke/MethodHandle" ∧ y.cls ≠ "java/lang/invoke/VarHandle" ∧ (parseMethodDescriptor y.desc).map (fun d => d.parameters.length) = some n)
def ax_LI (own : String) (idx : Nat) (y : MethodName) (cc : ByteArray) (nL : Nat) (n : Nat) : Prop := GoodIn lw_tbg (ax_WS y cc nL none) ∧ Cond.methodLink own idx y ∈ lw_tbg ∧ Cond.instanceMethod y ∈ lw_tbg ∧ Cond.initialized y.cls ∈ lw_tbg ∧ y.name = "<init>" ∧ (y.cls ≠ "java/lang/invoke/MethodHandle" ∧ y.cls ≠ "java/lang/invoke/VarHandle" ∧ (parseMethodDescriptor y.desc).map (fun d => d.parameters.length) = some n)
def ax_LIN (own : String) (idx : Nat) (host : String) (y : MethodName) (cc : ByteArray) (nL : Nat) (n : Nat) : Prop := GoodIn lw_tbg (ax_WS y cc nL none) ∧ (∀ U : State, ax_N U → va_Nw (Cond.methodLinkNest own idx y host) U) ∧ Cond.instanceMethod y ∈ lw_tbg ∧ Cond.initialized y.cls ∈ lw_tbg ∧ y.name = "<init>" ∧ (y.cls ≠ "java/lang/invoke/MethodHandle" ∧ y.cls ≠ "java/lang/invoke/VarHandle" ∧ (parseMethodDescriptor y.desc).map (fun d => d.parameters.length) = some n)
def ax_LS (own : String) (idx : Nat) (y : MethodName) (cc : ByteArray) (nL : Nat) (ret : Option FieldType) (n : Nat) : Prop := GoodIn lw_tbg (va_wsS own idx y (ax_WS y cc nL ret)) ∧ (y.cls ≠ "java/lang/invoke/MethodHandle" ∧ y.cls ≠ "java/lang/invoke/VarHandle" ∧ (parseMethodDescriptor y.desc).map (fun d => d.parameters.length) = some n)
def ax_LVN (own : String) (idx : Nat) (host : String) (y : MethodName) (cc : ByteArray) (nL : Nat) (ret : Option FieldType) (n : Nat) : Prop := GoodIn lw_tbg (ax_WS y cc nL ret) ∧ (∀ U : State, ax_N U → va_Nw (Cond.methodLinkNest own idx y host) U) ∧ Cond.instanceMethod y ∈ lw_tbg ∧ Cond.selects y.cls y y ∈ lw_tbg ∧ Cond.initialized y.cls ∈ lw_tbg ∧ (y.cls ≠ "java/lang/invoke/MethodHandle" ∧ y.cls ≠ "java/lang/invoke/VarHandle" ∧ (parseMethodDescriptor y.desc).map (fun d => d.parameters.length) = some n)
theorem ax_LVN.mk {own host : String} {idx : Nat} {y : MethodName} {cc : ByteArray} {nL : Nat} {ret : Option FieldType} {n : Nat} (h1 : (∀ U : State, ax_N U → va_Nw (Cond.methodLinkNest own idx y host) U)) (h2 : Cond.instanceMethod y ∈ lw_tbg) (h3 : Cond.selects y.cls y y ∈ lw_tbg) (h4 : Cond.initialized y.cls ∈ lw_tbg) (h5 : Cond.code y cc nL ret ∈ lw_tbg) (hd : y.cls ≠ "java/lang/invoke/MethodHandle" ∧ y.cls ≠ "java/lang/invoke/VarHandle" ∧ (parseMethodDescriptor y.desc).map (fun d => d.parameters.length) = some n) : ax_LVN own idx host y cc nL ret n := by
  refine ⟨lw_goodIn fun w hw => ?_, h1, h2, h3, h4, hd⟩
  rcases List.mem_cons.mp hw with rfl | hw
  all_goals assumption
theorem ax_LV.mk {own : String} {idx : Nat} {y : MethodName} {cc : ByteArray} {nL : Nat} {ret : Option FieldType} {n : Nat} (h1 : Cond.methodLink own idx y ∈ lw_tbg) (h2 : Cond.instanceMethod y ∈ lw_tbg) (h3 : Cond.selects y.cls y y ∈ lw_tbg) (h4 : Cond.initialized y.cls ∈ lw_tbg) (h5 : Cond.code y cc nL ret ∈ lw_tbg) (hd : y.cls ≠ "java/lang/invoke/MethodHandle" ∧ y.cls ≠ "java/lang/invoke/VarHandle" ∧ (parseMethodDescriptor y.desc).map (fun d => d.parameters.length) = some n) : ax_LV own idx y cc nL ret n := by
  refine ⟨lw_goodIn fun w hw => ?_, rfl, hd⟩
  simp only [wsV, ax_WS, List.mem_append, List.mem_cons, List.not_mem_nil, or_false] at hw
  rcases hw with (rfl | rfl | rfl | rfl) | rfl | hw
  all_goals assumption
theorem ax_LI.mk {own : String} {idx : Nat} {y : MethodName} {cc : ByteArray} {nL : Nat} {n : Nat} (h1 : Cond.methodLink own idx y ∈ lw_tbg) (h2 : Cond.instanceMethod y ∈ lw_tbg) (h4 : Cond.initialized y.cls ∈ lw_tbg) (h5 : Cond.code y cc nL none ∈ lw_tbg) (hy : y.name = "<init>") (hd : y.cls ≠ "java/lang/invoke/MethodHandle" ∧ y.cls ≠ "java/lang/invoke/VarHandle" ∧ (parseMethodDescriptor y.desc).map (fun d => d.parameters.length) = some n) : ax_LI own idx y cc nL n := by
  refine ⟨lw_goodIn fun w hw => ?_, h1, h2, h4, hy, hd⟩
  rcases List.mem_cons.mp hw with rfl | hw
  all_goals assumption
theorem ax_LIN.mk {own host : String} {idx : Nat} {y : MethodName} {cc : ByteArray} {nL : Nat} {n : Nat} (h1 : (∀ U : State, ax_N U → va_Nw (Cond.methodLinkNest own idx y host) U)) (h2 : Cond.instanceMethod y ∈ lw_tbg) (h4 : Cond.initialized y.cls ∈ lw_tbg) (h5 : Cond.code y cc nL none ∈ lw_tbg) (hy : y.name = "<init>") (hd : y.cls ≠ "java/lang/invoke/MethodHandle" ∧ y.cls ≠ "java/lang/invoke/VarHandle" ∧ (parseMethodDescriptor y.desc).map (fun d => d.parameters.length) = some n) : ax_LIN own idx host y cc nL n := by
  refine ⟨lw_goodIn fun w hw => ?_, h1, h2, h4, hy, hd⟩
  rcases List.mem_cons.mp hw with rfl | hw
  all_goals assumption
theorem ax_LS.mk {own : String} {idx : Nat} {y : MethodName} {cc : ByteArray} {nL : Nat} {ret : Option FieldType} {n : Nat} (h1 : Cond.methodLink own idx y ∈ lw_tbg) (h2 : Cond.static y ∈ lw_tbg) (h4 : Cond.initialized y.cls ∈ lw_tbg) (h5 : Cond.code y cc nL ret ∈ lw_tbg) (hd : y.cls ≠ "java/lang/invoke/MethodHandle" ∧ y.cls ≠ "java/lang/invoke/VarHandle" ∧ (parseMethodDescriptor y.desc).map (fun d => d.parameters.length) = some n) : ax_LS own idx y cc nL ret n := by
  refine ⟨lw_goodIn fun w hw => ?_, hd⟩
  simp only [va_wsS, ax_WS, List.mem_append, List.mem_cons, List.not_mem_nil, or_false] at hw
  rcases hw with (rfl | rfl | rfl) | rfl | hw
  all_goals assumption
theorem ax_callVi (C : ax_C p s m args meth c cc own nL ret D kA A) {idx n : Nat} {y : MethodName} {cc2 : ByteArray} {nL2 : Nat} {ret2 : FieldType} {fr lo mc2 ms2 : Nat} {b : Nat} {As : List Value} {wc : va_W} {post : Int32 → va_W → Prop} (hM : ax_Mi l D kA y cc2 nL2 ret2 fr lo mc2 ms2 (.ref b :: As) wc post) (L : ax_LV own idx y cc2 nL2 (some ret2) n) (q0 : Nat) {ci : Nat} {fs : List Value} {r : vw_C} (he : ws[q0]? = some (b, .inr (ci, fs))) (hc : ax_cl[ci]? = some r) (hrc : r.1 = y.cls) (hdg : decode cc pc = .ok (.invokevirtual idx, 3)) (hst : st = As.reverse ++ .ref b :: rest) (hlen : As.length = n) (isC isR : List Nat) {wr : va_W} (hC : isC.map (fun i => ws[i]?) = wc.map some) (hnC : va_nd isC = true) (hR : isR.map (fun i => ws[i]?) = wr.map some) (hn : va_nd isR = true) (hdis : ∀ i ∈ isR, i ∉ isC) (hfr : fr + 1 ≤ R.frames) (hlo : 8 + (nL2 + 11) + lo ≤ R.locals) (hce : cells + mc2 ≤ R.cells) (hsl : slots + ms2 ≤ R.slots) (hsum : (rest.map fun v => v.category).sum ≤ 8)
    (kk : ∀ (r : Int32) (w1 : va_W), post r w1 → AW p l e R s m args below meth c D kA A nL Q (pc + 3) (ls) (.int r :: rest) (wr ++ w1) (cells + mc2) (slots + ms2)) : AW p l e R s m args below meth c D kA A nL Q (pc) (ls) (st) (ws) (cells) (slots) := fun H locs la hP hD hS hl => by
  subst hst
  have hFc := va_free (wc := wc) hD hS C.2.2.2.2.2.2.1 isC hC
  have hPc := hP.sub isC (ax_fm hC)
  have hDc := hD.sub isC hnC hC
  refine va_calli (va_runV (As := As) (rest := rest) ⟨C.1, C.2.1, C.2.2.1, C.2.2.2.1, C.2.2.2.2.1⟩ (hM H.size) (cwV n C.2.2.2.2.1 L.1 rfl rfl rfl L.2 ⟨hfr, hlo⟩) ⟨ax_blind, (by rw [← hrc]; exact va_recv C.2.2.2.2.2.1 hP hc he), fun U hU hW => ⟨rfl, by rw [hU], by rw [hU]; exact hPc, va_K.moved hW.alike C.2.2.2.2.2.1, (C.2.2.2.2.2.2.2.2.2).warm hW, hDc.weaken (fun _ _ _ _ => trivial)⟩⟩ rfl hlen hl.1 rfl (lv_room hsum) hdg ⟨hce, hsl⟩) hS (fun q _ h => hFc q h) hFc (fun r w1 t H1 locs1 ht hvm hw hB hz1 hk1 hS1 => ?_)
  obtain ⟨hP1, hK1, hD1⟩ := hB
  rw [ht] at hP1
  obtain ⟨hP2, hD2⟩ := va_join (wr := wr) (w1 := w1) hP hD isC isR hC hR hn hdis hk1 hFc hP1 hD1
  exact kk r w1 hw H1 locs1 la hP2 hD2 hS1 hl
theorem ax_callVv (C : ax_C p s m args meth c cc own nL ret D kA A) {idx n : Nat} {y : MethodName} {cc2 : ByteArray} {nL2 : Nat} {fr lo mc2 ms2 : Nat} {b : Nat} {As : List Value} {wc : va_W} {post : va_W → Prop} (hM : ax_Mv l D kA y cc2 nL2 fr lo mc2 ms2 (.ref b :: As) wc post) (L : ax_LV own idx y cc2 nL2 none n) (q0 : Nat) {ci : Nat} {fs : List Value} {r : vw_C} (he : ws[q0]? = some (b, .inr (ci, fs))) (hc : ax_cl[ci]? = some r) (hrc : r.1 = y.cls) (hdg : decode cc pc = .ok (.invokevirtual idx, 3)) (hst : st = As.reverse ++ .ref b :: rest) (hlen : As.length = n) (isC isR : List Nat) {wr : va_W} (hC : isC.map (fun i => ws[i]?) = wc.map some) (hnC : va_nd isC = true) (hR : isR.map (fun i => ws[i]?) = wr.map some) (hn : va_nd isR = true) (hdis : ∀ i ∈ isR, i ∉ isC) (hfr : fr + 1 ≤ R.frames) (hlo : 8 + (nL2 + 11) + lo ≤ R.locals) (hce : cells + mc2 ≤ R.cells) (hsl : slots + ms2 ≤ R.slots) (hsum : (rest.map fun v => v.category).sum ≤ 8)
    (kk : ∀ w1 : va_W, post w1 → AW p l e R s m args below meth c D kA A nL Q (pc + 3) (ls) (rest) (wr ++ w1) (cells + mc2) (slots + ms2)) : AW p l e R s m args below meth c D kA A nL Q (pc) (ls) (st) (ws) (cells) (slots) := fun H locs la hP hD hS hl => by
  subst hst
  have hFc := va_free (wc := wc) hD hS C.2.2.2.2.2.2.1 isC hC
  have hPc := hP.sub isC (ax_fm hC)
  have hDc := hD.sub isC hnC hC
  refine va_callv (va_runV (As := As) (rest := rest) ⟨C.1, C.2.1, C.2.2.1, C.2.2.2.1, C.2.2.2.2.1⟩ (hM H.size) (cwV n C.2.2.2.2.1 L.1 rfl rfl rfl L.2 ⟨hfr, hlo⟩) ⟨ax_blind, (by rw [← hrc]; exact va_recv C.2.2.2.2.2.1 hP hc he), fun U hU hW => ⟨rfl, by rw [hU], by rw [hU]; exact hPc, va_K.moved hW.alike C.2.2.2.2.2.1, (C.2.2.2.2.2.2.2.2.2).warm hW, hDc.weaken (fun _ _ _ _ => trivial)⟩⟩ rfl hlen hl.1 rfl (lv_room hsum) hdg ⟨hce, hsl⟩) hS (fun q _ h => hFc q h) hFc (fun w1 t H1 locs1 ht hvm hw hB hz1 hk1 hS1 => ?_)
  obtain ⟨hP1, hK1, hD1⟩ := hB
  rw [ht] at hP1
  obtain ⟨hP2, hD2⟩ := va_join (wr := wr) (w1 := w1) hP hD isC isR hC hR hn hdis hk1 hFc hP1 hD1
  exact kk w1 hw H1 locs1 la hP2 hD2 hS1 hl
theorem ax_callVNi (C : ax_C p s m args meth c cc own nL ret D kA A) {idx n : Nat} {host : String} {y : MethodName} {cc2 : ByteArray} {nL2 : Nat} {ret2 : FieldType} {fr lo mc2 ms2 : Nat} {b : Nat} {As : List Value} {wc : va_W} {post : Int32 → va_W → Prop} (hM : ax_Mi l D kA y cc2 nL2 ret2 fr lo mc2 ms2 (.ref b :: As) wc post) (L : ax_LVN own idx host y cc2 nL2 (some ret2) n) (q0 : Nat) {ci : Nat} {fs : List Value} {r : vw_C} (he : ws[q0]? = some (b, .inr (ci, fs))) (hc : ax_cl[ci]? = some r) (hrc : r.1 = y.cls) (hdg : decode cc pc = .ok (.invokevirtual idx, 3)) (hst : st = As.reverse ++ .ref b :: rest) (hlen : As.length = n) (isC isR : List Nat) {wr : va_W} (hC : isC.map (fun i => ws[i]?) = wc.map some) (hnC : va_nd isC = true) (hR : isR.map (fun i => ws[i]?) = wr.map some) (hn : va_nd isR = true) (hdis : ∀ i ∈ isR, i ∉ isC) (hfr : fr + 1 ≤ R.frames) (hlo : 8 + (nL2 + 11) + lo ≤ R.locals) (hce : cells + mc2 ≤ R.cells) (hsl : slots + ms2 ≤ R.slots) (hsum : (rest.map fun v => v.category).sum ≤ 8)
    (kk : ∀ (r : Int32) (w1 : va_W), post r w1 → AW p l e R s m args below meth c D kA A nL Q (pc + 3) (ls) (.int r :: rest) (wr ++ w1) (cells + mc2) (slots + ms2)) : AW p l e R s m args below meth c D kA A nL Q (pc) (ls) (st) (ws) (cells) (slots) := fun H locs la hP hD hS hl => by
  subst hst
  have hFc := va_free (wc := wc) hD hS C.2.2.2.2.2.2.1 isC hC
  have hPc := hP.sub isC (ax_fm hC)
  have hDc := hD.sub isC hnC hC
  refine va_calli (va_runVN (As := As) (rest := rest) ⟨C.1, C.2.1, C.2.2.1, C.2.2.2.1, C.2.2.2.2.1⟩ (hM H.size) ⟨va_cnB n C.2.2.2.2.1 L.1 rfl rfl rfl (L.2.1 s C.2.2.2.2.2.2.2.2.2) (C.2.2.2.2.1 _ L.2.2.2.2.1) L.2.2.2.2.2 ⟨hfr, hlo⟩, C.2.2.2.2.1 _ L.2.2.1, C.2.2.2.2.1 _ L.2.2.2.1⟩ ⟨ax_blind, (by rw [← hrc]; exact va_recv C.2.2.2.2.2.1 hP hc he), fun U hU hW => ⟨rfl, by rw [hU], by rw [hU]; exact hPc, va_K.moved hW.alike C.2.2.2.2.2.1, (C.2.2.2.2.2.2.2.2.2).warm hW, hDc.weaken (fun _ _ _ _ => trivial)⟩⟩ rfl hlen hl.1 rfl (lv_room hsum) hdg ⟨hce, hsl⟩) hS (fun q _ h => hFc q h) hFc (fun r w1 t H1 locs1 ht hvm hw hB hz1 hk1 hS1 => ?_)
  obtain ⟨hP1, hK1, hD1⟩ := hB
  rw [ht] at hP1
  obtain ⟨hP2, hD2⟩ := va_join (wr := wr) (w1 := w1) hP hD isC isR hC hR hn hdis hk1 hFc hP1 hD1
  exact kk r w1 hw H1 locs1 la hP2 hD2 hS1 hl
theorem ax_callVNv (C : ax_C p s m args meth c cc own nL ret D kA A) {idx n : Nat} {host : String} {y : MethodName} {cc2 : ByteArray} {nL2 : Nat} {fr lo mc2 ms2 : Nat} {b : Nat} {As : List Value} {wc : va_W} {post : va_W → Prop} (hM : ax_Mv l D kA y cc2 nL2 fr lo mc2 ms2 (.ref b :: As) wc post) (L : ax_LVN own idx host y cc2 nL2 none n) (q0 : Nat) {ci : Nat} {fs : List Value} {r : vw_C} (he : ws[q0]? = some (b, .inr (ci, fs))) (hc : ax_cl[ci]? = some r) (hrc : r.1 = y.cls) (hdg : decode cc pc = .ok (.invokevirtual idx, 3)) (hst : st = As.reverse ++ .ref b :: rest) (hlen : As.length = n) (isC isR : List Nat) {wr : va_W} (hC : isC.map (fun i => ws[i]?) = wc.map some) (hnC : va_nd isC = true) (hR : isR.map (fun i => ws[i]?) = wr.map some) (hn : va_nd isR = true) (hdis : ∀ i ∈ isR, i ∉ isC) (hfr : fr + 1 ≤ R.frames) (hlo : 8 + (nL2 + 11) + lo ≤ R.locals) (hce : cells + mc2 ≤ R.cells) (hsl : slots + ms2 ≤ R.slots) (hsum : (rest.map fun v => v.category).sum ≤ 8)
    (kk : ∀ w1 : va_W, post w1 → AW p l e R s m args below meth c D kA A nL Q (pc + 3) (ls) (rest) (wr ++ w1) (cells + mc2) (slots + ms2)) : AW p l e R s m args below meth c D kA A nL Q (pc) (ls) (st) (ws) (cells) (slots) := fun H locs la hP hD hS hl => by
  subst hst
  have hFc := va_free (wc := wc) hD hS C.2.2.2.2.2.2.1 isC hC
  have hPc := hP.sub isC (ax_fm hC)
  have hDc := hD.sub isC hnC hC
  refine va_callv (va_runVN (As := As) (rest := rest) ⟨C.1, C.2.1, C.2.2.1, C.2.2.2.1, C.2.2.2.2.1⟩ (hM H.size) ⟨va_cnB n C.2.2.2.2.1 L.1 rfl rfl rfl (L.2.1 s C.2.2.2.2.2.2.2.2.2) (C.2.2.2.2.1 _ L.2.2.2.2.1) L.2.2.2.2.2 ⟨hfr, hlo⟩, C.2.2.2.2.1 _ L.2.2.1, C.2.2.2.2.1 _ L.2.2.2.1⟩ ⟨ax_blind, (by rw [← hrc]; exact va_recv C.2.2.2.2.2.1 hP hc he), fun U hU hW => ⟨rfl, by rw [hU], by rw [hU]; exact hPc, va_K.moved hW.alike C.2.2.2.2.2.1, (C.2.2.2.2.2.2.2.2.2).warm hW, hDc.weaken (fun _ _ _ _ => trivial)⟩⟩ rfl hlen hl.1 rfl (lv_room hsum) hdg ⟨hce, hsl⟩) hS (fun q _ h => hFc q h) hFc (fun w1 t H1 locs1 ht hvm hw hB hz1 hk1 hS1 => ?_)
  obtain ⟨hP1, hK1, hD1⟩ := hB
  rw [ht] at hP1
  obtain ⟨hP2, hD2⟩ := va_join (wr := wr) (w1 := w1) hP hD isC isR hC hR hn hdis hk1 hFc hP1 hD1
  exact kk w1 hw H1 locs1 la hP2 hD2 hS1 hl
theorem ax_callIv (C : ax_C p s m args meth c cc own nL ret D kA A) {idx n : Nat} {y : MethodName} {cc2 : ByteArray} {nL2 : Nat} {fr lo mc2 ms2 : Nat} {b : Nat} {As : List Value} {wc : va_W} {post : va_W → Prop} (hM : ax_Mv l D kA y cc2 nL2 fr lo mc2 ms2 (.ref b :: As) wc post) (L : ax_LI own idx y cc2 nL2 n) (hdg : decode cc pc = .ok (.invokespecial idx, 3)) (hst : st = As.reverse ++ .ref b :: rest) (hlen : As.length = n) (isC isR : List Nat) {wr : va_W} (hC : isC.map (fun i => ws[i]?) = wc.map some) (hnC : va_nd isC = true) (hR : isR.map (fun i => ws[i]?) = wr.map some) (hn : va_nd isR = true) (hdis : ∀ i ∈ isR, i ∉ isC) (hfr : fr + 1 ≤ R.frames) (hlo : 8 + (nL2 + 11) + lo ≤ R.locals) (hce : cells + mc2 ≤ R.cells) (hsl : slots + ms2 ≤ R.slots) (hsum : (rest.map fun v => v.category).sum ≤ 8)
    (kk : ∀ w1 : va_W, post w1 → AW p l e R s m args below meth c D kA A nL Q (pc + 3) (ls) (rest) (wr ++ w1) (cells + mc2) (slots + ms2)) : AW p l e R s m args below meth c D kA A nL Q (pc) (ls) (st) (ws) (cells) (slots) := fun H locs la hP hD hS hl => by
  subst hst
  have hFc := va_free (wc := wc) hD hS C.2.2.2.2.2.2.1 isC hC
  have hPc := hP.sub isC (ax_fm hC)
  have hDc := hD.sub isC hnC hC
  refine va_callv (va_runI (As := As) (rest := rest) ⟨C.1, C.2.1, C.2.2.1, C.2.2.2.1, C.2.2.2.2.1⟩ (hM H.size) (cwI n C.2.2.2.2.1 L.1 rfl rfl rfl (C.2.2.2.2.1 _ L.2.2.2.1) (C.2.2.2.2.1 _ L.2.1) (C.2.2.2.2.1 _ L.2.2.1) L.2.2.2.2.1 L.2.2.2.2.2 ⟨hfr, hlo⟩) ⟨ax_blind, fun U hU hW => ⟨rfl, by rw [hU], by rw [hU]; exact hPc, va_K.moved hW.alike C.2.2.2.2.2.1, (C.2.2.2.2.2.2.2.2.2).warm hW, hDc.weaken (fun _ _ _ _ => trivial)⟩⟩ rfl hlen hl.1 rfl (lv_room hsum) hdg ⟨hce, hsl⟩) hS (fun q _ h => hFc q h) hFc (fun w1 t H1 locs1 ht hvm hw hB hz1 hk1 hS1 => ?_)
  obtain ⟨hP1, hK1, hD1⟩ := hB
  rw [ht] at hP1
  obtain ⟨hP2, hD2⟩ := va_join (wr := wr) (w1 := w1) hP hD isC isR hC hR hn hdis hk1 hFc hP1 hD1
  exact kk w1 hw H1 locs1 la hP2 hD2 hS1 hl
theorem ax_callINv (C : ax_C p s m args meth c cc own nL ret D kA A) {idx n : Nat} {host : String} {y : MethodName} {cc2 : ByteArray} {nL2 : Nat} {fr lo mc2 ms2 : Nat} {b : Nat} {As : List Value} {wc : va_W} {post : va_W → Prop} (hM : ax_Mv l D kA y cc2 nL2 fr lo mc2 ms2 (.ref b :: As) wc post) (L : ax_LIN own idx host y cc2 nL2 n) (hdg : decode cc pc = .ok (.invokespecial idx, 3)) (hst : st = As.reverse ++ .ref b :: rest) (hlen : As.length = n) (isC isR : List Nat) {wr : va_W} (hC : isC.map (fun i => ws[i]?) = wc.map some) (hnC : va_nd isC = true) (hR : isR.map (fun i => ws[i]?) = wr.map some) (hn : va_nd isR = true) (hdis : ∀ i ∈ isR, i ∉ isC) (hfr : fr + 1 ≤ R.frames) (hlo : 8 + (nL2 + 11) + lo ≤ R.locals) (hce : cells + mc2 ≤ R.cells) (hsl : slots + ms2 ≤ R.slots) (hsum : (rest.map fun v => v.category).sum ≤ 8)
    (kk : ∀ w1 : va_W, post w1 → AW p l e R s m args below meth c D kA A nL Q (pc + 3) (ls) (rest) (wr ++ w1) (cells + mc2) (slots + ms2)) : AW p l e R s m args below meth c D kA A nL Q (pc) (ls) (st) (ws) (cells) (slots) := fun H locs la hP hD hS hl => by
  subst hst
  have hFc := va_free (wc := wc) hD hS C.2.2.2.2.2.2.1 isC hC
  have hPc := hP.sub isC (ax_fm hC)
  have hDc := hD.sub isC hnC hC
  refine va_callv (va_runIN (As := As) (rest := rest) ⟨C.1, C.2.1, C.2.2.1, C.2.2.2.1, C.2.2.2.2.1⟩ (hM H.size) ⟨va_cnB n C.2.2.2.2.1 L.1 rfl rfl rfl (L.2.1 s C.2.2.2.2.2.2.2.2.2) (C.2.2.2.2.1 _ L.2.2.2.1) L.2.2.2.2.2 ⟨hfr, hlo⟩, L.2.2.2.2.1, C.2.2.2.2.1 _ L.2.2.1⟩ ⟨ax_blind, fun U hU hW => ⟨rfl, by rw [hU], by rw [hU]; exact hPc, va_K.moved hW.alike C.2.2.2.2.2.1, (C.2.2.2.2.2.2.2.2.2).warm hW, hDc.weaken (fun _ _ _ _ => trivial)⟩⟩ rfl hlen hl.1 rfl (lv_room hsum) hdg ⟨hce, hsl⟩) hS (fun q _ h => hFc q h) hFc (fun w1 t H1 locs1 ht hvm hw hB hz1 hk1 hS1 => ?_)
  obtain ⟨hP1, hK1, hD1⟩ := hB
  rw [ht] at hP1
  obtain ⟨hP2, hD2⟩ := va_join (wr := wr) (w1 := w1) hP hD isC isR hC hR hn hdis hk1 hFc hP1 hD1
  exact kk w1 hw H1 locs1 la hP2 hD2 hS1 hl
theorem ax_callSi (C : ax_C p s m args meth c cc own nL ret D kA A) {idx n : Nat} {y : MethodName} {cc2 : ByteArray} {nL2 : Nat} {ret2 : FieldType} {fr lo mc2 ms2 : Nat} {As : List Value} {wc : va_W} {post : Int32 → va_W → Prop} (hM : ax_Mi l D kA y cc2 nL2 ret2 fr lo mc2 ms2 As wc post) (L : ax_LS own idx y cc2 nL2 (some ret2) n) (hdg : decode cc pc = .ok (.invokestatic idx, 3)) (hst : st = As.reverse ++ rest) (hlen : As.length = n) (isC isR : List Nat) {wr : va_W} (hC : isC.map (fun i => ws[i]?) = wc.map some) (hnC : va_nd isC = true) (hR : isR.map (fun i => ws[i]?) = wr.map some) (hn : va_nd isR = true) (hdis : ∀ i ∈ isR, i ∉ isC) (hfr : fr + 1 ≤ R.frames) (hlo : 8 + (nL2 + 11) + lo ≤ R.locals) (hce : cells + mc2 ≤ R.cells) (hsl : slots + ms2 ≤ R.slots) (hsum : (rest.map fun v => v.category).sum ≤ 8)
    (kk : ∀ (r : Int32) (w1 : va_W), post r w1 → AW p l e R s m args below meth c D kA A nL Q (pc + 3) (ls) (.int r :: rest) (wr ++ w1) (cells + mc2) (slots + ms2)) : AW p l e R s m args below meth c D kA A nL Q (pc) (ls) (st) (ws) (cells) (slots) := fun H locs la hP hD hS hl => by
  subst hst
  have hFc := va_free (wc := wc) hD hS C.2.2.2.2.2.2.1 isC hC
  have hPc := hP.sub isC (ax_fm hC)
  have hDc := hD.sub isC hnC hC
  refine va_calli (va_runS (As := As) (rest := rest) ⟨C.1, C.2.1, C.2.2.1, C.2.2.2.1, C.2.2.2.2.1⟩ (hM H.size) (va_cwS n C.2.2.2.2.1 L.1 rfl rfl rfl L.2 ⟨hfr, hlo⟩) ⟨ax_blind, fun U hU hW => ⟨rfl, by rw [hU], by rw [hU]; exact hPc, va_K.moved hW.alike C.2.2.2.2.2.1, (C.2.2.2.2.2.2.2.2.2).warm hW, hDc.weaken (fun _ _ _ _ => trivial)⟩⟩ rfl hlen hl.1 rfl (lv_room hsum) hdg ⟨hce, hsl⟩) hS (fun q _ h => hFc q h) hFc (fun r w1 t H1 locs1 ht hvm hw hB hz1 hk1 hS1 => ?_)
  obtain ⟨hP1, hK1, hD1⟩ := hB
  rw [ht] at hP1
  obtain ⟨hP2, hD2⟩ := va_join (wr := wr) (w1 := w1) hP hD isC isR hC hR hn hdis hk1 hFc hP1 hD1
  exact kk r w1 hw H1 locs1 la hP2 hD2 hS1 hl
theorem ax_callSv (C : ax_C p s m args meth c cc own nL ret D kA A) {idx n : Nat} {y : MethodName} {cc2 : ByteArray} {nL2 : Nat} {fr lo mc2 ms2 : Nat} {As : List Value} {wc : va_W} {post : va_W → Prop} (hM : ax_Mv l D kA y cc2 nL2 fr lo mc2 ms2 As wc post) (L : ax_LS own idx y cc2 nL2 none n) (hdg : decode cc pc = .ok (.invokestatic idx, 3)) (hst : st = As.reverse ++ rest) (hlen : As.length = n) (isC isR : List Nat) {wr : va_W} (hC : isC.map (fun i => ws[i]?) = wc.map some) (hnC : va_nd isC = true) (hR : isR.map (fun i => ws[i]?) = wr.map some) (hn : va_nd isR = true) (hdis : ∀ i ∈ isR, i ∉ isC) (hfr : fr + 1 ≤ R.frames) (hlo : 8 + (nL2 + 11) + lo ≤ R.locals) (hce : cells + mc2 ≤ R.cells) (hsl : slots + ms2 ≤ R.slots) (hsum : (rest.map fun v => v.category).sum ≤ 8)
    (kk : ∀ w1 : va_W, post w1 → AW p l e R s m args below meth c D kA A nL Q (pc + 3) (ls) (rest) (wr ++ w1) (cells + mc2) (slots + ms2)) : AW p l e R s m args below meth c D kA A nL Q (pc) (ls) (st) (ws) (cells) (slots) := fun H locs la hP hD hS hl => by
  subst hst
  have hFc := va_free (wc := wc) hD hS C.2.2.2.2.2.2.1 isC hC
  have hPc := hP.sub isC (ax_fm hC)
  have hDc := hD.sub isC hnC hC
  refine va_callv (va_runS (As := As) (rest := rest) ⟨C.1, C.2.1, C.2.2.1, C.2.2.2.1, C.2.2.2.2.1⟩ (hM H.size) (va_cwS n C.2.2.2.2.1 L.1 rfl rfl rfl L.2 ⟨hfr, hlo⟩) ⟨ax_blind, fun U hU hW => ⟨rfl, by rw [hU], by rw [hU]; exact hPc, va_K.moved hW.alike C.2.2.2.2.2.1, (C.2.2.2.2.2.2.2.2.2).warm hW, hDc.weaken (fun _ _ _ _ => trivial)⟩⟩ rfl hlen hl.1 rfl (lv_room hsum) hdg ⟨hce, hsl⟩) hS (fun q _ h => hFc q h) hFc (fun w1 t H1 locs1 ht hvm hw hB hz1 hk1 hS1 => ?_)
  obtain ⟨hP1, hK1, hD1⟩ := hB
  rw [ht] at hP1
  obtain ⟨hP2, hD2⟩ := va_join (wr := wr) (w1 := w1) hP hD isC isR hC hR hn hdis hk1 hFc hP1 hD1
  exact kk w1 hw H1 locs1 la hP2 hD2 hS1 hl
end CT
