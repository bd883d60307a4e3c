/-! calls of methods that throw; methods with a table of handlers -/
section CVX
variable {p : Program} {l : Launch} {e : Env} {R : Room} {s : State} {m : MethodId} {args : Array Value} {below : List Frame} {meth : Method} {c : Code} {Q : State → Prop} {D : va_G} {kA : Nat → ClassId} {A : Nat → Prop} {nL : Nat} {cc : ByteArray} {own : String} {ret : Option FieldType} {pc cells slots : Nat} {ls : List (Nat × Value)} {st rest : List Value} {ws : va_W}
/-- which handler takes a new cls that comes out of the call at pc: the search ends at hpc -/
def cx_F (e : Env) (s : State) (m : MethodId) (pc : Nat) (cls : String) (hpc : Nat) : Prop := ∀ (T : State) (g : JFrame) (x : Addr) (ce : Cell), s.WarmedH T.vm → g.method = m → g.pc = pc → T.heap[x]? = some ce → ce.vm = .none → s.vm.findClass cls = some ce.cls →
  ∃ vm' : Vm, s.WarmedH vm' ∧ ∀ (Q : Handler → Pre) (E : CtlPost) (d : Bool) (acts : List Action), Q (.found hpc) d acts (((T.setTop g).pushFrame (.throwing x)).setVm vm') → wp (findHandler g x) Q E e d acts ((T.setTop g).pushFrame (.throwing x))
theorem ax_callVx (C : ax_C p s m args meth c cc own nL ret D kA A) (hXs : ax_X A s s.heap) {idx n hpc : Nat} {y : MethodName} {cc2 : ByteArray} {nL2 : Nat} {ret2 : FieldType} {fr lo mc2 ms2 : Nat} {b : Nat} {As : List Value} {wc : va_W} {cls : String} {post : va_W → Prop} (hM : ax_Mx l D kA y cc2 nL2 (some ret2) fr lo mc2 ms2 (.ref b :: As) wc cls post) (L : ax_LV own idx y cc2 nL2 (some ret2) n) (q0 : Nat) {ci : Nat} {fs : List Value} {r : vw_C} (he : ws[q0]? = some (b, .inr (ci, fs))) (hc : ax_cl[ci]? = some r) (hrc : r.1 = y.cls) (hdg : decode cc pc = .ok (.invokevirtual idx, 3)) (hst : st = As.reverse ++ .ref b :: rest) (hlen : As.length = n)
    (isC isR : List Nat) {wr : va_W} (hC : isC.map (fun i => ws[i]?) = wc.map some) (hnC : va_nd isC = true) (hR : isR.map (fun i => ws[i]?) = wr.map some) (hn : va_nd isR = true) (hdis : ∀ i ∈ isR, i ∉ isC) (hfr : fr + 1 ≤ R.frames) (hlo : 8 + (nL2 + 11) + lo ≤ R.locals) (hce : cells + mc2 ≤ R.cells) (hsl : slots + ms2 ≤ R.slots) (hsum : (rest.map fun v => v.category).sum ≤ 8)
    (hF : cx_F e s m pc cls hpc) (kk : ∀ (x : Nat) (w1 : va_W), post w1 → AW p l e R s m args below meth c D kA A nL Q (hpc) (ls) ([.ref x]) (wr ++ w1) (cells + mc2) (slots + ms2)) : AW p l e R s m args below meth c D kA A nL Q (pc) (ls) (st) (ws) (cells) (slots) := fun H locs la hP hD hS hl => by
  subst hst
  have hFc := va_free (wc := wc) hD hS C.2.2.2.2.2.2.1 isC hC
  have hPc := hP.sub isC (ax_fm hC)
  have hDc := hD.sub isC hnC hC
  have cw := cwV (R := R) (rm := { frames := fr, cells := mc2, slots := ms2, locals := lo }) (mc := mc2) (ms := ms2) n C.2.2.2.2.1 L.1 rfl rfl rfl L.2 ⟨hfr, hlo⟩
  obtain ⟨⟨-, -, -, -, hws, -, hcode, hini, hy, hlen2, hl2⟩, hin, hse⟩ := cw
  intro T hT X
  obtain ⟨mk, methM, hnamed, hmethM, hstM, habM⟩ := Cond.instanceMethod_spec hin
  obtain ⟨methM', cM, hmethM', hcM, -, hlM, -, -, -, hsigM⟩ := Cond.code_spec hnamed hcode
  obtain rfl := Option.some.inj (hmethM.symm.trans hmethM')
  obtain ⟨cellB, hcB, hoB, hclB⟩ := va_recv C.2.2.2.2.2.1 hP hc he
  rw [hrc] at hclB
  obtain ⟨c2, r2, m2, q1, q2, q3, q4, kP, hkP, hkPi⟩ := Cond.selects_spec hse
  obtain rfl := Option.some.inj (hclB.symm.trans q1)
  obtain rfl := Option.some.inj ((State.methodFound?_of_named hnamed hy).symm.trans q2)
  obtain rfl := Option.some.inj (hnamed.symm.trans q3)
  have hselP : selectMethod e.platform s.vm cellB.cls mk = .method mk := by rw [Launch.admits_selectMethod X.admits]; exact q4
  obtain ⟨vm₁, X₁, hstep₁⟩ := X.invokevirtual C.1 C.2.2.2.1 hl2 hnamed hmethM hstM hkP hkPi hy (a := b) (cell := cellB) (by rw [hT]; exact hcB)
    (fun z h => by rw [h] at hoB; cases hoB) hselP hmethM habM hkP hkPi (g := F0 m pc la (As.reverse ++ .ref b :: rest)) rfl (argsL := As) (rest := rest) (hlen.trans (hlen2 _ hsigM)) rfl (by rw [C.2.1]; exact hdg)
  have hcodeU : (Cond.code y cc2 nL2 (some ret2)).before (Value.ref b :: As).toArray (T.setVm vm₁) = true := hws _ List.mem_cons_self _ _ X₁.warmed
  have hiniU : (Cond.initialized y.cls).before (Value.ref b :: As).toArray (T.setVm vm₁) = true := word_at X₁.warmed (Or.inl rfl) hini
  have hnU : (T.setVm vm₁).methodNamed? y = some mk := X₁.named hnamed
  obtain ⟨methY, cY, hmY, hcY, -, hlY, -, -, -, -⟩ := Cond.code_spec hnU hcodeU
  obtain ⟨kY, hkY, -⟩ := className_of_methodNamed hnU
  have hinitY : kY.init = .initialized := Cond.initialized_spec (findClass_of_methodNamed hnU) hkY hiniU
  have hpre : (headSpec (ax_WS y cc2 nL2 (some ret2)) ({ frames := fr, cells := mc2, slots := ms2, locals := lo })).pre.before (Value.ref b :: As).toArray (T.setVm vm₁) = true := atoms_intro fun w hw => hws w hw _ _ X₁.warmed
  have happ : (headSpec (ax_WS y cc2 nL2 (some ret2)) ({ frames := fr, cells := mc2, slots := ms2, locals := lo })).appliesLoose y e.platform ((T.setVm vm₁).calling (F0 m pc la rest) mk (Value.ref b :: As).toArray) = true :=
    Spec.appliesLoose_calling (g := F0 m pc la rest) X₁.here (by rw [C.2.1]; exact hdg) hnU hkY hinitY (X₁.room_calling (g := F0 m pc la rest) (R' := { frames := fr, cells := mc2, slots := ms2, locals := lo }) (by rw [C.2.2.1]; exact hl.1) hmY hcY hfr (by rw [hlY]; have h9 := lv_room (m := m) (pc := pc) (ls := la) (rest := rest) hsum; dsimp only at h9 ⊢; omega) hce hsl) hpre
  obtain ⟨g₀, hfeq⟩ := X₁.frames_eq
  have hfrs : ((T.setVm vm₁).setTop (F0 m pc la rest)).frames = [.java (F0 m pc la rest)] ++ below := by
    rw [State.frames_setTop' _ X₁.here.top, hfeq]; rfl
  have hPre : ax_PreX D kA (.ref b :: As) wc H.size (Value.ref b :: As).toArray ((T.setVm vm₁).calling (F0 m pc la rest) mk (Value.ref b :: As).toArray) := by
    have hW := X₁.warmed
    refine ⟨ax_blind _ (T.setVm vm₁) _ _ ⟨rfl, by show T.heap.size = _; rw [hT], by show va_P _ _ _ T.heap; rw [hT]; exact hPc, va_K.moved hW.alike C.2.2.2.2.2.1, (C.2.2.2.2.2.2.2.2.2).warm hW, hDc.weaken (fun _ _ _ _ => trivial)⟩, ?_⟩
    refine ax_X.same (s := T.setVm vm₁) ?_ rfl
    show ax_X _ (T.setVm vm₁) T.heap
    rw [hT]
    exact hXs.go hW (fun a h1 h2 => hS.2.1 a h1 h2) (fun q h => hFc q h)
  obtain ⟨oc, s₂, hsteps, -, hend, x, ce, L2, w1, rfl, hW2, hsame2, hL2, hx1, hx2, hx3, hw1, ⟨hP1, hK1, hD1⟩, hz1, hk1⟩ := Steps.callFree (hM H.size) p X.admits X.cas X.clock (acts := []) hfrs happ hPre trivial
  rw [hfrs] at hend
  obtain ⟨T', X', hWT, -, ht⟩ := X₁.outOfThrown (g := F0 m pc la rest) rfl (mk := mk) (a := (Value.ref b :: As).toArray) hend hW2 hsame2
  have hheap : T'.heap = s₂.heap := by rw [ht, Stand.throwing_heap]
  have hvm : T'.vm = s₂.vm := by rw [ht, Stand.throwing_vm]
  have hk2 : ∀ q : Nat, q < H.size → ¬ va_A wc H.size q → s₂.heap[q]? = H[q]? := fun q h1 h2 => by
    have h3 := hk1 q (by show q < T.heap.size; rw [hT]; exact h1) h2
    rw [h3]
    show T.heap[q]? = _
    rw [hT]
  have hz2 : H.size ≤ s₂.heap.size := by
    have h3 : T.heap.size ≤ s₂.heap.size := hz1
    rw [hT] at h3; exact h3
  obtain ⟨hP2, hD2⟩ := va_join (wr := wr) (w1 := w1) hP hD isC isR hC hR hn hdis hk2 hFc hP1 hD1
  obtain ⟨vm', hWv, hfind⟩ := hF T' (F0 m pc la rest) x ce X'.warmed rfl rfl (by rw [hheap]; exact hx1) hx2 (by rw [← X₁.warmed.alike.findClass]; exact hx3)
  have X2 := X'.noted hWv
  obtain ⟨t, a1, b1⟩ := kk x w1 hw1 s₂.heap (locs ++ L2) la hP2 hD2 ⟨Nat.le_trans hS.1 hz2, fun q h1 h2 => (hk2 q (Nat.lt_of_lt_of_le h1 hS.1) (fun z => h2 (hFc q z))).trans (hS.2.1 q h1 h2), fun q hq => by
      rcases List.mem_append.mp hq with h | h
      · exact hS.2.2 q h
      · exact hFc _ (hL2 q h)⟩ hl (T'.setVm vm') hheap X2
  refine ⟨t, hstep₁ _ fun acts => ?_, b1⟩
  rw [doInvoke_state]
  refine hsteps.trans ?_
  rw [ht]
  exact cx_caught X'.here hfind a1
end CVX
