def ax_PreXY (Y : (Nat → Prop) → State → Heap → Prop) (D : va_G) (kA : Nat → ClassId) (As : List Value) (w0 : va_W) (sz : Nat) : Array Value → State → Prop := fun v U => ax_PreX D kA As w0 sz v U ∧ Y (va_A w0 sz) U U.heap
/-! methods with handlers, with more that is known (Y) -/
def ax_MwY (Y : (Nat → Prop) → State → Heap → Prop) (l : Launch) (D : va_G) (kA : Nat → ClassId) (y : MethodName) (cc : ByteArray) (nL : Nat) (hh : List (Nat × Nat × Nat × Nat)) (fr lo mc ms : Nat) (As : List Value) (w0 : va_W) (post : Int32 → va_W → Prop) : Prop :=
  ∀ sz : Nat, Met l y (ax_WSw y cc nL (some .int) hh) ({ frames := fr, cells := mc, slots := ms, locals := lo }) (ax_PreXY Y D kA As w0 sz) (va_Qi post (ax_B D kA w0 sz) (va_A w0 sz)) mc ms (va_A w0 sz)
theorem ax_MwY.of {Y : (Nat → Prop) → State → Heap → Prop} {l : Launch} {D : va_G} {kA : Nat → ClassId} {y : MethodName} {cc : ByteArray} {nL : Nat} {hh : List (Nat × Nat × Nat × Nat)} {fr lo mc ms : Nat} {As : List Value} {w0 : va_W} {post : Int32 → va_W → Prop} (hy : plainName y.cls = true) (hlen : (lg_sl As).length ≤ nL)
    (body : ∀ (p : Program) (e : Env) (s : State) (m : MethodId) (args : Array Value) (below : List Frame) (meth : Method) (c : Code), ax_C p s m args meth c cc y.cls nL (some .int) D kA (va_A w0 s.heap.size) → l.admits e → s.vm.method? m = some meth → meth.code = some c → c.exceptionTable.toList = tableOf hh → ax_X (va_A w0 s.heap.size) s s.heap → Y (va_A w0 s.heap.size) s s.heap →
      AW p l e { frames := fr, cells := mc, slots := ms, locals := lo } s m args below meth c D kA (va_A w0 s.heap.size) nL (ax_Qi below args s D kA w0 mc ms post) 0 (lv_args 0 As) [] w0 0 0) : ax_MwY Y l D kA y cc nL hh fr lo mc ms As w0 post := by
  intro sz
  refine va_MetW (cc := cc) (maxL := nL) (ret := some .int) (hh := hh) hy rfl ?_
  intro p e s m args below meth c s₁ B hml hv
  obtain ⟨⟨⟨rfl, hsz, hP, hK, hN, hD0⟩, hX⟩, hY⟩ := hv
  subst hsz
  have C : ax_C p s m As.toArray meth c cc y.cls nL (some .int) D kA (va_A w0 s.heap.size) := ⟨B.exec, B.bytes, hml, findClass_of_methodNamed B.named, fun w hw => atoms_spec (ws := ax_WSw y cc nL (some .int) hh) B.pre w (List.mem_cons_of_mem _ hw), hK, fun q h => Or.inr h, B.notSynchronized, B.returns, hN⟩
  have hl := lv_entry As hlen
  have X0 := Stand.of_body B
  obtain ⟨m9, meth9, c9, hn9, h1, h2, h3, h4, h5, -⟩ := Cond.codeWith_spec (atoms_spec (ws := ax_WSw y cc nL (some .int) hh) B.pre _ List.mem_cons_self)
  obtain rfl := Option.some.inj (B.named.symm.trans hn9)
  obtain rfl := Option.some.inj (B.method.symm.trans h1)
  obtain rfl := Option.some.inj (X0.code.symm.trans h2)
  rw [lg_entry_eq]
  exact body p e s m _ below meth c C X0.admits B.method X0.code (by rw [← h5, table_eq]) hX hY s.heap [] _ hP (hD0.self) va_S.rf hl
section WRSY
variable {p : Program} {l : Launch} {e : Env} {R : Room} {s : State} {m : MethodId} {args : Array Value} {below : List Frame} {meth : Method} {c : Code} {Q : State → Prop} {D : va_G} {kA : Nat → ClassId} {A : Nat → Prop} {nL : Nat} {cc : ByteArray} {own : String} {ret : Option FieldType} {pc cells slots : Nat} {ls : List (Nat × Value)} {st rest : List Value} {ws : va_W}
theorem ax_callSwY {Y : (Nat → Prop) → State → Heap → Prop} (hY : CtxOK Y) (C : ax_C p s m args meth c cc own nL ret D kA A) (hXs : ax_X A s s.heap) (hYs : Y A s s.heap) {idx n : Nat} {y : MethodName} {cc2 : ByteArray} {nL2 : Nat} {hh : List (Nat × Nat × Nat × Nat)} {fr lo mc2 ms2 : Nat} {As : List Value} {wc : va_W} {post : Int32 → va_W → Prop} (hM : ax_MwY Y l D kA y cc2 nL2 hh fr lo mc2 ms2 As wc post) (L : ax_LSw own idx y cc2 nL2 hh n) (hdg : decode cc pc = .ok (.invokestatic idx, 3)) (hst : st = As.reverse ++ rest) (hlen : As.length = n)
    (isC isR : List Nat) {wr : va_W} (hC : isC.map (fun i => ws[i]?) = wc.map some) (hnC : va_nd isC = true) (hR : isR.map (fun i => ws[i]?) = wr.map some) (hn : va_nd isR = true) (hdis : ∀ i ∈ isR, i ∉ isC) (hfr : fr + 1 ≤ R.frames) (hlo : 8 + (nL2 + 11) + lo ≤ R.locals) (hce : cells + mc2 ≤ R.cells) (hsl : slots + ms2 ≤ R.slots) (hsum : (rest.map fun v => v.category).sum ≤ 8)
    (kk : ∀ (r : Int32) (w1 : va_W), post r w1 → AW p l e R s m args below meth c D kA A nL Q (pc + 3) (ls) (.int r :: rest) (wr ++ w1) (cells + mc2) (slots + ms2)) : AW p l e R s m args below meth c D kA A nL Q (pc) (ls) (st) (ws) (cells) (slots) := fun H locs la hP hD hS hl => by
  subst hst
  have hFc := va_free (wc := wc) hD hS C.2.2.2.2.2.2.1 isC hC
  have hPc := hP.sub isC (ax_fm hC)
  have hDc := hD.sub isC hnC hC
  have ok : ∀ w ∈ va_wsS own idx y (ax_WSw y cc2 nL2 (some .int) hh), w.before args s = true := fun w h => C.2.2.2.2.1 w (L.1 w h).1
  have hlink : (Cond.methodLink own idx y).before args s = true := ok _ (by simp [va_wsS])
  have hstat : (Cond.static y).before args s = true := ok _ (by simp [va_wsS])
  have hini : (Cond.initialized y.cls).before args s = true := ok _ (by simp [va_wsS])
  have hcode : (Cond.codeWith y cc2 nL2 (some .int) hh).before args s = true := ok _ (by simp [va_wsS, ax_WSw])
  have hws := pay_in C.2.2.2.2.1 (fun w h => L.1 w (by unfold va_wsS; exact List.mem_append_right _ h))
  have hblind : FrameBlind (ax_PreXY Y D kA As wc H.size) := fun a U g mk q => ⟨⟨ax_blind a U g mk q.1.1, ax_X.same (s := U) (U := U.calling g mk a) q.1.2 rfl⟩, hY.2 _ U (U.calling g mk a) _ q.2 rfl⟩
  have hK : Back l R p e below s args y 3 8 (PreOf R mc2 ms2 (ax_PreXY Y D kA As wc H.size)) (PostOf (va_Qi post (ax_B D kA wc H.size) (va_A wc H.size)) mc2 ms2 (va_A wc H.size)) := va_backW (bytes := cc2) (maxL := nL2) (ret := some .int) (hh := hh) (hM H.size) hblind rfl rfl hfr hlo hws List.mem_cons_self (fun a' U hW => word_at hW (Or.inl rfl) hini)
  have hrun : va_Run p l e R s m args below meth c H locs cells slots mc2 ms2 (F0 m pc la (As.reverse ++ rest)) rest (va_Qi post (ax_B D kA wc H.size) (va_A wc H.size) As.toArray) (va_A wc H.size) := by
    intro T hT X
    obtain ⟨mk, methM, cM, hnamed, hmethM, -, -, -, -, -, -, hsigM⟩ := Cond.codeWith_spec hcode
    have hstatic : methM.isStatic = true := Cond.static_spec hnamed hmethM hstat
    obtain ⟨kP, hkP, -⟩ := className_of_methodNamed hnamed
    have hinitP : kP.init = .initialized := Cond.initialized_spec (findClass_of_methodNamed hnamed) hkP hini
    have hn2 : As.length = methM.sig.parameters.length := by
      have h9 := L.2.2.2
      rw [hsigM] at h9
      rw [hlen]
      exact (Option.some.inj h9).symm
    obtain ⟨vm₁, X₁, hstep₁⟩ := X.invokestatic C.1 C.2.2.2.1 hlink hnamed hmethM hstatic hkP hinitP ⟨L.2.1, L.2.2.1⟩ (g := F0 m pc la (As.reverse ++ rest)) rfl (argsL := As) (rest := rest) hn2 rfl (by rw [C.2.1]; exact hdg)
    obtain ⟨v, ⟨U', l2, c2, s2⟩, X', ⟨g', mk', t, L2, e1, e2, hq, h1, hL, h2, h3⟩, hsteps⟩ := hK m meth c ⟨T.setVm vm₁, locs, cells, slots⟩ (F0 m pc la rest) (.invokestatic idx) mk As.toArray X₁ rfl (by rw [C.2.2.1]; exact hl.1) (by rw [C.2.1]; exact hdg) (lv_room hsum) (X₁.named hnamed) ⟨hce, hsl, by
      have hW := X₁.warmed
      refine ⟨⟨⟨rfl, by show T.heap.size = _; rw [hT], by show va_P _ _ _ T.heap; rw [hT]; exact hPc, va_K.moved hW.alike C.2.2.2.2.2.1, (C.2.2.2.2.2.2.2.2.2).warm hW, hDc.weaken (fun _ _ _ _ => trivial)⟩, ?_⟩, ?_⟩
      · show ax_X _ (T.setVm vm₁) T.heap
        rw [hT]
        exact hXs.go hW (fun a h1 h2 => hS.2.1 a h1 h2) (fun q h => hFc q h)
      · show Y _ (T.setVm vm₁) T.heap
        rw [hT]
        exact hY.1 _ _ _ _ _ _ hYs hW (fun a h1 h2 => hS.2.1 a h1 h2) (fun q h => hFc q h)⟩
    dsimp only [Pt.U, Pt.locs, Pt.cells, Pt.slots] at X' e1 e2 h1 h2 h3 hsteps
    subst h1; subst h2; subst h3
    exact ⟨v, (T.setVm vm₁).calling g' mk' As.toArray, t, U', L2, hT, X', hL, e1, e2, hq, fun target h => hstep₁ _ fun acts => by rw [doInvoke_state]; exact hsteps.trans h⟩
  refine va_calli hrun hS (fun q _ h => hFc q h) hFc (fun r w1 t H1 locs1 ht hvm hw hB hz1 hk1 hS1 => ?_)
  obtain ⟨hP1, hK1, hD1⟩ := hB
  rw [ht] at hP1
  obtain ⟨hP2, hD2⟩ := va_join (wr := wr) (w1 := w1) hP hD isC isR hC hR hn hdis hk1 hFc hP1 hD1
  exact kk r w1 hw H1 locs1 la hP2 hD2 hS1 hl
end WRSY
