/-! String constants: what is known of them, and calls with it -/
def stI : List Nat := [181, 186, 198, 200, 206, 208, 216, 218, 220, 222, 230]
def stX : List String := ["false", " | ", "", "~", " = ", " != ", "(", ")", ",", "X", "w"]
def stB : List (List Int32) := [[102, 97, 108, 115, 101], [32, 124, 32], [], [126], [32, 61, 32], [32, 33, 61, 32], [40], [41], [44], [88], [119]]
def stL : List Nat := [5, 3, 0, 1, 3, 4, 1, 1, 1, 1, 1]
def SX (adK adV : Nat → Nat) (A : Nat → Prop) (U : State) (H : Heap) : Prop := vk_S 11 stL stB adK adV A U H ∧ (∀ i, i < 11 → vk_R "ClauseProver" (stI.getD i 0) (stX.getD i "") (adK i) U) ∧ va_Z "java/lang/String" "COMPACT_STRINGS" "Z" (.int 1) A U H ∧ ax_ZL "jdk/internal/util/Preconditions" "SIOOBE_FORMATTER" "Ljava/util/function/BiFunction;" A U H
/-- what may be known along a run of calls -/
def CtxOK (Y : (Nat → Prop) → State → Heap → Prop) : Prop := (∀ (A B : Nat → Prop) (s U : State) (H H1 : Heap), Y A s H → s.WarmedH U.vm → (∀ a : Nat, a < H.size → ¬ A a → H1[a]? = H[a]?) → (∀ q, B q → A q) → Y B U H1) ∧ ∀ (A : Nat → Prop) (s U : State) (H : Heap), Y A s H → s.vm = U.vm → Y A U H
theorem SX_ok (adK adV : Nat → Nat) : CtxOK (SX adK adV) := by
  refine ⟨fun A B s U H H1 h hW hq hAB => ?_, fun A s U H h hv => ?_⟩
  · obtain ⟨h1, h2, h3, h4⟩ := h
    exact ⟨((h1.moved hW.alike).kept hq).narrow hAB, fun i hi => (h2 i hi).warm hW, ((h3.moved hW.alike).kept hq).narrow hAB, ((h4.moved hW.alike).kept hq).narrow hAB⟩
  · obtain ⟨h1, h2, h3, h4⟩ := h
    have hal : s.vm.Alike U.vm := hv ▸ Vm.Alike.refl s.vm
    exact ⟨h1.moved hal, fun i hi => (h2 i hi).same hv.symm, h3.moved hal, h4.moved hal⟩
def ax_PreY (Y : (Nat → Prop) → State → Heap → Prop) (D : va_G) (kA : Nat → ClassId) (As : List Value) (w0 : va_W) (sz : Nat) : Array Value → State → Prop := fun v U => ax_Pre D kA As w0 sz v U ∧ Y (va_A w0 sz) U U.heap
theorem ax_blindY {Y : (Nat → Prop) → State → Heap → Prop} (hY : CtxOK Y) {D : va_G} {kA : Nat → ClassId} {As : List Value} {w0 : va_W} {sz : Nat} : FrameBlind (ax_PreY Y D kA As w0 sz) := fun a U g mk q => ⟨ax_blind a U g mk q.1, hY.2 _ U (U.calling g mk a) _ q.2 rfl⟩
def ax_MiY (Y : (Nat → Prop) → State → Heap → Prop) (l : Launch) (D : va_G) (kA : Nat → ClassId) (y : MethodName) (cc : ByteArray) (nL : Nat) (ret : FieldType) (fr lo mc ms : Nat) (As : List Value) (w0 : va_W) (post : Int32 → va_W → Prop) : Prop :=
  ∀ sz : Nat, Met l y (ax_WS y cc nL (some ret)) ({ frames := fr, cells := mc, slots := ms, locals := lo }) (ax_PreY Y D kA As w0 sz) (va_Qi post (ax_B D kA w0 sz) (va_A w0 sz)) mc ms (va_A w0 sz)
theorem ax_MiY.of {Y : (Nat → Prop) → State → Heap → Prop} {l : Launch} {D : va_G} {kA : Nat → ClassId} {y : MethodName} {cc : ByteArray} {nL : Nat} {ret : FieldType} {fr lo mc ms : Nat} {As : List Value} {w0 : va_W} {post : Int32 → va_W → Prop} (hy : plainName y.cls = true) (hlen : (lg_sl As).length ≤ nL)
    (body : ∀ (p : Program) (e : Env) (s : State) (m : MethodId) (args : Array Value) (below : List Frame) (meth : Method) (c : Code), ax_C p s m args meth c cc y.cls nL (some ret) D kA (va_A w0 s.heap.size) → meth.name = y.name → Y (va_A w0 s.heap.size) s s.heap →
      AW p l e { frames := fr, cells := mc, slots := ms, locals := lo } s m args below meth c D kA (va_A w0 s.heap.size) nL (ax_Qi below args s D kA w0 mc ms post) 0 (lv_args 0 As) [] w0 0 0) : ax_MiY Y l D kA y cc nL ret fr lo mc ms As w0 post := by
  intro sz
  refine Met.ofW (cc := cc) (maxL := nL) (ret := (some ret)) hy rfl ?_
  intro p e s m args below meth c s₁ B hml hv
  obtain ⟨⟨rfl, hsz, hP, hK, hN, hD0⟩, hX⟩ := hv
  subst hsz
  have C : ax_C p s m As.toArray meth c cc y.cls nL (some ret) D kA (va_A w0 s.heap.size) := ⟨B.exec, B.bytes, hml, findClass_of_methodNamed B.named, fun w hw => atoms_spec (ws := ax_WS y cc nL (some ret)) B.pre w (List.mem_cons_of_mem _ hw), hK, fun q h => Or.inr h, B.notSynchronized, B.returns, hN⟩
  have hl := lv_entry As hlen
  rw [lg_entry_eq]
  exact body p e s m _ below meth c C (name_of_methodNamed B.named B.method).1 hX s.heap [] _ hP (hD0.self) va_S.rf hl
def ax_MvY (Y : (Nat → Prop) → State → Heap → Prop) (l : Launch) (D : va_G) (kA : Nat → ClassId) (y : MethodName) (cc : ByteArray) (nL : Nat) (fr lo mc ms : Nat) (As : List Value) (w0 : va_W) (post : va_W → Prop) : Prop :=
  ∀ sz : Nat, Met l y (ax_WS y cc nL none) ({ frames := fr, cells := mc, slots := ms, locals := lo }) (ax_PreY Y D kA As w0 sz) (va_Qv post (ax_B D kA w0 sz) (va_A w0 sz)) mc ms (va_A w0 sz)
theorem ax_MvY.of {Y : (Nat → Prop) → State → Heap → Prop} {l : Launch} {D : va_G} {kA : Nat → ClassId} {y : MethodName} {cc : ByteArray} {nL : Nat} {fr lo mc ms : Nat} {As : List Value} {w0 : va_W} {post : va_W → Prop} (hy : plainName y.cls = true) (hlen : (lg_sl As).length ≤ nL)
    (body : ∀ (p : Program) (e : Env) (s : State) (m : MethodId) (args : Array Value) (below : List Frame) (meth : Method) (c : Code), ax_C p s m args meth c cc y.cls nL none D kA (va_A w0 s.heap.size) → meth.name = y.name → Y (va_A w0 s.heap.size) s s.heap →
      AW p l e { frames := fr, cells := mc, slots := ms, locals := lo } s m args below meth c D kA (va_A w0 s.heap.size) nL (ax_Qv below args s D kA w0 mc ms post) 0 (lv_args 0 As) [] w0 0 0) : ax_MvY Y l D kA y cc nL fr lo mc ms As w0 post := by
  intro sz
  refine Met.ofW (cc := cc) (maxL := nL) (ret := none) hy rfl ?_
  intro p e s m args below meth c s₁ B hml hv
  obtain ⟨⟨rfl, hsz, hP, hK, hN, hD0⟩, hX⟩ := hv
  subst hsz
  have C : ax_C p s m As.toArray meth c cc y.cls nL none D kA (va_A w0 s.heap.size) := ⟨B.exec, B.bytes, hml, findClass_of_methodNamed B.named, fun w hw => atoms_spec (ws := ax_WS y cc nL none) B.pre w (List.mem_cons_of_mem _ hw), hK, fun q h => Or.inr h, B.notSynchronized, B.returns, hN⟩
  have hl := lv_entry As hlen
  rw [lg_entry_eq]
  exact body p e s m _ below meth c C (name_of_methodNamed B.named B.method).1 hX s.heap [] _ hP (hD0.self) va_S.rf hl
section SRL
variable {p : Program} {l : Launch} {e : Env} {R : Room} {s : State} {m : MethodId} {args : Array Value} {below : List Frame} {meth : Method} {c : Code} {Q : State → Prop} {D : va_G} {kA : Nat → ClassId} {A : Nat → Prop} {nL : Nat} {cc : ByteArray} {own : String} {ret : Option FieldType} {pc cells slots : Nat} {ls : List (Nat × Value)} {st rest : List Value} {ws : va_W}
variable {w0 : va_W} {mc ms : Nat}
theorem ax_callViY {Y : (Nat → Prop) → State → Heap → Prop} (hY : CtxOK Y) (C : ax_C p s m args meth c cc own nL ret D kA A) (hXs : Y A s s.heap) {idx n : Nat} {y : MethodName} {cc2 : ByteArray} {nL2 : Nat} {ret2 : FieldType} {fr lo mc2 ms2 : Nat} {b : Nat} {As : List Value} {wc : va_W} {post : Int32 → va_W → Prop} (hM : ax_MiY Y l D kA y cc2 nL2 ret2 fr lo mc2 ms2 (.ref b :: As) wc post) (L : ax_LV own idx y cc2 nL2 (some ret2) n) (hr : ∀ (H : Heap) (locs : List Loc), va_P D ax_cl ws H → va_S A s.heap H locs → ∃ cell : Cell, H[b]? = some cell ∧ cell.vm.isStatics = false ∧ s.vm.findClass y.cls = some cell.cls) (hdg : decode cc pc = .ok (.invokevirtual idx, 3)) (hst : st = As.reverse ++ .ref b :: rest) (hlen : As.length = n) (isC isR : List Nat) {wr : va_W} (hC : isC.map (fun i => ws[i]?) = wc.map some) (hnC : va_nd isC = true) (hR : isR.map (fun i => ws[i]?) = wr.map some) (hn : va_nd isR = true) (hdis : ∀ i ∈ isR, i ∉ isC) (hfr : fr + 1 ≤ R.frames) (hlo : 8 + (nL2 + 11) + lo ≤ R.locals) (hce : cells + mc2 ≤ R.cells) (hsl : slots + ms2 ≤ R.slots) (hsum : (rest.map fun v => v.category).sum ≤ 8)
    (kk : ∀ (r : Int32) (w1 : va_W), post r w1 → AW p l e R s m args below meth c D kA A nL Q (pc + 3) (ls) (.int r :: rest) (wr ++ w1) (cells + mc2) (slots + ms2)) : AW p l e R s m args below meth c D kA A nL Q (pc) (ls) (st) (ws) (cells) (slots) := fun H locs la hP hD hS hl => by
  subst hst
  have hFc := va_free (wc := wc) hD hS C.2.2.2.2.2.2.1 isC hC
  have hPc := hP.sub isC (ax_fm hC)
  have hDc := hD.sub isC hnC hC
  refine va_calli (va_runV (As := As) (rest := rest) ⟨C.1, C.2.1, C.2.2.1, C.2.2.2.1, C.2.2.2.2.1⟩ (hM H.size) (cwV n C.2.2.2.2.1 L.1 rfl rfl rfl L.2 ⟨hfr, hlo⟩) ⟨ax_blindY hY, hr H locs hP hS, fun U hU hW => ⟨⟨rfl, by rw [hU], by rw [hU]; exact hPc, va_K.moved hW.alike C.2.2.2.2.2.1, (C.2.2.2.2.2.2.2.2.2).warm hW, hDc.weaken (fun _ _ _ _ => trivial)⟩, hY.1 _ _ _ _ _ _ hXs hW (fun a h1 h2 => by rw [hU]; exact hS.2.1 a h1 h2) hFc⟩⟩ rfl hlen hl.1 rfl (lv_room hsum) hdg ⟨hce, hsl⟩) hS (fun q _ h => hFc q h) hFc (fun r w1 t H1 locs1 ht hvm hw hB hz1 hk1 hS1 => ?_)
  obtain ⟨hP1, hK1, hD1⟩ := hB
  rw [ht] at hP1
  obtain ⟨hP2, hD2⟩ := va_join (wr := wr) (w1 := w1) hP hD isC isR hC hR hn hdis hk1 hFc hP1 hD1
  exact kk r w1 hw H1 locs1 la hP2 hD2 hS1 hl
theorem ax_callVvY {Y : (Nat → Prop) → State → Heap → Prop} (hY : CtxOK Y) (C : ax_C p s m args meth c cc own nL ret D kA A) (hXs : Y A s s.heap) {idx n : Nat} {y : MethodName} {cc2 : ByteArray} {nL2 : Nat} {fr lo mc2 ms2 : Nat} {b : Nat} {As : List Value} {wc : va_W} {post : va_W → Prop} (hM : ax_MvY Y l D kA y cc2 nL2 fr lo mc2 ms2 (.ref b :: As) wc post) (L : ax_LV own idx y cc2 nL2 none n) (hr : ∀ (H : Heap) (locs : List Loc), va_P D ax_cl ws H → va_S A s.heap H locs → ∃ cell : Cell, H[b]? = some cell ∧ cell.vm.isStatics = false ∧ s.vm.findClass y.cls = some cell.cls) (hdg : decode cc pc = .ok (.invokevirtual idx, 3)) (hst : st = As.reverse ++ .ref b :: rest) (hlen : As.length = n) (isC isR : List Nat) {wr : va_W} (hC : isC.map (fun i => ws[i]?) = wc.map some) (hnC : va_nd isC = true) (hR : isR.map (fun i => ws[i]?) = wr.map some) (hn : va_nd isR = true) (hdis : ∀ i ∈ isR, i ∉ isC) (hfr : fr + 1 ≤ R.frames) (hlo : 8 + (nL2 + 11) + lo ≤ R.locals) (hce : cells + mc2 ≤ R.cells) (hsl : slots + ms2 ≤ R.slots) (hsum : (rest.map fun v => v.category).sum ≤ 8)
    (kk : ∀ w1 : va_W, post w1 → AW p l e R s m args below meth c D kA A nL Q (pc + 3) (ls) (rest) (wr ++ w1) (cells + mc2) (slots + ms2)) : AW p l e R s m args below meth c D kA A nL Q (pc) (ls) (st) (ws) (cells) (slots) := fun H locs la hP hD hS hl => by
  subst hst
  have hFc := va_free (wc := wc) hD hS C.2.2.2.2.2.2.1 isC hC
  have hPc := hP.sub isC (ax_fm hC)
  have hDc := hD.sub isC hnC hC
  refine va_callv (va_runV (As := As) (rest := rest) ⟨C.1, C.2.1, C.2.2.1, C.2.2.2.1, C.2.2.2.2.1⟩ (hM H.size) (cwV n C.2.2.2.2.1 L.1 rfl rfl rfl L.2 ⟨hfr, hlo⟩) ⟨ax_blindY hY, hr H locs hP hS, fun U hU hW => ⟨⟨rfl, by rw [hU], by rw [hU]; exact hPc, va_K.moved hW.alike C.2.2.2.2.2.1, (C.2.2.2.2.2.2.2.2.2).warm hW, hDc.weaken (fun _ _ _ _ => trivial)⟩, hY.1 _ _ _ _ _ _ hXs hW (fun a h1 h2 => by rw [hU]; exact hS.2.1 a h1 h2) hFc⟩⟩ rfl hlen hl.1 rfl (lv_room hsum) hdg ⟨hce, hsl⟩) hS (fun q _ h => hFc q h) hFc (fun w1 t H1 locs1 ht hvm hw hB hz1 hk1 hS1 => ?_)
  obtain ⟨hP1, hK1, hD1⟩ := hB
  rw [ht] at hP1
  obtain ⟨hP2, hD2⟩ := va_join (wr := wr) (w1 := w1) hP hD isC isR hC hR hn hdis hk1 hFc hP1 hD1
  exact kk w1 hw H1 locs1 la hP2 hD2 hS1 hl
theorem ax_callSiY {Y : (Nat → Prop) → State → Heap → Prop} (hY : CtxOK Y) (C : ax_C p s m args meth c cc own nL ret D kA A) (hXs : Y A s s.heap) {idx n : Nat} {y : MethodName} {cc2 : ByteArray} {nL2 : Nat} {ret2 : FieldType} {fr lo mc2 ms2 : Nat} {As : List Value} {wc : va_W} {post : Int32 → va_W → Prop} (hM : ax_MiY Y l D kA y cc2 nL2 ret2 fr lo mc2 ms2 As wc post) (L : ax_LS own idx y cc2 nL2 (some ret2) n) (hdg : decode cc pc = .ok (.invokestatic idx, 3)) (hst : st = As.reverse ++ rest) (hlen : As.length = n) (isC isR : List Nat) {wr : va_W} (hC : isC.map (fun i => ws[i]?) = wc.map some) (hnC : va_nd isC = true) (hR : isR.map (fun i => ws[i]?) = wr.map some) (hn : va_nd isR = true) (hdis : ∀ i ∈ isR, i ∉ isC) (hfr : fr + 1 ≤ R.frames) (hlo : 8 + (nL2 + 11) + lo ≤ R.locals) (hce : cells + mc2 ≤ R.cells) (hsl : slots + ms2 ≤ R.slots) (hsum : (rest.map fun v => v.category).sum ≤ 8)
    (kk : ∀ (r : Int32) (w1 : va_W), post r w1 → AW p l e R s m args below meth c D kA A nL Q (pc + 3) (ls) (.int r :: rest) (wr ++ w1) (cells + mc2) (slots + ms2)) : AW p l e R s m args below meth c D kA A nL Q (pc) (ls) (st) (ws) (cells) (slots) := fun H locs la hP hD hS hl => by
  subst hst
  have hFc := va_free (wc := wc) hD hS C.2.2.2.2.2.2.1 isC hC
  have hPc := hP.sub isC (ax_fm hC)
  have hDc := hD.sub isC hnC hC
  refine va_calli (va_runS (As := As) (rest := rest) ⟨C.1, C.2.1, C.2.2.1, C.2.2.2.1, C.2.2.2.2.1⟩ (hM H.size) (va_cwS n C.2.2.2.2.1 L.1 rfl rfl rfl L.2 ⟨hfr, hlo⟩) ⟨ax_blindY hY, fun U hU hW => ⟨⟨rfl, by rw [hU], by rw [hU]; exact hPc, va_K.moved hW.alike C.2.2.2.2.2.1, (C.2.2.2.2.2.2.2.2.2).warm hW, hDc.weaken (fun _ _ _ _ => trivial)⟩, hY.1 _ _ _ _ _ _ hXs hW (fun a h1 h2 => by rw [hU]; exact hS.2.1 a h1 h2) hFc⟩⟩ rfl hlen hl.1 rfl (lv_room hsum) hdg ⟨hce, hsl⟩) hS (fun q _ h => hFc q h) hFc (fun r w1 t H1 locs1 ht hvm hw hB hz1 hk1 hS1 => ?_)
  obtain ⟨hP1, hK1, hD1⟩ := hB
  rw [ht] at hP1
  obtain ⟨hP2, hD2⟩ := va_join (wr := wr) (w1 := w1) hP hD isC isR hC hR hn hdis hk1 hFc hP1 hD1
  exact kk r w1 hw H1 locs1 la hP2 hD2 hS1 hl
theorem ax_callSvY {Y : (Nat → Prop) → State → Heap → Prop} (hY : CtxOK Y) (C : ax_C p s m args meth c cc own nL ret D kA A) (hXs : Y A s s.heap) {idx n : Nat} {y : MethodName} {cc2 : ByteArray} {nL2 : Nat} {fr lo mc2 ms2 : Nat} {As : List Value} {wc : va_W} {post : va_W → Prop} (hM : ax_MvY Y l D kA y cc2 nL2 fr lo mc2 ms2 As wc post) (L : ax_LS own idx y cc2 nL2 none n) (hdg : decode cc pc = .ok (.invokestatic idx, 3)) (hst : st = As.reverse ++ rest) (hlen : As.length = n) (isC isR : List Nat) {wr : va_W} (hC : isC.map (fun i => ws[i]?) = wc.map some) (hnC : va_nd isC = true) (hR : isR.map (fun i => ws[i]?) = wr.map some) (hn : va_nd isR = true) (hdis : ∀ i ∈ isR, i ∉ isC) (hfr : fr + 1 ≤ R.frames) (hlo : 8 + (nL2 + 11) + lo ≤ R.locals) (hce : cells + mc2 ≤ R.cells) (hsl : slots + ms2 ≤ R.slots) (hsum : (rest.map fun v => v.category).sum ≤ 8)
    (kk : ∀ w1 : va_W, post w1 → AW p l e R s m args below meth c D kA A nL Q (pc + 3) (ls) (rest) (wr ++ w1) (cells + mc2) (slots + ms2)) : AW p l e R s m args below meth c D kA A nL Q (pc) (ls) (st) (ws) (cells) (slots) := fun H locs la hP hD hS hl => by
  subst hst
  have hFc := va_free (wc := wc) hD hS C.2.2.2.2.2.2.1 isC hC
  have hPc := hP.sub isC (ax_fm hC)
  have hDc := hD.sub isC hnC hC
  refine va_callv (va_runS (As := As) (rest := rest) ⟨C.1, C.2.1, C.2.2.1, C.2.2.2.1, C.2.2.2.2.1⟩ (hM H.size) (va_cwS n C.2.2.2.2.1 L.1 rfl rfl rfl L.2 ⟨hfr, hlo⟩) ⟨ax_blindY hY, fun U hU hW => ⟨⟨rfl, by rw [hU], by rw [hU]; exact hPc, va_K.moved hW.alike C.2.2.2.2.2.1, (C.2.2.2.2.2.2.2.2.2).warm hW, hDc.weaken (fun _ _ _ _ => trivial)⟩, hY.1 _ _ _ _ _ _ hXs hW (fun a h1 h2 => by rw [hU]; exact hS.2.1 a h1 h2) hFc⟩⟩ rfl hlen hl.1 rfl (lv_room hsum) hdg ⟨hce, hsl⟩) hS (fun q _ h => hFc q h) hFc (fun w1 t H1 locs1 ht hvm hw hB hz1 hk1 hS1 => ?_)
  obtain ⟨hP1, hK1, hD1⟩ := hB
  rw [ht] at hP1
  obtain ⟨hP2, hD2⟩ := va_join (wr := wr) (w1 := w1) hP hD isC isR hC hR hn hdis hk1 hFc hP1 hD1
  exact kk w1 hw H1 locs1 la hP2 hD2 hS1 hl
/-- a String constant -/
theorem ax_ldcS {adK adV : Nat → Nat} (C : ax_C p s m args meth c cc own nL ret D kA A) (hXs : SX adK adV A s s.heap) (hown : own = "ClauseProver") {i : Nat} (hi : i < 11) {index : Nat} (hx : stI.getD i 0 = index) (hdg : decode cc pc = .ok (.ldc index, 2)) (k : AW p l e R s m args below meth c D kA A nL Q (pc + 2) (ls) (.ref (adK i) :: st) (ws) (cells) (slots)) : AW p l e R s m args below meth c D kA A nL Q (pc) (ls) (st) (ws) (cells) (slots) := fun H locs la hP hD hS hl => by
  subst hown; subst hx
  exact va_ldcS C.1 C.2.1 C.2.2.2.1 (hXs.2.1 i hi) hdg (k H locs la hP hD hS hl)
theorem ax_getK {o n d : String} {v : Value} {q : Nat} (C : ax_C p s m args meth c cc own nL ret D kA A) (hE : va_OF o n d v q A s s.heap) {index : Nat} (hlink : Cond.fieldLink own index o n d ∈ lw_tbg) (hdg : decode cc pc = .ok (.getfield index, 3)) (k : AW p l e R s m args below meth c D kA A nL Q (pc + 3) (ls) (v :: rest) (ws) (cells) (slots)) : AW p l e R s m args below meth c D kA A nL Q (pc) (ls) (.ref q :: rest) (ws) (cells) (slots) := fun H locs la hP hD hS hl =>
  vk_getf C.1 C.2.1 hE hS C.2.2.2.1 (C.2.2.2.2.1 _ hlink) (fun _ h => h) hdg (k H locs la hP hD hS hl)
theorem ax_lenK {t N : Nat} {f : Nat → Value} (C : ax_C p s m args meth c cc own nL ret D kA A) (hT : va_T .byte t N f A s s.heap) (hdg : decode cc pc = .ok (.arraylength, 1)) (k : AW p l e R s m args below meth c D kA A nL Q (pc + 1) (ls) (.int (Int32.ofNat N) :: rest) (ws) (cells) (slots)) : AW p l e R s m args below meth c D kA A nL Q (pc) (ls) (.ref t :: rest) (ws) (cells) (slots) := fun H locs la hP hD hS hl =>
  va_tlen C.1 C.2.1 hT hS rfl hdg (k H locs la hP hD hS hl)
theorem ax_baldK {t N : Nat} {f : Nat → Value} (C : ax_C p s m args meth c cc own nL ret D kA A) (hT : va_T .byte t N f A s s.heap) {i : Int32} (hin : vp_in i N) {v : Value} (hv : f i.toNatClampNeg = v) (hdg : decode cc pc = .ok (.baload, 1)) (k : AW p l e R s m args below meth c D kA A nL Q (pc + 1) (ls) (v :: rest) (ws) (cells) (slots)) : AW p l e R s m args below meth c D kA A nL Q (pc) (ls) (.int i :: .ref t :: rest) (ws) (cells) (slots) := fun H locs la hP hD hS hl =>
  va_tb C.1 C.2.1 hT hS hin hv hdg (k H locs la hP hD hS hl)
theorem ax_getsK {Cn n d : String} {v : Value} (C : ax_C p s m args meth c cc own nL ret D kA A) (hZ : va_Z Cn n d v A s s.heap) {index : Nat} (hlink : Cond.fieldLink own index Cn n d ∈ lw_tbg) (hdg : decode cc pc = .ok (.getstatic index, 3)) (k : AW p l e R s m args below meth c D kA A nL Q (pc + 3) (ls) (v :: st) (ws) (cells) (slots)) : AW p l e R s m args below meth c D kA A nL Q (pc) (ls) (st) (ws) (cells) (slots) := fun H locs la hP hD hS hl =>
  va_gets C.1 C.2.1 hZ hS C.2.2.2.1 (C.2.2.2.2.1 _ hlink) (fun _ h => h) hdg (k H locs la hP hD hS hl)
end SRL
