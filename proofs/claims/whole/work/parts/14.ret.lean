/-! methods that return a reference -/
abbrev ax_Br (D : va_G) (kA : Nat → ClassId) (w0 : va_W) (sz : Nat) : (Nat × va_W) → Nat → State → Prop := fun u a t => u.1 = a ∧ ax_B D kA w0 sz u.2 t
def ax_Mr (l : Launch) (D : va_G) (kA : Nat → ClassId) (y : MethodName) (cc : ByteArray) (nL : Nat) (ret : FieldType) (fr lo mc ms : Nat) (As : List Value) (w0 : va_W) (post : Nat → va_W → Prop) : Prop :=
  ∀ sz : Nat, Met l y (ax_WS y cc nL (some ret)) ({ frames := fr, cells := mc, slots := ms, locals := lo }) (ax_Pre D kA As w0 sz) (va_Qr (fun u : Nat × va_W => post u.1 u.2) (ax_Br D kA w0 sz) (va_A w0 sz)) mc ms (va_A w0 sz)
abbrev ax_Qr (below : List Frame) (args : Array Value) (s : State) (D : va_G) (kA : Nat → ClassId) (w0 : va_W) (mc ms : Nat) (post : Nat → va_W → Prop) : State → Prop := MQ below (va_Qr (fun u : Nat × va_W => post u.1 u.2) (ax_Br D kA w0 s.heap.size) (va_A w0 s.heap.size)) args s mc ms (va_A w0 s.heap.size)
theorem ax_Mr.of {l : Launch} {D : va_G} {kA : Nat → ClassId} {y : MethodName} {cc : ByteArray} {nL : Nat} {ret : FieldType} {fr lo mc ms : Nat} {As : List Value} {w0 : va_W} {post : Nat → va_W → Prop} (hy : plainName y.cls = true) (hlen : (lg_sl As).length ≤ nL)
    (body : ∀ (p : Program) (e : Env) (s : State) (m : MethodId) (args : Array Value) (below : List Frame) (meth : Method) (c : Code), ax_C p s m args meth c cc y.cls nL (some ret) D kA (va_A w0 s.heap.size) → meth.name = y.name →
      AW p l e { frames := fr, cells := mc, slots := ms, locals := lo } s m args below meth c D kA (va_A w0 s.heap.size) nL (ax_Qr below args s D kA w0 mc ms post) 0 (lv_args 0 As) [] w0 0 0) : ax_Mr l D kA y cc nL ret fr lo mc ms As w0 post := by
  intro sz
  refine Met.ofW (cc := cc) (maxL := nL) (ret := (some ret)) hy rfl ?_
  intro p e s m args below meth c s₁ B hml hv
  obtain ⟨rfl, hsz, hP, hK, hN, hD0⟩ := hv
  subst hsz
  have C : ax_C p s m As.toArray meth c cc y.cls nL (some ret) D kA (va_A w0 s.heap.size) := ⟨B.exec, B.bytes, hml, findClass_of_methodNamed B.named, fun w hw => atoms_spec (ws := ax_WS y cc nL (some ret)) B.pre w (List.mem_cons_of_mem _ hw), hK, fun q h => Or.inr h, B.notSynchronized, B.returns, hN⟩
  have hl := lv_entry As hlen
  rw [lg_entry_eq]
  exact body p e s m _ below meth c C (name_of_methodNamed B.named B.method).1 s.heap [] _ hP (hD0.self) va_S.rf hl
section RT
variable {p : Program} {l : Launch} {e : Env} {R : Room} {s : State} {m : MethodId} {args : Array Value} {below : List Frame} {meth : Method} {c : Code} {Q : State → Prop} {D : va_G} {kA : Nat → ClassId} {A : Nat → Prop} {nL : Nat} {cc : ByteArray} {own : String} {ret : Option FieldType} {pc cells slots : Nat} {ls : List (Nat × Value)} {st rest : List Value} {ws : va_W}
variable {w0 : va_W} {mc ms : Nat}
theorem ax_aret {post : Nat → va_W → Prop} {rt : FieldType} (C : ax_C p s m args meth c cc own nL (some rt) D kA (va_A w0 s.heap.size)) (hrt : (∃ n, rt = .object n) ∨ ∃ t, rt = .array t) (hdg : decode cc pc = .ok (.areturn, 1)) {v : Nat} (hpost : post v ws) (hc : cells ≤ mc) (hs : slots ≤ ms) : AW p l e R s m args below meth c D kA (va_A w0 s.heap.size) nL (ax_Qr below args s D kA w0 mc ms post) (pc) (ls) ([.ref v]) (ws) (cells) (slots) := fun H locs la hP hD hS hl =>
  W.widen hc hs (W.aret C.1 C.2.1 C.2.2.2.2.2.2.2.2.1 hrt (Or.inr ⟨v, rfl⟩) (fun t ht hW => ⟨⟨(v, ws), v, rfl, hpost, rfl, by rw [ht]; exact hP, va_K.moved hW.alike C.2.2.2.2.2.1, hD⟩, hS.F ht⟩) hS.2.2 hdg C.2.2.2.2.2.2.2.1)
theorem ax_callVr (C : ax_C p s m args meth c cc own nL ret D kA A) {idx n : Nat} {y : MethodName} {cc2 : ByteArray} {nL2 : Nat} {ret2 : FieldType} {fr lo mc2 ms2 : Nat} {b : Nat} {As : List Value} {wc : va_W} {post : Nat → va_W → Prop} (hM : ax_Mr l D kA y cc2 nL2 ret2 fr lo mc2 ms2 (.ref b :: As) wc post) (L : ax_LV own idx y cc2 nL2 (some ret2) n) (q0 : Nat) {ci : Nat} {fs : List Value} {r : vw_C} (he : ws[q0]? = some (b, .inr (ci, fs))) (hc : ax_cl[ci]? = some r) (hrc : r.1 = y.cls) (hdg : decode cc pc = .ok (.invokevirtual idx, 3)) (hst : st = As.reverse ++ .ref b :: rest) (hlen : As.length = n) (isC isR : List Nat) {wr : va_W} (hC : isC.map (fun i => ws[i]?) = wc.map some) (hnC : va_nd isC = true) (hR : isR.map (fun i => ws[i]?) = wr.map some) (hn : va_nd isR = true) (hdis : ∀ i ∈ isR, i ∉ isC) (hfr : fr + 1 ≤ R.frames) (hlo : 8 + (nL2 + 11) + lo ≤ R.locals) (hce : cells + mc2 ≤ R.cells) (hsl : slots + ms2 ≤ R.slots) (hsum : (rest.map fun v => v.category).sum ≤ 8)
    (kk : ∀ (ra : Nat) (w1 : va_W), post ra w1 → AW p l e R s m args below meth c D kA A nL Q (pc + 3) (ls) (.ref ra :: rest) (wr ++ w1) (cells + mc2) (slots + ms2)) : AW p l e R s m args below meth c D kA A nL Q (pc) (ls) (st) (ws) (cells) (slots) := fun H locs la hP hD hS hl => by
  subst hst
  have hFc := va_free (wc := wc) hD hS C.2.2.2.2.2.2.1 isC hC
  have hPc := hP.sub isC (ax_fm hC)
  have hDc := hD.sub isC hnC hC
  refine va_callr (va_runV (As := As) (rest := rest) ⟨C.1, C.2.1, C.2.2.1, C.2.2.2.1, C.2.2.2.2.1⟩ (hM H.size) (cwV n C.2.2.2.2.1 L.1 rfl rfl rfl L.2 ⟨hfr, hlo⟩) ⟨ax_blind, (by rw [← hrc]; exact va_recv C.2.2.2.2.2.1 hP hc he), fun U hU hW => ⟨rfl, by rw [hU], by rw [hU]; exact hPc, va_K.moved hW.alike C.2.2.2.2.2.1, (C.2.2.2.2.2.2.2.2.2).warm hW, hDc.weaken (fun _ _ _ _ => trivial)⟩⟩ rfl hlen hl.1 rfl (lv_room hsum) hdg ⟨hce, hsl⟩) hS (fun q _ h => hFc q h) hFc (fun u1 ra t H1 locs1 ht hvm hw hB hz1 hk1 hS1 => ?_)
  obtain ⟨ra1, w1⟩ := u1
  obtain ⟨he1, hP1, hK1, hD1⟩ := hB
  dsimp only at he1 hP1 hD1 hw
  subst he1
  rw [ht] at hP1
  obtain ⟨hP2, hD2⟩ := va_join (wr := wr) (w1 := w1) hP hD isC isR hC hR hn hdis hk1 hFc hP1 hD1
  exact kk ra1 w1 hw H1 locs1 la hP2 hD2 hS1 hl
theorem ax_callSr (C : ax_C p s m args meth c cc own nL ret D kA A) {idx n : Nat} {y : MethodName} {cc2 : ByteArray} {nL2 : Nat} {ret2 : FieldType} {fr lo mc2 ms2 : Nat} {As : List Value} {wc : va_W} {post : Nat → va_W → Prop} (hM : ax_Mr l D kA y cc2 nL2 ret2 fr lo mc2 ms2 As wc post) (L : ax_LS own idx y cc2 nL2 (some ret2) n) (hdg : decode cc pc = .ok (.invokestatic idx, 3)) (hst : st = As.reverse ++ rest) (hlen : As.length = n) (isC isR : List Nat) {wr : va_W} (hC : isC.map (fun i => ws[i]?) = wc.map some) (hnC : va_nd isC = true) (hR : isR.map (fun i => ws[i]?) = wr.map some) (hn : va_nd isR = true) (hdis : ∀ i ∈ isR, i ∉ isC) (hfr : fr + 1 ≤ R.frames) (hlo : 8 + (nL2 + 11) + lo ≤ R.locals) (hce : cells + mc2 ≤ R.cells) (hsl : slots + ms2 ≤ R.slots) (hsum : (rest.map fun v => v.category).sum ≤ 8)
    (kk : ∀ (ra : Nat) (w1 : va_W), post ra w1 → AW p l e R s m args below meth c D kA A nL Q (pc + 3) (ls) (.ref ra :: rest) (wr ++ w1) (cells + mc2) (slots + ms2)) : AW p l e R s m args below meth c D kA A nL Q (pc) (ls) (st) (ws) (cells) (slots) := fun H locs la hP hD hS hl => by
  subst hst
  have hFc := va_free (wc := wc) hD hS C.2.2.2.2.2.2.1 isC hC
  have hPc := hP.sub isC (ax_fm hC)
  have hDc := hD.sub isC hnC hC
  refine va_callr (va_runS (As := As) (rest := rest) ⟨C.1, C.2.1, C.2.2.1, C.2.2.2.1, C.2.2.2.2.1⟩ (hM H.size) (va_cwS n C.2.2.2.2.1 L.1 rfl rfl rfl L.2 ⟨hfr, hlo⟩) ⟨ax_blind, fun U hU hW => ⟨rfl, by rw [hU], by rw [hU]; exact hPc, va_K.moved hW.alike C.2.2.2.2.2.1, (C.2.2.2.2.2.2.2.2.2).warm hW, hDc.weaken (fun _ _ _ _ => trivial)⟩⟩ rfl hlen hl.1 rfl (lv_room hsum) hdg ⟨hce, hsl⟩) hS (fun q _ h => hFc q h) hFc (fun u1 ra t H1 locs1 ht hvm hw hB hz1 hk1 hS1 => ?_)
  obtain ⟨ra1, w1⟩ := u1
  obtain ⟨he1, hP1, hK1, hD1⟩ := hB
  dsimp only at he1 hP1 hD1 hw
  subst he1
  rw [ht] at hP1
  obtain ⟨hP2, hD2⟩ := va_join (wr := wr) (w1 := w1) hP hD isC isR hC hR hn hdis hk1 hFc hP1 hD1
  exact kk ra1 w1 hw H1 locs1 la hP2 hD2 hS1 hl
end RT
