section THR
variable {p : Program} {l : Launch} {e : Env} {R : Room} {s : State} {m : MethodId} {args : Array Value} {below : List Frame} {meth : Method} {c : Code} {Q : State → Prop} {D : va_G} {kA : Nat → ClassId} {A : Nat → Prop} {nL : Nat} {cc : ByteArray} {own : String} {ret : Option FieldType} {pc cells slots : Nat} {ls : List (Nat × Value)} {st rest : List Value} {ws : va_W}
variable {w0 : va_W} {mc ms : Nat} {cls : String} {post : va_W → Prop}
theorem thr_end (C : ax_C p s m args meth c cc "ClauseProver" nL ret D kA (va_A w0 s.heap.size)) (hadm : l.admits e) (htr : l.stackTraces = false) (hex : c.exceptionTable.isEmpty = true) (hX : ax_X (va_A w0 s.heap.size) s s.heap) (hP0 : va_P D ax_cl w0 s.heap) {ic i1 : Nat} {b1 : ByteArray} (hta : ax_ta ic cls i1 b1) (hfit : Bundle.fit cls = true)
    (d0 : decode b1 0 = .ok (.aload_n 0, 1)) (d1 : decode b1 1 = .ok (.aload_n 1, 1)) (d2 : decode b1 2 = .ok (.invokespecial i1, 3)) (d5 : decode b1 5 = .ok (.return_, 1))
    (hd6 : decode cc pc = .ok (.invokespecial ic, 3)) (hd9 : decode cc (pc + 3) = .ok (.athrow, 1)) (hfr : 6 ≤ R.frames) (hlo : 90 ≤ R.locals) (hpost : post ws)
    {H H1 : Heap} {locs : List Loc} {la : Array Slot} {cX : ClassId} {kX : Class} {q : Nat} (hP : va_P D ax_cl ws H) (hD : va_D (va_A w0 s.heap.size) ws) (hS : va_S (va_A w0 s.heap.size) s.heap H locs) (hl : lv_has la nL ls) (hfound : s.vm.findClass cls = some cX) (hkX : s.vm.classes[cX]? = some kX) (hnewc : H1[H.size]? = some (freshCell cX kX)) (hsz : H1.size = H.size + 1) (hold : ∀ a, a < H.size → H1[a]? = H[a]?) :
    W p l e R s m args below meth c H1 locs mc ms (ax_QX below s D kA w0 mc ms cls post) (F0 m pc la [.ref q, .ref H.size, .ref H.size]) := by
  intro T hT X
  have htr2 : e.platform.stackTraces = false := by rw [hadm.platform]; exact htr
  have hnoth : ∀ x ∈ c.exceptionTable.toList, covers x (pc + 3) = false := by
    have h0 : c.exceptionTable.size = 0 := by simpa [Array.isEmpty] using hex
    have h1 : c.exceptionTable.toList = [] := List.eq_nil_of_length_eq_zero (by simpa using h0)
    intro y hy
    rw [h1] at hy
    cases hy
  have hstat : ∀ x ∈ locs, ∀ cell, s.heap[x.base]? = some cell → cell.vm.isStatics = false := by
    intro x hx cell hc
    rcases hS.2.2 x hx with ⟨k, e9, h9⟩ | h9
    · have h10 := hP0 k _ h9
      cases e9 with
      | inl a9 =>
        have h11 : s.heap[x.base]? = some (vp_cell a9.1 a9.2) := h10
        obtain rfl := Option.some.inj (hc.symm.trans h11)
        obtain ⟨cA9, n9, y9⟩ := a9
        rcases y9 with f9 | f9 | f9 | f9 | f9 <;> rfl
      | inr o9 =>
        obtain ⟨r9, h11, cell9, h12, h13, h14, h15⟩ := h10
        obtain rfl := Option.some.inj (hc.symm.trans h12)
        rw [h14]; rfl
    · have := (Array.getElem?_eq_some_iff.mp hc).1; omega
  obtain ⟨U, ce, st, hrun, hend, hWU, hsame, hce, hcc, hcv, hkeep, hszU⟩ := tx_throw X C.1 htr2 (own := "ClauseProver") (ic := ic) (i1 := i1) (b1 := b1) C.2.2.2.1 hfit (hta.use C.2.2.2.2.1 hX) d0 d1 d2 d5 hstat hfound hkX (a := H.size) (by rw [hT]; exact hnewc) hS.1 (msg := .ref q) rfl (g := F0 m pc la [.ref q, .ref H.size, .ref H.size]) rfl (by rw [C.2.2.1]; exact hl.1) rfl rfl (rest := []) rfl (by rw [C.2.1]; exact hd6) (by rw [C.2.1]; exact hd9) hnoth hfr (by show 2 * (F0 m pc la _).monitorRoom + _ + 81 ≤ _; exact Nat.le_trans (Nat.add_le_add_right (lv_room (m := m) (pc := pc) (ls := la) (rest := []) (st := [.ref H.size]) (Nat.le_of_ble_eq_true rfl)) 81) (by omega)) C.2.2.2.2.2.2.2.1
  have hH : ∀ a, a < H.size → U.heap[a]? = H[a]? := fun a ha => by rw [hkeep a (Nat.ne_of_lt ha), hT]; exact hold a ha
  refine ⟨U, st, .threw H.size, hrun, hend, H.size, ce, locs, ws, rfl, hWU, hsame, hS.2.2, hce, hcv, by rw [hcc]; exact hfound, hpost, ⟨hP.kept fun k x hx => hH x.1 (hP k x hx).lt, va_K.moved hWU.alike C.2.2.2.2.2.1, hD⟩, ?_, fun a h1 h2 => (hH a (Nat.lt_of_lt_of_le h1 hS.1)).trans (hS.2.1 a h1 h2)⟩
  rw [hszU, hT, hsz]
  exact Nat.le_succ_of_le hS.1

theorem ax_throw2 (C : ax_C p s m args meth c cc "ClauseProver" nL ret D kA (va_A w0 s.heap.size)) (hadm : l.admits e) (htr : l.stackTraces = false) (hex : c.exceptionTable.isEmpty = true) (hX : ax_X (va_A w0 s.heap.size) s s.heap) (hP0 : va_P D ax_cl w0 s.heap) {ic i1 i0 is : Nat} {tx : String} {b1 : ByteArray} (hta : ax_ta ic cls i1 b1) (hfit : Bundle.fit cls = true) (hstr : (is, tx) ∈ ax_strs) (hcl : Cond.classLink "ClauseProver" i0 cls ∈ lw_tbg) (hinst : Cond.instantiable cls 6 ∈ lw_tbg) (hini : Cond.initialized cls ∈ lw_tbg)
    (d0 : decode b1 0 = .ok (.aload_n 0, 1)) (d1 : decode b1 1 = .ok (.aload_n 1, 1)) (d2 : decode b1 2 = .ok (.invokespecial i1, 3)) (d5 : decode b1 5 = .ok (.return_, 1))
    (hdn : decode cc pc = .ok (.new i0, 3)) (hdd : decode cc (pc + 3) = .ok (.dup, 1)) (hdl : decode cc (pc + 3 + 1) = .ok (.ldc is, 2)) (hd6 : decode cc (pc + 3 + 1 + 2) = .ok (.invokespecial ic, 3)) (hd9 : decode cc (pc + 3 + 1 + 2 + 3) = .ok (.athrow, 1)) (hfr : 6 ≤ R.frames) (hlo : 90 ≤ R.locals) (hce : cells + 1 ≤ R.cells) (hsl : slots + 6 ≤ R.slots) (hmc : cells + 1 = mc) (hms : slots + 6 = ms) (hpost : post ws) : AW p l e R s m args below meth c D kA (va_A w0 s.heap.size) nL (ax_QX below s D kA w0 mc ms cls post) (pc) (ls) ([]) (ws) (cells) (slots) := fun H locs la hP hD hS hl => by
  obtain ⟨cX, kX, hfound, hkX, -⟩ := Cond.instantiable_spec (C.2.2.2.2.1 _ hinst)
  obtain ⟨q, hq⟩ := hX.2.2.1 _ hstr
  refine W.newcK C.1 C.2.1 C.2.2.2.1 (C.2.2.2.2.1 _ hcl) (C.2.2.2.2.1 _ hinst) (C.2.2.2.2.1 _ hini) rfl hdn hce hsl hfound rfl (fun H1 kC hk hb hsz hold => ?_)
  refine lv_dup C.1 C.2.1 hdd rfl ?_
  intro T hT Y
  obtain ⟨t, a1, b1⟩ := thr_end (pc := pc + 3 + 1 + 2) C hadm htr hex hX hP0 hta hfit d0 d1 d2 d5 hd6 hd9 hfr hlo hpost (q := q) hP hD hS hl hfound hk hb hsz hold T hT (hmc ▸ hms ▸ Y)
  exact ⟨t, Y.ldcString C.1 C.2.2.2.1 (text := tx) (a := q) hq.1 hq.2 (g := F0 m (pc + 3 + 1) la [.ref H.size, .ref H.size]) rfl (by rw [C.2.1]; exact hdl) t a1, b1⟩
theorem ax_throw3 (C : ax_C p s m args meth c cc "ClauseProver" nL ret D kA (va_A w0 s.heap.size)) (hadm : l.admits e) (htr : l.stackTraces = false) (hex : c.exceptionTable.isEmpty = true) (hX : ax_X (va_A w0 s.heap.size) s s.heap) (hP0 : va_P D ax_cl w0 s.heap) {ic i1 i0 is : Nat} {tx : String} {b1 : ByteArray} (hta : ax_ta ic cls i1 b1) (hfit : Bundle.fit cls = true) (hstr : (is, tx) ∈ ax_strs) (hcl : Cond.classLink "ClauseProver" i0 cls ∈ lw_tbg) (hinst : Cond.instantiable cls 6 ∈ lw_tbg) (hini : Cond.initialized cls ∈ lw_tbg)
    (d0 : decode b1 0 = .ok (.aload_n 0, 1)) (d1 : decode b1 1 = .ok (.aload_n 1, 1)) (d2 : decode b1 2 = .ok (.invokespecial i1, 3)) (d5 : decode b1 5 = .ok (.return_, 1))
    (hdn : decode cc pc = .ok (.new i0, 3)) (hdd : decode cc (pc + 3) = .ok (.dup, 1)) (hdl : decode cc (pc + 3 + 1) = .ok (.ldc_w is, 3)) (hd6 : decode cc (pc + 3 + 1 + 3) = .ok (.invokespecial ic, 3)) (hd9 : decode cc (pc + 3 + 1 + 3 + 3) = .ok (.athrow, 1)) (hfr : 6 ≤ R.frames) (hlo : 90 ≤ R.locals) (hce : cells + 1 ≤ R.cells) (hsl : slots + 6 ≤ R.slots) (hmc : cells + 1 = mc) (hms : slots + 6 = ms) (hpost : post ws) : AW p l e R s m args below meth c D kA (va_A w0 s.heap.size) nL (ax_QX below s D kA w0 mc ms cls post) (pc) (ls) ([]) (ws) (cells) (slots) := fun H locs la hP hD hS hl => by
  obtain ⟨cX, kX, hfound, hkX, -⟩ := Cond.instantiable_spec (C.2.2.2.2.1 _ hinst)
  obtain ⟨q, hq⟩ := hX.2.2.1 _ hstr
  refine W.newcK C.1 C.2.1 C.2.2.2.1 (C.2.2.2.2.1 _ hcl) (C.2.2.2.2.1 _ hinst) (C.2.2.2.2.1 _ hini) rfl hdn hce hsl hfound rfl (fun H1 kC hk hb hsz hold => ?_)
  refine lv_dup C.1 C.2.1 hdd rfl ?_
  intro T hT Y
  obtain ⟨t, a1, b1⟩ := thr_end (pc := pc + 3 + 1 + 3) C hadm htr hex hX hP0 hta hfit d0 d1 d2 d5 hd6 hd9 hfr hlo hpost (q := q) hP hD hS hl hfound hk hb hsz hold T hT (hmc ▸ hms ▸ Y)
  exact ⟨t, Y.ldcStringW C.1 C.2.2.2.1 (text := tx) (a := q) hq.1 hq.2 (g := F0 m (pc + 3 + 1) la [.ref H.size, .ref H.size]) rfl (by rw [C.2.1]; exact hdl) t a1, b1⟩
end THR
