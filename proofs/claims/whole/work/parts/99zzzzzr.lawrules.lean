/-! THE CLAIM OUT OF ONE WALK OF THE LAW'S BODY. Your part is whole_start (and what it stands on); all else here is the same for every law, but numbers. -/
def R_law : String := "ClauseProverLaw"
def lw_P (b : Addr) (xs : List Int32) (args : Array Value) (s : State) : Prop := args = #[.ref b] ∧ s.IntsAt b xs ∧ xs.length ≤ 3072 ∧ (Jvm.Cond.and given_1 narrow_1).before args s = true
def lw_Q (_ : Array Value) (s : State) (o : Outcome) (t : State) : Prop := o = .returned (some (.int 1)) ∧ Framed s o t [] room_1.cells room_1.slots
def lw_Z (below : List Frame) (a : Array Value) (s : State) : State → Prop := fun t => ∃ o, t.status = .running ∧ Ended t below o ∧ lw_Q a s o t
/-- the law's own end, with 1 on the stack, nothing written that was there before, its room as the claim has it -/
theorem lw_ret {p : Program} {l : Launch} {e : Env} {s : State} {m : MethodId} {below : List Frame} {meth : Method} {c : Code} {b : Nat} (hx : p.tables.exec = Jvm.exec) (hb : c.code = code) (hr : meth.sig.returnType = ret) (hlocks : meth.locks = false) {pc : Nat} {H : Heap} {ls : Array Slot} (hdg : decode code pc = .ok (.ireturn, 1)) : W p l e room_1 s m #[Value.ref b] below meth c H [] room_1.cells room_1.slots (lw_Z below #[Value.ref b] s) (F0 m pc ls [.int 1]) := by
  intro T hT X
  obtain ⟨fs, hret, hrun, hended, hW, hframe⟩ := X.leave (v := some (.int 1)) (hlocks := hlocks) (fun h => by rw [hr] at h; cases h)
  have hmeth' : T.vm.method? m = some meth := X.method'
  refine ⟨T.setFrames fs, ?_, .returned (some (.int 1)), hrun, hended, rfl, ⟨_, rfl⟩, hW, hframe⟩
  jvm_step X.here [X.here.top, hx, hb, hdg, hmeth', hr, ret, narrow_b1]
  (try refine ⟨rfl, ?_⟩); (try refine ⟨rfl, ?_⟩)
  first | (intro acts; rw [hret _ acts rfl rfl rfl]) | rw [hret _ _ rfl rfl rfl]
  exact Steps.refl _
/-- what holds at the law's entry: the machine, the code, the tables' words (any of lw_tbl by 'hts w (by decide +kernel)'), the script of L ints xs at the cell b, what the Statement gives of the start (any of its parts by flat_of_before) -/
def lw_At (p : Program) (s : State) (m : MethodId) (meth : Method) (c : Code) (b L : Nat) (xs : Nat → Int32) : Prop :=
  p.tables.exec = Jvm.exec ∧ c.code = code ∧ meth.sig.returnType = ret ∧ c.maxLocals = 7 ∧ s.vm.findClass R_law = some m.cls ∧ (∀ w ∈ lw_tbl, w.before #[Value.ref b] s = true) ∧ va_X b L xs s s.heap ∧ b < s.heap.size ∧ meth.locks = false ∧ (Jvm.Cond.and given_1 narrow_1).before #[Value.ref b] s = true
theorem ax_end {p : Program} {l : Launch} {e : Env} {s : State} {m : MethodId} {below : List Frame} {meth : Method} {c : Code} {D : va_G} {kA : Nat → ClassId} {nL pc cells slots b : Nat} {own : String} {ls : List (Nat × Value)} {ws : va_W} (C : ax_C p s m #[Value.ref b] meth c code own nL ret D kA (fun q => s.heap.size ≤ q)) (hdg : decode code pc = .ok (.ireturn, 1)) (hc : cells ≤ room_1.cells) (hs : slots ≤ room_1.slots) : AW p l e room_1 s m #[Value.ref b] below meth c D kA (fun q => s.heap.size ≤ q) nL (lw_Z below #[Value.ref b] s) pc ls [.int 1] ws cells slots := fun H locs la hP hD hS hl => va_forget hS.2.2 (W.widen hc hs (lw_ret C.1 C.2.1 C.2.2.2.2.2.2.2.2.1 C.2.2.2.2.2.2.2.1 hdg))
section LAWR
variable {p : Program} {l : Launch} {e : Env} {R : Room} {s : State} {m : MethodId} {below : List Frame} {meth : Method} {c : Code} {D : va_G} {kA : Nat → ClassId} {nL : Nat} {cc : ByteArray} {own : String} {ret : Option FieldType} {pc cells slots : Nat} {ls : List (Nat × Value)} {st rest : List Value} {ws : va_W}
variable {b L : Nat} {xs : Nat → Int32} {Q : State → Prop}
theorem ax_sld (C : ax_C p s m #[Value.ref b] meth c cc own nL ret D kA (fun q => s.heap.size ≤ q)) (hXb : va_X b L xs s s.heap) (hbl : b < s.heap.size) (hbA : ¬ s.heap.size ≤ b) {i : Int32} (hdg : decode cc pc = .ok (.iaload, 1)) (hin : vp_in i L) (k : AW p l e R s m #[Value.ref b] below meth c D kA (fun q => s.heap.size ≤ q) nL Q (pc + 1) (ls) (.int (xs i.toNatClampNeg) :: rest) (ws) (cells) (slots)) : AW p l e R s m #[Value.ref b] below meth c D kA (fun q => s.heap.size ≤ q) nL Q (pc) (ls) (.int i :: .ref b :: rest) (ws) (cells) (slots) := fun H locs la hP hD hS hl => va_sld C.1 C.2.1 hXb hbl hbA hS hin hdg (k H locs la hP hD hS hl)
theorem ax_slen (C : ax_C p s m #[Value.ref b] meth c cc own nL ret D kA (fun q => s.heap.size ≤ q)) (hXb : va_X b L xs s s.heap) (hbl : b < s.heap.size) (hbA : ¬ s.heap.size ≤ b) (hdg : decode cc pc = .ok (.arraylength, 1)) (k : AW p l e R s m #[Value.ref b] below meth c D kA (fun q => s.heap.size ≤ q) nL Q (pc + 1) (ls) (.int (Int32.ofNat L) :: rest) (ws) (cells) (slots)) : AW p l e R s m #[Value.ref b] below meth c D kA (fun q => s.heap.size ≤ q) nL Q (pc) (ls) (.ref b :: rest) (ws) (cells) (slots) := fun H locs la hP hD hS hl => va_slen C.1 C.2.1 hXb hbl hbA hS hdg (k H locs la hP hD hS hl)
end LAWR
