/-! multianewarray: int[n][k] -/
section MNW
variable {p : Program} {l : Launch} {e : Env} {R : Room} {s : State} {m : MethodId} {args : Array Value} {below : List Frame} {meth : Method} {c : Code} {H : Heap} {locs : List Loc} {cells slots : Nat} {Q : State → Prop}
theorem mn_arr {E : CtlPost} {e : Env} {d : Bool} {acts : List Action} {U : State} {Q : Addr → Pre} {cA : ClassId} {k : Class} {comp : ClassId} {type : FieldType} {n : Nat} {v : Value} (hk : U.vm.classes[cA]? = some k) (hkind : k.kind = .array comp type) (hlimit : ¬ n > e.platform.arrayLengthLimit) (hheap : ¬ n * componentBytes type > e.platform.maxHeapBytes) (hfit : fits type v = true)
    (h1 : U.heap.size < e.platform.maxCells) (h2 : U.slotsUsed + n ≤ e.platform.maxSlots) (hq : ∀ d' acts', Q U.heap.size d' acts' (U.pushCell { cls := cA, slots := Array.replicate n v, vm := .none })) : wp (Jvm.newArray cA n v) Q E e d acts U := by
  have hf : ∀ i w, (Array.replicate n v)[i]? = some w → U.fitsSlot cA .none i w = true := by
    intro i w hv
    simp only [Array.getElem?_replicate] at hv
    split at hv
    · cases hv; simp [State.fitsSlot, State.slotType?, hk, hkind, hfit]
    · cases hv
  simp only [Jvm.newArray, Jvm.arrayFits, wp_bind', W.ask, hlimit, W.ite, if_false, W.theClass, hk, hkind, hheap, W.alloc, W.stop, wp_pure', W.mark]
  refine ⟨k, rfl, ?_⟩
  simp only [hkind, wp_bind', W.ask, W.ite, hheap, if_false, W.stop, wp_pure', W.alloc]
  rw [if_neg (by omega)]
  exact ⟨h1, by simpa using h2, hf, hq _ _⟩
theorem mn_row {E : CtlPost} {e : Env} {d : Bool} {acts : List Action} {U : State} {Q : Addr → Pre} {cA : ClassId} {k : Class} {comp : ClassId} (hk : U.vm.classes[cA]? = some k) (hkind : k.kind = .array comp .int) {n : Int32} {N : Nat} (hn : ¬ n < 0) (hN : n.toNatClampNeg = N) (hlimit : ¬ N > e.platform.arrayLengthLimit) (hheap : ¬ N * 4 > e.platform.maxHeapBytes)
    (h1 : U.heap.size < e.platform.maxCells) (h2 : U.slotsUsed + N ≤ e.platform.maxSlots) (hq : ∀ d' acts', Q U.heap.size d' acts' (U.pushCell { cls := cA, slots := Array.replicate N (.int 0), vm := .none })) : wp (multianewarray.make cA [n]) Q E e d acts U := by
  subst hN
  simp only [multianewarray.make, wp_bind', W.ite, hn, if_false, W.theClass, hk, hkind, wp_pure']
  refine ⟨_, rfl, ?_⟩
  simp only [hkind]
  exact mn_arr hk hkind hlimit hheap rfl h1 h2 hq
/-- the outer array when j rows stand in it -/
def mn_cell (cA : ClassId) (N h j : Nat) : Cell := arrV cA N (fun i => if i < j then .ref (h + 1 + i) else .null)
def mn_st (T : State) (cA comp : ClassId) (N K : Nat) : Nat → State
  | 0 => T.pushCell { cls := cA, slots := Array.replicate N .null, vm := .none }
  | j + 1 => ((mn_st T cA comp N K j).pushCell { cls := comp, slots := Array.replicate K (.int 0), vm := .none }).setCell T.heap.size (mn_cell cA N T.heap.size (j + 1))
theorem mn_cell_s (cA : ClassId) (N h j : Nat) : (mn_cell cA N h j).setSlot j (.ref (h + 1 + j)) = mn_cell cA N h (j + 1) := by
  unfold mn_cell
  rw [arrV_store]
  congr 1
  funext i
  simp only [updV]
  by_cases h1 : i = j
  · subst h1; simp
  · by_cases h2 : i < j
    · have : i < j + 1 := by omega
      simp [h1, h2, this]
    · have : ¬ i < j + 1 := by omega
      simp [h1, h2, this]
theorem mn_facts (T : State) (cA comp : ClassId) (N K : Nat) : ∀ j, (mn_st T cA comp N K j).heap.size = T.heap.size + 1 + j ∧ (mn_st T cA comp N K j).heap[T.heap.size]? = some (mn_cell cA N T.heap.size j) ∧ (∀ i, i < j → (mn_st T cA comp N K j).heap[T.heap.size + 1 + i]? = some (arrV comp K (fun _ => .int 0))) ∧ (∀ q, q < T.heap.size → (mn_st T cA comp N K j).heap[q]? = T.heap[q]?) ∧ (mn_st T cA comp N K j).vm = T.vm := by
  intro j
  induction j with
  | zero =>
    refine ⟨by simp [mn_st], ?_, fun i h => by omega, fun q h => ?_, rfl⟩
    · show (T.heap.push _)[T.heap.size]? = _
      rw [arrV_new]
      simp [mn_cell]
    · show (T.heap.push _)[q]? = _
      rw [Array.getElem?_push, if_neg (Nat.ne_of_lt h)]
  | succ j ih =>
    obtain ⟨h1, h2, h3, h4, h5⟩ := ih
    have hlt : T.heap.size < ((mn_st T cA comp N K j).pushCell { cls := comp, slots := Array.replicate K (.int 0), vm := .none }).heap.size := by
      show _ < (Array.push _ _).size
      rw [Array.size_push, h1]; omega
    refine ⟨?_, heapAt_setCell_self _ hlt, fun i hi => ?_, fun q hq => ?_, h5⟩
    · show (State.setCell _ _ _).heap.size = _
      rw [size_setCell]
      show (Array.push _ _).size = _
      rw [Array.size_push, h1]; omega
    · show (State.setCell _ _ _).heap[_]? = _
      rw [heapAt_setCell_ne _ (show T.heap.size ≠ T.heap.size + 1 + i by omega)]
      show (Array.push _ _)[_]? = _
      by_cases hij : i = j
      · subst hij
        rw [Array.getElem?_push, if_pos (by rw [h1]), arrV_new]
      · rw [Array.getElem?_push, if_neg (by rw [h1]; omega)]
        exact h3 i (by omega)
    · show (State.setCell _ _ _).heap[_]? = _
      rw [heapAt_setCell_ne _ (show T.heap.size ≠ q by omega)]
      show (Array.push _ _)[_]? = _
      rw [Array.getElem?_push, if_neg (by rw [h1]; omega)]
      exact h4 q hq
theorem mn_stand {T : State} (X : Stand p l e R s m args below meth c T locs cells slots) (cA comp : ClassId) (N K : Nat) : ∀ j, ∃ L : List Loc, (∀ q ∈ L, q.base = T.heap.size) ∧ Stand p l e R s m args below meth c (mn_st T cA comp N K j) (locs ++ L) (cells + (1 + j)) (slots + (N + j * K)) := by
  intro j
  induction j with
  | zero =>
    have X1 := X.pushed { cls := cA, slots := Array.replicate N .null, vm := .none }
    refine ⟨[], (fun q h => by cases h), ?_⟩
    have e1 : slots + (Array.replicate N Value.null).size = slots + (N + 0 * K) := by simp
    rw [List.append_nil, ← e1]
    exact X1
  | succ j ih =>
    obtain ⟨L, hL, X1⟩ := ih
    have X2 := X1.pushed { cls := comp, slots := Array.replicate K (.int 0), vm := .none }
    obtain ⟨h1, h2, -⟩ := mn_facts T cA comp N K j
    have h3 : ((mn_st T cA comp N K j).pushCell { cls := comp, slots := Array.replicate K (.int 0), vm := .none }).heap[T.heap.size]? = some (mn_cell cA N T.heap.size j) := by
      show (Array.push _ _)[_]? = _
      rw [Array.getElem?_push, if_neg (by rw [h1]; omega)]
      exact h2
    have X3 := X2.stored h3 j (.ref (T.heap.size + 1 + j))
    rw [mn_cell_s] at X3
    refine ⟨L ++ [⟨T.heap.size, j⟩], fun q h => ?_, ?_⟩
    · rcases List.mem_append.mp h with h | h
      · exact hL q h
      · rw [List.mem_singleton.mp h]
    · have e1 : slots + (N + j * K) + (Array.replicate K (Value.int 0)).size = slots + (N + (j + 1) * K) := by
        simp [Nat.add_mul]; omega
      have e2 : cells + (1 + j) + 1 = cells + (1 + (j + 1)) := by omega
      rw [← List.append_assoc, ← e1, ← e2]
      exact X3
theorem mn_top {T : State} (cA comp : ClassId) (N K : Nat) (hs : T.topJava?.isSome) : ∀ j, (mn_st T cA comp N K j).topJava?.isSome := by
  intro j
  induction j with
  | zero => exact hs
  | succ j ih => exact ih
theorem mn_used {T : State} (cA comp : ClassId) (N K : Nat) : ∀ j, (mn_st T cA comp N K j).slotsUsed = T.slotsUsed + (N + j * K) := by
  intro j
  induction j with
  | zero => show T.slotsUsed + (Array.replicate N Value.null).size = _; simp
  | succ j ih =>
    show (mn_st T cA comp N K j).slotsUsed + (Array.replicate K (Value.int 0)).size = _
    rw [ih]; simp [Nat.add_mul]; omega
theorem mn_wp {E : CtlPost} {e : Env} {d : Bool} {acts : List Action} {T : State} {g : JFrame} {Q : Unit → Pre} {index : Nat} {cA comp x : ClassId} {k4 k0 : Class} {n k : Int32} {N K : Nat} {rest : List Value} (hs : T.topJava?.isSome) (hr : T.vm.classReady g.method.cls index cA) (h4 : T.vm.classes[cA]? = some k4) (h4k : k4.kind = .array comp (.array .int)) (h0 : T.vm.classes[comp]? = some k0) (h0k : k0.kind = .array x .int)
    (hstack : g.stack = .int k :: .int n :: rest) (hn : ¬ n < 0) (hN : n.toNatClampNeg = N) (hk : ¬ k < 0) (hK : k.toNatClampNeg = K) (hNp : ¬ n = 0) (hlimN : ¬ N > e.platform.arrayLengthLimit) (hlimK : ¬ K > e.platform.arrayLengthLimit) (hhN : ¬ N * 4 > e.platform.maxHeapBytes) (hhK : ¬ K * 4 > e.platform.maxHeapBytes)
    (hm1 : T.heap.size + (1 + N) ≤ e.platform.maxCells) (hm2 : T.slotsUsed + (N + N * K) ≤ e.platform.maxSlots) (hq : ∀ d' acts', Q () d' acts' ((mn_st T cA comp N K N).setTop { g with stack := .ref T.heap.size :: rest })) : wp (multianewarray.sem index 2) Q E e d acts (T.setTop g) := by
  have hst2 : g.stack = ([.int n, .int k] : List Value).reverse ++ rest := hstack
  simp only [multianewarray.sem, wp_bind', W.resolveClassAt_ready (State.method?_setTop g hs) hr]
  refine (popN_top (args := [.int n, .int k]) hs hst2).mpr ?_
  simp only [List.mapM_cons, List.mapM_nil, wp_bind', wp_pure']
  rw [multianewarray.make]
  simp only [wp_bind', W.ite, hn, if_false, W.theClass, wp_pure', State.vm_setTop, h4]
  refine ⟨_, rfl, ?_⟩
  simp only [h4k, wp_bind']
  subst hN; subst hK
  refine mn_arr (U := T.setTop { g with stack := rest }) h4 h4k hlimN hhN rfl (show T.heap.size < _ by omega) (show T.slotsUsed + _ ≤ _ by omega) fun d' acts' => ?_
  have hnb : (n == 0) = false := by simpa using hNp
  simp only [hnb, W.ite, if_false, wp_bind', wp_pure', Bool.false_eq_true]
  rw [Std.Legacy.Range.forIn_eq_forIn_range']
  refine wp_forIn_inv (fun (r : List Nat) (U : State) => ∃ j, j ≤ n.toNatClampNeg ∧ r = List.range' j (n.toNatClampNeg - j) ∧ U = (mn_st T cA comp n.toNatClampNeg k.toNatClampNeg j).setTop { g with stack := rest }) _ _ ⟨0, Nat.zero_le _, by simp [Std.Legacy.Range.size], rfl⟩ ?_ ?_
  · rintro i r U d'' acts'' Q' ⟨j, hj, hr2, rfl⟩ hQ
    have hjlt : j < n.toNatClampNeg := by
      rcases Nat.lt_or_ge j n.toNatClampNeg with h | h
      · exact h
      · rw [Nat.sub_eq_zero_of_le h] at hr2; cases hr2
    have hr3 : List.range' j (n.toNatClampNeg - j) = j :: List.range' (j + 1) (n.toNatClampNeg - (j + 1)) := by
      rw [show n.toNatClampNeg - j = (n.toNatClampNeg - (j + 1)) + 1 by omega, List.range'_succ]
    rw [hr3] at hr2
    obtain ⟨rfl, rfl⟩ := List.cons.inj hr2
    obtain ⟨f1, f2, f3, f4, f5⟩ := mn_facts T cA comp n.toNatClampNeg k.toNatClampNeg i
    have hus := mn_used (T := T) cA comp n.toNatClampNeg k.toNatClampNeg i
    have hmul : i * k.toNatClampNeg + k.toNatClampNeg ≤ n.toNatClampNeg * k.toNatClampNeg := by
      have := Nat.mul_le_mul_right k.toNatClampNeg (show i + 1 ≤ n.toNatClampNeg by omega)
      rw [Nat.add_mul, Nat.one_mul] at this
      exact this
    simp only [wp_bind']
    refine mn_row (U := (mn_st T cA comp n.toNatClampNeg k.toNatClampNeg i).setTop { g with stack := rest }) (by rw [State.vm_setTop, f5]; exact h0) h0k hk rfl hlimK hhK (show (mn_st T cA comp n.toNatClampNeg k.toNatClampNeg i).heap.size < _ by rw [f1]; omega) (show (mn_st T cA comp n.toNatClampNeg k.toNatClampNeg i).slotsUsed + _ ≤ _ by rw [hus]; omega) fun d3 acts3 => ?_
    have hcell : ((mn_st T cA comp n.toNatClampNeg k.toNatClampNeg i).pushCell { cls := comp, slots := Array.replicate k.toNatClampNeg (.int 0), vm := .none }).heap[T.heap.size]? = some (mn_cell cA n.toNatClampNeg T.heap.size i) := by
      show (Array.push _ _)[_]? = _
      rw [Array.getElem?_push, if_neg (by rw [f1]; omega)]
      exact f2
    simp only [wp_bind']
    refine (W.writeLoc _ _ _ _).mpr ⟨mn_cell cA n.toNatClampNeg T.heap.size i, hcell, (fun h => by cases h), (by unfold mn_cell; rw [arrV_size]; exact hjlt), ?_, ?_⟩
    · have h5 : ((mn_st T cA comp n.toNatClampNeg k.toNatClampNeg i).setTop { g with stack := rest }).vm.classes[cA]? = some k4 := by rw [State.vm_setTop, f5]; exact h4
      show State.fitsSlot _ cA .none _ _ = true
      have h6 : (((mn_st T cA comp n.toNatClampNeg k.toNatClampNeg i).setTop { g with stack := rest }).pushCell { cls := comp, slots := Array.replicate k.toNatClampNeg (.int 0), vm := .none }).vm.classes[cA]? = some k4 := h5
      simp only [State.fitsSlot, State.slotType?, h6, Option.bind_eq_bind, Option.bind_some, h4k]
      rfl
    · simp only [wp_pure']
      refine hQ _ _ _ ⟨i + 1, hjlt, rfl, ?_⟩
      show (State.setCell _ _ _) = _
      rw [show (Array.size ((mn_st T cA comp n.toNatClampNeg k.toNatClampNeg i).setTop { g with stack := rest }).heap) = T.heap.size + 1 + i from f1]
      show State.setCell _ T.heap.size ((mn_cell cA n.toNatClampNeg T.heap.size i).setSlot i _) = _
      rw [mn_cell_s]
      rfl
  · rintro U d3 acts3 ⟨j, hj, hr2, rfl⟩
    have hjn : j = n.toNatClampNeg := by
      rcases Nat.lt_or_ge j n.toNatClampNeg with h | h
      · rw [show n.toNatClampNeg - j = (n.toNatClampNeg - (j + 1)) + 1 by omega, List.range'_succ] at hr2; cases hr2
      · omega
    subst hjn
    simp only [wp_pure', wp_bind', W.mark, W.pushRef, State.topJava?_setTop' _ (mn_top cA comp _ _ hs _)]
    refine ⟨_, rfl, ?_⟩
    simp only [State.setTop_setTop]
    exact hq _ _
/-- the whole: the outer array, then its rows, each written into its place -/
theorem W.manew {cc : ByteArray} (hexec : p.tables.exec = Jvm.exec) (hb : c.code = cc) {own : String} {index : Nat} (hown : s.vm.findClass own = some m.cls) (hclink : (Cond.classLink own index "[[I").before args s = true) (hMA : ax_MA s)
    {g : JFrame} (hg : g.method = m) (hdg : decode cc g.pc = .ok (.multianewarray index 2, 4)) {n k : Int32} {N K : Nat} {rest : List Value} (hstack : g.stack = .int k :: .int n :: rest) (hn : ¬ n < 0) (hN : n.toNatClampNeg = N) (hk : ¬ k < 0) (hK : k.toNatClampNeg = K) (hNp : ¬ n = 0) (hNb : N * 4 ≤ 536870912) (hKb : K * 4 ≤ 536870912) (hcells : cells + (1 + N) ≤ R.cells) (hslots : slots + (N + N * K) ≤ R.slots)
    (kk : ∀ (H' : Heap) (cA comp : ClassId) (L : List Loc), s.vm.findClass "[[I" = some cA → H'[H.size]? = some (arrV cA N (fun j => .ref (H.size + 1 + j))) → (∀ j, j < N → H'[H.size + 1 + j]? = some (arrV comp K (fun _ => .int 0))) → H'.size = H.size + 1 + N → (∀ q, q < H.size → H'[q]? = H[q]?) → (∀ q ∈ L, q.base = H.size) → s.vm.findClass "[I" = some comp →
      W p l e R s m args below meth c H' (locs ++ L) (cells + (1 + N)) (slots + (N + N * K)) Q { g with pc := g.pc + 4, stack := .ref H.size :: rest }) : W p l e R s m args below meth c H locs cells slots Q g := by
  intro T hT X
  subst hT; subst hb; subst hg
  have hpl : e.platform.magicAccessors = ({} : Platform).magicAccessors := by rw [X.admits.platform]
  obtain ⟨cA, comp, x, k4, k0, hA1, hA2, hA3, hA4, hA5, hA6⟩ := hMA
  obtain ⟨cc', hfcc, hcl⟩ := Cond.classLink_spec hown hclink e.platform hpl
  cases hA1.symm.trans hfcc
  obtain ⟨hg₁, hwarm₁, hready₁⟩ := State.classEntry (e := e) X.warmed hcl
  generalize T.vm.noted g.method.cls index (.cls cA) = vm₁ at hg₁ hwarm₁ hready₁
  have X₁ := X.noted hwarm₁
  have hlimN : ¬ N > e.platform.arrayLengthLimit := by rw [Launch.admits_arrayLengthLimit X.admits]; omega
  have hlimK : ¬ K > e.platform.arrayLengthLimit := by rw [Launch.admits_arrayLengthLimit X.admits]; omega
  have hhN : ¬ N * 4 > e.platform.maxHeapBytes := by rw [Launch.admits_maxHeapBytes X.admits]; omega
  have hhK : ¬ K * 4 > e.platform.maxHeapBytes := by rw [Launch.admits_maxHeapBytes X.admits]; omega
  have hal : s.vm.Alike vm₁ := hwarm₁.alike
  obtain ⟨k4', hk4', e4⟩ := hal.2.2 _ _ hA2
  obtain ⟨k0', hk0', e0⟩ := hal.2.2 _ _ hA4
  obtain ⟨hr1, hr2⟩ := X.roomAbove hcells hslots
  obtain ⟨L, hL, X₂⟩ := mn_stand X₁ cA comp N K N
  obtain ⟨f1, f2, f3, f4, f5⟩ := mn_facts (T.setVm vm₁) cA comp N K N
  obtain ⟨t', a1, b1⟩ := kk (mn_st (T.setVm vm₁) cA comp N K N).heap cA comp L hA1 (by
      refine f2.trans ?_
      refine congrArg some ?_
      unfold mn_cell arrV
      congr 1
      apply Array.ext
      · simp
      · intro i h1 h2
        simp at h1
        simp [h1]) f3 f1 f4 hL hA6 (mn_st (T.setVm vm₁) cA comp N K N) rfl X₂
  refine ⟨t', ?_, b1⟩
  have hcold : ∀ {Q : Unit → Pre} {E : CtlPost} {d : Bool} {acts : List Action}, wp (multianewarray.sem index 2) Q E e d acts (T.setTop g) ↔ wp (multianewarray.sem index 2) Q E e d acts ((T.setVm vm₁).setTop g) := by
    intro Q E d acts
    simp only [multianewarray.sem, wp_bind']
    exact W.resolveClassAt_transfer (s := T.setTop g) (State.method?_setTop g X.here.top) hg₁ hready₁
  jvm_step X.here [hexec, hdg, hcold]
  refine mn_wp (T := T.setVm vm₁) (N := N) (K := K) X.here.top hready₁ hk4' (by rw [e4]; exact hA3) hk0' (by rw [e0]; exact hA5) hstack hn hN hk hK hNp hlimN hlimK hhN hhK hr1 hr2 (fun d' acts' acts'' => ?_)
  have htop := mn_top (T := T.setVm vm₁) cA comp N K X.here.top N
  show Steps _ _ _ (State.modifyTopJava _ _) _
  rw [State.modifyTopJava_setTop]
  exact a1
end MNW
section MNX
variable {p : Program} {l : Launch} {e : Env} {R : Room} {s : State} {m : MethodId} {args : Array Value} {below : List Frame} {meth : Method} {c : Code} {Q : State → Prop} {D : va_G} {kA : Nat → ClassId} {A : Nat → Prop} {nL : Nat} {cc : ByteArray} {own : String} {ret : Option FieldType} {pc cells slots : Nat} {ls : List (Nat × Value)} {st rest : List Value} {ws : va_W}
theorem ax_manew (C : ax_C p s m args meth c cc own nL ret D kA A) {index : Nat} (hcl : Cond.classLink own index "[[I" ∈ lw_tbg) {n k : Int32} (N K : Nat) (hdg : decode cc pc = .ok (.multianewarray index 2, 4)) (hn : ¬ n < 0) (hN : n.toNatClampNeg = N) (hk : ¬ k < 0) (hK : k.toNatClampNeg = K) (hNp : ¬ n = 0) (hNb : N * 4 ≤ 536870912) (hKb : K * 4 ≤ 536870912) (hcells : cells + (1 + N) ≤ R.cells) (hslots : slots + (N + N * K) ≤ R.slots)
    (kk : ∀ q : Nat, AW p l e R s m args below meth c D kA A nL Q (pc + 4) (ls) (.ref q :: rest) (ws ++ ((q, .inl (kA 4, N, .inr (.inr (.inr (.inr (fun j => some (q + 1 + j))))))) :: (List.range N).map (fun j => (q + 1 + j, .inl (kA 0, K, .inl (fun _ => 0)))))) (cells + (1 + N)) (slots + (N + N * K))) : AW p l e R s m args below meth c D kA A nL Q (pc) (ls) (.int k :: .int n :: rest) (ws) (cells) (slots) := fun H locs la hP hD hS hl => by
  refine W.manew C.1 C.2.1 C.2.2.2.1 (C.2.2.2.2.1 _ hcl) C.2.2.2.2.2.2.2.2.2.2 rfl hdg rfl hn hN hk hK hNp hNb hKb hcells hslots (fun H1 cA comp L e1 e2 e3 e4 e5 e6 e7 => ?_)
  have k4 : s.vm.findClass "[[I" = some (kA 4) := (C.2.2.2.2.2.1.2 4 _ rfl).2
  have k0 : s.vm.findClass "[I" = some (kA 0) := (C.2.2.2.2.2.1.2 0 _ rfl).2
  obtain rfl : cA = kA 4 := Option.some.inj (e1.symm.trans k4)
  obtain rfl : comp = kA 0 := Option.some.inj (e7.symm.trans k0)
  have hlt : ∀ (i : Nat) (x : Nat × va_E), ws[i]? = some x → x.1 < H.size := fun i x hx => (hP i x hx).lt
  have hnew : ∀ (i : Nat) (x : Nat × va_E), ((H.size, .inl (kA 4, N, .inr (.inr (.inr (.inr (fun j => some (H.size + 1 + j))))))) :: (List.range N).map (fun j => (H.size + 1 + j, (.inl (kA 0, K, .inl (fun _ => 0)) : va_E))))[i]? = some x → x.1 = H.size + i ∧ va_at D ax_cl x H1 := by
    intro i x hx
    cases i with
    | zero =>
      cases hx
      exact ⟨rfl, e2⟩
    | succ i =>
      rw [List.getElem?_cons_succ, List.getElem?_map] at hx
      by_cases hi : i < N
      · rw [List.getElem?_range hi] at hx
        cases hx
        exact ⟨by show H.size + 1 + i = _; omega, e3 i hi⟩
      · rw [List.getElem?_eq_none (by simp; omega)] at hx
        cases hx
  refine kk H.size H1 (locs ++ L) la ?_ ?_ ?_ hl
  · refine va_P.app (hP.kept fun i x hx => e5 x.1 (hlt i x hx)) (fun i x hx => (hnew i x hx).2)
  · refine va_D.app hD ⟨fun i j x y hx hy hxy => ?_, fun i x hx => C.2.2.2.2.2.2.1 _ (by have := (hnew i x hx).1; have := hS.1; omega)⟩ (fun i j x y hx hy hxy => ?_)
    · have := (hnew i x hx).1; have := (hnew j y hy).1; omega
    · have := hlt i x hx; have := (hnew j y hy).1; omega
  · refine ⟨by have := hS.1; omega, fun q h1 h2 => (e5 q (Nat.lt_of_lt_of_le h1 hS.1)).trans (hS.2.1 q h1 h2), fun q hq => ?_⟩
    rcases List.mem_append.mp hq with h | h
    · exact hS.2.2 q h
    · exact C.2.2.2.2.2.2.1 _ (by rw [e6 q h]; exact hS.1)
end MNX
