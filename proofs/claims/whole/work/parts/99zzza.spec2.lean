/-! what reading keeps: NAMES once known, VARIABLES once bound -/
def NmE (A B : PN) : Prop := A.length ≤ B.length ∧ ∀ (i : Nat) x, A[i]? = some x → ∃ y, B[i]? = some y ∧ y.1 = x.1 ∧ (x.2.1 ≠ 0 → y = x)
theorem NmE.rf {A : PN} : NmE A A := ⟨Nat.le_refl _, fun i x h => ⟨x, h, rfl, fun _ => rfl⟩⟩
theorem NmE.tr {A B C : PN} (h : NmE A B) (h2 : NmE B C) : NmE A C := by
  refine ⟨Nat.le_trans h.1 h2.1, fun i x hx => ?_⟩
  obtain ⟨y, y1, y2, y3⟩ := h.2 i x hx
  obtain ⟨z, z1, z2, z3⟩ := h2.2 i y y1
  refine ⟨z, z1, z2.trans y2, fun h0 => ?_⟩
  have e := y3 h0
  subst e
  exact z3 h0
def PI (a b : PS) : Prop := a.1 ≤ b.1 ∧ NmE a.2.1 b.2.1 ∧ (∃ L, b.2.2.1 = a.2.2.1 ++ L) ∧ ∃ M, b.2.2.2.2 = a.2.2.2.2 ++ M ∧ M.length + a.2.2.1.length ≤ b.2.2.1.length ∧ ∀ v ∈ M, (a.2.2.1.length : Int) ≤ v ∧ v < (b.2.2.1.length : Int)
theorem PI.bd {a b : PS} (h : PI a b) : a.2.2.1.length ≤ b.2.2.1.length := by
  obtain ⟨_, _, ⟨L, hL⟩, _⟩ := h
  rw [hL, List.length_append]; omega
theorem PI.rf {a : PS} : PI a a := ⟨Int.le_refl _, NmE.rf, ⟨[], by simp⟩, [], by simp, by simp, fun v h => by cases h⟩
theorem PI.tr {a b c : PS} (h : PI a b) (h2 : PI b c) : PI a c := by
  have l1 := h.bd
  have l2 := h2.bd
  obtain ⟨p, q, ⟨L, hL⟩, M, m1, m2, m3⟩ := h
  obtain ⟨p2, q2, ⟨L2, hL2⟩, M2, n1, n2, n3⟩ := h2
  refine ⟨Int.le_trans p p2, q.tr q2, ⟨L ++ L2, by rw [hL2, hL, List.append_assoc]⟩, M ++ M2, by rw [n1, m1, List.append_assoc], by rw [List.length_append]; omega, fun v hv => ?_⟩
  rcases List.mem_append.mp hv with hv | hv
  · have := m3 v hv; omega
  · have := n3 v hv; omega
/-- the same but the position -/
theorem PI.pos {a b : PS} (h1 : a.1 ≤ b.1) (h2 : b.2 = a.2) : PI a b := by
  refine ⟨h1, by rw [h2]; exact NmE.rf, ⟨[], by rw [h2]; simp⟩, [], by rw [h2]; simp, by rw [h2]; simp, fun v h => by cases h⟩
theorem PI.adv {X : Int → Int} {n : Int} (st : PS) : PI st (adv X n st) := PI.pos te_ge rfl
/-- TERMS as the NAMES say, their VARIABLES within V -/
def WT (nm : PN) (V : Int → Prop) : T → Prop
  | .leaf _ => True
  | .branch l k s => ((cl l < 0 ∧ V (-1 - cl l) ∧ k = nl) ∨ (1 ≤ cl l ∧ ∃ x, nm[(cl l - 1).toNat]? = some x ∧ x.2.1 = 2 ∧ x.2.2 = (len k : Int))) ∧ WT nm V k ∧ WT nm V s
theorem WT.mono {nm nm2 : PN} {V V2 : Int → Prop} (hn : NmE nm nm2) (hV : ∀ v, V v → V2 v) : ∀ {F : T}, WT nm V F → WT nm2 V2 F
  | .leaf _, _ => trivial
  | .branch l k s, h => by
    obtain ⟨h1, h2, h3⟩ := h
    refine ⟨?_, WT.mono hn hV h2, WT.mono hn hV h3⟩
    rcases h1 with ⟨a, b, c⟩ | ⟨a, x, b, c, d⟩
    · exact Or.inl ⟨a, hV _ b, c⟩
    · obtain ⟨y, y1, y2, y3⟩ := hn.2 _ x b
      have e := y3 (by rw [c]; decide)
      subst e
      exact Or.inr ⟨a, y, y1, c, d⟩
theorem WT.cat {nm : PN} {V : Int → Prop} : ∀ {F G : T}, WT nm V F → WT nm V G → WT nm V (cat F G)
  | .leaf _, G, _, h => h
  | .branch l k s, G, h, h2 => ⟨h.1, h.2.1, WT.cat h.2.2 h2⟩
theorem varS_i {X : Int → Int} {n : Int} {st : PS} {a : PS × Int} (h2 : varS X n st = pOk a) (hn : n ≤ 20000) : PI st a.1 ∧ a.1.1 = st.1 ∧ a.1.2.2.2.1 = st.2.2.2.1 ∧ (a.2 ∈ st.2.2.2.1 ∨ a.2 ∈ a.1.2.2.2.2) := by
  unfold varS at h2
  cases hv : vrF X (wd X (tq X n st.1) (te X n st.1)) st.2.2.1 st.2.2.2.1 with
  | some v => rw [hv] at h2; cases h2; exact ⟨PI.rf, rfl, rfl, Or.inl (vrF_mem hv)⟩
  | none =>
    rw [hv] at h2
    dsimp only at h2
    cases hv2 : vrF X (wd X (tq X n st.1) (te X n st.1)) st.2.2.1 st.2.2.2.2 with
    | some v => rw [hv2] at h2; cases h2; exact ⟨PI.rf, rfl, rfl, Or.inr (vrF_mem hv2)⟩
    | none =>
      rw [hv2] at h2
      dsimp only at h2
      unfold bndS at h2
      by_cases hb : st.2.2.1.length = 300
      · rw [if_pos hb] at h2; cases h2
      · rw [if_neg hb] at h2
        cases h2
        refine ⟨⟨Int.le_refl _, NmE.rf, ⟨_, rfl⟩, [(st.2.2.1.length : Int)], rfl, by simp; omega, fun v hv => ?_⟩, rfl, rfl, Or.inr (by simp)⟩
        have := List.mem_singleton.mp hv
        subst this
        rw [List.length_append]
        simp
        omega
theorem nmF_r {w : List Int} : ∀ {L : PN} {a k : Int}, nmF w L a = some k → a ≤ k ∧ k < a + (L.length : Int)
  | [], a, k, h => by cases h
  | x :: L, a, k, h => by
    unfold nmF at h
    by_cases hx : x.1 = w
    · rw [if_pos hx] at h; cases h; simp only [List.length_cons]; omega
    · rw [if_neg hx] at h
      have := nmF_r h
      simp only [List.length_cons]; omega
theorem symS_i {X : Int → Int} {n : Int} {st : PS} {a : PS × Int} (h2 : symS X n st = pOk a) : PI st a.1 ∧ a.1.1 = st.1 ∧ a.1.2.2 = st.2.2 ∧ 1 ≤ a.2 ∧ a.2 ≤ (a.1.2.1.length : Int) := by
  unfold symS at h2
  cases hm : nmF (wd X (tq X n st.1) (te X n st.1)) st.2.1 1 with
  | some k =>
    rw [hm] at h2
    cases h2
    have := nmF_r hm
    exact ⟨PI.rf, rfl, rfl, this.1, by show k ≤ (st.2.1.length : Int); omega⟩
  | none =>
    rw [hm] at h2
    dsimp only at h2
    by_cases h250 : st.2.1.length = 250
    · rw [if_pos h250] at h2; cases h2
    · rw [if_neg h250] at h2
      cases h2
      refine ⟨⟨Int.le_refl _, ⟨by simp, fun i x hx => ⟨x, ?_, rfl, fun _ => rfl⟩⟩, ⟨[], by simp⟩, [], by simp, by simp, fun v h => by cases h⟩, rfl, rfl, by omega, by simp⟩
      rw [List.getElem?_append_left (List.getElem?_eq_some_iff.mp hx).1]; exact hx
theorem chkS_i {st : PS} {k is a q : Int} {st2 : PS} (hi : is ≠ 0) (h : chkS st k is a q = pOk st2) : PI st st2 ∧ st2.1 = st.1 ∧ st2.2.2 = st.2.2 ∧ ∃ x, st2.2.1[(k - 1).toNat]? = some x ∧ x.2.1 = is ∧ x.2.2 = a := by
  unfold chkS at h
  cases hx : st.2.1[(k - 1).toNat]? with
  | none => rw [hx] at h; cases h
  | some x =>
    rw [hx] at h
    dsimp only at h
    have hil := (List.getElem?_eq_some_iff.mp hx).1
    by_cases h0 : x.2.1 = 0
    · rw [if_pos h0] at h
      cases h
      refine ⟨⟨Int.le_refl _, ⟨by simp, fun i y hy => ?_⟩, ⟨[], by simp⟩, [], by simp, by simp, fun v h => by cases h⟩, rfl, rfl, _, List.getElem?_set_self hil, rfl, rfl⟩
      by_cases hij : i = (k - 1).toNat
      · subst hij
        rw [hx] at hy
        cases hy
        exact ⟨_, List.getElem?_set_self hil, rfl, fun h9 => absurd h0 h9⟩
      · exact ⟨y, by rw [List.getElem?_set_ne (by omega)]; exact hy, rfl, fun _ => rfl⟩
    · rw [if_neg h0] at h
      by_cases h1 : x.2.1 = is ∧ x.2.2 = a
      · rw [if_pos h1] at h
        cases h
        exact ⟨PI.rf, rfl, rfl, x, hx, h1.1, h1.2⟩
      · rw [if_neg h1] at h; cases h
theorem nstS_i {X : Int → Int} {n d d1 : Int} {st : PS} (h : nstS X n d st = pOk d1) : d1 = d + 1 := by
  unfold nstS at h
  by_cases h60 : d = 60
  · rw [if_pos h60] at h; cases h
  · rw [if_neg h60] at h; cases h; rfl
/-- V after reading: bound around, or free in the SENTENCE -/
def vOf (st : PS) (v : Int) : Prop := v ∈ st.2.2.2.1 ∨ v ∈ st.2.2.2.2
theorem PI.vof {a b : PS} (h : PI a b) (hs : b.2.2.2.1 = a.2.2.2.1) {v : Int} (hv : vOf a v) : vOf b v := by
  obtain ⟨_, _, _, M, m1, _⟩ := h
  rcases hv with hv | hv
  · exact Or.inl (by rw [hs]; exact hv)
  · exact Or.inr (by rw [m1]; exact List.mem_append_left _ hv)
def PV (st : PS) : Prop := ∀ v, vOf st v → 0 ≤ v ∧ v < (st.2.2.1.length : Int)
theorem PV.i {a b : PS} (hv : PV a) (h : PI a b) (hs : b.2.2.2.1 = a.2.2.2.1) : PV b := by
  have hb := h.bd
  obtain ⟨_, _, _, M, m1, m2, m3⟩ := h
  intro v h1
  rcases h1 with h1 | h1
  · rw [hs] at h1
    have := hv v (Or.inl h1); omega
  · rw [m1] at h1
    rcases List.mem_append.mp h1 with h1 | h1
    · have := hv v (Or.inr h1); omega
    · have := m3 v h1; omega
theorem pb_y {α γ : Type} {o : PR α} {f : α → PR γ} {b : γ} (h : pb o f = pOk b) : ∃ a, o = pOk a ∧ f a = pOk b := by
  rcases pb_r h with ⟨k, q, _, h2⟩ | h
  · cases h2
  · exact h
theorem sdS_i {X : Int → Int} {n : Int} (hn : n ≤ 20000) : ∀ (m : Nat) (b : Bool) (d : Int) (st : PS) (a : PS × T), PV st → sdS X n m b d st = pOk a → PI st a.1 ∧ a.1.2.2.2.1 = st.2.2.2.1 ∧ WT a.1.2.1 (vOf a.1) a.2
  | 0, b, d, st, a, _, h => by cases h
  | m + 1, true, d, st, a, hV, h => by
    unfold sdS at h
    obtain ⟨r, h1, h2⟩ := pb_y h
    obtain ⟨i1, i2, i3⟩ := sdS_i hn m false d st r hV h1
    by_cases c1 : tk X n r.1.1 = 44
    · rw [if_pos c1] at h2
      obtain ⟨u, h3, h4⟩ := pb_y h2
      cases h4
      obtain ⟨j1, j2, j3⟩ := sdS_i hn m true d (adv X n r.1) u (hV.i (i1.tr (PI.adv r.1)) i2) h3
      have j4 : PI r.1 u.1 := (PI.adv r.1).tr j1
      exact ⟨i1.tr j4, j2.trans i2, (i3.mono j4.2.1 (fun v hv => j4.vof j2 hv)).cat j3⟩
    · rw [if_neg c1] at h2
      by_cases c2 : tk X n r.1.1 = 41
      · rw [if_pos c2] at h2
        cases h2
        exact ⟨i1.tr (PI.adv r.1), i2, i3⟩
      · rw [if_neg c2] at h2; cases h2
  | m + 1, false, d, st, a, hV, h => by
    unfold sdS at h
    by_cases c1 : tk X n st.1 = 1
    · rw [if_pos c1] at h
      obtain ⟨r, h1, h2⟩ := pb_y h
      cases h2
      obtain ⟨i1, i2, i3, i4⟩ := varS_i h1 hn
      refine ⟨i1.tr (PI.adv r.1), i3, ⟨Or.inl ⟨?_, ?_, rfl⟩, trivial, trivial⟩⟩
      · rw [cl_cu]
        have hv : 0 ≤ r.2 := by
          rcases i4 with i4 | i4
          · exact (hV _ (Or.inl i4)).1
          · exact ((hV.i i1 i3) _ (Or.inr i4)).1
        omega
      · rw [cl_cu, show -1 - (-1 - r.2) = r.2 by omega]
        rcases i4 with i4 | i4
        · exact Or.inl (by show r.2 ∈ r.1.2.2.2.1; rw [i3]; exact i4)
        · exact Or.inr i4
    · rw [if_neg c1] at h
      by_cases c2 : tk X n st.1 = 2
      · rw [if_pos c2] at h
        obtain ⟨r, h1, h2⟩ := pb_y h
        obtain ⟨u, h3, h4⟩ := pb_y h2
        obtain ⟨st4, h5, h6⟩ := pb_y h4
        cases h6
        obtain ⟨i1, i2, i3, i4, i5⟩ := symS_i h1
        obtain ⟨k1, k2, k3, k4⟩ := chkS_i (by decide) h5
        have ju : PI (adv X n r.1) u.1 ∧ u.1.2.2.2.1 = r.1.2.2.2.1 ∧ WT u.1.2.1 (vOf u.1) u.2 := by
          by_cases c40 : tk X n (adv X n r.1).1 = 40
          · rw [if_pos c40] at h3
            obtain ⟨dd, h7, h8⟩ := pb_y h3
            obtain ⟨j1, j2, j3⟩ := sdS_i hn m true dd (adv X n (adv X n r.1)) u (hV.i ((i1.tr (PI.adv r.1)).tr (PI.adv _)) (by show r.1.2.2.2.1 = _; rw [i3])) h8
            exact ⟨(PI.adv _).tr j1, j2, j3⟩
          · rw [if_neg c40] at h3
            cases h3
            exact ⟨PI.rf, rfl, trivial⟩
        obtain ⟨j1, j2, j3⟩ := ju
        have j4 := j1.tr k1
        have hsc : st4.2.2.2.1 = st.2.2.2.1 := by rw [k3, j2, i3]
        refine ⟨(i1.tr (PI.adv r.1)).tr j4, hsc, ⟨Or.inr ⟨by rw [cl_cu]; exact i4, ?_⟩, j3.mono k1.2.1 (fun v hv => k1.vof (by rw [k3]) hv), trivial⟩⟩
        rw [cl_cu]
        exact k4
      · rw [if_neg c2] at h; cases h
/-- FORMULAS as the NAMES say, their VARIABLES bound or within V -/
def WFo (nm : PN) : T → (Int → Prop) → Prop
  | .leaf _, _ => True
  | .branch l k s, V => (if l ≤ 1 then len k = 2 ∧ WT nm V k else if l = 2 then ∃ h g x, k = nd h g nl ∧ 1 ≤ cl h ∧ nm[(cl h - 1).toNat]? = some x ∧ x.2.1 = 1 ∧ x.2.2 = (len g : Int) ∧ WT nm V g else if l = 3 then len k = 1 ∧ WFo nm k V else if l ≤ 7 then len k = 2 ∧ WFo nm k V else len k = 1 ∧ WFo nm k (fun u => V u ∨ u = (((l - 8) / 2 : Nat) : Int))) ∧ WFo nm s V
theorem WFo.mono {nm nm2 : PN} (hn : NmE nm nm2) : ∀ {F : T} {V V2 : Int → Prop}, (∀ v, V v → V2 v) → WFo nm F V → WFo nm2 F V2
  | .leaf _, V, V2, _, _ => trivial
  | .branch l k s, V, V2, hV, h => by
    obtain ⟨h1, h2⟩ := h
    refine ⟨?_, WFo.mono hn hV h2⟩
    by_cases c1 : l ≤ 1
    · rw [if_pos c1] at h1 ⊢
      exact ⟨h1.1, h1.2.mono hn hV⟩
    rw [if_neg c1] at h1 ⊢
    by_cases c2 : l = 2
    · rw [if_pos c2] at h1 ⊢
      obtain ⟨h, g, x, a1, a2, a3, a4, a5, a6⟩ := h1
      obtain ⟨y, y1, y2, y3⟩ := hn.2 _ x a3
      have e := y3 (by rw [a4]; decide)
      subst e
      exact ⟨h, g, y, a1, a2, y1, a4, a5, a6.mono hn hV⟩
    rw [if_neg c2] at h1 ⊢
    by_cases c3 : l = 3
    · rw [if_pos c3] at h1 ⊢
      exact ⟨h1.1, WFo.mono hn hV h1.2⟩
    rw [if_neg c3] at h1 ⊢
    by_cases c4 : l ≤ 7
    · rw [if_pos c4] at h1 ⊢
      exact ⟨h1.1, WFo.mono hn hV h1.2⟩
    rw [if_neg c4] at h1 ⊢
    exact ⟨h1.1, WFo.mono hn (fun v hv => hv.imp (hV v) id) h1.2⟩
/-- one FORMULA -/
def WFo1 (nm : PN) (f : Tm) (V : Int → Prop) : Prop := WFo nm (nd f.1 f.2 nl) V
theorem WFo1.mono {nm nm2 : PN} {f : Tm} {V V2 : Int → Prop} (hn : NmE nm nm2) (hV : ∀ v, V v → V2 v) (h : WFo1 nm f V) : WFo1 nm2 f V2 := WFo.mono hn hV h
theorem WFo1.mk2 {nm : PN} {f g : Tm} {V : Int → Prop} {l : Nat} (h1 : 4 ≤ l) (h2 : l ≤ 7) (hf : WFo1 nm f V) (hg : WFo1 nm g V) : WFo1 nm (mk2 l f g) V := by
  refine ⟨?_, trivial⟩
  rw [if_neg (by show ¬ l ≤ 1; omega), if_neg (by show ¬ l = 2; omega), if_neg (by show ¬ l = 3; omega), if_pos (by show l ≤ 7; omega)]
  exact ⟨rfl, hf.1, hg⟩
theorem WFo1.mk1 {nm : PN} {f : Tm} {V : Int → Prop} (hf : WFo1 nm f V) : WFo1 nm (mk1 3 f) V := ⟨⟨rfl, hf⟩, trivial⟩
theorem WFo1.q1 {nm : PN} {l : Nat} {f : Tm} {V : Int → Prop} (hl : 8 ≤ l) (h : WFo1 nm f (fun u => V u ∨ u = (((l - 8) / 2 : Nat) : Int))) : WFo1 nm (_root_.Jvm.Pilot.CClauseProverLaw_law_r9118_1ba172.mk1 l f) V := by
  refine ⟨?_, trivial⟩
  show (if l ≤ 1 then _ else if l = 2 then _ else if l = 3 then _ else if l ≤ 7 then _ else len (nd f.1 f.2 nl) = 1 ∧ WFo nm (nd f.1 f.2 nl) (fun u => V u ∨ u = (((l - 8) / 2 : Nat) : Int)))
  rw [if_neg (by omega), if_neg (by omega), if_neg (by omega), if_neg (by omega)]
  exact ⟨rfl, h⟩
theorem WFo1.qnt {nm : PN} {k first : Nat} (hk : k ≤ 1) : ∀ (j : Nat) {f : Tm} {V : Int → Prop}, WFo1 nm f (fun u => V u ∨ ((first : Int) ≤ u ∧ u < ((first + j : Nat) : Int))) → WFo1 nm (qnt k first j f) V
  | 0, f, V, h => h.mono NmE.rf (fun v hv => by rcases hv with hv | hv; exact hv; omega)
  | j + 1, f, V, h => by
    unfold _root_.Jvm.Pilot.CClauseProverLaw_law_r9118_1ba172.qnt
    refine WFo1.qnt hk j (WFo1.q1 (by omega) (h.mono NmE.rf (fun v hv => ?_)))
    have e : (((8 + k + 2 * (first + j) - 8) / 2 : Nat) : Int) = ((first + j : Nat) : Int) := by congr 1; omega
    show (V v ∨ ((first : Int) ≤ v ∧ v < ((first + j : Nat) : Int))) ∨ v = (((8 + k + 2 * (first + j) - 8) / 2 : Nat) : Int)
    rw [e]
    rcases hv with hv | hv
    · exact Or.inl (Or.inl hv)
    · by_cases h9 : v = ((first + j : Nat) : Int)
      · exact Or.inr h9
      · exact Or.inl (Or.inr ⟨hv.1, by omega⟩)
theorem eqnS_i {X : Int → Int} {n : Int} (hn : n ≤ 20000) {m : Nat} {t : T} {d : Int} {st : PS} {a : PS × Tm} (hV : PV st) (ht : WT st.2.1 (vOf st) t) (hl : len t = 1) (h : eqnS X n m t d st = pOk a) : PI st a.1 ∧ a.1.2.2.2.1 = st.2.2.2.1 ∧ WFo1 a.1.2.1 a.2 (vOf a.1) := by
  unfold eqnS at h
  obtain ⟨r, h1, h2⟩ := pb_y h
  cases h2
  obtain ⟨i1, i2, i3⟩ := sdS_i hn m false d (adv X n st) r (hV.i (PI.adv st) rfl) h1
  have i4 : PI st r.1 := (PI.adv st).tr i1
  have hr1 : len r.2 = 1 := by
    match m, h1 with
    | 0, h1 => cases h1
    | m + 1, h1 =>
      unfold sdS at h1
      by_cases c1 : tk X n (adv X n st).1 = 1
      · rw [if_pos c1] at h1
        obtain ⟨u, _, h3⟩ := pb_y h1
        cases h3; rfl
      · rw [if_neg c1] at h1
        by_cases c2 : tk X n (adv X n st).1 = 2
        · rw [if_pos c2] at h1
          obtain ⟨u, _, h3⟩ := pb_y h1
          obtain ⟨w, _, h4⟩ := pb_y h3
          obtain ⟨y, _, h5⟩ := pb_y h4
          cases h5; rfl
        · rw [if_neg c2] at h1; cases h1
  have hlc : ∀ F G : T, len (cat F G) = len F + len G := fun F G => by
    induction F using T.ind with
    | h0 => simp [cat, len]
    | h1 l k s _ ih =>
      show 1 + len (cat s G) = 1 + len s + len G
      rw [ih]; omega
  refine ⟨i4, i2, ?_, trivial⟩
  have hle : (if tk X n st.1 = 300 then 1 else 0 : Nat) ≤ 1 := by split <;> omega
  show (if (if tk X n st.1 = 300 then 1 else 0 : Nat) ≤ 1 then _ else _)
  rw [if_pos hle]
  exact ⟨by rw [hlc, hl, hr1], (ht.mono i4.2.1 (fun v hv => i4.vof i2 hv)).cat i3⟩
theorem atmS_i {X : Int → Int} {n : Int} (hn : n ≤ 20000) {m : Nat} {d : Int} {st : PS} {a : PS × Tm} (hV : PV st) (h : atmS X n m d st = pOk a) : PI st a.1 ∧ a.1.2.2.2.1 = st.2.2.2.1 ∧ WFo1 a.1.2.1 a.2 (vOf a.1) := by
  unfold atmS at h
  by_cases c1 : tk X n st.1 = 1
  · rw [if_pos c1] at h
    obtain ⟨r, h1, h2⟩ := pb_y h
    obtain ⟨i1, i2, i3, i4⟩ := varS_i h1 hn
    have i5 : PI st (adv X n r.1) := i1.tr (PI.adv r.1)
    have hV2 : PV (adv X n r.1) := hV.i i5 i3
    by_cases c : tk X n (adv X n r.1).1 = 61 ∨ tk X n (adv X n r.1).1 = 300
    · rw [if_pos c] at h2
      have hv : vOf (adv X n r.1) r.2 := by
        rcases i4 with i4 | i4
        · exact Or.inl (by show r.2 ∈ r.1.2.2.2.1; rw [i3]; exact i4)
        · exact Or.inr i4
      have hv0 := hV2 _ hv
      obtain ⟨j1, j2, j3⟩ := eqnS_i hn hV2 (t := nd (cu (-1 - r.2)) nl nl) ⟨Or.inl ⟨by rw [cl_cu]; omega, by rw [cl_cu, show -1 - (-1 - r.2) = r.2 by omega]; exact hv, rfl⟩, trivial, trivial⟩ rfl h2
      exact ⟨i5.tr j1, j2.trans i3, j3⟩
    · rw [if_neg c] at h2; cases h2
  · rw [if_neg c1] at h
    obtain ⟨r, h1, h2⟩ := pb_y h
    obtain ⟨u, h3, h4⟩ := pb_y h2
    obtain ⟨st4, h5, h6⟩ := pb_y h4
    obtain ⟨i1, i2, i3, i4, i5⟩ := symS_i h1
    have ju : PI (adv X n r.1) u.1 ∧ u.1.2.2.2.1 = r.1.2.2.2.1 ∧ WT u.1.2.1 (vOf u.1) u.2 := by
      by_cases c40 : tk X n (adv X n r.1).1 = 40
      · rw [if_pos c40] at h3
        obtain ⟨dd, h7, h8⟩ := pb_y h3
        obtain ⟨j1, j2, j3⟩ := sdS_i hn m true dd (adv X n (adv X n r.1)) u (hV.i ((i1.tr (PI.adv r.1)).tr (PI.adv _)) (by show r.1.2.2.2.1 = _; rw [i3])) h8
        exact ⟨(PI.adv _).tr j1, j2, j3⟩
      · rw [if_neg c40] at h3
        cases h3
        exact ⟨PI.rf, rfl, trivial⟩
    obtain ⟨j1, j2, j3⟩ := ju
    obtain ⟨k1, k2, k3, k4⟩ := chkS_i (by split <;> decide) h5
    have j4 : PI st st4 := ((i1.tr (PI.adv r.1)).tr j1).tr k1
    have hsc : st4.2.2.2.1 = st.2.2.2.1 := by rw [k3, j2, i3]
    have j5 : WT st4.2.1 (vOf st4) u.2 := j3.mono k1.2.1 (fun v hv => k1.vof (by rw [k3]) hv)
    by_cases c : tk X n u.1.1 = 61 ∨ tk X n u.1.1 = 300
    · rw [if_pos c] at h6 k4
      obtain ⟨q1, q2, q3⟩ := eqnS_i hn (hV.i j4 hsc) (t := nd (cu r.2) u.2 nl) ⟨Or.inr ⟨by rw [cl_cu]; exact i4, by rw [cl_cu]; exact k4⟩, j5, trivial⟩ rfl h6
      exact ⟨j4.tr q1, q2.trans hsc, q3⟩
    · rw [if_neg c] at h6 k4
      cases h6
      obtain ⟨x, x1, x2, x3⟩ := k4
      exact ⟨j4, hsc, ⟨cu r.2, u.2, x, rfl, by rw [cl_cu]; exact i4, by rw [cl_cu]; exact x1, x2, x3, j5⟩, trivial⟩
theorem bdsS_i {X : Int → Int} {n : Int} : ∀ (m : Nat) (st s1 : PS), bdsS X n m st = pOk s1 → st.1 ≤ s1.1 ∧ s1.2.1 = st.2.1 ∧ s1.2.2.2.2 = st.2.2.2.2 ∧ (∃ L, s1.2.2.1 = st.2.2.1 ++ L) ∧ ∃ L, s1.2.2.2.1 = L ++ st.2.2.2.1 ∧ ∀ v, v ∈ L ↔ (st.2.2.1.length : Int) ≤ v ∧ v < (s1.2.2.1.length : Int)
  | 0, st, s1, h => by cases h
  | m + 1, st, s1, h => by
    unfold bdsS at h
    by_cases c1 : tk X n st.1 = 1
    · rw [if_pos c1] at h
      obtain ⟨r, h1, h2⟩ := pb_y h
      unfold bndS at h1
      by_cases hb : st.2.2.1.length = 300
      · rw [if_pos hb] at h1; cases h1
      · rw [if_neg hb] at h1
        cases h1
        obtain ⟨i1, i2, i3, ⟨L1, i4⟩, L, i5, i6⟩ := bdsS_i m _ s1 h2
        have i1 : te X n st.1 ≤ s1.1 := i1
        have i4 : s1.2.2.1 = st.2.2.1 ++ [(tq X n st.1, te X n st.1 - tq X n st.1)] ++ L1 := i4
        have i5 : s1.2.2.2.1 = L ++ (st.2.2.1.length : Int) :: st.2.2.2.1 := i5
        have i6 : ∀ v, v ∈ L ↔ ((st.2.2.1 ++ [(tq X n st.1, te X n st.1 - tq X n st.1)]).length : Int) ≤ v ∧ v < (s1.2.2.1.length : Int) := i6
        have hlen : (s1.2.2.1.length : Int) = (st.2.2.1.length : Int) + 1 + (L1.length : Int) := by rw [i4, List.length_append, List.length_append]; simp
        refine ⟨by have := te_ge (T := X) (n := n) (p := st.1); omega, i2, i3, ⟨[(tq X n st.1, te X n st.1 - tq X n st.1)] ++ L1, by rw [i4, List.append_assoc]⟩, L ++ [(st.2.2.1.length : Int)], by rw [i5]; simp, fun v => ?_⟩
        rw [List.mem_append, List.mem_singleton, i6 v, List.length_append]
        simp only [List.length_cons, List.length_nil]
        omega
    · rw [if_neg c1] at h
      cases h
      exact ⟨Int.le_refl _, rfl, rfl, ⟨[], by simp⟩, [], rfl, fun v => by simp⟩
theorem fmS_i {X : Int → Int} {n : Int} (hn : n ≤ 20000) : ∀ (m lvl : Nat) (d : Int) (x : Tm) (st : PS) (a : PS × Tm), PV st → (lvl = 5 ∨ lvl = 6 → WFo1 st.2.1 x (vOf st)) → fmS X n m lvl d x st = pOk a → PI st a.1 ∧ a.1.2.2.2.1 = st.2.2.2.1 ∧ WFo1 a.1.2.1 a.2 (vOf a.1)
  | 0, lvl, d, x, st, a, _, _, h => by cases h
  | m + 1, lvl, d, x, st, a, hV, hx, h => by
    have ih := fmS_i (X := X) hn m
    have two : ∀ (l lv : Nat) (dd : Int) (y : Tm) (s1 : PS) (f : Tm) (u : PS × Tm), 4 ≤ l → l ≤ 7 → lv ≤ 4 → PV s1 → WFo1 s1.2.1 f (vOf s1) → fmS X n m lv dd y (adv X n s1) = pOk u → PI s1 u.1 ∧ u.1.2.2.2.1 = s1.2.2.2.1 ∧ WFo1 u.1.2.1 (mk2 l f u.2) (vOf u.1) := fun l lv dd y s1 f u l1 l2 hlv hV1 hf hu => by
      obtain ⟨i1, i2, i3⟩ := ih lv dd y (adv X n s1) u (hV1.i (PI.adv s1) rfl) (by intro h; omega) hu
      have i4 : PI s1 u.1 := (PI.adv s1).tr i1
      exact ⟨i4, i2, WFo1.mk2 l1 l2 (hf.mono i4.2.1 (fun v hv => i4.vof i2 hv)) i3⟩
    have unit : (if tk X n st.1 = 126 then pb (nstS X n d (adv X n st)) (fun d1 => pb (fmS X n m 4 d1 x (adv X n st)) (fun r => pOk (r.1, mk1 3 r.2)))
    else if tk X n st.1 = 33 ∨ tk X n st.1 = 63 then
      if tk X n (adv X n st).1 = 1 then pb (bdsS X n m (adv X n st)) (fun s1 => if tk X n s1.1 = 58 then pb (nstS X n d (adv X n s1)) (fun d1 => pb (fmS X n m 0 d1 x (adv X n s1)) (fun r => pOk ((r.1.1, r.1.2.1, r.1.2.2.1, st.2.2.2.1, r.1.2.2.2.2), qnt (if tk X n st.1 = 33 then 0 else 1) st.2.2.1.length (s1.2.2.1.length - st.2.2.1.length) r.2))) else pNo 1 (tq X n s1.1))
      else pNo 1 (tq X n (adv X n st).1)
    else if tk X n st.1 = 40 then pb (nstS X n d (adv X n st)) (fun d1 => pb (fmS X n m 0 d1 x (adv X n st)) (fun r => if tk X n r.1.1 = 41 then pOk (adv X n r.1, r.2) else pNo 1 (tq X n r.1.1)))
    else if tk X n st.1 = 1 ∨ tk X n st.1 = 2 then atmS X n m d st
    else pNo 1 (tq X n st.1)) = pOk a → PI st a.1 ∧ a.1.2.2.2.1 = st.2.2.2.1 ∧ WFo1 a.1.2.1 a.2 (vOf a.1) := fun h => by
      by_cases c1 : tk X n st.1 = 126
      · rw [if_pos c1] at h
        obtain ⟨dd, h1, h2⟩ := pb_y h
        obtain ⟨r, h3, h4⟩ := pb_y h2
        cases h4
        obtain ⟨i1, i2, i3⟩ := ih 4 dd x (adv X n st) r (hV.i (PI.adv st) rfl) (by intro h; omega) h3
        exact ⟨(PI.adv st).tr i1, i2, i3.mk1⟩
      rw [if_neg c1] at h
      by_cases c2 : tk X n st.1 = 33 ∨ tk X n st.1 = 63
      · rw [if_pos c2] at h
        by_cases c3 : tk X n (adv X n st).1 = 1
        · rw [if_pos c3] at h
          obtain ⟨s1, h1, h2⟩ := pb_y h
          by_cases c4 : tk X n s1.1 = 58
          · rw [if_pos c4] at h2
            obtain ⟨dd, h3, h4⟩ := pb_y h2
            obtain ⟨r, h5, h6⟩ := pb_y h4
            cases h6
            obtain ⟨b1, b2', b3, ⟨L1, b4⟩, L, b5, b6⟩ := bdsS_i m _ s1 h1
            have b1 : te X n st.1 ≤ s1.1 := b1
            have b2' : s1.2.1 = st.2.1 := b2'
            have b3 : s1.2.2.2.2 = st.2.2.2.2 := b3
            have b4 : s1.2.2.1 = st.2.2.1 ++ L1 := b4
            have b5 : s1.2.2.2.1 = L ++ st.2.2.2.1 := b5
            have b6 : ∀ v, v ∈ L ↔ (st.2.2.1.length : Int) ≤ v ∧ v < (s1.2.2.1.length : Int) := b6
            have bl : st.2.2.1.length ≤ s1.2.2.1.length := by rw [b4, List.length_append]; omega
            have hVs : PV (adv X n s1) := by
              intro v hv
              show 0 ≤ v ∧ v < (s1.2.2.1.length : Int)
              rcases hv with hv | hv
              · have hv : v ∈ s1.2.2.2.1 := hv
                rw [b5] at hv
                rcases List.mem_append.mp hv with hv | hv
                · have := (b6 v).mp hv; omega
                · have := hV v (Or.inl hv); omega
              · have hv : v ∈ s1.2.2.2.2 := hv
                rw [b3] at hv
                have := hV v (Or.inr hv); omega
            obtain ⟨i1, i2, i3⟩ := ih 0 dd x (adv X n s1) r hVs (by intro h; omega) h5
            have hte := te_ge (T := X) (n := n) (p := st.1)
            have hte2 := te_ge (T := X) (n := n) (p := s1.1)
            have ibd := i1.bd
            obtain ⟨p1, p2, ⟨L2, p3⟩, M, p4, p5, p6⟩ := i1
            have p1 : te X n s1.1 ≤ r.1.1 := p1
            have p2 : NmE s1.2.1 r.1.2.1 := p2
            have p3 : r.1.2.2.1 = s1.2.2.1 ++ L2 := p3
            have p4 : r.1.2.2.2.2 = s1.2.2.2.2 ++ M := p4
            have p5 : M.length + s1.2.2.1.length ≤ r.1.2.2.1.length := p5
            have p6 : ∀ v ∈ M, (s1.2.2.1.length : Int) ≤ v ∧ v < (r.1.2.2.1.length : Int) := p6
            refine ⟨⟨by show st.1 ≤ r.1.1; omega, by show NmE st.2.1 r.1.2.1; rw [← b2']; exact p2, ⟨L1 ++ L2, by show r.1.2.2.1 = _; rw [p3, b4, List.append_assoc]⟩, M, by show r.1.2.2.2.2 = _; rw [p4, b3], by show M.length + st.2.2.1.length ≤ r.1.2.2.1.length; omega, fun v hv => by have := p6 v hv; show (st.2.2.1.length : Int) ≤ v ∧ v < (r.1.2.2.1.length : Int); omega⟩, rfl, ?_⟩
            refine WFo1.qnt (by split <;> omega) _ (i3.mono NmE.rf (fun v hv => ?_))
            rcases hv with hv | hv
            · have hv : v ∈ r.1.2.2.2.1 := hv
              rw [i2] at hv
              have hv : v ∈ s1.2.2.2.1 := hv
              rw [b5] at hv
              rcases List.mem_append.mp hv with hv | hv
              · refine Or.inr ?_
                have := (b6 v).mp hv
                omega
              · exact Or.inl (Or.inl hv)
            · exact Or.inl (Or.inr hv)
          · rw [if_neg c4] at h2; cases h2
        · rw [if_neg c3] at h; cases h
      rw [if_neg c2] at h
      by_cases c5 : tk X n st.1 = 40
      · rw [if_pos c5] at h
        obtain ⟨dd, h1, h2⟩ := pb_y h
        obtain ⟨r, h3, h4⟩ := pb_y h2
        by_cases c6 : tk X n r.1.1 = 41
        · rw [if_pos c6] at h4
          cases h4
          obtain ⟨i1, i2, i3⟩ := ih 0 dd x (adv X n st) r (hV.i (PI.adv st) rfl) (by intro h; omega) h3
          exact ⟨((PI.adv st).tr i1).tr (PI.adv r.1), i2, i3⟩
        · rw [if_neg c6] at h4; cases h4
      rw [if_neg c5] at h
      by_cases c7 : tk X n st.1 = 1 ∨ tk X n st.1 = 2
      · rw [if_pos c7] at h
        exact atmS_i hn hV h
      · rw [if_neg c7] at h; cases h
    match lvl, hx, h with
    | 0, _, h =>
      obtain ⟨r, h1, h2⟩ := pb_y (show pb (fmS X n m 1 d x st) _ = pOk a from h)
      obtain ⟨i1, i2, i3⟩ := ih 1 d x st r hV (by intro h; omega) h1
      by_cases c : tk X n r.1.1 = 302
      · rw [if_pos c] at h2
        obtain ⟨u, h3, h4⟩ := pb_y h2
        cases h4
        obtain ⟨j1, j2, j3⟩ := two 7 1 d x r.1 r.2 u (by decide) (by decide) (by decide) (hV.i i1 i2) i3 h3
        exact ⟨i1.tr j1, j2.trans i2, j3⟩
      · rw [if_neg c] at h2; cases h2; exact ⟨i1, i2, i3⟩
    | 1, _, h =>
      obtain ⟨r, h1, h2⟩ := pb_y (show pb (fmS X n m 2 d x st) _ = pOk a from h)
      obtain ⟨i1, i2, i3⟩ := ih 2 d x st r hV (by intro h; omega) h1
      by_cases c : tk X n r.1.1 = 301
      · rw [if_pos c] at h2
        obtain ⟨dd, h3, h4⟩ := pb_y h2
        obtain ⟨u, h5, h6⟩ := pb_y h4
        cases h6
        obtain ⟨j1, j2, j3⟩ := two 6 1 dd x r.1 r.2 u (by decide) (by decide) (by decide) (hV.i i1 i2) i3 h5
        exact ⟨i1.tr j1, j2.trans i2, j3⟩
      · rw [if_neg c] at h2; cases h2; exact ⟨i1, i2, i3⟩
    | 2, _, h =>
      obtain ⟨r, h1, h2⟩ := pb_y (show pb (fmS X n m 3 d x st) _ = pOk a from h)
      obtain ⟨i1, i2, i3⟩ := ih 3 d x st r hV (by intro h; omega) h1
      obtain ⟨j1, j2, j3⟩ := ih 5 d r.2 r.1 a (hV.i i1 i2) (fun _ => i3) h2
      exact ⟨i1.tr j1, j2.trans i2, j3⟩
    | 3, _, h =>
      obtain ⟨r, h1, h2⟩ := pb_y (show pb (fmS X n m 4 d x st) _ = pOk a from h)
      obtain ⟨i1, i2, i3⟩ := ih 4 d x st r hV (by intro h; omega) h1
      obtain ⟨j1, j2, j3⟩ := ih 6 d r.2 r.1 a (hV.i i1 i2) (fun _ => i3) h2
      exact ⟨i1.tr j1, j2.trans i2, j3⟩
    | 5, hx, h =>
      replace h : (if tk X n st.1 = 124 then pb (fmS X n m 3 d x (adv X n st)) (fun r => fmS X n m 5 d (mk2 5 x r.2) r.1) else pOk (st, x)) = pOk a := h
      by_cases c : tk X n st.1 = 124
      · rw [if_pos c] at h
        obtain ⟨u, h1, h2⟩ := pb_y h
        obtain ⟨j1, j2, j3⟩ := two 5 3 d x st x u (by decide) (by decide) (by decide) hV (hx (Or.inl rfl)) h1
        obtain ⟨k1, k2, k3⟩ := ih 5 d (mk2 5 x u.2) u.1 a (hV.i j1 j2) (fun _ => j3) h2
        exact ⟨j1.tr k1, k2.trans j2, k3⟩
      · rw [if_neg c] at h; cases h; exact ⟨PI.rf, rfl, hx (Or.inl rfl)⟩
    | 6, hx, h =>
      replace h : (if tk X n st.1 = 38 then pb (fmS X n m 4 d x (adv X n st)) (fun r => fmS X n m 6 d (mk2 4 x r.2) r.1) else pOk (st, x)) = pOk a := h
      by_cases c : tk X n st.1 = 38
      · rw [if_pos c] at h
        obtain ⟨u, h1, h2⟩ := pb_y h
        obtain ⟨j1, j2, j3⟩ := two 4 4 d x st x u (by decide) (by decide) (by decide) hV (hx (Or.inr rfl)) h1
        obtain ⟨k1, k2, k3⟩ := ih 6 d (mk2 4 x u.2) u.1 a (hV.i j1 j2) (fun _ => j3) h2
        exact ⟨j1.tr k1, k2.trans j2, k3⟩
      · rw [if_neg c] at h; cases h; exact ⟨PI.rf, rfl, hx (Or.inr rfl)⟩
    | 4, _, h => exact unit h
    | l + 7, _, h => exact unit h
