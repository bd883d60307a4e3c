theorem SCr_of {σ : zS} : ∀ {Cs : List CL} {k p : Int}, (∀ (i : Nat) c, Cs[i]? = some c → SK σ (k + (i : Int)) (p + (szC (Cs.take i) : Int)) c) → SCr σ k p Cs
  | [], k, p, _ => trivial
  | a :: Cs, k, p, h => by
    refine ⟨by simpa [szC] using h 0 a rfl, SCr_of (fun i c hc => ?_)⟩
    have := h (i + 1) c (by rw [List.getElem?_cons_succ]; exact hc)
    rw [List.take_succ_cons] at this
    simp only [szC] at this
    rw [show k + 1 + (i : Int) = k + ((i + 1 : Nat) : Int) by omega, show p + (szL a.1 : Int) + (szC (Cs.take i) : Int) = p + ((szL a.1 + szC (Cs.take i) : Nat) : Int) by omega]
    exact this
/-- rows and numbers of the store, whatever the CLAUSES are -/
def SN (σ : zS) (Cs : List CL) : Prop := σ.1 5402 = (Cs.length : Int) ∧ σ.1 4701 = (szC Cs : Int) ∧ σ.1 5101 = 11 * (Cs.length : Int) ∧ (σ.1 4701 ≤ (σ.2.2 48 : Int) ∧ σ.2.2 48 ≤ 565000 ∧ 16 ≤ σ.2.2 48) ∧ (σ.1 5101 ≤ (σ.2.2 52 : Int) ∧ σ.2.2 52 ≤ 45000 ∧ 16 ≤ σ.2.2 52) ∧ (0 ≤ σ.1 4901 ∧ σ.1 4901 ≤ (σ.2.2 50 : Int) ∧ σ.2.2 50 ≤ 265000 ∧ 16 ≤ σ.2.2 50) ∧ Cs.length ≤ 2000
theorem SC_iff {σ : zS} {Cs : List CL} : SC σ Cs ↔ (∀ (i : Nat) c, Cs[i]? = some c → SK σ (i : Int) (pos Cs i) c) ∧ SN σ Cs := by
  constructor
  · intro h; exact ⟨fun i c hc => (h.k hc).1, h.2⟩
  · intro h
    refine ⟨SCr_of (fun i c hc => ?_), h.2⟩
    have := h.1 i c hc
    simpa [pos] using this
theorem pos_lt {Cs : List CL} {i j : Nat} {c : CL} (hc : Cs[i]? = some c) (h : i < j) : pos Cs i + (szL c.1 : Int) ≤ pos Cs j := by
  unfold pos
  have hi := (List.getElem?_eq_some_iff.mp hc)
  have e : Cs.take j = Cs.take i ++ c :: (Cs.drop (i + 1)).take (j - i - 1) := by
    have h1 : Cs.take (i + 1) = Cs.take i ++ [c] := by rw [List.take_succ, hc]; rfl
    have h2 : Cs.take j = Cs.take (i + 1) ++ (Cs.drop (i + 1)).take (j - (i + 1)) := by
      rw [← List.take_add]; congr 1; omega
    rw [h2, h1, List.append_assoc]
    rw [show j - (i + 1) = j - i - 1 by omega]; rfl
  rw [e, szC_app]
  simp only [szC]; omega
/-- a judgement changes ORDER and ELIGIBLE alone -/
theorem SC.jd {σ τ : zS} {Cs : List CL} {k : Nat} {c : CL} (h : SC σ Cs) (hc : Cs[k]? = some c) (hf : FrC [] [13, 48] σ τ) (l48 : τ.2.2 48 = σ.2.2 48) (hq : ∀ q, ¬ LLq (pos Cs k) c.1 q → τ.2.1 48 q = σ.2.1 48 q) : SC τ Cs := by
  obtain ⟨h1, h2⟩ := SC_iff.mp h
  refine SC_iff.mpr ⟨fun i d hd => ?_, ?_⟩
  · obtain ⟨a1, a2, a3, a4, a5, a6⟩ := h1 i d hd
    have e52 : ∀ q, τ.2.1 52 q = σ.2.1 52 q := fun q => hf.a 52 q
    have e50 : ∀ q, τ.2.1 50 q = σ.2.1 50 q := fun q => hf.a 50 q
    refine ⟨by unfold FK at *; simp only [e52]; exact a1, LL_q (fun q q0 q1 q2 => hq q (fun w => ?_)) a2, by rw [e52]; exact a3, by rw [e52, hf.i 4901]; exact a4, by rw [e52]; exact Fl_q (fun q _ _ => e50 q) a5, by rw [e52]; exact a6⟩
    have lo := LLq_lo w
    rcases Nat.lt_trichotomy i k with e | e | e
    · have := pos_lt hd e; omega
    · subst e
      rw [hc] at hd
      obtain rfl := Option.some.inj hd
      exact q2 w
    · have := pos_lt hc e; omega
  · unfold SN at *
    rw [hf.i 5402, hf.i 4701, hf.i 5101, hf.i 4901, hf.l 52, hf.l 50, l48]; exact h2
theorem SC.s {σ τ : zS} {Cs : List CL} (h : SC σ Cs) (S : Sa 13 σ τ) : SC τ Cs := by
  obtain ⟨h1, h2⟩ := SC_iff.mp h
  refine SC_iff.mpr ⟨fun i d hd => ?_, by unfold SN at *; rw [S.1, S.2.1]; exact h2⟩
  obtain ⟨a1, a2, a3, a4, a5, a6⟩ := h1 i d hd
  have e52 : ∀ q, τ.2.1 52 q = σ.2.1 52 q := fun q => S.2.2 52 q (by decide)
  have e50 : ∀ q, τ.2.1 50 q = σ.2.1 50 q := fun q => S.2.2 50 q (by decide)
  have e48 : ∀ q, τ.2.1 48 q = σ.2.1 48 q := fun q => S.2.2 48 q (by decide)
  exact ⟨by unfold FK at *; simp only [e52]; exact a1, LL_q (fun q _ _ _ => e48 q) a2, by rw [e52]; exact a3, by rw [e52, S.1]; exact a4, by rw [e52]; exact Fl_q (fun q _ _ => e50 q) a5, by rw [e52]; exact a6⟩
/-- the head of LITERAL i -/
def hp (p : Int) (C : List Lt) (i : Nat) : Int := p + (szL (C.take i) : Int)
theorem hp_lt {C : List Lt} {p : Int} {i j : Nat} {a : Lt} (ha : C[i]? = some a) (h : i < j) : hp p C i + 7 ≤ hp p C j := by
  unfold hp
  have e : C.take j = C.take i ++ a :: (C.drop (i + 1)).take (j - i - 1) := by
    have h1 : C.take (i + 1) = C.take i ++ [a] := by rw [List.take_succ, ha]; rfl
    have h2 : C.take j = C.take (i + 1) ++ (C.drop (i + 1)).take (j - (i + 1)) := by
      rw [← List.take_add]; congr 1; omega
    rw [h2, h1, List.append_assoc]
    rw [show j - (i + 1) = j - i - 1 by omega]; rfl
  rw [e, szL_app]
  have := tw_pos a.2.1
  have := tw_pos a.2.2
  simp only [szL]; omega
theorem hp_s {C : List Lt} {p : Int} {i : Nat} {a : Lt} (ha : C[i]? = some a) : hp p C (i + 1) = hp p C i + 5 + (tw a.2.1 : Int) + (tw a.2.2 : Int) := by
  unfold hp
  have h1 : C.take (i + 1) = C.take i ++ [a] := by rw [List.take_succ, ha]; rfl
  rw [h1, szL_app]
  simp only [szL]; omega
theorem hp_inj {C : List Lt} {p : Int} {i j : Nat} {a b : Lt} (ha : C[i]? = some a) (hb : C[j]? = some b) : hp p C i = hp p C j ↔ i = j := by
  constructor
  · intro e
    rcases Nat.lt_trichotomy i j with h | h | h
    · have := hp_lt (p := p) ha h; omega
    · exact h
    · have := hp_lt (p := p) hb h; omega
  · intro e; rw [e]
/-- LITERAL i of CLAUSE k -/
theorem SC.hl {σ : zS} {Cs : List CL} (h : SC σ Cs) {k : Nat} {c : CL} (hc : Cs[k]? = some c) {i : Nat} {a : Lt} (ha : c.1[i]? = some a) : HL σ (hp (pos Cs k) c.1 i) a := by
  obtain ⟨⟨h1, h2, _⟩, h3, h4, h5⟩ := h.k hc
  obtain ⟨b1, b2, b3⟩ := h.2.2.2.2.1
  have hi := (List.getElem?_eq_some_iff.mp ha).1
  have e : c.1 = c.1.take i ++ a :: c.1.drop (i + 1) := by
    have : c.1 = c.1.take (i + 1) ++ c.1.drop (i + 1) := (List.take_append_drop _ _).symm
    rw [List.take_succ, ha] at this
    simpa using this
  have h2' := h2
  rw [e] at h2'
  obtain ⟨l1, l2⟩ := LL_app.mp h2'
  have hs : szL c.1 = szL (c.1.take i) + szL (a :: c.1.drop (i + 1)) := by
    conv => lhs; rw [e]
    rw [szL_app]
  have ehp : hp (pos Cs k) c.1 i = pos Cs k + (szL (c.1.take i) : Int) := rfl
  exact HL_of l2 (by omega) (by omega) b1 b2
/-- the facts of a CLAUSE -/
theorem SC.f3 {β : Nat} {σ : zS} {Cs : List CL} (h : SC σ Cs) {k : Nat} {c : CL} (hc : Cs[k]? = some c) : yE tC_Sto_fact β σ [(k : Int), 3] = some (σ, (c.1.length : Int)) ∧ yE tC_Sto_fact β σ [(k : Int), 8] = some (σ, pos Cs k) ∧ yE tC_Sto_fact β σ [(k : Int), 6] = some (σ, cst c) ∧ yE tC_Sto_fact β σ [(k : Int), 4] = some (σ, (wtL c.1 : Int)) := by
  obtain ⟨⟨h1, _⟩, _, _, h5⟩ := h.k hc
  obtain ⟨f0, f1, f2, f3, f4, f5, f6, f7, f8⟩ := h1
  have g := fun w (w0 : 0 ≤ w) (w1 : w < 11) => fact_ok (β := β) h (k := (k : Int)) (w := w) (by omega) (by omega) w0 w1
  exact ⟨by rw [g 3 (by omega) (by omega), f3], by rw [g 8 (by omega) (by omega), f8], by rw [g 6 (by omega) (by omega), f6], by rw [g 4 (by omega) (by omega), f4]⟩
theorem hp_0 (p : Int) (C : List Lt) : hp p C 0 = p := by unfold hp; simp [szL]
theorem headOf_ok {β : Nat} (hβ : 1 ≤ β) {σ : zS} {Cs : List CL} (h : SC σ Cs) {k : Nat} {c : CL} (hc : Cs[k]? = some c) {i : Nat} (hi : i ≤ c.1.length) (h8 : c.1.length ≤ 8) : yE tC_Sto_headOf β σ [(k : Int), (i : Int)] = some (σ, hp (pos Cs k) c.1 i) := by
  have loop : ∀ (m j : Nat), j + m = i → yE tC_Sto_headOf_p11 β σ [(k : Int), (i : Int), hp (pos Cs k) c.1 j, (j : Int)] = some (σ, hp (pos Cs k) c.1 i) := by
    intro m
    induction m with
    | zero =>
      intro j hj
      rw [yq_Sto_headOf_p11, kY_Sto_headOf_p11, if_pos (by omega)]
      have : j = i := by omega
      rw [this]
    | succ m ih =>
      intro j hj
      have hl : j < c.1.length := by omega
      have ha := h.hl hc (List.getElem?_eq_getElem hl)
      rw [yq_Sto_headOf_p11, kY_Sto_headOf_p11, if_neg (by omega), if_pos hβ, zbd_of (behind_ok ha), if_pos (by omega), ← hp_s (List.getElem?_eq_getElem hl)]
      have := ih (j + 1) (by omega)
      rw [show ((j + 1 : Nat) : Int) = (j : Int) + 1 by omega] at this
      exact this
  rw [yq_Sto_headOf, kY_Sto_headOf, if_pos hβ, zbd_of (h.f3 hc).2.1]
  have := loop i 0 (by omega)
  rw [hp_0] at this
  exact this
/-- a head, or none -/
def hpo (p : Int) (C : List Lt) : Option Nat → Int
  | none => -1
  | some s => hp p C s
theorem selectedOf_ok {β : Nat} (hβ : 1 ≤ β) {σ : zS} {Cs : List CL} (h : SC σ Cs) {k : Nat} {c : CL} (hc : Cs[k]? = some c) (h8 : c.1.length ≤ 8) : yE tC_Sto_selectedOf β σ [(k : Int)] = some (σ, hpo (pos Cs k) c.1 (selI c.1)) := by
  have loop : ∀ (B : List Lt) (j : Nat) (b : Option Nat) (w : Nat), c.1.drop j = B → j ≤ c.1.length → w ≤ 1000000 → yE tC_Sto_selectedOf_p16 β σ [(k : Int), hpo (pos Cs k) c.1 b, (w : Int), hp (pos Cs k) c.1 j, (j : Int)] = some (σ, hpo (pos Cs k) c.1 (selQ B j b w)) := by
    intro B
    induction B with
    | nil =>
      intro j b w hB hj hw
      have : c.1.length ≤ j := by
        have := congrArg List.length hB
        simp at this; omega
      rw [yq_Sto_selectedOf_p16, kY_Sto_selectedOf_p16, if_pos hβ, zbd_of (h.f3 hc).1, if_pos (by omega)]
      rfl
    | cons a B ih =>
      intro j b w hB hj hw
      have hl : j < c.1.length := by
        have := congrArg List.length hB
        simp at this; omega
      have ea : c.1[j]? = some a := by
        have := congrArg (fun L : List Lt => L[0]?) hB
        simp only [List.getElem?_drop, List.getElem?_cons_zero, Nat.add_zero] at this
        exact this
      have hB2 : c.1.drop (j + 1) = B := by
        have := congrArg List.tail hB
        simpa using this
      have ha := h.hl hc ea
      have t1 := tw_pos a.2.1
      have t2 := tw_pos a.2.2
      obtain ⟨a1, a2, a3, a4, a5, a6, a7, a8, a9⟩ := id ha
      have e75 : ∀ (x y z : Int), yE tC_Sto_selectedOf_p75 β σ [(k : Int), x, y, hp (pos Cs k) c.1 j, (j : Int), z] = yE tC_Sto_selectedOf_p16 β σ [(k : Int), x, y, hp (pos Cs k) c.1 (j + 1), ((j + 1 : Nat) : Int)] := fun x y z => by
        rw [yq_Sto_selectedOf_p75, kY_Sto_selectedOf_p75, if_pos hβ, zbd_of (behind_ok ha), if_pos (by omega), ← hp_s ea, show ((j + 1 : Nat) : Int) = (j : Int) + 1 by omega]
      have el : (tw a.2.1 : Int) + (tw a.2.2 : Int) = ((lwt a : Nat) : Int) := by simp only [lwt]; omega
      rw [yq_Sto_selectedOf_p16, kY_Sto_selectedOf_p16, if_pos hβ, zbd_of (h.f3 hc).1, if_neg (by omega), if_pos (by omega), if_pos (by omega), if_pos (by omega), if_pos (by omega), if_pos hβ, zbd_of (pos_ok ha), a2, a3, el]
      simp only [selQ]
      by_cases hs : a.1 = 1
      · rw [b2_t hs, if_neg (by decide), if_pos (by omega), e75, if_neg (fun w => w.1 hs)]
        exact ih (j + 1) b w hB2 (by omega) hw
      · rw [b2_f hs, if_pos rfl, if_pos (by omega)]
        by_cases hg : w < lwt a
        · rw [if_neg (by omega), e75, if_pos ⟨hs, hg⟩]
          exact ih (j + 1) (some j) (lwt a) hB2 (by omega) (by simp only [lwt]; omega)
        · rw [if_pos (by omega), e75, if_neg (fun q => hg q.2)]
          exact ih (j + 1) b w hB2 (by omega) hw
  rw [yq_Sto_selectedOf, kY_Sto_selectedOf, if_pos hβ, zbd_of (h.f3 hc).2.1]
  have := loop c.1 0 none 0 (by simp) (by omega) (by omega)
  rw [hp_0] at this
  exact this
theorem selQ_lt : ∀ {C : List Lt} {i : Nat} {b : Option Nat} {w s : Nat}, selQ C i b w = some s → b = some s ∨ (i ≤ s ∧ s < i + C.length)
  | [], i, b, w, s, h => Or.inl h
  | a :: C, i, b, w, s, h => by
    simp only [selQ] at h
    simp only [List.length_cons]
    split at h
    · rcases selQ_lt h with q | q
      · obtain rfl := Option.some.inj q
        right; omega
      · right; omega
    · rcases selQ_lt h with q | q
      · exact Or.inl q
      · right; omega
theorem selI_lt {C : List Lt} {s : Nat} (h : selI C = some s) : s < C.length := by
  rcases selQ_lt h with q | q
  · cases q
  · omega
theorem Wc.s {ar : Int → Nat} {m9 : Int} {C : List Lt} (h : Wc ar m9 C) {a : Lt} (ha : a ∈ C) (i : Int) : wf ar (lb m9) (tt (sdT a i)) := by
  obtain ⟨_, w1, w2⟩ := h.2.2.2.2 a ha
  unfold sdT
  split
  · exact w1
  · exact w2
theorem wtL_mem : ∀ {C : List Lt} {a : Lt}, a ∈ C → lwt a ≤ wtL C
  | [], a, h => by cases h
  | b :: C, a, h => by
    simp only [wtL]
    rcases List.mem_cons.mp h with rfl | h
    · simp only [lwt]; omega
    · have := wtL_mem h; omega
theorem Wc.t {ar : Int → Nat} {m9 : Int} {C : List Lt} (h : Wc ar m9 C) {a : Lt} (ha : a ∈ C) (i : Int) : tw (sdT a i) ≤ 100 := by
  have h1 := wtL_mem ha
  have h2 := h.2.1
  simp only [lwt] at h1
  unfold sdT
  split <;> omega
theorem isTopmost_ok {ar : Int → Nat} {m9 : Int} {β : Nat} (hβ : 4 ≤ β) {Cs : List CL} {k : Nat} {c : CL} (hc : Cs[k]? = some c) (hW : Wc ar m9 c.1) {i : Nat} {b : Lt} (hb : c.1[i]? = some b) {σ : zS} (hC : Cy ar m9 σ) (h : SC σ Cs) : ∃ τ, yE tC_Sto_isTopmost β σ [(k : Int), hp (pos Cs k) c.1 i] = some (τ, b2 (∀ (j : Nat) (a : Lt), j ≠ i → c.1[j]? = some a → ¬ gL a b)) ∧ Sa 13 σ τ := by
  have h8 := hW.1
  have hbm : b ∈ c.1 := List.mem_of_getElem? hb
  have loop : ∀ (m j : Nat) (σ : zS), j + m = c.1.length → Cy ar m9 σ → SC σ Cs → ∃ τ, yE tC_Sto_isTopmost_p11 β σ [(k : Int), hp (pos Cs k) c.1 i, hp (pos Cs k) c.1 j, (j : Int)] = some (τ, b2 (∀ (q : Nat) (a : Lt), j ≤ q → q ≠ i → c.1[q]? = some a → ¬ gL a b)) ∧ Sa 13 σ τ := by
    intro m
    induction m with
    | zero =>
      intro j σ hj hC h
      refine ⟨σ, ?_, Sa.refl⟩
      rw [yq_Sto_isTopmost_p11, kY_Sto_isTopmost_p11, if_pos (by omega), zbd_of (h.f3 hc).1, if_pos (by omega), b2_t (fun q a h1 _ h3 => by have := (List.getElem?_eq_some_iff.mp h3).1; omega)]
    | succ m ih =>
      intro j σ hj hC h
      have hl : j < c.1.length := by omega
      have ea := List.getElem?_eq_getElem hl
      have ha := h.hl hc ea
      have ham : c.1[j] ∈ c.1 := List.getElem_mem hl
      have go : ∀ τ, Sa 13 σ τ → (j ≠ i → ¬ gL c.1[j] b) → ∃ τ2, yE tC_Sto_isTopmost_p38 β τ [(k : Int), hp (pos Cs k) c.1 i, hp (pos Cs k) c.1 j, (j : Int)] = some (τ2, b2 (∀ (q : Nat) (a : Lt), j ≤ q → q ≠ i → c.1[q]? = some a → ¬ gL a b)) ∧ Sa 13 σ τ2 := fun τ S n => by
        obtain ⟨τ2, t1, t2⟩ := ih (j + 1) τ (by omega) (hC.s S) (h.s S)
        refine ⟨τ2, ?_, S.trans t2⟩
        rw [yq_Sto_isTopmost_p38, kY_Sto_isTopmost_p38, if_pos (by omega), zbd_of (behind_ok (ha.s S)), if_pos (by omega), ← hp_s ea, show (j : Int) + 1 = ((j + 1 : Nat) : Int) by omega, t1]
        congr 2
        refine b2_c ⟨fun w q a h1 h2 h3 => ?_, fun w q a h1 h2 h3 => w q a (by omega) h2 h3⟩
        by_cases e : q = j
        · subst e
          rw [ea] at h3
          obtain rfl := Option.some.inj h3
          exact n h2
        · exact w q a (by omega) h2 h3
      rw [yq_Sto_isTopmost_p11, kY_Sto_isTopmost_p11, if_pos (by omega), zbd_of (h.f3 hc).1, if_neg (by omega)]
      by_cases e : j = i
      · rw [if_pos ((hp_inj ea hb).mpr e)]
        exact go σ Sa.refl (fun w => absurd e w)
      · rw [if_neg (fun w => e ((hp_inj ea hb).mp w)), if_pos (by omega)]
        obtain ⟨τ, t1, S⟩ := isGreater_ok hC ha (h.hl hc hb) (hW.s ham) (hW.s hbm) (hW.t ham) (β := β - 1) (by omega)
        rw [zbd_of t1]
        by_cases hg : gL c.1[j] b
        · refine ⟨τ, ?_, S⟩
          rw [b2_t hg, if_neg (by decide), b2_f (fun w => w j _ (Nat.le_refl _) e ea hg)]
        · rw [b2_f hg, if_pos rfl]
          exact go τ S (fun _ => hg)
  obtain ⟨τ, t1, S⟩ := loop c.1.length 0 σ (by omega) hC h
  refine ⟨τ, ?_, S⟩
  rw [yq_Sto_isTopmost, kY_Sto_isTopmost, if_pos (by omega), zbd_of (h.f3 hc).2.1]
  rw [hp_0] at t1
  refine t1.trans ?_
  congr 2
  exact b2_c ⟨fun w j a h1 h2 => w j a (Nat.zero_le _) h1 h2, fun w j a _ h1 h2 => w j a h1 h2⟩
/-- judged: ORDER and ELIGIBLE stand -/
def JG (g : Int → Int) (p : Int) (C : List Lt) : Prop := ∀ (i : Nat) a, C[i]? = some a → g (hp p C i + 1) = ordL a ∧ g (hp p C i + 2) = b2 (elI C i)
theorem LLq_hp {C : List Lt} {p : Int} {i : Nat} {a : Lt} (ha : C[i]? = some a) : LLq p C (hp p C i + 1) ∧ LLq p C (hp p C i + 2) := by
  induction C generalizing p i with
  | nil => simp at ha
  | cons b C ih =>
    cases i with
    | zero => rw [hp_0]; exact ⟨Or.inl rfl, Or.inr (Or.inl rfl)⟩
    | succ i =>
      rw [List.getElem?_cons_succ] at ha
      obtain ⟨h1, h2⟩ := ih (p := p + 5 + (tw b.2.1 : Int) + (tw b.2.2 : Int)) ha
      have e : hp p (b :: C) (i + 1) = hp (p + 5 + (tw b.2.1 : Int) + (tw b.2.2 : Int)) C i := by
        unfold hp; rw [List.take_succ_cons]; simp only [szL]; omega
      rw [e]
      exact ⟨Or.inr (Or.inr h1), Or.inr (Or.inr h2)⟩
theorem judge_ok {ar : Int → Nat} {m9 : Int} {β : Nat} (hβ : 5 ≤ β) {Cs : List CL} {k : Nat} {c : CL} (hc : Cs[k]? = some c) (hW : Wc ar m9 c.1) {σ : zS} (hC : Cy ar m9 σ) (h : SC σ Cs) : ∃ τ, yE tC_Sto_judge β σ [(k : Int)] = some (τ, 0) ∧ FrC [] [13, 48] σ τ ∧ τ.2.2 = σ.2.2 ∧ (∀ q, ¬ LLq (pos Cs k) c.1 q → τ.2.1 48 q = σ.2.1 48 q) ∧ JG (τ.2.1 48) (pos Cs k) c.1 := by
  have h8 := hW.1
  have loop : ∀ (m j : Nat) (ρ : zS), j + m = c.1.length → FrC [] [13, 48] σ ρ → ρ.2.2 = σ.2.2 → (∀ q, ¬ LLq (pos Cs k) c.1 q → ρ.2.1 48 q = σ.2.1 48 q) → (∀ (i : Nat) a, i < j → c.1[i]? = some a → ρ.2.1 48 (hp (pos Cs k) c.1 i + 1) = ordL a ∧ ρ.2.1 48 (hp (pos Cs k) c.1 i + 2) = b2 (elI c.1 i)) → ∃ τ, yE tC_Sto_judge_p17 β ρ [(k : Int), hpo (pos Cs k) c.1 (selI c.1), hp (pos Cs k) c.1 j, (j : Int)] = some (τ, 0) ∧ FrC [] [13, 48] σ τ ∧ τ.2.2 = σ.2.2 ∧ (∀ q, ¬ LLq (pos Cs k) c.1 q → τ.2.1 48 q = σ.2.1 48 q) ∧ JG (τ.2.1 48) (pos Cs k) c.1 := by
    intro m
    induction m with
    | zero =>
      intro j ρ hj f l hq hJ
      have hS := h.jd hc f (by rw [l]) hq
      refine ⟨ρ, ?_, f, l, hq, fun i a ha => hJ i a (by have := (List.getElem?_eq_some_iff.mp ha).1; omega) ha⟩
      rw [yq_Sto_judge_p17, kY_Sto_judge_p17, if_pos (by omega), zbd_of (hS.f3 hc).1, if_pos (by omega)]
    | succ m ih =>
      intro j ρ hj f l hq hJ
      have hS := h.jd hc f (by rw [l]) hq
      have hCρ : Cy ar m9 ρ := ⟨hC.1.q (fun q => f.a 7 q), hC.2.1, by rw [f.i 4701]; exact hC.2.2.1, by rw [f.i 4701, l]; exact hC.2.2.2.1, by rw [l]; exact hC.2.2.2.2⟩
      have hl : j < c.1.length := by omega
      have ea := List.getElem?_eq_getElem hl
      have ha := hS.hl hc ea
      have ham : c.1[j] ∈ c.1 := List.getElem_mem hl
      -- what is set for this one
      have set : ∀ (ρ1 : zS) (x4 x5 e o : Int), Sa 13 ρ ρ1 → o = ordL c.1[j] → (e = 0 ∨ e = 1) → e = b2 (elI c.1 j) → ∃ τ, yE tC_Sto_judge_p145 β ρ1 [(k : Int), hpo (pos Cs k) c.1 (selI c.1), hp (pos Cs k) c.1 j, (j : Int), x4, x5, e, o, hp (pos Cs k) c.1 j + 1] = some (τ, 0) ∧ FrC [] [13, 48] σ τ ∧ τ.2.2 = σ.2.2 ∧ (∀ q, ¬ LLq (pos Cs k) c.1 q → τ.2.1 48 q = σ.2.1 48 q) ∧ JG (τ.2.1 48) (pos Cs k) c.1 := fun ρ1 x4 x5 e o S ho he hee => by
        obtain ⟨a1, a2, a3, a4, a5, a6, a7, a8, a9⟩ := ha.s S
        have t1 := tw_pos c.1[j].2.1
        have t2 := tw_pos c.1[j].2.2
        have fin := fun (z : zS) (hz : z = zA (zA ρ1 48 (hp (pos Cs k) c.1 j + 1) o) 48 (hp (pos Cs k) c.1 j + 2) e) => by
          obtain ⟨q1, q2⟩ := LLq_hp (p := pos Cs k) ea
          have f2 : FrC [] [13, 48] ρ z := by
            have b1 : FrC [] [13, 48] ρ1 (zA ρ1 48 (hp (pos Cs k) c.1 j + 1) o) := FrC_A
            have b2 : FrC [] [13, 48] (zA ρ1 48 (hp (pos Cs k) c.1 j + 1) o) z := by rw [hz]; exact FrC_A
            have b0 : FrC [] [13, 48] ρ ρ1 := FrC_Sa S
            exact (b0.trans b1).trans b2
          have l2 : z.2.2 = σ.2.2 := by rw [hz, zA_l, zA_l, S.2.1, l]
          have z48 : ∀ q, q ≠ hp (pos Cs k) c.1 j + 1 → q ≠ hp (pos Cs k) c.1 j + 2 → z.2.1 48 q = ρ.2.1 48 q := fun q n1 n2 => by rw [hz, zA_i n2, zA_i n1, S.2.2 48 q (by decide)]
          have hq2 : ∀ q, ¬ LLq (pos Cs k) c.1 q → z.2.1 48 q = σ.2.1 48 q := fun q nq => by
            rw [z48 q (fun w => nq (by rw [w]; exact q1)) (fun w => nq (by rw [w]; exact q2))]
            exact hq q nq
          exact ih (j + 1) z (by omega) (f.trans f2) l2 hq2 (fun i a hi hai => by
            by_cases eij : i = j
            · subst eij
              rw [ea] at hai
              obtain rfl := Option.some.inj hai
              refine ⟨?_, ?_⟩
              · rw [hz, zA_i (by omega), zA_s]; exact ho
              · rw [hz, zA_s]; exact hee
            · have hlt := hp_lt (p := pos Cs k) hai (show i < j by omega)
              rw [z48 _ (by omega) (by omega), z48 _ (by omega) (by omega)]
              exact hJ i a (by omega) hai)
        obtain ⟨τ, t3, t4⟩ := fin _ rfl
        refine ⟨τ, ?_, t4⟩
        rw [show ((j + 1 : Nat) : Int) = (j : Int) + 1 by omega] at t3
        have hbh := behind_ok (β := β - 1) (σ := zA (zA ρ1 48 (hp (pos Cs k) c.1 j + 1) o) 48 (hp (pos Cs k) c.1 j + 2) e) (p := hp (pos Cs k) c.1 j) (a := c.1[j]) ⟨by rw [zA_i (by omega), zA_i (by omega)]; exact a1, by rw [zA_i (by omega), zA_i (by omega)]; exact a2, by rw [zA_i (by omega), zA_i (by omega)]; exact a3, Fl_q (fun q h1 h2 => by rw [zA_i (by omega), zA_i (by omega)]) a4, Fl_q (fun q h1 h2 => by rw [zA_i (by omega), zA_i (by omega)]) a5, a6, a7, a8, a9⟩
        have e166 : yE tC_Sto_judge_p166 β (zA ρ1 48 (hp (pos Cs k) c.1 j + 1) o) [(k : Int), hpo (pos Cs k) c.1 (selI c.1), hp (pos Cs k) c.1 j, (j : Int), x4, x5, e, e, hp (pos Cs k) c.1 j + 2] = some (τ, 0) := by
          rw [yq_Sto_judge_p166, kY_Sto_judge_p166, if_pos (by rw [zA_l]; omega), lt_e, if_pos (by omega), zbd_of hbh, if_pos (by omega), ← hp_s ea]
          exact t3
        rw [yq_Sto_judge_p145, kY_Sto_judge_p145, if_pos (by omega), lt_e]
        rcases he with rfl | rfl
        · rw [if_pos rfl, if_pos (by omega)]; exact e166
        · rw [if_neg (by decide), if_pos (by omega)]; exact e166
      -- its order
      have ord : ∀ (ρ1 : zS) (e : Int), Sa 13 ρ ρ1 → (e = 0 ∨ e = 1) → e = b2 (elI c.1 j) → ∃ τ, yE tC_Sto_judge_p68 β ρ1 [(k : Int), hpo (pos Cs k) c.1 (selI c.1), hp (pos Cs k) c.1 j, (j : Int), sdp (hp (pos Cs k) c.1 j) c.1[j] 0, sdp (hp (pos Cs k) c.1 j) c.1[j] 1, e] = some (τ, 0) ∧ FrC [] [13, 48] σ τ ∧ τ.2.2 = σ.2.2 ∧ (∀ q, ¬ LLq (pos Cs k) c.1 q → τ.2.1 48 q = σ.2.1 48 q) ∧ JG (τ.2.1 48) (pos Cs k) c.1 := fun ρ1 e S he hee => by
        obtain ⟨ρ2, g1, S2⟩ := HL.gr (hCρ.s S) (ha.s S) (ha.s S) (hW.s ham 0) (hW.s ham 1) (hW.t ham 0) (β := β - 1) (by omega)
        have ha7 := ha
        obtain ⟨_, _, _, _, _, a6, a7, a8, a9⟩ := ha7
        have t1 := tw_pos c.1[j].2.1
        have t2 := tw_pos c.1[j].2.2
        rw [yq_Sto_judge_p68, kY_Sto_judge_p68, if_pos (by omega), zbd_of g1]
        by_cases hg : gTm (sdT c.1[j] 0) (sdT c.1[j] 1)
        · rw [b2_t hg, if_neg (by decide), if_pos (by omega)]
          exact set ρ2 _ _ e 1 (S.trans S2) (by unfold ordL; rw [if_pos (show gTm c.1[j].2.1 c.1[j].2.2 from hg)]) he hee
        · obtain ⟨ρ3, g2, S3⟩ := HL.gr ((hCρ.s S).s S2) ((ha.s S).s S2) ((ha.s S).s S2) (hW.s ham 1) (hW.s ham 0) (hW.t ham 1) (β := β - 1) (by omega)
          rw [b2_f hg, if_pos rfl, if_pos (by omega), zbd_of g2]
          by_cases hg2 : gTm (sdT c.1[j] 1) (sdT c.1[j] 0)
          · rw [b2_t hg2, if_neg (by decide), if_pos (by omega)]
            exact set ρ3 _ _ e 2 ((S.trans S2).trans S3) (by unfold ordL; rw [if_neg (show ¬ gTm c.1[j].2.1 c.1[j].2.2 from hg), if_pos (show gTm c.1[j].2.2 c.1[j].2.1 from hg2)]) he hee
          · rw [b2_f hg2, if_pos rfl, if_pos (by omega)]
            exact set ρ3 _ _ e 0 ((S.trans S2).trans S3) (by unfold ordL; rw [if_neg (show ¬ gTm c.1[j].2.1 c.1[j].2.2 from hg), if_neg (show ¬ gTm c.1[j].2.2 c.1[j].2.1 from hg2)]) he hee
      rw [yq_Sto_judge_p17, kY_Sto_judge_p17, if_pos (by omega), zbd_of (hS.f3 hc).1, if_neg (by omega), if_pos (by omega), zbd_of (side_ok ha (Or.inl rfl)), if_pos (by omega), zbd_of (side_ok ha (Or.inr rfl))]
      have hp0 : 0 ≤ hp (pos Cs k) c.1 j := ha.2.2.2.2.2.1
      cases hs : selI c.1 with
      | none =>
        rw [hs] at ord
        obtain ⟨ρ1, t1, S⟩ := isTopmost_ok (β := β - 1) (by omega) hc hW ea hCρ hS
        rw [show hpo (pos Cs k) c.1 none = -1 from rfl, if_pos rfl, if_pos (by omega), zbd_of t1]
        have eel : elI c.1 j ↔ ∀ (q : Nat) (a : Lt), q ≠ j → c.1[q]? = some a → ¬ gL a c.1[j] := by
          unfold elI
          rw [hs]
          constructor
          · intro w q a h1 h2; exact w q a _ h1 h2 ea
          · intro w q a b h1 h2 h3
            rw [ea] at h3
            obtain rfl := Option.some.inj h3
            exact w q a h1 h2
        exact ord ρ1 _ S (b2_01 _) (b2_c eel.symm)
      | some s =>
        rw [hs] at ord
        have hsl := selI_lt hs
        have es := List.getElem?_eq_getElem hsl
        have hsp : 0 ≤ hp (pos Cs k) c.1 s := (hS.hl hc es).2.2.2.2.2.1
        rw [show hpo (pos Cs k) c.1 (some s) = hp (pos Cs k) c.1 s from rfl, if_neg (by omega)]
        have eel : elI c.1 j ↔ s = j := by unfold elI; rw [hs]
        by_cases e : s = j
        · rw [if_pos ((hp_inj es ea).mpr e)]
          exact ord ρ 1 Sa.refl (Or.inr rfl) (b2_t (eel.mpr e)).symm
        · rw [if_neg (fun w => e ((hp_inj es ea).mp w))]
          exact ord ρ 0 Sa.refl (Or.inl rfl) (b2_f (fun w => e (eel.mp w))).symm
  obtain ⟨τ, t1, t2⟩ := loop c.1.length 0 σ (by omega) FrC.refl rfl (fun _ _ => rfl) (fun i a hi => by omega)
  refine ⟨τ, ?_, t2⟩
  rw [hp_0] at t1
  rw [yq_Sto_judge, kY_Sto_judge, if_pos (by omega), zbd_of (selectedOf_ok (by omega) h hc h8), if_pos (by omega), zbd_of (h.f3 hc).2.1]
  exact t1
