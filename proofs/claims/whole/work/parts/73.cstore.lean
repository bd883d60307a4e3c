/-! CLAUSES: LITERALS; where from, of which, into which; PASSIVE 0, PROCESSED 1, GONE 2; which REWROTE it -/
abbrev CL : Type := List Lt × Int × Int × Int × Int × List Int
abbrev cst (c : CL) : Int := c.2.2.2.2.1
abbrev cus (c : CL) : List Int := c.2.2.2.2.2
def szL : List Lt → Nat
  | [] => 0
  | a :: C => 5 + tw a.2.1 + tw a.2.2 + szL C
theorem szL_app : ∀ A B : List Lt, szL (A ++ B) = szL A + szL B
  | [], B => by simp [szL]
  | a :: A, B => by simp only [List.cons_append, szL, szL_app A B]; omega
theorem szL_wt : ∀ C : List Lt, szL C = 5 * C.length + wtL C
  | [] => rfl
  | a :: C => by simp only [szL, wtL, List.length_cons, szL_wt C]; omega
theorem wtL_app : ∀ A B : List Lt, wtL (A ++ B) = wtL A + wtL B
  | [], B => by simp [wtL]
  | a :: A, B => by simp only [List.cons_append, wtL, wtL_app A B]; omega
/-- LITERALS as they lie: SIGN, ORDER, ELIGIBLE, LEFT, RIGHT, and the sides -/
def LL (g : Int → Int) : Int → List Lt → Prop
  | _, [] => True
  | p, a :: C => g p = a.1 ∧ g (p + 3) = (tw a.2.1 : Int) ∧ g (p + 4) = (tw a.2.2 : Int) ∧ Fl g (p + 5) (fl (tt a.2.1)) ∧ Fl g (p + 5 + (tw a.2.1 : Int)) (fl (tt a.2.2)) ∧ LL g (p + 5 + (tw a.2.1 : Int) + (tw a.2.2 : Int)) C
theorem LL_app {g : Int → Int} : ∀ {A B : List Lt} {p : Int}, LL g p (A ++ B) ↔ LL g p A ∧ LL g (p + (szL A : Int)) B
  | [], B, p => by simp [LL, szL]
  | a :: A, B, p => by
    have e : p + 5 + (tw a.2.1 : Int) + (tw a.2.2 : Int) + (szL A : Int) = p + (szL (a :: A) : Int) := by simp only [szL]; omega
    simp only [List.cons_append, LL, LL_app (A := A), e, and_assoc]
/-- the cells that no judgement changes -/
def LLq (p : Int) : List Lt → Int → Prop
  | [], _ => False
  | a :: C, i => i = p + 1 ∨ i = p + 2 ∨ LLq (p + 5 + (tw a.2.1 : Int) + (tw a.2.2 : Int)) C i
theorem tt_len (x : Tm) : (fl (tt x)).length = tw x := by rw [fl_length]; simp only [tt, tw, wt]; omega
theorem LLq_lo : ∀ {C : List Lt} {p i : Int}, LLq p C i → p < i ∧ i < p + (szL C : Int)
  | [], p, i, h => h.elim
  | a :: C, p, i, h => by
    simp only [szL]
    rcases h with h | h | h
    · omega
    · omega
    · have := LLq_lo h; omega
theorem LL_q {g h : Int → Int} : ∀ {C : List Lt} {p : Int}, (∀ i, p ≤ i → i < p + (szL C : Int) → ¬ LLq p C i → h i = g i) → LL g p C → LL h p C
  | [], p, _, _ => trivial
  | a :: C, p, q, w => by
    obtain ⟨a1, a2, a3, a4, a5, a6⟩ := w
    simp only [szL] at q
    have nq : ∀ i, i < p + 5 + (tw a.2.1 : Int) + (tw a.2.2 : Int) → i ≠ p + 1 → i ≠ p + 2 → ¬ LLq p (a :: C) i := fun i h1 h2 h3 w => by
      rcases w with w | w | w
      · exact h2 w
      · exact h3 w
      · have := LLq_lo w; omega
    refine ⟨?_, ?_, ?_, Fl_q (fun i h1 h2 => ?_) a4, Fl_q (fun i h1 h2 => ?_) a5, LL_q (fun i h1 h2 h3 => q i (by omega) (by omega) (fun w => ?_)) a6⟩
    · rw [q p (by omega) (by omega) (nq p (by omega) (by omega) (by omega))]; exact a1
    · rw [q (p + 3) (by omega) (by omega) (nq _ (by omega) (by omega) (by omega))]; exact a2
    · rw [q (p + 4) (by omega) (by omega) (nq _ (by omega) (by omega) (by omega))]; exact a3
    · rw [tt_len] at h2
      exact q i (by omega) (by omega) (nq i (by omega) (by omega) (by omega))
    · rw [tt_len] at h2
      exact q i (by omega) (by omega) (nq i (by omega) (by omega) (by omega))
    · rcases w with w | w | w
      · omega
      · omega
      · exact h3 w
/-- a CLAUSE as it should be -/
def Wc (ar : Int → Nat) (m9 : Int) (C : List Lt) : Prop := C.length ≤ 8 ∧ wtL C ≤ 100 ∧ (ntL [] C).length ≤ 6 ∧ rnL [] C = C ∧ ∀ a ∈ C, (a.1 = 0 ∨ a.1 = 1) ∧ wf ar (lb m9) (tt a.2.1) ∧ wf ar (lb m9) (tt a.2.2)
def szC : List CL → Nat
  | [] => 0
  | c :: Cs => szL c.1 + szC Cs
theorem szC_app : ∀ A B : List CL, szC (A ++ B) = szC A + szC B
  | [], B => by simp [szC]
  | a :: A, B => by simp only [List.cons_append, szC, szC_app A B]; omega
/-- the facts of CLAUSE k, which begins at p -/
def FK (h : Int → Int) (k p : Int) (c : CL) : Prop := h (k * 11 + 0) = c.2.1 ∧ h (k * 11 + 1) = c.2.2.1 ∧ h (k * 11 + 2) = c.2.2.2.1 ∧ h (k * 11 + 3) = (c.1.length : Int) ∧ h (k * 11 + 4) = (wtL c.1 : Int) ∧ h (k * 11 + 5) = ((ntL [] c.1).length : Int) ∧ h (k * 11 + 6) = cst c ∧ h (k * 11 + 7) = ((cus c).length : Int) ∧ h (k * 11 + 8) = p
def SK (σ : zS) (k p : Int) (c : CL) : Prop := FK (σ.2.1 52) k p c ∧ LL (σ.2.1 48) p c.1 ∧ 0 ≤ σ.2.1 52 (k * 11 + 9) ∧ σ.2.1 52 (k * 11 + 9) + ((cus c).length : Int) ≤ σ.1 4901 ∧ Fl (σ.2.1 50) (σ.2.1 52 (k * 11 + 9)) (cus c) ∧ (σ.2.1 52 (k * 11 + 10) = 0 ∨ σ.2.1 52 (k * 11 + 10) = 1)
def SCr (σ : zS) : Int → Int → List CL → Prop
  | _, _, [] => True
  | k, p, c :: Cs => SK σ k p c ∧ SCr σ (k + 1) (p + (szL c.1 : Int)) Cs
/-- the class's CLAUSES: cells 47 and 48, rewriters 49 and 50, facts 51 and 52, size 5402 -/
def SC (σ : zS) (Cs : List CL) : Prop := SCr σ 0 0 Cs ∧ σ.1 5402 = (Cs.length : Int) ∧ σ.1 4701 = (szC Cs : Int) ∧ σ.1 5101 = 11 * (Cs.length : Int) ∧ (σ.1 4701 ≤ (σ.2.2 48 : Int) ∧ σ.2.2 48 ≤ 565000 ∧ 16 ≤ σ.2.2 48) ∧ (σ.1 5101 ≤ (σ.2.2 52 : Int) ∧ σ.2.2 52 ≤ 45000 ∧ 16 ≤ σ.2.2 52) ∧ (0 ≤ σ.1 4901 ∧ σ.1 4901 ≤ (σ.2.2 50 : Int) ∧ σ.2.2 50 ≤ 265000 ∧ 16 ≤ σ.2.2 50) ∧ Cs.length ≤ 2000
theorem SCr_app {σ : zS} : ∀ {A B : List CL} {k p : Int}, SCr σ k p (A ++ B) ↔ SCr σ k p A ∧ SCr σ (k + (A.length : Int)) (p + (szC A : Int)) B
  | [], B, k, p => by simp [SCr, szC]
  | a :: A, B, k, p => by
    have e1 : k + 1 + (A.length : Int) = k + ((a :: A).length : Int) := by simp only [List.length_cons]; omega
    have e2 : p + (szL a.1 : Int) + (szC A : Int) = p + (szC (a :: A) : Int) := by simp only [szC]; omega
    simp only [List.cons_append, SCr, SCr_app (A := A), e1, e2, and_assoc]
theorem SCr_get {σ : zS} : ∀ {Cs : List CL} {k p : Int} {i : Nat} {c : CL}, SCr σ k p Cs → Cs[i]? = some c → SK σ (k + (i : Int)) (p + (szC (Cs.take i) : Int)) c
  | [], k, p, i, c, _, h => by simp at h
  | a :: Cs, k, p, 0, c, w, h => by
    simp only [List.getElem?_cons_zero, Option.some.injEq] at h
    subst h
    have := w.1
    simpa [szC] using this
  | a :: Cs, k, p, i + 1, c, w, h => by
    rw [List.getElem?_cons_succ] at h
    have := SCr_get w.2 h
    rw [List.take_succ_cons]
    simp only [szC]
    rw [show k + ((i + 1 : Nat) : Int) = k + 1 + (i : Int) by omega, show p + ((szL a.1 + szC (Cs.take i) : Nat) : Int) = p + (szL a.1 : Int) + (szC (Cs.take i) : Int) by omega]
    exact this
theorem szC_le : ∀ {Cs : List CL} {i : Nat} {c : CL}, Cs[i]? = some c → szC (Cs.take i) + szL c.1 ≤ szC Cs
  | [], i, c, h => by simp at h
  | a :: Cs, 0, c, h => by
    simp only [List.getElem?_cons_zero, Option.some.injEq] at h
    subst h
    simp [szC]
  | a :: Cs, i + 1, c, h => by
    rw [List.getElem?_cons_succ] at h
    have := szC_le h
    rw [List.take_succ_cons]
    simp only [szC]; omega
/-- CLAUSE i begins there -/
def pos (Cs : List CL) (i : Nat) : Int := (szC (Cs.take i) : Int)
theorem SC.k {σ : zS} {Cs : List CL} (h : SC σ Cs) {i : Nat} {c : CL} (hc : Cs[i]? = some c) : SK σ (i : Int) (pos Cs i) c ∧ 0 ≤ pos Cs i ∧ pos Cs i + (szL c.1 : Int) ≤ σ.1 4701 ∧ i < Cs.length := by
  have := SCr_get h.1 hc
  have hl := szC_le hc
  refine ⟨?_, by unfold pos; omega, by rw [h.2.2.1]; unfold pos; omega, (List.getElem?_eq_some_iff.mp hc).1⟩
  simpa [pos] using this
theorem fact_ok {β : Nat} {σ : zS} {Cs : List CL} (h : SC σ Cs) {k : Int} {w : Int} (k0 : 0 ≤ k) (k1 : k < (Cs.length : Int)) (w0 : 0 ≤ w) (w1 : w < 11) : yE tC_Sto_fact β σ [k, w] = some (σ, σ.2.1 52 (k * 11 + w)) := by
  obtain ⟨_, _, _, h4, _, h6, _, h8⟩ := h
  rw [yq_Sto_fact, kY_Sto_fact, if_pos (by omega), if_pos (by omega), if_pos (by omega)]
/-- a LITERAL at p -/
def HL (σ : zS) (p : Int) (a : Lt) : Prop := σ.2.1 48 p = a.1 ∧ σ.2.1 48 (p + 3) = (tw a.2.1 : Int) ∧ σ.2.1 48 (p + 4) = (tw a.2.2 : Int) ∧ Fl (σ.2.1 48) (p + 5) (fl (tt a.2.1)) ∧ Fl (σ.2.1 48) (p + 5 + (tw a.2.1 : Int)) (fl (tt a.2.2)) ∧ 0 ≤ p ∧ p + 5 + (tw a.2.1 : Int) + (tw a.2.2 : Int) ≤ σ.1 4701 ∧ σ.1 4701 ≤ (σ.2.2 48 : Int) ∧ σ.2.2 48 ≤ 565000
theorem HL_of {σ : zS} {p : Int} {a : Lt} {C : List Lt} (h : LL (σ.2.1 48) p (a :: C)) (h0 : 0 ≤ p) (h1 : p + (szL (a :: C) : Int) ≤ σ.1 4701) (h2 : σ.1 4701 ≤ (σ.2.2 48 : Int)) (h3 : σ.2.2 48 ≤ 565000) : HL σ p a := by
  obtain ⟨a1, a2, a3, a4, a5, a6⟩ := h
  simp only [szL] at h1
  exact ⟨a1, a2, a3, a4, a5, h0, by omega, h2, h3⟩
theorem tw_pos (x : Tm) : 1 ≤ tw x := by simp only [tw]; omega
theorem behind_ok {β : Nat} {σ : zS} {p : Int} {a : Lt} (h : HL σ p a) : yE tC_Sto_behind β σ [p] = some (σ, p + 5 + (tw a.2.1 : Int) + (tw a.2.2 : Int)) := by
  obtain ⟨a1, a2, a3, a4, a5, a6, a7, a8, a9⟩ := h
  have := tw_pos a.2.1
  have := tw_pos a.2.2
  rw [yq_Sto_behind, kY_Sto_behind, if_pos (by omega), if_pos (by omega), if_pos (by omega), if_pos (by omega), if_pos (by omega), a2, a3, if_pos (by omega), if_pos (by omega)]
theorem side0_ok {β : Nat} {σ : zS} {p : Int} {a : Lt} (h : HL σ p a) : yE tC_Sto_sideAt β σ [p, 0] = some (σ, p + 5) := by
  obtain ⟨a1, a2, a3, a4, a5, a6, a7, a8, a9⟩ := h
  rw [yq_Sto_sideAt, kY_Sto_sideAt, if_pos rfl, if_pos (by omega), yq_Sto_sideAt_p22, kY_Sto_sideAt_p22, if_pos (by omega), Int.add_zero]
theorem side1_ok {β : Nat} {σ : zS} {p : Int} {a : Lt} (h : HL σ p a) : yE tC_Sto_sideAt β σ [p, 1] = some (σ, p + 5 + (tw a.2.1 : Int)) := by
  obtain ⟨a1, a2, a3, a4, a5, a6, a7, a8, a9⟩ := h
  have := tw_pos a.2.1
  have := tw_pos a.2.2
  rw [yq_Sto_sideAt, kY_Sto_sideAt, if_neg (by decide), if_pos (by omega), if_pos (by omega), if_pos (by omega), a2, yq_Sto_sideAt_p22, kY_Sto_sideAt_p22, if_pos (by omega)]
/-- a side: 0 the left, 1 the right -/
def sdT (a : Lt) (s : Int) : Tm := if s = 0 then a.2.1 else a.2.2
def sdp (p : Int) (a : Lt) (s : Int) : Int := if s = 0 then p + 5 else p + 5 + (tw a.2.1 : Int)
theorem side_ok {β : Nat} {σ : zS} {p : Int} {a : Lt} (h : HL σ p a) {s : Int} (hs : s = 0 ∨ s = 1) : yE tC_Sto_sideAt β σ [p, s] = some (σ, sdp p a s) := by
  rcases hs with rfl | rfl
  · exact side0_ok h
  · exact side1_ok h
theorem size_ok {β : Nat} {σ : zS} {p : Int} {a : Lt} (h : HL σ p a) {s : Int} (hs : s = 0 ∨ s = 1) : yE tC_Sto_sideSize β σ [p, s] = some (σ, (tw (sdT a s) : Int)) := by
  obtain ⟨a1, a2, a3, a4, a5, a6, a7, a8, a9⟩ := h
  have := tw_pos a.2.1
  have := tw_pos a.2.2
  rcases hs with rfl | rfl
  · rw [yq_Sto_sideSize, kY_Sto_sideSize, if_pos rfl, yq_Sto_sideSize_p17, kY_Sto_sideSize_p17, if_pos (by omega), if_pos (by omega), a2]; rfl
  · rw [yq_Sto_sideSize, kY_Sto_sideSize, if_neg (by decide), yq_Sto_sideSize_p17, kY_Sto_sideSize_p17, if_pos (by omega), if_pos (by omega), a3]; rfl
theorem HL.sd {σ : zS} {p : Int} {a : Lt} (h : HL σ p a) {s : Int} : Fl (σ.2.1 48) (sdp p a s) (fl (tt (sdT a s))) ∧ 0 ≤ sdp p a s ∧ sdp p a s + (tw (sdT a s) : Int) ≤ σ.1 4701 := by
  obtain ⟨a1, a2, a3, a4, a5, a6, a7, a8, a9⟩ := h
  unfold sdp sdT
  by_cases e : s = 0
  · rw [if_pos e, if_pos e]; exact ⟨a4, by omega, by omega⟩
  · rw [if_neg e, if_neg e]; exact ⟨a5, by omega, by omega⟩
theorem pos_ok {β : Nat} {σ : zS} {p : Int} {a : Lt} (h : HL σ p a) : yE tC_Sto_isPositive β σ [p] = some (σ, b2 (a.1 = 1)) := by
  obtain ⟨a1, a2, a3, a4, a5, a6, a7, a8, a9⟩ := h
  have := tw_pos a.2.1
  have := tw_pos a.2.2
  rw [yq_Sto_isPositive, kY_Sto_isPositive, if_pos (by omega), if_pos (by omega), Int.add_zero, a1]
  by_cases e : a.1 = 1
  · rw [if_pos e, yq_Sto_isPositive_p20, kY_Sto_isPositive_p20, if_pos (Or.inr rfl), b2_t e]
  · rw [if_neg e, yq_Sto_isPositive_p20, kY_Sto_isPositive_p20, if_pos (Or.inl rfl), b2_f e]
theorem has_ok {β : Nat} {σ : zS} {Cs : List CL} (h : SC σ Cs) {k : Int} : yE tC_Sto_has β σ [k] = some (σ, b2 (0 ≤ k ∧ k < (Cs.length : Int))) := by
  have h2 := h.2.1
  have e17 : ∀ r : Int, r = 0 ∨ r = 1 → yE tC_Sto_has_p17 β σ [k, r] = some (σ, r) := fun r hr => by rw [yq_Sto_has_p17, kY_Sto_has_p17, if_pos hr]
  have e16 : yE tC_Sto_has_p16 β σ [k] = some (σ, 0) := by rw [yq_Sto_has_p16, kY_Sto_has_p16, e17 0 (Or.inl rfl)]
  rw [yq_Sto_has, kY_Sto_has]
  by_cases a : k < 0
  · rw [if_pos a, e16, b2_f (by omega)]
  · rw [if_neg a]
    by_cases b : σ.1 5402 ≤ k
    · rw [if_pos b, e16, b2_f (by omega)]
    · rw [if_neg b, e17 1 (Or.inr rfl), b2_t (by omega)]
