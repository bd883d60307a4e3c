/-! how runs are put together -/
theorem Ok.g {c : Prop} {i : Decidable c} {a b : Option zR} {Q : zS → Int → Prop} (h : c) (k : Ok a Q) : Ok (if c then a else b) Q := by rw [if_pos h]; exact k
theorem Ok.n {c : Prop} {i : Decidable c} {a b : Option zR} {Q : zS → Int → Prop} (h : ¬ c) (k : Ok b Q) : Ok (if c then a else b) Q := by rw [if_neg h]; exact k
theorem Ok.i {c : Prop} {i : Decidable c} {a b : Option zR} {Q : zS → Int → Prop} (h1 : c → Ok a Q) (h2 : ¬ c → Ok b Q) : Ok (if c then a else b) Q := by
  by_cases h : c
  · rw [if_pos h]; exact h1 h
  · rw [if_neg h]; exact h2 h
theorem Ok.q {a b : Option zR} {Q : zS → Int → Prop} (e : a = b) (h : Ok b Q) : Ok a Q := by rw [e]; exact h
theorem Ok.c {o : Option zR} {f : zS → Int → Option zR} {P Q : zS → Int → Prop} (h : Ok o P) (k : ∀ τ r, P τ r → Ok (f τ r) Q) : Ok (zbd o f) Q := by
  obtain ⟨τ, r, e, p⟩ := h
  rw [zbd_of e]; exact k τ r p
theorem Ok.c1 {o : Option zR} {f : zS → Int → Option zR} {Q : zS → Int → Prop} {τ : zS} {r : Int} (e : o = some (τ, r)) (k : Ok (f τ r) Q) : Ok (zbd o f) Q := by
  rw [zbd_of e]; exact k
theorem Ok.v {o : Option zR} {v : Int} {P : zS → Prop} (h : ∃ τ, o = some (τ, v) ∧ P τ) : Ok o (fun τ r => r = v ∧ P τ) := by
  obtain ⟨τ, e, p⟩ := h; exact ⟨τ, v, e, rfl, p⟩
theorem Ok.x {o : Option zR} {v : Int} {P : zS → Prop} (h : Ok o (fun τ r => r = v ∧ P τ)) : ∃ τ, o = some (τ, v) ∧ P τ := by
  obtain ⟨τ, r, e, p, q⟩ := h; subst p; exact ⟨τ, e, q⟩
/-! cells in a row -/
def Fl (g : Int → Int) : Int → List Int → Prop
  | _, [] => True
  | p, c :: L => g p = c ∧ Fl g (p + 1) L
theorem Fl_app {g : Int → Int} : ∀ {A B : List Int} {p : Int}, Fl g p (A ++ B) ↔ Fl g p A ∧ Fl g (p + (A.length : Int)) B
  | [], B, p => by simp [Fl]
  | a :: A, B, p => by
    have e : p + 1 + (A.length : Int) = p + ((a :: A).length : Int) := by simp only [List.length_cons]; omega
    simp only [List.cons_append, Fl, Fl_app (A := A), e]
    exact and_assoc.symm
theorem Fl_get {g : Int → Int} : ∀ {L : List Int} {p : Int} {i : Nat} {c : Int}, Fl g p L → L[i]? = some c → g (p + (i : Int)) = c
  | [], p, i, c, _, h => by simp at h
  | a :: L, p, 0, c, w, h => by
    simp only [List.getElem?_cons_zero, Option.some.injEq] at h
    subst h
    have := w.1
    simpa using this
  | a :: L, p, i + 1, c, w, h => by
    rw [List.getElem?_cons_succ] at h
    have := Fl_get w.2 h
    rw [show p + ((i + 1 : Nat) : Int) = p + 1 + (i : Int) by omega]; exact this
theorem Fl_q {g h : Int → Int} : ∀ {L : List Int} {p : Int}, (∀ i, p ≤ i → i < p + (L.length : Int) → h i = g i) → Fl g p L → Fl h p L
  | [], p, _, _ => trivial
  | a :: L, p, q, w => by
    simp only [List.length_cons] at q
    exact ⟨by rw [q p (by omega) (by omega)]; exact w.1, Fl_q (fun i h1 h2 => q i (by omega) (by omega)) w.2⟩
theorem Fl_of {g : Int → Int} : ∀ {L : List Int} {p : Int}, (∀ (i : Nat) c, L[i]? = some c → g (p + (i : Int)) = c) → Fl g p L
  | [], p, _ => trivial
  | a :: L, p, h => by
    refine ⟨by simpa using h 0 a rfl, Fl_of (fun i c q => ?_)⟩
    have := h (i + 1) c (by rw [List.getElem?_cons_succ]; exact q)
    rw [show p + 1 + (i : Int) = p + ((i + 1 : Nat) : Int) by omega]; exact this
/-- a forest is read in one way -/
theorem Fl_det {g : Int → Int} {ar : Int → Nat} {p : Int → Prop} : ∀ {F G : T} {q : Int}, Fl g q (fl F) → Fl g q (fl G) → wf ar p F → wf ar p G → len F = len G → F = G
  | .leaf (), .leaf (), q, _, _, _, _, _ => rfl
  | .leaf (), .branch n k s, q, _, _, _, _, hl => by simp only [len] at hl; omega
  | .branch n k s, .leaf (), q, _, _, _, _, hl => by simp only [len] at hl; omega
  | .branch n k s, .branch n2 k2 s2, q, hF, hG, w, w2, hl => by
    have e := cl_inj (hF.1.symm.trans hG.1)
    subst e
    obtain ⟨a1, a2⟩ := Fl_app.mp hF.2
    obtain ⟨b1, b2⟩ := Fl_app.mp hG.2
    have e1 := Fl_det a1 b1 w.2.2.1 w2.2.2.1 (w.1.trans w2.1.symm)
    subst e1
    have e2 := Fl_det a2 b2 w.2.2.2 w2.2.2.2 (by simp only [len] at hl; omega)
    rw [e2]
/-- how often a cell is in a row -/
def cnt (c : Int) : List Int → Nat
  | [] => 0
  | a :: L => (if a = c then 1 else 0) + cnt c L
theorem cnt_app (c : Int) : ∀ (A B : List Int), cnt c (A ++ B) = cnt c A + cnt c B
  | [], B => by simp [cnt]
  | a :: A, B => by simp only [List.cons_append, cnt, cnt_app c A B]; omega
theorem cnt_le (c : Int) : ∀ (A : List Int), cnt c A ≤ A.length
  | [] => Nat.le_refl _
  | a :: A => by have := cnt_le c A; simp only [cnt, List.length_cons]; split <;> omega
theorem occ_cnt {ar : Int → Nat} {p : Int → Prop} {v : Int} (hv : 0 ≤ v) : ∀ {F : T}, wf ar p F → occ v F = cnt (-1 - v) (fl F)
  | .leaf _, _ => rfl
  | .branch n k s, w => by
    have hs := occ_cnt hv w.2.2.2
    simp only [occ, fl, cnt, cnt_app, hs]
    by_cases hc : cl n < 0
    · have hk : k = nl := len0 (by have := w.1; rw [if_pos hc] at this; exact this)
      subst hk
      rw [if_pos hc]
      simp only [fl, cnt]
      by_cases h : cl n = -1 - v
      · rw [if_pos h, if_pos (by omega)]; omega
      · rw [if_neg h, if_neg (by omega)]; omega
    · rw [if_neg hc, if_neg (by omega), occ_cnt hv w.2.2.1]; omega
theorem cnt0 {c : Int} : ∀ {L : List Int}, (∀ a ∈ L, a ≠ c) → cnt c L = 0
  | [], _ => rfl
  | a :: L, h => by
    simp only [cnt]
    rw [if_neg (h a List.mem_cons_self), cnt0 (fun b hb => h b (List.mem_cons_of_mem _ hb))]
theorem wf_fl {ar : Int → Nat} {p : Int → Prop} : ∀ {F : T}, wf ar p F → ∀ c ∈ fl F, p c
  | .leaf _, _, c, h => by cases h
  | .branch n k s, w, c, h => by
    simp only [fl, List.mem_cons, List.mem_append] at h
    rcases h with h | h | h
    · rw [h]; exact w.2.1
    · exact wf_fl w.2.2.1 c h
    · exact wf_fl w.2.2.2 c h
/-! the first that differ -/
def FD : T → T → Nat → Tm → Tm → Prop
  | .branch n k s, .branch n2 k2 s2, o, x, y => (¬ (n = n2 ∧ k = k2) ∧ o = 0 ∧ x = (n, k) ∧ y = (n2, k2)) ∨ ((n = n2 ∧ k = k2) ∧ ∃ o2, o = 1 + wt k + o2 ∧ FD s s2 o2 x y)
  | _, _, _, _, _ => False
theorem FD_ex : ∀ {F G : T}, len F = len G → F ≠ G → ∃ o x y, FD F G o x y
  | .leaf (), .leaf (), _, h => absurd rfl h
  | .leaf (), .branch n k s, hl, _ => by simp only [len] at hl; omega
  | .branch n k s, .leaf (), hl, _ => by simp only [len] at hl; omega
  | .branch n k s, .branch n2 k2 s2, hl, h => by
    by_cases e : n = n2 ∧ k = k2
    · obtain ⟨o, x, y, q⟩ := FD_ex (F := s) (G := s2) (by simp only [len] at hl; omega) (fun w => h (by rw [e.1, e.2, w]))
      exact ⟨_, x, y, Or.inr ⟨e, o, rfl, q⟩⟩
    · exact ⟨0, _, _, Or.inl ⟨e, rfl, rfl, rfl⟩⟩
theorem gF_FD : ∀ {F G : T} {o : Nat} {x y : Tm}, FD F G o x y → (gF F G ↔ gT x.1 x.2 y.1 y.2)
  | .leaf (), _, o, x, y, h => by cases h
  | .branch n k s, .leaf (), o, x, y, h => by cases h
  | .branch n k s, .branch n2 k2 s2, o, x, y, h => by
    rcases h with ⟨a, b, c, d⟩ | ⟨a, o2, b, c⟩
    · subst c; subst d
      simp only [gF, gT]
      constructor
      · rintro (w | w)
        · exact absurd ⟨w.1, w.2.1⟩ a
        · exact w.2
      · intro w; exact Or.inr ⟨a, w⟩
    · have ih := gF_FD c
      rw [← ih]
      simp only [gF]
      constructor
      · rintro (w | w)
        · exact w.2.2
        · exact absurd a w.1
      · intro w; exact Or.inl ⟨a.1, a.2, w⟩
theorem gF_self : ∀ F : T, ¬ gF F F
  | .leaf (), h => by simp only [gF] at h
  | .branch n k s, h => by
    simp only [gF] at h
    rcases h with w | w
    · exact gF_self s w.2.2
    · exact absurd w.1 (by simp)
theorem FD_wf {ar : Int → Nat} {p : Int → Prop} : ∀ {F G : T} {o : Nat} {x y : Tm}, FD F G o x y → wf ar p F → wf ar p G → wf ar p (tt x) ∧ wf ar p (tt y) ∧ o + tw x ≤ wt F ∧ x ≠ y
  | .leaf (), _, o, x, y, h, _, _ => by cases h
  | .branch n k s, .leaf (), o, x, y, h, _, _ => by cases h
  | .branch n k s, .branch n2 k2 s2, o, x, y, h, w, w2 => by
    rcases h with ⟨a, b, c, d⟩ | ⟨a, o2, b, c⟩
    · subst c; subst d; subst b
      refine ⟨⟨w.1, w.2.1, w.2.2.1, trivial⟩, ⟨w2.1, w2.2.1, w2.2.2.1, trivial⟩, by simp only [wt, tw]; omega, fun e => a ?_⟩
      injection e with e1 e2
      exact ⟨e1, e2⟩
    · obtain ⟨i1, i2, i3, i4⟩ := FD_wf c w.2.2.2 w2.2.2.2
      exact ⟨i1, i2, by simp only [wt, tw] at i3 ⊢; omega, i4⟩
/-- where they lie -/
theorem FD_Fl {g h : Int → Int} : ∀ {F G : T} {o : Nat} {x y : Tm} {p q : Int}, FD F G o x y → Fl g p (fl F) → Fl h q (fl G) → Fl g (p + (o : Int)) (fl (tt x)) ∧ Fl h (q + (o : Int)) (fl (tt y))
  | .leaf (), _, o, x, y, p, q, d, _, _ => by cases d
  | .branch n k s, .leaf (), o, x, y, p, q, d, _, _ => by cases d
  | .branch n k s, .branch n2 k2 s2, o, x, y, p, q, d, hF, hG => by
    obtain ⟨a1, a2⟩ := Fl_app.mp hF.2
    obtain ⟨b1, b2⟩ := Fl_app.mp hG.2
    rcases d with ⟨a, b, c, d⟩ | ⟨a, o2, b, c⟩
    · subst c; subst d; subst b
      have e1 : p + ((0 : Nat) : Int) = p := by omega
      have e2 : q + ((0 : Nat) : Int) = q := by omega
      rw [e1, e2]
      simp only [tt, fl, List.append_nil]
      exact ⟨⟨hF.1, a1⟩, ⟨hG.1, b1⟩⟩
    · rw [fl_length] at a2 b2
      have := FD_Fl c a2 b2
      rw [← a.2] at this
      rw [show p + (o : Int) = p + 1 + (wt k : Int) + (o2 : Int) by omega, show q + (o : Int) = q + 1 + (wt k : Int) + (o2 : Int) by omega]
      exact this
/-- ahead of them all is the same -/
theorem FD_pre {g h : Int → Int} : ∀ {F G : T} {o : Nat} {x y : Tm} {p q : Int}, FD F G o x y → Fl g p (fl F) → Fl h q (fl G) → ∀ i : Nat, i < o → g (p + (i : Int)) = h (q + (i : Int))
  | .leaf (), _, o, x, y, p, q, d, _, _ => by cases d
  | .branch n k s, .leaf (), o, x, y, p, q, d, _, _ => by cases d
  | .branch n k s, .branch n2 k2 s2, o, x, y, p, q, d, hF, hG => by
    intro i hi
    obtain ⟨a1, a2⟩ := Fl_app.mp hF.2
    obtain ⟨b1, b2⟩ := Fl_app.mp hG.2
    rcases d with ⟨a, b, c, d⟩ | ⟨a, o2, b, c⟩
    · omega
    · obtain ⟨rfl, rfl⟩ := a
      rw [fl_length] at a2 b2
      by_cases h0 : i = 0
      · subst h0
        have e1 : p + ((0 : Nat) : Int) = p := by omega
        have e2 : q + ((0 : Nat) : Int) = q := by omega
        rw [e1, e2, hF.1, hG.1]
      · by_cases h1 : i < 1 + wt k
        · obtain ⟨j, rfl⟩ : ∃ j, i = j + 1 := ⟨i - 1, by omega⟩
          have hj : j < (fl k).length := by rw [fl_length]; omega
          have u1 := Fl_get a1 (i := j) (c := (fl k)[j]) (List.getElem?_eq_getElem hj)
          have u2 := Fl_get b1 (i := j) (c := (fl k)[j]) (List.getElem?_eq_getElem hj)
          rw [show p + ((j + 1 : Nat) : Int) = p + 1 + (j : Int) by omega, show q + ((j + 1 : Nat) : Int) = q + 1 + (j : Int) by omega, u1, u2]
        · obtain ⟨j, rfl⟩ : ∃ j, i = 1 + wt k + j := ⟨i - (1 + wt k), by omega⟩
          have := FD_pre c a2 b2 j (by omega)
          rw [show p + ((1 + wt k + j : Nat) : Int) = p + 1 + (wt k : Int) + (j : Int) by omega, show q + ((1 + wt k + j : Nat) : Int) = q + 1 + (wt k : Int) + (j : Int) by omega]
          exact this
/-- labels: VARIABLES 0 .. 5, SYMBOLS below m -/
abbrev lb (m c : Int) : Prop := -6 ≤ c ∧ c < m
