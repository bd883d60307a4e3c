/-! LITERALS in the draft: sign, left, right, as cells before they get numbers -/
abbrev QL : Type := Int × List Int × List Int
def flQ : List QL → List Int
  | [] => []
  | a :: Q => a.2.1 ++ a.2.2 ++ flQ Q
theorem flQ_app : ∀ A B : List QL, flQ (A ++ B) = flQ A ++ flQ B
  | [], B => rfl
  | a :: A, B => by simp only [List.cons_append, flQ, flQ_app A B, List.append_assoc]
def dq (Q : List QL) : Option (List Int × List Int) := dput (some ([], [])) (flQ Q)
/-- where LITERAL i begins, its right side, the next one -/
def SG (σ : zS) : Int → Int → List QL → Prop
  | _, _, [] => True
  | i, o, a :: Q => σ.2.1 41 i = o ∧ σ.2.1 42 i = o + (a.2.1.length : Int) ∧ σ.2.1 41 (i + 1) = o + (a.2.1.length : Int) + (a.2.2.length : Int) ∧ σ.2.1 43 i = a.1 ∧ SG σ (i + 1) (o + (a.2.1.length : Int) + (a.2.2.length : Int)) Q
theorem SG.q {σ τ : zS} : ∀ {Q : List QL} {i o : Int}, SG σ i o Q → (∀ j, i ≤ j → j ≤ i + (Q.length : Int) → 1 ≤ Q.length → τ.2.1 41 j = σ.2.1 41 j) → (∀ j, i ≤ j → j < i + (Q.length : Int) → τ.2.1 42 j = σ.2.1 42 j ∧ τ.2.1 43 j = σ.2.1 43 j) → SG τ i o Q
  | [], i, o, _, _, _ => trivial
  | a :: Q, i, o, h, h1, h2 => by
    simp only [List.length_cons] at h1 h2
    obtain ⟨a1, a2, a3, a4, a5⟩ := h
    refine ⟨by rw [h1 i (by omega) (by omega) (by omega)]; exact a1, by rw [(h2 i (by omega) (by omega)).1]; exact a2, by rw [h1 (i + 1) (by omega) (by omega) (by omega)]; exact a3, by rw [(h2 i (by omega) (by omega)).2]; exact a4, SG.q a5 (fun j x y z => h1 j (by omega) (by omega) (by omega)) (fun j x y => h2 j (by omega) (by omega))⟩
theorem SG.app {σ : zS} : ∀ {Q : List QL} {i o : Int} {B : List QL}, SG σ i o Q → SG σ (i + (Q.length : Int)) (o + ((flQ Q).length : Int)) B → SG σ i o (Q ++ B)
  | [], i, o, B, _, h => by simpa [flQ] using h
  | a :: Q, i, o, B, h, g => by
    obtain ⟨a1, a2, a3, a4, a5⟩ := h
    refine ⟨a1, a2, a3, a4, SG.app a5 ?_⟩
    simp only [List.length_cons, flQ, List.length_append] at g
    have e1 : i + 1 + (Q.length : Int) = i + ((Q.length + 1 : Nat) : Int) := by omega
    have e2 : o + (a.2.1.length : Int) + (a.2.2.length : Int) + ((flQ Q).length : Int) = o + ((a.2.1.length + a.2.2.length + (flQ Q).length : Nat) : Int) := by omega
    rw [e1, e2]; exact g
theorem SG.e {σ : zS} : ∀ {Q : List QL} {i o : Int}, SG σ i o Q → 1 ≤ Q.length → σ.2.1 41 (i + (Q.length : Int)) = o + ((flQ Q).length : Int)
  | [], i, o, _, h => by simp at h
  | [a], i, o, h, _ => by
    have := h.2.2.1
    simp only [List.length_cons, List.length_nil, flQ, List.length_append, List.append_nil]
    rw [show i + ((0 + 1 : Nat) : Int) = i + 1 by omega, this]; omega
  | a :: b :: Q, i, o, h, _ => by
    have := SG.e (Q := b :: Q) h.2.2.2.2 (by simp)
    simp only [List.length_cons, flQ, List.length_append] at this ⊢
    rw [show i + ((Q.length + 1 + 1 : Nat) : Int) = i + 1 + ((Q.length + 1 : Nat) : Int) by omega, this]; omega
/-- LITERALS that are closed; none: beyond -/
def DQ (σ : zS) : Option (List QL) → Prop
  | none => DS σ none
  | some Q => Q.length ≤ 8 ∧ dq Q ≠ none ∧ DS σ (dq Q) ∧ σ.1 3905 = (Q.length : Int) ∧ SG σ 0 0 Q
/-- one is open: its left side so far -/
def O1 (σ : zS) (q : Option (List QL)) (s : Int) (L : List Int) : Prop := match q with
  | none => DS σ none
  | some Q => if Q.length < 8 then DS σ (dput (dq Q) L) ∧ dq Q ≠ none ∧ σ.1 3905 = (Q.length : Int) ∧ SG σ 0 0 Q ∧ σ.2.1 41 (Q.length : Int) = ((flQ Q).length : Int) ∧ σ.2.1 43 (Q.length : Int) = s else DS σ none
/-- its right side so far -/
def O2 (σ : zS) (q : Option (List QL)) (s : Int) (L R : List Int) : Prop := match q with
  | none => DS σ none
  | some Q => if Q.length < 8 then DS σ (dput (dq Q) (L ++ R)) ∧ dq Q ≠ none ∧ σ.1 3905 = (Q.length : Int) ∧ SG σ 0 0 Q ∧ σ.2.1 41 (Q.length : Int) = ((flQ Q).length : Int) ∧ σ.2.1 43 (Q.length : Int) = s ∧ (dput (dq Q) L ≠ none → σ.2.1 42 (Q.length : Int) = ((flQ Q).length : Int) + (L.length : Int)) else DS σ none
def qadd (q : Option (List QL)) (a : QL) : Option (List QL) := match q with
  | none => none
  | some Q => if Q.length < 8 ∧ dq (Q ++ [a]) ≠ none then some (Q ++ [a]) else none
theorem dq_some {Q : List QL} (h : dq Q ≠ none) : dq Q = some (ntF [] (flQ Q), rnF [] (flQ Q)) ∧ (flQ Q).length ≤ 100 := by
  have e : dq Q = if ([] : List Int).length + (flQ Q).length ≤ 100 ∧ (ntF [] (flQ Q)).length ≤ 6 then some (ntF [] (flQ Q), [] ++ rnF [] (flQ Q)) else none := rfl
  by_cases w : ([] : List Int).length + (flQ Q).length ≤ 100 ∧ (ntF [] (flQ Q)).length ≤ 6
  · rw [e, if_pos w]
    exact ⟨rfl, by simpa using w.1⟩
  · rw [e, if_neg w] at h; exact absurd rfl h
theorem dq_add (Q : List QL) (a : QL) : dq (Q ++ [a]) = dput (dq Q) (a.2.1 ++ a.2.2) := by
  unfold dq
  rw [flQ_app, dput_app]
  simp only [flQ, List.append_nil]
theorem open_ok {β : Nat} {σ : zS} {q : Option (List QL)} {s : Int} (h : DQ σ q) (hs : s = 0 ∨ s = 1) (hl : 0 ≤ σ.1 3905 ∧ σ.1 3905 ≤ 8) : ∃ τ, yE tC_Dra_openLiteral β σ [s] = some (τ, 0) ∧ FrC [3907] [41, 43] σ τ ∧ O1 τ q s [] := by
  rw [yq_Dra_openLiteral, kY_Dra_openLiteral]
  by_cases h8 : σ.1 3905 = 8
  · refine ⟨zI σ 3907 1, by rw [if_pos h8, lt_e], FrC_I, ?_⟩
    have hn : DS (zI σ 3907 1) none := by
      have : ∃ N, DN σ N := by
        cases q with
        | none => exact h.2
        | some Q => exact h.2.2.1.dn
      obtain ⟨N, hN⟩ := this
      exact ⟨zI_1, N, hN.f (I := [3907]) (A := []) FrC_I⟩
    cases q with
    | none => exact hn
    | some Q =>
      have := h.2.2.2.1
      show (if Q.length < 8 then _ else _)
      rw [if_neg (by omega)]; exact hn
  · have f1 : FrC [] [41, 43] σ (zA (zA σ 43 (σ.1 3905) s) 41 (σ.1 3905) (σ.1 3904)) := by
      have a1 : FrC [] [41, 43] σ (zA σ 43 (σ.1 3905) s) := FrC_A
      exact a1.trans FrC_A
    refine ⟨zA (zA σ 43 (σ.1 3905) s) 41 (σ.1 3905) (σ.1 3904), ?_, f1.w, ?_⟩
    · rw [if_neg h8, if_pos (by omega), if_pos hs, lt_e, zA_1, if_pos (by omega), lt_e]
    · have dsf : ∀ D, DS σ D → DS (zA (zA σ 43 (σ.1 3905) s) 41 (σ.1 3905) (σ.1 3904)) D := fun D hD => by
        cases D with
        | none =>
          obtain ⟨a, N, b⟩ := hD
          exact ⟨a, N, b.f f1⟩
        | some w => exact ⟨hD.1, hD.2.1.f f1, hD.2.2.1, hD.2.2.2.1, Fl_q (fun i _ _ => f1.a 40 i) hD.2.2.2.2⟩
      cases q with
      | none => exact dsf none h
      | some Q =>
        obtain ⟨a1, a2, a3, a4, a5⟩ := h
        obtain ⟨b1, b2⟩ := dq_some a2
        have hu : σ.1 3904 = ((flQ Q).length : Int) := by
          rw [b1] at a3
          have := a3.2.2.1
          rw [rnF_len] at this; exact this
        show (if Q.length < 8 then _ else _)
        rw [if_pos (by omega), dput_nil (DS.b a3)]
        refine ⟨dsf _ a3, a2, a4, a5.q (fun j x y z => ?_) (fun j x y => ?_), ?_, ?_⟩
        · by_cases e : j = σ.1 3905
          · rw [e, zA_s, hu]
            have := a5.e z
            rw [show (0 : Int) + (Q.length : Int) = σ.1 3905 by omega] at this
            rw [this]; omega
          · rw [zA_i e, zA_j]
        · exact ⟨by rw [zA_j, zA_j], by rw [zA_j, zA_i (by omega)]⟩
        · rw [← a4, zA_s, hu]
        · rw [← a4, zA_j, zA_s]
/-- what is written comes to the left side -/
theorem O1.w {σ : zS} {q : Option (List QL)} {s : Int} {L : List Int} (h : O1 σ q s L) : ∃ D, DS σ D ∧ ∀ τ X, DF σ τ → DS τ (dput D X) → O1 τ q s (L ++ X) := by
  cases q with
  | none => exact ⟨none, h, fun τ X _ hd => hd⟩
  | some Q =>
    by_cases h8 : Q.length < 8
    · have h' : DS σ (dput (dq Q) L) ∧ dq Q ≠ none ∧ σ.1 3905 = (Q.length : Int) ∧ SG σ 0 0 Q ∧ σ.2.1 41 (Q.length : Int) = ((flQ Q).length : Int) ∧ σ.2.1 43 (Q.length : Int) = s := by
        have := h
        unfold O1 at this
        simp only [h8, if_true] at this
        exact this
      obtain ⟨a1, a2, a3, a4, a5, a6⟩ := h'
      refine ⟨dput (dq Q) L, a1, fun τ X f hd => ?_⟩
      unfold O1
      simp only [h8, if_true]
      refine ⟨by rw [dput_app]; exact hd, a2, by rw [f.i 3905]; exact a3, a4.q (fun j _ _ _ => f.a 41 j) (fun j _ _ => ⟨f.a 42 j, f.a 43 j⟩), by rw [f.a 41]; exact a5, by rw [f.a 43]; exact a6⟩
    · have h' : DS σ none := by
        have := h
        unfold O1 at this
        simp only [h8, if_false] at this
        exact this
      refine ⟨none, h', fun τ X _ hd => ?_⟩
      unfold O1
      simp only [h8, if_false]; exact hd
theorem O2.w {σ : zS} {q : Option (List QL)} {s : Int} {L R : List Int} (h : O2 σ q s L R) : ∃ D, DS σ D ∧ ∀ τ X, DF σ τ → DS τ (dput D X) → O2 τ q s L (R ++ X) := by
  cases q with
  | none => exact ⟨none, h, fun τ X _ hd => hd⟩
  | some Q =>
    by_cases h8 : Q.length < 8
    · unfold O2 at h
      simp only [h8, if_true] at h
      obtain ⟨a1, a2, a3, a4, a5, a6, a7⟩ := h
      refine ⟨dput (dq Q) (L ++ R), a1, fun τ X f hd => ?_⟩
      unfold O2
      simp only [h8, if_true]
      refine ⟨by rw [← List.append_assoc, dput_app]; exact hd, a2, by rw [f.i 3905]; exact a3, a4.q (fun j _ _ _ => f.a 41 j) (fun j _ _ => ⟨f.a 42 j, f.a 43 j⟩), by rw [f.a 41]; exact a5, by rw [f.a 43]; exact a6, by rw [f.a 42]; exact a7⟩
    · unfold O2 at h
      simp only [h8, if_false] at h
      refine ⟨none, h, fun τ X _ hd => ?_⟩
      unfold O2
      simp only [h8, if_false]; exact hd
theorem right_ok {β : Nat} {σ : zS} {q : Option (List QL)} {s : Int} {L : List Int} (h : O1 σ q s L) : ∃ τ, yE tC_Dra_openRight β σ [] = some (τ, 0) ∧ FrC [] [42] σ τ ∧ O2 τ q s L [] := by
  rw [yq_Dra_openRight, kY_Dra_openRight]
  have e20 : ∀ ρ : zS, yE tC_Dra_openRight_p20 β ρ [] = some (ρ, 0) := fun ρ => by rw [yq_Dra_openRight_p20, kY_Dra_openRight_p20]
  have non : DS σ none → ∃ τ, (if σ.1 3907 = 0 then (if zb (σ.1 3905) 8 then (lt_ (zA σ 42 (σ.1 3905) (σ.1 3904)) (fun σ1 => yE tC_Dra_openRight_p20 β σ1 [])) else none) else (yE tC_Dra_openRight_p20 β σ [])) = some (τ, 0) ∧ FrC [] [42] σ τ ∧ τ = σ := fun hn => ⟨σ, by rw [if_neg (by rw [hn.1]; decide), e20], FrC.refl, rfl⟩
  cases q with
  | none =>
    obtain ⟨τ, t1, t2, t3⟩ := non h
    subst t3
    exact ⟨τ, t1, t2, h⟩
  | some Q =>
    by_cases h8 : Q.length < 8
    · unfold O1 at h
      simp only [h8, if_true] at h
      obtain ⟨a1, a2, a3, a4, a5, a6⟩ := h
      cases hD : dput (dq Q) L with
      | none =>
        rw [hD] at a1
        obtain ⟨τ, t1, t2, t3⟩ := non a1
        subst t3
        refine ⟨τ, t1, t2, ?_⟩
        unfold O2
        simp only [h8, if_true]
        exact ⟨by rw [List.append_nil, hD]; exact a1, a2, a3, a4, a5, a6, fun w => absurd hD w⟩
      | some w =>
        rw [hD] at a1
        have hb := a1.1
        obtain ⟨b1, b2⟩ := dq_some a2
        have hu : σ.1 3904 = ((flQ Q).length : Int) + (L.length : Int) := by
          have e : dput (dq Q) L = some (ntF [] (flQ Q ++ L), rnF [] (flQ Q ++ L)) := by
            have : dput (dq Q) L = dq [(0, flQ Q, L)] := by unfold dq; rw [← dput_app]; simp [flQ]
            rw [this]
            have := dq_some (Q := [(0, flQ Q, L)]) (by rw [← this, hD]; simp)
            simpa [flQ] using this.1
          rw [hD] at e
          obtain rfl := Option.some.inj e
          have := a1.2.2.1
          rw [rnF_len, List.length_append] at this
          omega
        have f1 : FrC [] [42] σ (zA σ 42 (σ.1 3905) (σ.1 3904)) := FrC_A
        refine ⟨zA σ 42 (σ.1 3905) (σ.1 3904), by rw [if_pos hb, if_pos (by omega), lt_e, e20], f1, ?_⟩
        unfold O2
        simp only [h8, if_true]
        refine ⟨?_, a2, a3, a4.q (fun j _ _ _ => zA_j) (fun j x y => ⟨zA_i (by omega), zA_j⟩), by rw [zA_j]; exact a5, by rw [zA_j]; exact a6, fun _ => by rw [← a3, zA_s, hu]⟩
        rw [List.append_nil, hD]
        exact ⟨hb, a1.2.1.f f1, a1.2.2.1, a1.2.2.2.1, Fl_q (fun i _ _ => f1.a 40 i) a1.2.2.2.2⟩
    · unfold O1 at h
      simp only [h8, if_false] at h
      obtain ⟨τ, t1, t2, t3⟩ := non h
      subst t3
      refine ⟨τ, t1, t2, ?_⟩
      unfold O2
      simp only [h8, if_false]; exact h
theorem close_ok {β : Nat} {σ : zS} {q : Option (List QL)} {s : Int} {L R : List Int} (h : O2 σ q s L R) : ∃ τ, yE tC_Dra_closeLiteral β σ [] = some (τ, 0) ∧ FrC [3905] [41] σ τ ∧ DQ τ (qadd q (s, L, R)) ∧ (τ.1 3905 = σ.1 3905 ∨ τ.1 3905 = σ.1 3905 + 1 ∧ σ.1 3905 < 8) := by
  rw [yq_Dra_closeLiteral, kY_Dra_closeLiteral]
  have e30 : ∀ ρ : zS, yE tC_Dra_closeLiteral_p30 β ρ [] = some (ρ, 0) := fun ρ => by rw [yq_Dra_closeLiteral_p30, kY_Dra_closeLiteral_p30]
  have non : DS σ none → ∃ τ, (if σ.1 3907 = 0 then (if zr (σ.1 3905 + 1) then (lt_ (zI σ 3905 (σ.1 3905 + 1)) (fun σ1 => if zb (σ1.1 3905) 9 then (lt_ (zA σ1 41 (σ1.1 3905) (σ1.1 3904)) (fun σ2 => yE tC_Dra_closeLiteral_p30 β σ2 [])) else none)) else none) else (yE tC_Dra_closeLiteral_p30 β σ [])) = some (τ, 0) ∧ τ = σ := fun hn => ⟨σ, by rw [if_neg (by rw [hn.1]; decide), e30], rfl⟩
  cases q with
  | none =>
    obtain ⟨τ, t1, t3⟩ := non h
    subst t3
    exact ⟨τ, t1, FrC.refl, h, Or.inl rfl⟩
  | some Q =>
    by_cases h8 : Q.length < 8
    · unfold O2 at h
      simp only [h8, if_true] at h
      obtain ⟨a1, a2, a3, a4, a5, a6, a7⟩ := h
      have eq2 : dq (Q ++ [(s, L, R)]) = dput (dq Q) (L ++ R) := dq_add Q _
      cases hD : dput (dq Q) (L ++ R) with
      | none =>
        rw [hD] at a1
        obtain ⟨τ, t1, t3⟩ := non a1
        subst t3
        refine ⟨τ, t1, FrC.refl, ?_, Or.inl rfl⟩
        have : qadd (some Q) (s, L, R) = none := by
          show (if Q.length < 8 ∧ dq (Q ++ [(s, L, R)]) ≠ none then _ else _) = _
          rw [if_neg (fun w => w.2 (by rw [eq2, hD]))]
        rw [this]; exact a1
      | some w =>
        rw [hD] at a1
        have hb := a1.1
        have hn2 : dq (Q ++ [(s, L, R)]) ≠ none := by rw [eq2, hD]; simp
        obtain ⟨b1, b2⟩ := dq_some hn2
        have hL : dput (dq Q) L ≠ none := fun w2 => by rw [dput_app, w2] at hD; cases hD
        have a7' := a7 hL
        have hu : σ.1 3904 = ((flQ Q).length : Int) + (L.length : Int) + (R.length : Int) := by
          rw [← hD, ← eq2, b1] at a1
          have := a1.2.2.1
          rw [rnF_len, flQ_app] at this
          simp only [flQ, List.append_nil, List.length_append] at this
          omega
        have f1 : FrC [3905] [41] σ (zA (zI σ 3905 (σ.1 3905 + 1)) 41 (σ.1 3905 + 1) (σ.1 3904)) := by
          have b1 : FrC [3905] [41] σ (zI σ 3905 (σ.1 3905 + 1)) := FrC_I
          exact b1.trans FrC_A
        refine ⟨zA (zI σ 3905 (σ.1 3905 + 1)) 41 (σ.1 3905 + 1) (σ.1 3904), ?_, f1, ?_, Or.inr ⟨by rw [zA_1, zI_1], by omega⟩⟩
        · rw [if_pos hb, if_pos (by omega), lt_e, zI_1, if_pos (by omega), lt_e, zI_o, e30]
        · have : qadd (some Q) (s, L, R) = some (Q ++ [(s, L, R)]) := by
            show (if Q.length < 8 ∧ dq (Q ++ [(s, L, R)]) ≠ none then _ else _) = _
            rw [if_pos ⟨h8, hn2⟩]
          rw [this]
          have e1 : ((Q ++ [(s, L, R)]).length : Int) = (Q.length : Int) + 1 := by simp
          refine ⟨by simp; omega, hn2, ?_, by rw [zA_1, zI_1, a3, e1], ?_⟩
          · rw [eq2, hD]
            exact ⟨by rw [f1.i 3907]; exact hb, a1.2.1.f f1, by rw [f1.i 3904]; exact a1.2.2.1, a1.2.2.2.1, Fl_q (fun i _ _ => f1.a 40 i) a1.2.2.2.2⟩
          · refine SG.app (a4.q (fun j x y z => ?_) (fun j _ _ => ⟨f1.a 42 j, f1.a 43 j⟩)) ⟨?_, ?_, ?_, ?_, trivial⟩
            · rw [zA_i (by omega), zI_2]
            · rw [zA_i (by omega), zI_2, show (0 : Int) + (Q.length : Int) = (Q.length : Int) by omega, a5]; omega
            · rw [f1.a 42, show (0 : Int) + (Q.length : Int) = (Q.length : Int) by omega, a7']; dsimp only; omega
            · rw [show (0 : Int) + (Q.length : Int) + 1 = σ.1 3905 + 1 by omega, zA_s, hu]; dsimp only; omega
            · rw [f1.a 43, show (0 : Int) + (Q.length : Int) = (Q.length : Int) by omega]; exact a6
    · unfold O2 at h
      simp only [h8, if_false] at h
      obtain ⟨τ, t1, t3⟩ := non h
      subst t3
      refine ⟨τ, t1, FrC.refl, ?_, Or.inl rfl⟩
      have : qadd (some Q) (s, L, R) = none := by
        show (if Q.length < 8 ∧ dq (Q ++ [(s, L, R)]) ≠ none then _ else _) = _
        rw [if_neg (fun w => h8 w.1)]
      rw [this]; exact h
/-- begin a new CLAUSE -/
theorem dclear_loop {β : Nat} : ∀ (m : Nat) (σ : zS) (N : List Int) (i : Nat), N.length ≤ 6 → σ.1 3911 = (N.length : Int) → (∀ (j : Nat) c, N[j]? = some c → -300 ≤ c ∧ c < 0 ∧ σ.2.1 44 (j : Int) = -1 - c) → i + m = N.length → ∃ τ, yE tC_Dra_clear_p2 β σ [(i : Int)] = some (τ, 0) ∧ FrC [3904, 3905, 3907, 3911] [46] σ τ ∧ τ.1 3911 = 0 ∧ τ.1 3904 = 0 ∧ τ.1 3905 = 0 ∧ τ.1 3907 = 0 ∧ ∀ v, (∃ j, i ≤ j ∧ N[j]? = some (-1 - v)) ∧ τ.2.1 46 v = -1 ∨ (¬ ∃ j, i ≤ j ∧ N[j]? = some (-1 - v)) ∧ τ.2.1 46 v = σ.2.1 46 v
  | 0, σ, N, i, h6, h1, h2, hm => by
    have hi : i = N.length := by omega
    subst hi
    have f : FrC [3904, 3905, 3907, 3911] [46] σ (zI (zI (zI (zI σ 3911 0) 3904 0) 3905 0) 3907 0) := by
      have a1 : FrC [3904, 3905, 3907, 3911] [46] σ (zI σ 3911 0) := FrC_I
      have a2 : FrC [3904, 3905, 3907, 3911] [46] (zI σ 3911 0) (zI (zI σ 3911 0) 3904 0) := FrC_I
      have a3 : FrC [3904, 3905, 3907, 3911] [46] (zI (zI σ 3911 0) 3904 0) (zI (zI (zI σ 3911 0) 3904 0) 3905 0) := FrC_I
      exact ((a1.trans a2).trans a3).trans FrC_I
    refine ⟨_, by rw [yq_Dra_clear_p2, kY_Dra_clear_p2, if_pos (by omega), lt_e, lt_e, lt_e, lt_e], f, by rw [zI_o, zI_o, zI_o, zI_1], by rw [zI_o, zI_o, zI_1], by rw [zI_o, zI_1], zI_1, fun v => Or.inr ⟨fun ⟨j, a, b⟩ => ?_, rfl⟩⟩
    have := (List.getElem?_eq_some_iff.mp b).1
    omega
  | m + 1, σ, N, i, h6, h1, h2, hm => by
    have hi : i < N.length := by omega
    obtain ⟨c1, c2, c3⟩ := h2 i N[i] (List.getElem?_eq_getElem hi)
    obtain ⟨τ, t1, t2, t3, t4, t5, t6, t7⟩ := dclear_loop (β := β) m (zA σ 46 (-1 - N[i]) (-1)) N (i + 1) h6 h1 (fun j c hc => by rw [zA_j]; exact h2 j c hc) (by omega)
    have f0 : FrC [3904, 3905, 3907, 3911] [46] σ (zA σ 46 (-1 - N[i]) (-1)) := FrC_A
    refine ⟨τ, ?_, f0.trans t2, t3, t4, t5, t6, fun v => ?_⟩
    · rw [yq_Dra_clear_p2, kY_Dra_clear_p2, if_neg (by omega), if_pos (by omega), c3, if_pos (by omega), lt_e, if_pos (by omega)]
      exact t1
    · by_cases e : v = -1 - N[i]
      · left
        refine ⟨⟨i, Nat.le_refl _, by rw [List.getElem?_eq_getElem hi, e]; congr 1; omega⟩, ?_⟩
        rcases t7 v with w | w
        · exact w.2
        · rw [w.2, e, zA_s]
      · rcases t7 v with ⟨⟨j, a, b⟩, w⟩ | ⟨n, w⟩
        · exact Or.inl ⟨⟨j, by omega, b⟩, w⟩
        · refine Or.inr ⟨fun ⟨j, a, b⟩ => ?_, by rw [w, zA_i e]⟩
          by_cases ej : j = i
          · subst ej
            rw [List.getElem?_eq_getElem hi] at b
            have := Option.some.inj b
            omega
          · exact n ⟨j, by omega, b⟩
theorem dclear_ok {β : Nat} {σ : zS} (h : ∃ N, DN σ N) : ∃ τ, yE tC_Dra_clear β σ [] = some (τ, 0) ∧ FrC [3904, 3905, 3907, 3911] [46] σ τ ∧ DQ τ (some []) := by
  obtain ⟨N, n1, n2, n3, n4⟩ := h
  obtain ⟨τ, t1, t2, t3, t4, t5, t6, t7⟩ := dclear_loop (β := β) N.length σ N 0 n2 n1 n3 (by omega)
  refine ⟨τ, by rw [yq_Dra_clear, kY_Dra_clear]; exact t1, t2, by simp, by simp [dq, flQ, dput, ntF], ?_, t5, trivial⟩
  have e : dq [] = some ([], []) := by simp [dq, flQ, dput, ntF, rnF]
  rw [e]
  refine ⟨t6, ⟨t3, by simp, fun i c hc => by simp at hc, fun v v0 v1 => ?_⟩, t4, by simp, trivial⟩
  simp only [idx, List.length_nil, Nat.lt_irrefl, if_false]
  rcases t7 v with w | ⟨n, w⟩
  · exact w.2
  · rw [w, n4 v v0 v1]
    by_cases q : idx N (-1 - v) < N.length
    · exact absurd ⟨idx N (-1 - v), Nat.zero_le _, idx_get q⟩ n
    · rw [if_neg q]
