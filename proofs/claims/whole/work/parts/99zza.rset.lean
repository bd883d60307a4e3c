/-! the reference: STATES of CLAUSES, and what a GIVEN clears away -/
theorem stA_map : ∀ (X : List CL) (k : Nat) (x : Int), (stA X k x).map (fun c => c.1) = X.map (fun c => c.1)
  | [], _, _ => rfl
  | c :: X, 0, x => rfl
  | c :: X, k + 1, x => by simp only [stA, List.map_cons, stA_map X k x]
theorem lpF_map : ∀ {X Y : List CL}, X.map (fun c => c.1) = Y.map (fun c => c.1) → lpF X = lpF Y ∧ wpF X = wpF Y
  | [], [], _ => ⟨rfl, rfl⟩
  | [], c :: Y, h => by simp at h
  | c :: X, [], h => by simp at h
  | c :: X, d :: Y, h => by
    simp only [List.map_cons, List.cons.injEq] at h
    obtain ⟨h1, h2⟩ := lpF_map h.2
    simp only [lpF, wpF, h1, h2, h.1]; exact ⟨trivial, trivial⟩
theorem stA_tk (X : List CL) (k : Nat) (x : Int) (i : Nat) : lpos (stA X k x) i = lpos X i ∧ wpF ((stA X k x).take i) = wpF (X.take i) := by
  have h : ((stA X k x).take i).map (fun c => c.1) = (X.take i).map (fun c => c.1) := by rw [List.map_take, List.map_take, stA_map]
  obtain ⟨h1, h2⟩ := lpF_map h
  exact ⟨by unfold lpos; rw [h1], h2⟩
theorem stA_get {X : List CL} {k i : Nat} {x : Int} {c : CL} (h : (stA X k x)[i]? = some c) : ∃ d, X[i]? = some d ∧ (if i = k then c = cS d x else c = d) := by
  by_cases e : i = k
  · subst e
    cases hx : X[i]? with
    | none =>
      have := List.getElem?_eq_none_iff.mp hx
      have l := (List.getElem?_eq_some_iff.mp h).1
      rw [stA_len] at l; omega
    | some d =>
      rw [stA_s hx] at h
      exact ⟨d, rfl, by rw [if_pos rfl]; exact (Option.some.inj h).symm⟩
  · rw [stA_o e] at h
    exact ⟨c, h, by rw [if_neg e]⟩
theorem stA_mem {X : List CL} {k : Nat} {x : Int} {c : CL} (h : c ∈ stA X k x) : ∃ d ∈ X, c.1 = d.1 := by
  obtain ⟨i, hi⟩ := List.getElem?_of_mem h
  obtain ⟨d, h1, h2⟩ := stA_get hi
  refine ⟨d, List.mem_of_getElem? h1, ?_⟩
  by_cases e : i = k
  · rw [if_pos e] at h2; rw [h2]; rfl
  · rw [if_neg e] at h2; rw [h2]
theorem RC.st {σ : zS} {Cs : List CL} (h : RC σ Cs) {k : Nat} {x : Int} (hk : k < Cs.length) : RC (zA σ 80 (k : Int) x) (stA Cs k x) := by
  obtain ⟨h1, h2, h3, h4, h5, h6, h7⟩ := h
  obtain ⟨m1, m2⟩ := lpF_map (stA_map Cs k x)
  have f : FrC [] [80] σ (zA σ 80 (k : Int) x) := FrC_A
  refine ⟨by rw [stA_len]; exact h1, by rw [stA_len]; exact h2, by rw [m1]; exact h3, by rw [stA_len]; exact h4, by rw [stA_len]; exact h5, fun c hc => ?_, fun i c hc => ?_⟩
  · obtain ⟨d, hd, e⟩ := stA_mem hc
    rw [e]; exact h6 d hd
  · obtain ⟨d, hd, e⟩ := stA_get hc
    obtain ⟨⟨c1, c2, c3, c4, c5, c6, c7, c8, c9, c10, c11, c12⟩, hl⟩ := h7 i d hd
    have ec : c.1 = d.1 ∧ c.2.1 = d.2.1 ∧ c.2.2.1 = d.2.2.1 ∧ c.2.2.2.1 = d.2.2.2.1 ∧ cus c = cus d ∧ cst c = if i = k then x else cst d := by
      by_cases q : i = k
      · rw [if_pos q] at e ⊢; rw [e]; exact ⟨rfl, rfl, rfl, rfl, rfl, rfl⟩
      · rw [if_neg q] at e ⊢; rw [e]; exact ⟨rfl, rfl, rfl, rfl, rfl, rfl⟩
    obtain ⟨e1, e2, e3, e4, e5, e6⟩ := ec
    rw [(stA_tk Cs k x i).1]
    refine ⟨⟨by rw [f.a 73]; exact c1, by rw [f.a 74, e1]; exact c2, by rw [f.a 75, e1]; exact c3, by rw [f.a 76, e1]; exact c4, by rw [f.a 77, e2]; exact c5, by rw [f.a 78, e3]; exact c6, by rw [f.a 79, e4]; exact c7, ?_, by rw [f.a 82, e5]; exact c9, by rw [f.a 81]; exact c10, by rw [f.a 81, e5]; exact c11, ?_⟩, fun j a ha => ?_⟩
    · rw [e6]
      by_cases q : i = k
      · rw [if_pos q, q, zA_s]
      · rw [if_neg q, zA_i (by omega)]; exact c8
    · rw [f.a 81, e5]
      exact Fl_q (fun q _ _ => f.a 83 q) c12
    · rw [e1] at ha
      obtain ⟨l1, l2, l3, l4, l5, l6⟩ := hl j a ha
      unfold RLi
      rw [f.a 66, f.a 67, f.a 68, f.a 70]
      exact ⟨Px_q l1 f.pq, Px_q l2 f.pq, l3, l4, l5, l6⟩
theorem RI.st {ar : Int → Nat} {pd : Int → Prop} {m9 : Int} {σ : zS} {A : PA} (h : RI ar pd m9 σ A) {k : Nat} {x : Int} (hk : k < A.1.length) : RI ar pd m9 (zA σ 80 (k : Int) x) (stA A.1 k x, A.2) := by
  obtain ⟨hR, hJ, hp, hK, m0, wC⟩ := h
  have f : FrC [] [80] σ (zA σ 80 (k : Int) x) := FrC_A
  obtain ⟨m1, m2⟩ := lpF_map (stA_map A.1 k x)
  refine ⟨hR.st hk, ⟨by rw [m2]; exact hJ.1, fun i c hc j a ha => ?_⟩, hp.f f, hK, m0, fun c hc => ?_⟩
  · obtain ⟨d, hd, e⟩ := stA_get hc
    have e1 : c.1 = d.1 := by
      by_cases q : i = k
      · rw [if_pos q] at e; rw [e]; rfl
      · rw [if_neg q] at e; rw [e]
    have := stA_tk A.1 k x i
    rw [e1] at ha
    rw [this.1, this.2, e1, f.a 69, f.a 71, f.a 66, f.a 67]
    exact hJ.2 i d hd j a ha
  · obtain ⟨d, hd, e⟩ := stA_mem hc
    rw [e]; exact wC d hd
/-! two passes are one -/
noncomputable def sA1 (pd : Int → Prop) (G : List Lt) (n : Nat) (A : PA) : PA := match A.1[n]? with
  | none => A
  | some c => @ite _ (cst c = 1 ∧ subL pd G c.1) (Classical.propDecidable _) (stA A.1 n 2, fu A.2 92 (zwa (A.2 92) 1)) A
noncomputable def sA2 (pd : Int → Prop) (G : List Lt) (n : Nat) (A : PA) : PA := match A.1[n]? with
  | none => A
  | some c => @ite _ (cst c = 1 ∧ rwB pd G c.1) (Classical.propDecidable _) (stA A.1 n 0, A.2) A
theorem caS_2 {pd : Int → Prop} {G : List Lt} {n : Nat} {A : PA} : caS pd G n A = sA2 pd G n (sA1 pd G n A) := by
  unfold caS sA1
  cases hc : A.1[n]? with
  | none =>
    dsimp only
    unfold sA2
    rw [hc]
  | some c =>
    dsimp only
    by_cases h1 : cst c = 1
    · rw [if_pos h1]
      by_cases h2 : subL pd G c.1
      · rw [if_pos h2, if_pos ⟨h1, h2⟩]
        unfold sA2
        dsimp only
        rw [stA_s hc]
        dsimp only
        rw [if_neg (fun w => by have : (2 : Int) = 1 := w.1; omega)]
      · have h9 : ¬ (cst c = 1 ∧ subL pd G c.1) := fun w => h2 w.2
        rw [if_neg h2, if_neg h9]
        unfold sA2
        rw [hc]
        dsimp only
        by_cases h3 : rwB pd G c.1
        · rw [if_pos h3, if_pos ⟨h1, h3⟩]
        · rw [if_neg h3, if_neg (fun w => h3 w.2)]
    · rw [if_neg h1, if_neg (fun w => h1 w.1)]
      unfold sA2
      rw [hc]
      dsimp only
      rw [if_neg (fun w => h1 w.1)]
theorem stA_comm : ∀ (X : List CL) {k j : Nat} (x y : Int), k ≠ j → stA (stA X k x) j y = stA (stA X j y) k x
  | [], _, _, _, _, _ => rfl
  | c :: X, 0, 0, _, _, h => absurd rfl h
  | c :: X, 0, j + 1, _, _, _ => rfl
  | c :: X, k + 1, 0, _, _, _ => rfl
  | c :: X, k + 1, j + 1, x, y, h => by simp only [stA, stA_comm X x y (show k ≠ j by omega)]
theorem sA_comm {pd : Int → Prop} {G : List Lt} {n o : Nat} (h : n ≠ o) {A : PA} : sA1 pd G n (sA2 pd G o A) = sA2 pd G o (sA1 pd G n A) := by
  have g2 : (sA2 pd G o A).1[n]? = A.1[n]? := by
    unfold sA2
    split
    · rfl
    · split
      · exact stA_o h
      · rfl
  have g1 : (sA1 pd G n A).1[o]? = A.1[o]? := by
    unfold sA1
    split
    · rfl
    · split
      · exact stA_o (fun e => h e.symm)
      · rfl
  have e1 : ∀ B : PA, B.1[n]? = A.1[n]? → sA1 pd G n B = match A.1[n]? with
      | none => B
      | some c => @ite _ (cst c = 1 ∧ subL pd G c.1) (Classical.propDecidable _) (stA B.1 n 2, fu B.2 92 (zwa (B.2 92) 1)) B := fun B hB => by
    unfold sA1; rw [hB]
  have e2 : ∀ B : PA, B.1[o]? = A.1[o]? → sA2 pd G o B = match A.1[o]? with
      | none => B
      | some c => @ite _ (cst c = 1 ∧ rwB pd G c.1) (Classical.propDecidable _) (stA B.1 o 0, B.2) B := fun B hB => by
    unfold sA2; rw [hB]
  rw [e1 _ g2, e2 _ g1, e1 A rfl, e2 A rfl]
  cases A.1[n]? with
  | none => rfl
  | some c =>
    cases A.1[o]? with
    | none => rfl
    | some d =>
      dsimp only
      by_cases h1 : cst c = 1 ∧ subL pd G c.1
      · rw [if_pos h1, if_pos h1]
        by_cases h2 : cst d = 1 ∧ rwB pd G d.1
        · rw [if_pos h2, if_pos h2, stA_comm _ _ _ (fun e => h e.symm)]
        · rw [if_neg h2, if_neg h2]
      · rw [if_neg h1, if_neg h1]
theorem fo_comm {f : Nat → PA → PA} {g : PA → PA} {o : Nat} (h : ∀ n A, o ≤ n → f n (g A) = g (f n A)) : ∀ (m o' : Nat) (A : PA), o ≤ o' → fo f m o' (g A) = g (fo f m o' A)
  | 0, o', A, _ => rfl
  | m + 1, o', A, ho => by
    show fo f m (o' + 1) (f o' (g A)) = g (fo f m (o' + 1) (f o' A))
    rw [h o' A ho, fo_comm h m (o' + 1) _ (by omega)]
theorem fo_two {pd : Int → Prop} {G : List Lt} : ∀ (m o : Nat) (A : PA), fo (caS pd G) m o A = fo (sA2 pd G) m o (fo (sA1 pd G) m o A)
  | 0, o, A => rfl
  | m + 1, o, A => by
    show fo (caS pd G) m (o + 1) (caS pd G o A) = fo (sA2 pd G) m (o + 1) (sA2 pd G o (fo (sA1 pd G) m (o + 1) (sA1 pd G o A)))
    rw [fo_two m (o + 1), caS_2, fo_comm (f := sA1 pd G) (g := sA2 pd G o) (o := o + 1) (fun n A hn => sA_comm (by omega)) m (o + 1) _ (Nat.le_refl _)]
theorem sA1_len {pd : Int → Prop} {G : List Lt} {n : Nat} {A : PA} : (sA1 pd G n A).1.length = A.1.length := by
  unfold sA1
  split
  · rfl
  · split
    · exact stA_len _ _ _
    · rfl
theorem sA2_len {pd : Int → Prop} {G : List Lt} {n : Nat} {A : PA} : (sA2 pd G n A).1.length = A.1.length := by
  unfold sA2
  split
  · rfl
  · split
    · exact stA_len _ _ _
    · rfl
theorem stA_keep {X : List CL} {k i : Nat} {x : Int} {G : List Lt} (h : ∃ d, X[i]? = some d ∧ d.1 = G) : ∃ d, (stA X k x)[i]? = some d ∧ d.1 = G := by
  obtain ⟨d, h1, h2⟩ := h
  by_cases e : i = k
  · subst e; exact ⟨_, stA_s h1, h2⟩
  · exact ⟨d, by rw [stA_o e]; exact h1, h2⟩
theorem sA1_keep {pd : Int → Prop} {G H : List Lt} {n i : Nat} {A : PA} (h : ∃ d, A.1[i]? = some d ∧ d.1 = H) : ∃ d, (sA1 pd G n A).1[i]? = some d ∧ d.1 = H := by
  unfold sA1
  split
  · exact h
  · split
    · exact stA_keep h
    · exact h
theorem sA2_keep {pd : Int → Prop} {G H : List Lt} {n i : Nat} {A : PA} (h : ∃ d, A.1[i]? = some d ∧ d.1 = H) : ∃ d, (sA2 pd G n A).1[i]? = some d ∧ d.1 = H := by
  unfold sA2
  split
  · exact h
  · split
    · exact stA_keep h
    · exact h
