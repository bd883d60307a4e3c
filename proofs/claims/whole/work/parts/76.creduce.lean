/-! the draft's LITERALS as TERMS -/
def toQ (E : List Lt) : List QL := E.map (fun a => (a.1, fl (tt a.2.1), fl (tt a.2.2)))
theorem toQ_app (A B : List Lt) : toQ (A ++ B) = toQ A ++ toQ B := List.map_append
theorem toQ_len (E : List Lt) : (flQ (toQ E)).length = wtL E := by
  induction E with
  | nil => rfl
  | cons a E ih =>
    show (fl (tt a.2.1) ++ fl (tt a.2.2) ++ flQ (toQ E)).length = _
    rw [List.length_append, List.length_append, tt_len, tt_len, ih]
    rfl
/-- LITERAL i, which begins at o -/
def dLS (σ : zS) (i o : Int) (a : Lt) : Prop := σ.2.1 41 i = o ∧ σ.2.1 42 i = o + (tw a.2.1 : Int) ∧ σ.2.1 41 (i + 1) = o + (tw a.2.1 : Int) + (tw a.2.2 : Int) ∧ σ.2.1 43 i = a.1 ∧ Fl (σ.2.1 40) o (fl (tt a.2.1)) ∧ Fl (σ.2.1 40) (o + (tw a.2.1 : Int)) (fl (tt a.2.2)) ∧ 0 ≤ o ∧ o + (tw a.2.1 : Int) + (tw a.2.2 : Int) ≤ 100
def RS (σ : zS) : Int → Int → List Lt → Prop
  | _, _, [] => True
  | i, o, a :: E => dLS σ i o a ∧ RS σ (i + 1) (o + (tw a.2.1 : Int) + (tw a.2.2 : Int)) E
theorem RS_app {σ : zS} : ∀ {A B : List Lt} {i o : Int}, RS σ i o (A ++ B) ↔ RS σ i o A ∧ RS σ (i + (A.length : Int)) (o + (wtL A : Int)) B
  | [], B, i, o => by simp [RS, wtL]
  | a :: A, B, i, o => by
    have e1 : i + 1 + (A.length : Int) = i + ((a :: A).length : Int) := by simp only [List.length_cons]; omega
    have e2 : o + (tw a.2.1 : Int) + (tw a.2.2 : Int) + (wtL A : Int) = o + (wtL (a :: A) : Int) := by simp only [wtL]; omega
    simp only [List.cons_append, RS, RS_app (A := A), e1, e2, and_assoc]
theorem RS_get {σ : zS} : ∀ {E : List Lt} {i o : Int} {j : Nat} {a : Lt}, RS σ i o E → E[j]? = some a → dLS σ (i + (j : Int)) (o + (wtL (E.take j) : Int)) a
  | [], i, o, j, a, _, h => by simp at h
  | b :: E, i, o, 0, a, w, h => by
    simp only [List.getElem?_cons_zero, Option.some.injEq] at h
    subst h
    simpa [wtL] using w.1
  | b :: E, i, o, j + 1, a, w, h => by
    rw [List.getElem?_cons_succ] at h
    have := RS_get w.2 h
    rw [List.take_succ_cons]
    simp only [wtL]
    rw [show i + ((j + 1 : Nat) : Int) = i + 1 + (j : Int) by omega, show o + ((tw b.2.1 + tw b.2.2 + wtL (E.take j) : Nat) : Int) = o + (tw b.2.1 : Int) + (tw b.2.2 : Int) + (wtL (E.take j) : Int) by omega]
    exact this
theorem RS_q {σ τ : zS} : ∀ {E : List Lt} {i o : Int}, RS σ i o E → (∀ j, i ≤ j → j ≤ i + (E.length : Int) → 1 ≤ E.length → τ.2.1 41 j = σ.2.1 41 j) → (∀ j, i ≤ j → j < i + (E.length : Int) → τ.2.1 42 j = σ.2.1 42 j ∧ τ.2.1 43 j = σ.2.1 43 j) → (∀ q, o ≤ q → q < o + (wtL E : Int) → τ.2.1 40 q = σ.2.1 40 q) → RS τ i o E
  | [], i, o, _, _, _, _ => trivial
  | a :: E, i, o, h, h1, h2, h3 => by
    simp only [List.length_cons] at h1 h2
    simp only [wtL] at h3
    obtain ⟨⟨a1, a2, a3, a4, a5, a6, a7, a8⟩, hr⟩ := h
    refine ⟨⟨by rw [h1 i (by omega) (by omega) (by omega)]; exact a1, by rw [(h2 i (by omega) (by omega)).1]; exact a2, by rw [h1 (i + 1) (by omega) (by omega) (by omega)]; exact a3, by rw [(h2 i (by omega) (by omega)).2]; exact a4, Fl_q (fun q q0 q1 => ?_) a5, Fl_q (fun q q0 q1 => ?_) a6, a7, a8⟩, RS_q hr (fun j x y z => h1 j (by omega) (by omega) (by omega)) (fun j x y => h2 j (by omega) (by omega)) (fun q x y => h3 q (by omega) (by omega))⟩
    · rw [tt_len] at q1; exact h3 q (by omega) (by omega)
    · rw [tt_len] at q1; exact h3 q (by omega) (by omega)
/-- a whole draft -/
def DE (σ : zS) (E : List Lt) : Prop := σ.1 3905 = (E.length : Int) ∧ E.length ≤ 8 ∧ σ.1 3904 = (wtL E : Int) ∧ wtL E ≤ 100 ∧ RS σ 0 0 E
theorem DE_get {σ : zS} {E : List Lt} (h : DE σ E) {j : Nat} {a : Lt} (ha : E[j]? = some a) : dLS σ (j : Int) (wtL (E.take j) : Int) a := by
  have := RS_get h.2.2.2.2 ha
  simpa using this
theorem isSame_ok {ar : Int → Nat} {p : Int → Prop} {β : Nat} {σ : zS} {x y : Tm} {u v : Int} (hx : Fl (σ.2.1 40) u (fl (tt x))) (hy : Fl (σ.2.1 40) v (fl (tt y))) (wx : wf ar p (tt x)) (wy : wf ar p (tt y)) (u0 : 0 ≤ u) (u1 : u + (tw x : Int) ≤ 100) (v0 : 0 ≤ v) (v1 : v + (tw y : Int) ≤ 100) : yE tC_Dra_isSame β σ [u, (tw x : Int), v, (tw y : Int)] = some (σ, b2 (x = y)) := by
  have e61 : ∀ r i : Int, r = 0 ∨ r = 1 → yE tC_Dra_isSame_p61 β σ [u, (tw x : Int), v, (tw y : Int), r, i] = some (σ, r) := fun r i hr => by rw [yq_Dra_isSame_p61, kY_Dra_isSame_p61, if_pos hr]
  have no : ∀ i, yE tC_Dra_isSame_p16 β σ [u, (tw x : Int), v, (tw y : Int), 0, i] = some (σ, 0) := fun i => by
    rw [yq_Dra_isSame_p16, kY_Dra_isSame_p16]
    by_cases h : (tw x : Int) ≤ i
    · rw [if_pos h, e61 _ _ (Or.inl rfl)]
    · rw [if_neg h, if_pos rfl, e61 _ _ (Or.inl rfl)]
  rw [yq_Dra_isSame, kY_Dra_isSame]
  by_cases hn : (tw x : Int) = (tw y : Int)
  · rw [if_pos hn, yq_Dra_isSame_p11, kY_Dra_isSame_p11]
    have loop : ∀ (m : Nat) (i : Int), 0 ≤ i → i + (m : Int) = (tw x : Int) → yE tC_Dra_isSame_p16 β σ [u, (tw x : Int), v, (tw y : Int), 1, i] = some (σ, b2 (∀ j, i ≤ j → j < (tw x : Int) → σ.2.1 40 (u + j) = σ.2.1 40 (v + j))) := by
      intro m
      induction m with
      | zero =>
        intro i i0 hi
        rw [yq_Dra_isSame_p16, kY_Dra_isSame_p16, if_pos (by omega), e61 _ _ (Or.inr rfl), b2_t (fun j a b => by omega)]
      | succ m ih =>
        intro i i0 hi
        rw [yq_Dra_isSame_p16, kY_Dra_isSame_p16, if_neg (by omega), if_neg (by decide), if_pos (by omega), if_pos (by omega), if_pos (by omega), if_pos (by omega)]
        by_cases h : σ.2.1 40 (u + i) = σ.2.1 40 (v + i)
        · rw [if_pos h, yq_Dra_isSame_p53, kY_Dra_isSame_p53, if_pos (by omega), ih (i + 1) (by omega) (by omega)]
          congr 2
          refine b2_c ⟨fun w j a b => ?_, fun w j a b => w j (by omega) b⟩
          by_cases e : j = i
          · rw [e]; exact h
          · exact w j (by omega) b
        · rw [if_neg h, yq_Dra_isSame_p53, kY_Dra_isSame_p53, if_pos (by omega), no, b2_f (fun w => h (w i (by omega) (by omega)))]
    rw [loop (tw x) 0 (by omega) (by omega)]
    congr 2
    refine b2_c ⟨fun w => ?_, fun w => ?_⟩
    · have hz : Fl (σ.2.1 40) v (fl (tt x)) := Fl_of (fun i c hi => by
        have hi2 : i < tw x := by
          have := (List.getElem?_eq_some_iff.mp hi).1
          rw [tt_len] at this; exact this
        rw [← w (i : Int) (by omega) (by omega)]
        exact Fl_get hx hi)
      have := Fl_det hz hy wx wy rfl
      injection this with e1 e2 e3
      exact Prod.ext e1 e2
    · subst w
      intro j a b
      obtain ⟨i, rfl⟩ := Int.eq_ofNat_of_zero_le a
      have hi : i < (fl (tt x)).length := by rw [tt_len]; omega
      rw [Fl_get hx (List.getElem?_eq_getElem hi), Fl_get hy (List.getElem?_eq_getElem hi)]
  · rw [if_neg hn, yq_Dra_isSame_p11, kY_Dra_isSame_p11, no, b2_f (fun w => by subst w; exact hn rfl)]
theorem hasSame_ok {ar : Int → Nat} {p : Int → Prop} {β : Nat} (hβ : 1 ≤ β) {σ : zS} {a b : Lt} {i j o o2 : Int} (ha : dLS σ i o a) (hb : dLS σ j o2 b) (i0 : 0 ≤ i) (i1 : i < 8) (j0 : 0 ≤ j) (j1 : j < 8) (wa1 : wf ar p (tt a.2.1)) (wa2 : wf ar p (tt a.2.2)) (wb1 : wf ar p (tt b.2.1)) (wb2 : wf ar p (tt b.2.2)) : yE tC_Dra_hasSameSides β σ [i, j] = some (σ, b2 (alikeL a b)) := by
  obtain ⟨a1, a2, a3, a4, a5, a6, a7, a8⟩ := ha
  obtain ⟨b1, b2', b3, b4, b5, b6, b7, b8⟩ := hb
  have e1 : σ.2.1 42 i - σ.2.1 41 i = (tw a.2.1 : Int) := by omega
  have e2 : σ.2.1 42 j - σ.2.1 41 j = (tw b.2.1 : Int) := by omega
  have e3 : σ.2.1 41 (i + 1) - σ.2.1 42 i = (tw a.2.2 : Int) := by omega
  have e4 : σ.2.1 41 (j + 1) - σ.2.1 42 j = (tw b.2.2 : Int) := by omega
  have s1 := isSame_ok (β := β - 1) a5 b5 wa1 wb1 (by omega) (by omega) (by omega) (by omega)
  have s2 := isSame_ok (β := β - 1) a6 b6 wa2 wb2 (by omega) (by omega) (by omega) (by omega)
  have s3 := isSame_ok (β := β - 1) a5 b6 wa1 wb2 (by omega) (by omega) (by omega) (by omega)
  have s4 := isSame_ok (β := β - 1) a6 b5 wa2 wb1 (by omega) (by omega) (by omega) (by omega)
  have f158 : ∀ r x y z w : Int, r = 0 ∨ r = 1 → yE tC_Dra_hasSameSides_p158 β σ [i, j, x, y, z, w, r] = some (σ, r) := fun r x y z w hr => by rw [yq_Dra_hasSameSides_p158, kY_Dra_hasSameSides_p158, if_pos hr]
  have f153 : ∀ x y z w : Int, yE tC_Dra_hasSameSides_p153 β σ [i, j, x, y, z, w] = some (σ, 1) := fun x y z w => by rw [yq_Dra_hasSameSides_p153, kY_Dra_hasSameSides_p153, f158 _ _ _ _ _ (Or.inr rfl)]
  have f157 : ∀ x y z w : Int, yE tC_Dra_hasSameSides_p157 β σ [i, j, x, y, z, w] = some (σ, 0) := fun x y z w => by rw [yq_Dra_hasSameSides_p157, kY_Dra_hasSameSides_p157, f158 _ _ _ _ _ (Or.inl rfl)]
  have f108 : ¬ (a.2.1 = b.2.1 ∧ a.2.2 = b.2.2) → yE tC_Dra_hasSameSides_p108 β σ [i, j, (tw a.2.1 : Int), (tw a.2.2 : Int), (tw b.2.1 : Int), (tw b.2.2 : Int)] = some (σ, b2 (alikeL a b)) := fun n => by
    rw [yq_Dra_hasSameSides_p108, kY_Dra_hasSameSides_p108, if_pos (by omega), if_pos (by omega), if_pos hβ, a1, b2', zbd_of s3]
    by_cases h3 : a.2.1 = b.2.2
    · rw [b2_t h3, if_neg (by decide), if_pos (by omega), if_pos (by omega), if_pos hβ, a2, b1, zbd_of s4]
      by_cases h4 : a.2.2 = b.2.1
      · rw [b2_t h4, if_neg (by decide), f153, b2_t (show alikeL a b from Or.inr ⟨h3, h4⟩)]
      · rw [b2_f h4, if_pos rfl, f157, b2_f (fun w => w.elim n (fun q => h4 q.2))]
    · rw [b2_f h3, if_pos rfl, f157, b2_f (fun w => w.elim n (fun q => h3 q.1))]
  rw [yq_Dra_hasSameSides, kY_Dra_hasSameSides, if_pos (by omega), if_pos (by omega), if_pos (by omega), if_pos (by omega), if_pos (by omega), if_pos (by omega), if_pos (by omega), if_pos (by omega), e1, e2, e3, e4, if_pos (by omega), if_pos (by omega), if_pos hβ, a1, b1, zbd_of s1]
  by_cases h1 : a.2.1 = b.2.1
  · rw [b2_t h1, if_neg (by decide), if_pos (by omega), if_pos (by omega), if_pos hβ, a2, b2', zbd_of s2]
    by_cases h2 : a.2.2 = b.2.2
    · rw [b2_t h2, if_neg (by decide), f153, b2_t (show alikeL a b from Or.inl ⟨h1, h2⟩)]
    · rw [b2_f h2, if_pos rfl]
      exact f108 (fun w => h2 w.2)
  · rw [b2_f h1, if_pos rfl, if_pos (by omega), if_pos (by omega)]
    exact f108 (fun w => h1 w.1)
/-- every side is well formed, and the sign 0 or 1 -/
def WL (ar : Int → Nat) (p : Int → Prop) (E : List Lt) : Prop := ∀ a ∈ E, (a.1 = 0 ∨ a.1 = 1) ∧ wf ar p (tt a.2.1) ∧ wf ar p (tt a.2.2)
theorem ctaut_ok {ar : Int → Nat} {p : Int → Prop} {β : Nat} (hβ : 2 ≤ β) {σ : zS} {E : List Lt} (h : DE σ E) (hw : WL ar p E) : yE tC_Dra_isTautology β σ [] = some (σ, b2 (tautL E)) := by
  obtain ⟨d1, d2, d3, d4, d5⟩ := id h
  -- a pair that makes it one
  have pair : ∀ {i j : Nat} {a b : Lt}, E[i]? = some a → E[j]? = some b → ¬ a.1 = b.1 → alikeL a b → tautL E := fun {i j a b} ha hb hn hal => by
    have ma := List.mem_of_getElem? ha
    have mb := List.mem_of_getElem? hb
    rcases (hw a ma).1 with x | x
    · refine ⟨b, mb, fun w => hn (by rw [x, w]), Or.inr ⟨a, ma, x, ?_⟩⟩
      rcases hal with ⟨u, v⟩ | ⟨u, v⟩
      · exact Or.inl ⟨u.symm, v.symm⟩
      · exact Or.inr ⟨v.symm, u.symm⟩
    · refine ⟨a, ma, by omega, Or.inr ⟨b, mb, ?_, hal⟩⟩
      rcases (hw b mb).1 with y | y
      · exact y
      · exact absurd (by rw [x, y]) hn
  have inner : ∀ (i : Nat) (a : Lt), E[i]? = some a → ∀ (m j : Nat) (x : Int), j + m = i → (∀ (q : Nat) b, q < j → E[q]? = some b → ¬ a.1 = b.1 → ¬ alikeL a b) → (tautL E ∧ yE tC_Dra_isTautology_p72 β σ [(i : Int), x, (j : Int)] = some (σ, 1)) ∨ ((∀ (q : Nat) b, q < i → E[q]? = some b → ¬ a.1 = b.1 → ¬ alikeL a b) ∧ yE tC_Dra_isTautology_p72 β σ [(i : Int), x, (j : Int)] = yE tC_Dra_isTautology_p2 β σ [(i : Int) + 1]) := by
    intro i a ha m
    have hi := (List.getElem?_eq_some_iff.mp ha).1
    induction m with
    | zero =>
      intro j x hj hn
      right
      have : j = i := by omega
      subst this
      exact ⟨hn, by rw [yq_Dra_isTautology_p72, kY_Dra_isTautology_p72, if_pos (by omega), if_pos (by omega)]⟩
    | succ m ih =>
      intro j x hj hn
      have hjl : j < E.length := by omega
      have hb := List.getElem?_eq_getElem hjl
      have la := DE_get h ha
      have lb' := DE_get h hb
      have e103 : yE tC_Dra_isTautology_p103 β σ [(i : Int), x, (j : Int)] = yE tC_Dra_isTautology_p72 β σ [(i : Int), x, ((j + 1 : Nat) : Int)] := by rw [yq_Dra_isTautology_p103, kY_Dra_isTautology_p103, if_pos (by omega), show (j : Int) + 1 = ((j + 1 : Nat) : Int) by omega]
      rw [yq_Dra_isTautology_p72, kY_Dra_isTautology_p72, if_neg (by omega), if_pos (by omega), if_pos (by omega), la.2.2.2.1, lb'.2.2.2.1]
      by_cases hs : a.1 = E[j].1
      · rw [if_pos hs, e103]
        refine ih (j + 1) x (by omega) (fun q b hq hb2 hne => ?_)
        by_cases e : q = j
        · subst e
          rw [hb] at hb2
          obtain rfl := Option.some.inj hb2
          exact absurd hs hne
        · exact hn q b (by omega) hb2 hne
      · have ma := List.mem_of_getElem? ha
        have mb := List.mem_of_getElem? hb
        rw [if_neg hs, if_pos (by omega), zbd_of (hasSame_ok (by omega) la lb' (by omega) (by omega) (by omega) (by omega) (hw a ma).2.1 (hw a ma).2.2 (hw _ mb).2.1 (hw _ mb).2.2)]
        by_cases hal : alikeL a E[j]
        · left
          rw [b2_t hal, if_neg (by decide)]
          exact ⟨pair ha hb hs hal, rfl⟩
        · rw [b2_f hal, if_pos rfl, e103]
          refine ih (j + 1) x (by omega) (fun q b hq hb2 hne => ?_)
          by_cases e : q = j
          · subst e
            rw [hb] at hb2
            obtain rfl := Option.some.inj hb2
            exact hal
          · exact hn q b (by omega) hb2 hne
  have outer : ∀ (m i : Nat), i + m = E.length → (∀ (q : Nat) a, q < i → E[q]? = some a → (a.1 = 1 → ¬ a.2.1 = a.2.2) ∧ ∀ (r : Nat) b, r < q → E[r]? = some b → ¬ a.1 = b.1 → ¬ alikeL a b) → yE tC_Dra_isTautology_p2 β σ [(i : Int)] = some (σ, b2 (tautL E)) := by
    intro m
    induction m with
    | zero =>
      intro i hi hn
      rw [yq_Dra_isTautology_p2, kY_Dra_isTautology_p2, if_pos (by omega), b2_f]
      rintro ⟨e, he, h0, h1⟩
      obtain ⟨q, hq, eq⟩ := List.mem_iff_getElem.mp he
      have gq : E[q]? = some e := by rw [List.getElem?_eq_getElem hq, eq]
      have s1 : e.1 = 1 := by rcases (hw e he).1 with x | x; exact absurd x h0; exact x
      rcases h1 with h1 | ⟨f, hf, f0, hal⟩
      · exact (hn q e (by omega) gq).1 s1 h1
      · obtain ⟨r, hr, er⟩ := List.mem_iff_getElem.mp hf
        have gr : E[r]? = some f := by rw [List.getElem?_eq_getElem hr, er]
        rcases Nat.lt_trichotomy r q with w | w | w
        · exact (hn q e (by omega) gq).2 r f w gr (by omega) hal
        · subst w
          rw [gq] at gr
          obtain rfl := Option.some.inj gr
          omega
        · refine (hn r f (by omega) gr).2 q e w gq (by omega) ?_
          rcases hal with ⟨u, v⟩ | ⟨u, v⟩
          · exact Or.inl ⟨u.symm, v.symm⟩
          · exact Or.inr ⟨v.symm, u.symm⟩
    | succ m ih =>
      intro i hi hn
      have hil : i < E.length := by omega
      have ha := List.getElem?_eq_getElem hil
      have ma := List.mem_of_getElem? ha
      have la := DE_get h ha
      obtain ⟨a1, a2, a3, a4, a5, a6, a7, a8⟩ := id la
      have e1 : σ.2.1 42 (i : Int) - σ.2.1 41 (i : Int) = (tw E[i].2.1 : Int) := by omega
      have e2 : σ.2.1 41 ((i : Int) + 1) - σ.2.1 42 (i : Int) = (tw E[i].2.2 : Int) := by omega
      have t1 := tw_pos E[i].2.1
      have t2 := tw_pos E[i].2.2
      have p70 : (E[i].1 = 1 → ¬ E[i].2.1 = E[i].2.2) → yE tC_Dra_isTautology_p70 β σ [(i : Int), (tw E[i].2.1 : Int)] = some (σ, b2 (tautL E)) := fun hs => by
        rw [yq_Dra_isTautology_p70, kY_Dra_isTautology_p70]
        rcases inner i E[i] ha i 0 (tw E[i].2.1 : Int) (by omega) (fun q b hq => by omega) with ⟨w1, w2⟩ | ⟨w1, w2⟩
        · exact w2.trans (by rw [b2_t w1])
        · refine w2.trans ?_
          have := ih (i + 1) (by omega) (fun q a hq hqa => by
            by_cases e : q = i
            · subst e
              rw [ha] at hqa
              obtain rfl := Option.some.inj hqa
              exact ⟨hs, w1⟩
            · exact hn q a (by omega) hqa)
          rw [show (i : Int) + 1 = ((i + 1 : Nat) : Int) by omega]
          exact this
      rw [yq_Dra_isTautology_p2, kY_Dra_isTautology_p2, if_neg (by omega), if_pos (by omega), if_pos (by omega), a4, e1, e2]
      rcases (hw _ ma).1 with x | x
      · rw [if_pos x, if_pos (by omega)]
        exact p70 (fun w => by omega)
      · rw [if_neg (by omega), if_pos (by omega), if_pos (by omega), if_pos (by omega), if_pos (by omega), if_pos (by omega), a1, a2, zbd_of (isSame_ok a5 a6 (hw _ ma).2.1 (hw _ ma).2.2 (by omega) (by omega) (by omega) (by omega))]
        by_cases hs : E[i].2.1 = E[i].2.2
        · rw [b2_t hs, if_neg (by decide), b2_t ⟨E[i], ma, by omega, Or.inl hs⟩]
        · rw [b2_f hs, if_pos rfl]
          exact p70 (fun _ => hs)
  rw [yq_Dra_isTautology, kY_Dra_isTautology]
  exact outer E.length 0 (by omega) (fun q a hq => by omega)
