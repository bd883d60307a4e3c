/-! the reference: LITERALS under REWRITING -/
theorem rw1_v {pd : Int → Prop} {y : Tm} (h : cl y.1 < 0) : ∀ L : List (Nat × Lt), rw1 pd L y = none
  | [] => rfl
  | b :: L => by
    unfold rw1
    rw [rwI_v h, rwI_v h]
    exact rw1_v h L
theorem FN_cat {pd : Int → Prop} {L : List (Nat × Lt)} {A B : T} (h1 : FN pd L A) (h2 : FN pd L B) : FN pd L (cat A B) := fun o x h => by
  rw [sbF_cat] at h
  by_cases q : o < wt A
  · rw [if_pos q] at h; exact h1 o x h
  · rw [if_neg q] at h; exact h2 _ x h
theorem FY_l {pd : Int → Prop} {L : List (Nat × Lt)} {A B : T} {o k : Nat} {z : Tm} (h : FY pd L A o k z) : FY pd L (cat A B) o k z := by
  obtain ⟨x, h1, h2, h3⟩ := h
  have hl := sb_lt h1
  refine ⟨x, by rw [sbF_cat, if_pos hl]; exact h1, h2, fun o' x' ho h => ?_⟩
  rw [sbF_cat, if_pos (by omega)] at h
  exact h3 o' x' ho h
theorem FY_r {pd : Int → Prop} {L : List (Nat × Lt)} {A B : T} {o k : Nat} {z : Tm} (h1 : FN pd L A) (h : FY pd L B o k z) : FY pd L (cat A B) (wt A + o) k z := by
  obtain ⟨x, h2, h3, h4⟩ := h
  refine ⟨x, by rw [sbF_cat, if_neg (by omega), Nat.add_sub_cancel_left]; exact h2, h3, fun o' x' ho h => ?_⟩
  rw [sbF_cat] at h
  by_cases q : o' < wt A
  · rw [if_pos q] at h; exact h1 o' x' h
  · rw [if_neg q] at h; exact h4 _ x' (by omega) h
theorem rfF_n {pd : Int → Prop} {L : List (Nat × Lt)} {F : T} (h : FN pd L F) : ∀ m o, rfF pd L F m o = none
  | 0, o => rfl
  | m + 1, o => by
    rw [rfF]
    cases hx : sbF o F with
    | none => rfl
    | some x =>
      dsimp only
      rw [h o x hx]
      dsimp only
      rw [rfF_n h m (o + 1)]
      split <;> rfl
theorem rfF_y {pd : Int → Prop} {L : List (Nat × Lt)} {F : T} {q k : Nat} {z : Tm} (h : FY pd L F q k z) : ∀ m o, o + m = wt F → o ≤ q → rfF pd L F m o = some (q, k, z)
  | 0, o, hm, ho => by
    obtain ⟨x, h1, _⟩ := h
    have := sb_lt h1
    omega
  | m + 1, o, hm, ho => by
    obtain ⟨x, h1, h2, h3⟩ := id h
    have hl := sb_lt h1
    rw [rfF]
    by_cases e : o = q
    · rw [e, h1]
      dsimp only
      have nv : ¬ cl x.1 < 0 := fun w => by rw [rw1_v w] at h2; cases h2
      rw [if_neg nv, h2]
    · obtain ⟨y, hy⟩ := sb_ex (F := F) (o := o) (by omega)
      rw [hy]
      dsimp only
      rw [h3 o y (by omega) hy]
      dsimp only
      rw [rfF_y h m (o + 1) (by omega) (by omega)]
      split <;> rfl
theorem cF_app : ∀ A B : List Lt, cF (A ++ B) = cat (cF A) (cF B)
  | [], B => rfl
  | a :: A, B => by
    show cat (lF a) (cF (A ++ B)) = cat (cat (lF a) (cF A)) (cF B)
    rw [cF_app A B, cat_assoc]
theorem rpE_app {z : Tm} : ∀ {A B : List Lt} {o : Nat}, rpE z (wtL A + o) (A ++ B) = A ++ rpE z o B
  | [], B, o => by simp [wtL]
  | a :: A, B, o => by
    have el : lwt a = tw a.2.1 + tw a.2.2 := rfl
    have ew : wtL (a :: A) = lwt a + wtL A := by simp only [wtL]
    rw [ew]
    show (if lwt a + wtL A + o < tw a.2.1 then _ else if lwt a + wtL A + o < lwt a then _ else a :: rpE z (lwt a + wtL A + o - lwt a) (A ++ B)) = a :: (A ++ rpE z o B)
    rw [if_neg (by omega), if_neg (by omega), show lwt a + wtL A + o - lwt a = wtL A + o by omega, rpE_app]
theorem Nss_of {σ : zS} : ∀ {E : List En} {i : Int}, (∀ (m : Nat) e, E[m]? = some e → Ns σ (i + (m : Int)) e) → Nss σ i E
  | [], i, _ => trivial
  | e :: E, i, h => by
    refine ⟨?_, Nss_of (fun m f hf => ?_)⟩
    · have := h 0 e rfl
      rw [show i + ((0 : Nat) : Int) = i by omega] at this; exact this
    · have := h (m + 1) f (by rw [List.getElem?_cons_succ]; exact hf)
      rw [show i + ((m + 1 : Nat) : Int) = i + 1 + (m : Int) by omega] at this; exact this
theorem Dj_add {X : Int} {e : En} (h1 : X ≤ e.2.1) (h2 : X ≤ e.2.2) (h3 : dj e.2.1 e.1.2.1 e.2.2 e.1.2.2) : ∀ {E : List En}, Dj E → (∀ f ∈ E, f.2.1 + 1 + (wt f.1.2.1.2 : Int) ≤ X ∧ f.2.2 + 1 + (wt f.1.2.2.2 : Int) ≤ X) → Dj (E ++ [e])
  | [], _, _ => ⟨h3, fun f hf => (by cases hf), fun f hf => (by cases hf), trivial⟩
  | g :: E, hD, hb => by
    obtain ⟨d1, d2, d3, d4⟩ := hD
    obtain ⟨b1, b2⟩ := hb g List.mem_cons_self
    refine ⟨d1, fun f hf => ?_, fun f hf => ?_, Dj_add h1 h2 h3 d4 (fun f hf => hb f (List.mem_cons_of_mem _ hf))⟩
    · rcases List.mem_append.mp hf with w | w
      · exact d2 f w
      · simp at w; subst w; exact ⟨Or.inl (by omega), Or.inl (by omega)⟩
    · rcases List.mem_append.mp hf with w | w
      · exact d3 f w
      · simp at w; subst w; exact ⟨Or.inl (by omega), Or.inl (by omega)⟩
theorem Dj_up {X : Int} {e e' : En} (h : (e'.2.1 = e.2.1 ∧ e'.1.2.1 = e.1.2.1 ∧ X ≤ e'.2.2) ∨ (e'.2.2 = e.2.2 ∧ e'.1.2.2 = e.1.2.2 ∧ X ≤ e'.2.1)) {T2 : List En} : ∀ {T1 : List En}, Dj (T1 ++ e :: T2) → (∀ f ∈ T1 ++ e :: T2, f.2.1 + 1 + (wt f.1.2.1.2 : Int) ≤ X ∧ f.2.2 + 1 + (wt f.1.2.2.2 : Int) ≤ X) → Dj (T1 ++ e' :: T2)
  | [], hD, hb => by
    obtain ⟨d1, d2, d3, d4⟩ := hD
    obtain ⟨b1, b2⟩ := hb e (by simp)
    have hf2 : ∀ f ∈ T2, f.2.1 + 1 + (wt f.1.2.1.2 : Int) ≤ X ∧ f.2.2 + 1 + (wt f.1.2.2.2 : Int) ≤ X := fun f hf => hb f (by simp [hf])
    rcases h with ⟨e1, e2, e3⟩ | ⟨e1, e2, e3⟩
    · refine ⟨?_, ?_, fun f hf => ?_, d4⟩
      · rw [e1, e2]; exact Or.inl (by omega)
      · rw [e1, e2]; exact d2
      · obtain ⟨c1, c2⟩ := hf2 f hf
        exact ⟨Or.inr (by omega), Or.inr (by omega)⟩
    · refine ⟨?_, fun f hf => ?_, ?_, d4⟩
      · rw [e1, e2]; exact Or.inr (by omega)
      · obtain ⟨c1, c2⟩ := hf2 f hf
        exact ⟨Or.inr (by omega), Or.inr (by omega)⟩
      · rw [e1, e2]; exact d3
  | g :: T1, hD, hb => by
    obtain ⟨d1, d2, d3, d4⟩ := hD
    obtain ⟨b1, b2⟩ := hb g (by simp)
    refine ⟨d1, fun f hf => ?_, fun f hf => ?_, Dj_up h d4 (fun f hf => hb f (List.mem_cons_of_mem _ hf))⟩
    · rcases List.mem_append.mp hf with w | w
      · exact d2 f (List.mem_append.mpr (Or.inl w))
      · rcases List.mem_cons.mp w with rfl | w
        · obtain ⟨c1, c2⟩ := d2 e (by simp)
          rcases h with ⟨e1, e2, e3⟩ | ⟨e1, e2, e3⟩
          · exact ⟨by rw [e1, e2]; exact c1, Or.inl (by omega)⟩
          · exact ⟨Or.inl (by omega), by rw [e1, e2]; exact c2⟩
        · exact d2 f (by simp [w])
    · rcases List.mem_append.mp hf with w | w
      · exact d3 f (List.mem_append.mpr (Or.inl w))
      · rcases List.mem_cons.mp w with rfl | w
        · obtain ⟨c1, c2⟩ := d3 e (by simp)
          rcases h with ⟨e1, e2, e3⟩ | ⟨e1, e2, e3⟩
          · exact ⟨by rw [e1, e2]; exact c1, Or.inl (by omega)⟩
          · exact ⟨Or.inl (by omega), by rw [e1, e2]; exact c2⟩
        · exact d3 f (by simp [w])
/-- one new LITERAL, in its place -/
def REi (ar : Int → Nat) (m9 : Int) (σ : zS) (i : Int) (e : En) : Prop := Ns σ i e ∧ Ne σ e ∧ ((e.1.1 = 0 ∨ e.1.1 = 1) ∧ wf ar (lb m9) (tt e.1.2.1) ∧ wf ar (lb m9) (tt e.1.2.2)) ∧ (205000 ≤ e.2.1 ∧ e.2.1 + (tw e.1.2.1 : Int) ≤ σ.1 47) ∧ 205000 ≤ e.2.2 ∧ e.2.2 + (tw e.1.2.2 : Int) ≤ σ.1 47
abbrev lts (E : List En) : List Lt := E.map (fun e => e.1)
def RE (ar : Int → Nat) (m9 : Int) (σ : zS) (E : List En) : Prop := σ.1 98 = (E.length : Int) ∧ E.length ≤ 8 ∧ (∀ (i : Nat) e, E[i]? = some e → REi ar m9 σ (i : Int) e) ∧ Dj E ∧ wtL (lts E) ≤ 100
theorem REi.q {ar : Int → Nat} {m9 : Int} {σ τ : zS} {i : Int} {e : En} (h : REi ar m9 σ i e) (n : ∀ j, (j = 95 ∨ j = 96 ∨ j = 97) → τ.2.1 j i = σ.2.1 j i) (p : Pq σ τ 0 (σ.1 47)) (t : σ.1 47 ≤ τ.1 47) : REi ar m9 τ i e := by
  obtain ⟨⟨a1, a2, a3⟩, ⟨b1, b2⟩, c, ⟨d1, d2⟩, d3, d4⟩ := h
  have e1 : tw e.1.2.1 = 1 + wt e.1.2.1.2 := rfl
  have e2 : tw e.1.2.2 = 1 + wt e.1.2.2.2 := rfl
  refine ⟨⟨by rw [n 95 (by simp)]; exact a1, by rw [n 96 (by simp)]; exact a2, by rw [n 97 (by simp)]; exact a3⟩, ⟨Px_q b1 (Pq.w p (by omega) (by omega)), Px_q b2 (Pq.w p (by omega) (by omega))⟩, c, ⟨d1, by omega⟩, d3, by omega⟩
theorem RE.b {ar : Int → Nat} {m9 : Int} {σ : zS} {E : List En} (h : RE ar m9 σ E) : ∀ f ∈ E, f.2.1 + 1 + (wt f.1.2.1.2 : Int) ≤ σ.1 47 ∧ f.2.2 + 1 + (wt f.1.2.2.2 : Int) ≤ σ.1 47 := fun f hf => by
  obtain ⟨i, hi⟩ := List.getElem?_of_mem hf
  obtain ⟨_, _, _, ⟨_, d2⟩, _, d4⟩ := h.2.2.1 i f hi
  have e1 : tw f.1.2.1 = 1 + wt f.1.2.1.2 := rfl
  have e2 : tw f.1.2.2 = 1 + wt f.1.2.2.2 := rfl
  exact ⟨by omega, by omega⟩
theorem RE.f {ar : Int → Nat} {m9 : Int} {σ τ : zS} {E : List En} {I A : List Nat} (h : RE ar m9 σ E) (f : FrC I A σ τ) (p : Pq σ τ 0 (σ.1 47)) (t : σ.1 47 ≤ τ.1 47) (i1 : I.elem 98 = false := by decide) (a1 : A.elem 95 = false := by decide) (a2 : A.elem 96 = false := by decide) (a3 : A.elem 97 = false := by decide) : RE ar m9 τ E := by
  obtain ⟨h1, h2, h3, h4, h5⟩ := h
  refine ⟨by rw [f.1 98 i1]; exact h1, h2, fun i e he => (h3 i e he).q (fun j hj => ?_) p t, h4, h5⟩
  rcases hj with rfl | rfl | rfl
  · exact f.2.1 95 _ a1
  · exact f.2.1 96 _ a2
  · exact f.2.1 97 _ a3
theorem RE.w {ar : Int → Nat} {m9 : Int} {σ : zS} {E : List En} (h : RE ar m9 σ E) : WL ar (lb m9) (lts E) := fun a ha => by
  obtain ⟨e, he, rfl⟩ := List.mem_map.mp ha
  obtain ⟨i, hi⟩ := List.getElem?_of_mem he
  exact (h.2.2.1 i e hi).2.2.1
/-- one more LITERAL -/
theorem add_new {ar : Int → Nat} {m9 : Int} {β : Nat} {σ : zS} {E : List En} {a : Lt} {x y : Int} (h : RE ar m9 σ E) (hl : E.length < 8) (hx : Px σ a.2.1 x) (hy : Px σ a.2.2 y) (wa : (a.1 = 0 ∨ a.1 = 1) ∧ wf ar (lb m9) (tt a.2.1) ∧ wf ar (lb m9) (tt a.2.2)) (x0 : 205000 ≤ x) (hxy : x + (tw a.2.1 : Int) ≤ y) (hyt : y + (tw a.2.2 : Int) ≤ σ.1 47) (hb : ∀ f ∈ E, f.2.1 + 1 + (wt f.1.2.1.2 : Int) ≤ x ∧ f.2.2 + 1 + (wt f.1.2.2.2 : Int) ≤ x) (hw : wtL (lts E) + lwt a ≤ 100) : ∃ τ, zE tM_add β σ [x, y, a.1] = some (τ, 0) ∧ FrC [98] [95, 96, 97] σ τ ∧ RE ar m9 τ (E ++ [(a, x, y)]) := by
  obtain ⟨h1, h2, h3, h4, h5⟩ := id h
  have e1 : tw a.2.1 = 1 + wt a.2.1.2 := rfl
  have e2 : tw a.2.2 = 1 + wt a.2.2.2 := rfl
  obtain ⟨τ, hτ⟩ : ∃ z, z = zA (zI (zA (zA σ 95 (E.length : Int) x) 96 (E.length : Int) y) 98 ((E.length : Int) + 1)) 97 (E.length : Int) a.1 := ⟨_, rfl⟩
  have f : FrC [98] [95, 96, 97] σ τ := by
    have b1 : FrC [98] [95, 96, 97] σ (zA σ 95 (E.length : Int) x) := FrC_A
    have b2 : FrC [98] [95, 96, 97] (zA σ 95 (E.length : Int) x) (zA (zA σ 95 (E.length : Int) x) 96 (E.length : Int) y) := FrC_A
    have b3 : FrC [98] [95, 96, 97] (zA (zA σ 95 (E.length : Int) x) 96 (E.length : Int) y) (zI (zA (zA σ 95 (E.length : Int) x) 96 (E.length : Int) y) 98 ((E.length : Int) + 1)) := FrC_I
    rw [hτ]
    exact ((b1.trans b2).trans b3).trans FrC_A
  have t95 : ∀ q, τ.2.1 95 q = if q = (E.length : Int) then x else σ.2.1 95 q := fun q => by
    rw [hτ, zA_j, zI_2, zA_j]
    by_cases e : q = (E.length : Int)
    · rw [if_pos e, e, zA_s]
    · rw [if_neg e, zA_i e]
  have t96 : ∀ q, τ.2.1 96 q = if q = (E.length : Int) then y else σ.2.1 96 q := fun q => by
    rw [hτ, zA_j, zI_2]
    by_cases e : q = (E.length : Int)
    · rw [if_pos e, e, zA_s]
    · rw [if_neg e, zA_i e, zA_j]
  have t97 : ∀ q, τ.2.1 97 q = if q = (E.length : Int) then a.1 else σ.2.1 97 q := fun q => by
    rw [hτ]
    by_cases e : q = (E.length : Int)
    · rw [if_pos e, e, zA_s]
    · rw [if_neg e, zA_i e, zI_2, zA_j, zA_j]
  have i47 : τ.1 47 = σ.1 47 := f.i 47
  refine ⟨τ, ?_, f, ?_, by simp; omega, fun i e he => ?_, Dj_add (X := x) (e := (a, x, y)) (Int.le_refl _) (by show x ≤ y; omega) (Or.inl (by show x + 1 + (wt a.2.1.2 : Int) ≤ y; omega)) h4 hb, ?_⟩
  · rw [zq_add, kZ_add, h1, if_pos (by omega), lt_e, zA_1, h1, if_pos (by omega), lt_e, zA_1, zA_1, h1, if_pos (by omega), lt_e, if_pos (by omega), if_pos wa.1, lt_e, ← hτ]
  · rw [hτ, zA_1, zI_1]; simp
  · by_cases hi : i < E.length
    · rw [List.getElem?_append_left hi] at he
      refine (h3 i e he).q (fun j hj => ?_) f.pq (by omega)
      rcases hj with rfl | rfl | rfl
      · rw [t95, if_neg (by omega)]
      · rw [t96, if_neg (by omega)]
      · rw [t97, if_neg (by omega)]
    · have hi2 : i = E.length := by
        have := (List.getElem?_eq_some_iff.mp he).1
        simp at this; omega
      subst hi2
      rw [List.getElem?_append_right (Nat.le_refl _), Nat.sub_self] at he
      obtain rfl := Option.some.inj he
      exact ⟨⟨by rw [t95, if_pos rfl], by rw [t96, if_pos rfl], by rw [t97, if_pos rfl]⟩, ⟨Px_q hx f.pq, Px_q hy f.pq⟩, wa, ⟨x0, by show x + (tw a.2.1 : Int) ≤ τ.1 47; omega⟩, by show 205000 ≤ y; omega, by show y + (tw a.2.2 : Int) ≤ τ.1 47; omega⟩
  · have : lts (E ++ [(a, x, y)]) = lts E ++ [a] := by simp [lts]
    rw [this, wtL_app]
    simp only [wtL]
    have : lwt a = tw a.2.1 + tw a.2.2 := rfl
    omega
