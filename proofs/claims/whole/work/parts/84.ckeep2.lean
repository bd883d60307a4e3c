/-! CLAUSES and counts: 87 the state, 89 STEPS, 90 INFERENCES, 91 DROPPED, 92 SUBSUMED, 93 REWRITTEN, 94 TAUTOLOGIES -/
abbrev PA : Type := List CL × (Nat → Int)
def fu (f : Nat → Int) (k : Nat) (x : Int) : Nat → Int := fun j => if j = k then x else f j
theorem fu_s {f : Nat → Int} {k : Nat} {x : Int} : fu f k x k = x := by simp [fu]
theorem fu_o {f : Nat → Int} {k j : Nat} {x : Int} (h : j ≠ k := by decide) : fu f k x j = f j := by simp [fu, h]
noncomputable def keepA (org p t : Int) (C : List Lt) (A : PA) : PA :=
  @ite _ (inB C) (Classical.propDecidable _)
    (@ite _ (tautL (rnL [] (ddL [] C))) (Classical.propDecidable _) (A.1, fu (fu A.2 90 (zwa (A.2 90) 1)) 94 (zwa (A.2 94) 1))
      (if A.1.length = 2000 then (A.1, fu (fu A.2 90 (zwa (A.2 90) 1)) 87 3) else (A.1 ++ [(rnL [] (ddL [] C), org, p, t, 0, [])], fu A.2 90 (zwa (A.2 90) 1))))
    (A.1, fu (fu A.2 90 (zwa (A.2 90) 1)) 91 (zwa (A.2 91) 1))
/-! numbers are as they should be -/
def can (k : Nat) : List Int := (List.range k).map (fun i : Nat => -1 - (i : Int))
theorem can_len (k : Nat) : (can k).length = k := by simp [can]
theorem can_s (k : Nat) : can (k + 1) = can k ++ [-1 - (k : Int)] := by simp [can, List.range_succ]
theorem can_idx {k i : Nat} : idx (can k) (-1 - (i : Int)) = if i < k then i else k := by
  induction k with
  | zero => simp [can, idx]
  | succ k ih =>
    rw [can_s]
    by_cases e : i = k
    · subst e
      rw [idx_self, ih, can_len, if_neg (Nat.lt_irrefl _), if_neg (Nat.lt_irrefl _), if_pos (by omega)]
    · rw [idx_app (by omega), ih, can_len]
      by_cases h : i < k
      · rw [if_pos h, if_pos h, if_pos (by omega)]
      · rw [if_neg h, if_neg (Nat.lt_irrefl _), if_neg (by omega)]
theorem rnF_can : ∀ (L N : List Int), rnF (can N.length) (rnF N L) = rnF N L ∧ ntF (can N.length) (rnF N L) = can (ntF N L).length
  | [], N => ⟨rfl, rfl⟩
  | c :: L, N => by
    simp only [rnF, ntF]
    by_cases h : c < 0
    · simp only [h, if_true]
      have hn : (-1 - (idx N c : Int)) < 0 := by omega
      simp only [rnF, ntF, hn, if_true]
      have hi := can_idx (k := N.length) (i := idx N c)
      obtain ⟨i1, i2⟩ := rnF_can L (add1 N c)
      have ea : add1 (can N.length) (-1 - (idx N c : Int)) = can (add1 N c).length := by
        unfold add1
        rw [hi, can_len]
        by_cases q : idx N c < N.length
        · rw [if_pos q, if_pos q, if_pos q]
        · rw [if_neg q, if_neg (Nat.lt_irrefl _), if_neg q]
          have : idx N c = N.length := by have := idx_le N c; omega
          rw [this, List.length_append, List.length_cons, List.length_nil, ← can_s]
      rw [ea, i1, i2, hi]
      have : (if idx N c < N.length then idx N c else N.length) = idx N c := by
        by_cases q : idx N c < N.length
        · rw [if_pos q]
        · rw [if_neg q]; have := idx_le N c; omega
      rw [this]
      exact ⟨rfl, rfl⟩
    · simp only [h, if_false, rnF, ntF]
      obtain ⟨i1, i2⟩ := rnF_can L N
      rw [i1, i2]
      exact ⟨rfl, rfl⟩
theorem flQ_inj {ar : Int → Nat} {p q : Int → Prop} : ∀ {A B : List Lt}, WL ar p A → WL ar q B → shp A = shp B → flQ (toQ A) = flQ (toQ B) → A = B
  | [], [], _, _, _, _ => rfl
  | [], b :: B, _, _, h, _ => by simp [shp] at h
  | a :: A, [], _, _, h, _ => by simp [shp] at h
  | a :: A, b :: B, wa, wb, hs, hF => by
    have hs' : (a.1, tw a.2.1, tw a.2.2) :: shp A = (b.1, tw b.2.1, tw b.2.2) :: shp B := hs
    injection hs' with s1 s2
    have q1 : a.1 = b.1 := congrArg (fun z => z.1) s1
    obtain ⟨_, a1, a2⟩ := wa a List.mem_cons_self
    obtain ⟨_, b1, b2⟩ := wb b List.mem_cons_self
    have hF' : fl (tt a.2.1) ++ (fl (tt a.2.2) ++ flQ (toQ A)) = fl (tt b.2.1) ++ (fl (tt b.2.2) ++ flQ (toQ B)) := by
      have : fl (tt a.2.1) ++ fl (tt a.2.2) ++ flQ (toQ A) = fl (tt b.2.1) ++ fl (tt b.2.2) ++ flQ (toQ B) := hF
      rw [List.append_assoc, List.append_assoc] at this; exact this
    obtain ⟨e1, r1⟩ := fl_inj (p := fun _ => True) (wf_mono (fun _ _ => trivial) a1) (wf_mono (fun _ _ => trivial) b1) rfl hF'
    obtain ⟨e2, r2⟩ := fl_inj (p := fun _ => True) (wf_mono (fun _ _ => trivial) a2) (wf_mono (fun _ _ => trivial) b2) rfl r1
    have e3 := flQ_inj (fun c hc => wa c (List.mem_cons_of_mem _ hc)) (fun c hc => wb c (List.mem_cons_of_mem _ hc)) s2 r2
    injection e1 with u1 u2 u3
    injection e2 with v1 v2 v3
    have : a = b := Prod.ext q1 (Prod.ext (Prod.ext u1 u2) (Prod.ext v1 v2))
    rw [this, e3]
theorem rnL_idem {ar : Int → Nat} {p : Int → Prop} {m9 : Int} (h0 : 0 ≤ m9) (hp : ∀ c, p c → c < m9) {C : List Lt} (w : WL ar p C) (h6 : (ntL [] C).length ≤ 6) : rnL [] (rnL [] C) = rnL [] C ∧ (ntL [] (rnL [] C)).length = (ntL [] C).length := by
  have wR := rnL_wf h0 hp w h6
  obtain ⟨x1, x2, x3⟩ := rnL_F (N := []) w
  obtain ⟨y1, y2, y3⟩ := rnL_F (N := []) wR
  obtain ⟨c1, c2⟩ := rnF_can (flQ (toQ C)) []
  have c0 : can ([] : List Int).length = [] := rfl
  rw [c0] at c1 c2
  have l : (ntL [] (rnL [] C)).length = (ntL [] C).length := by rw [y2, x1, c2, can_len, x2]
  refine ⟨?_, l⟩
  have wRR := rnL_wf h0 (fun c h => h.2) wR (by rw [l]; exact h6)
  exact flQ_inj wRR wR y3 (by rw [y1, x1, c1])
/-- a new CLAUSE is as it should be -/
theorem Wc_new {ar : Int → Nat} {p : Int → Prop} {m9 : Int} (h0 : 0 ≤ m9) (hp : ∀ c, p c → c < m9) {C : List Lt} (w : WL ar p C) (hb : inB C) : Wc ar m9 (rnL [] (ddL [] C)) := by
  have wd := WL_dd w
  have hd := ddL_wt C []
  simp only [List.length_nil, wtL, Nat.zero_add] at hd
  obtain ⟨b1, b2, b3⟩ := hb
  have h6 : (ntL [] (ddL [] C)).length ≤ 6 := nt_dd w b3
  obtain ⟨x1, x2, x3⟩ := rnL_F (N := []) wd
  obtain ⟨l1, l2⟩ := shp_len x3
  obtain ⟨i1, i2⟩ := rnL_idem h0 hp wd h6
  have wR := rnL_wf h0 hp wd h6
  exact ⟨by omega, by omega, by omega, i1, wR⟩
where
  nt_dd : ∀ {ar : Int → Nat} {p : Int → Prop} {C : List Lt}, WL ar p C → (ntL [] C).length ≤ 6 → (ntL [] (ddL [] C)).length ≤ 6 := fun {ar p C} w h => by
    obtain ⟨_, x2, _⟩ := rnL_F (N := []) w
    obtain ⟨_, y2, _⟩ := rnL_F (N := []) (WL_dd w)
    rw [x2] at h
    rw [y2]
    refine Nat.le_trans (ntF_sub (fun c hc h0 => ?_)) h
    -- each VARIABLE that is left was there
    obtain ⟨a, ha, hca⟩ := flQ_mem hc
    exact toQ_mem ((ddL_mem ha).elim (fun z => by cases z) id) hca
  flQ_mem : ∀ {C : List Lt} {c : Int}, c ∈ flQ (toQ C) → ∃ a ∈ C, c ∈ fl (tt a.2.1) ∨ c ∈ fl (tt a.2.2)
    | [], c, h => by cases h
    | a :: C, c, h => by
      have h' : c ∈ fl (tt a.2.1) ++ fl (tt a.2.2) ++ flQ (toQ C) := h
      rcases List.mem_append.mp h' with z | z
      · exact ⟨a, List.mem_cons_self, List.mem_append.mp z⟩
      · obtain ⟨b, hb, hc⟩ := flQ_mem z
        exact ⟨b, List.mem_cons_of_mem _ hb, hc⟩
  ntF_nd : ∀ (L N : List Int), (∀ i c, N[i]? = some c → idx N c = i) → ∀ i c, (ntF N L)[i]? = some c → idx (ntF N L) c = i
    | [], N, h => h
    | c :: L, N, h => by
      simp only [ntF]
      split
      · refine ntF_nd L (add1 N c) (fun i d hd => ?_)
        unfold add1 at hd ⊢
        by_cases q : idx N c < N.length
        · rw [if_pos q] at hd ⊢; exact h i d hd
        · rw [if_neg q] at hd ⊢
          by_cases hi : i < N.length
          · rw [List.getElem?_append_left hi] at hd
            have e := h i d hd
            rw [idx_pre (by omega)]; exact e
          · have hi2 : i = N.length := by
              have := (List.getElem?_eq_some_iff.mp hd).1
              simp at this; omega
            subst hi2
            rw [List.getElem?_append_right (Nat.le_refl _)] at hd
            simp at hd
            subst hd
            rw [idx_self, if_neg q]
      · exact ntF_nd L N h
  ntF_mem : ∀ (L N : List Int) (c : Int), c ∈ ntF N L → c ∈ N ∨ (c ∈ L ∧ c < 0)
    | [], N, c, h => Or.inl h
    | d :: L, N, c, h => by
      simp only [ntF] at h
      split at h
      · rename_i hd
        rcases ntF_mem L (add1 N d) c h with z | z
        · unfold add1 at z
          split at z
          · exact Or.inl z
          · rcases List.mem_append.mp z with y | y
            · exact Or.inl y
            · simp at y; subst y; exact Or.inr ⟨List.mem_cons_self, hd⟩
        · exact Or.inr ⟨List.mem_cons_of_mem _ z.1, z.2⟩
      · rcases ntF_mem L N c h with z | z
        · exact Or.inl z
        · exact Or.inr ⟨List.mem_cons_of_mem _ z.1, z.2⟩
  pigeon : ∀ (A B : List Int), (∀ i c, A[i]? = some c → idx A c = i) → (∀ c ∈ A, c ∈ B) → A.length ≤ B.length := by
    intro A
    induction A with
    | nil => intro B _ _; exact Nat.zero_le _
    | cons a A ih =>
      intro B hA hB
      have ha := hB a List.mem_cons_self
      obtain ⟨s, t, rfl⟩ := List.append_of_mem ha
      have hA2 : ∀ i c, A[i]? = some c → idx A c = i := fun i c hc => by
        have := hA (i + 1) c (by rw [List.getElem?_cons_succ]; exact hc)
        by_cases e : a = c
        · simp only [idx, if_pos e] at this; omega
        · simp only [idx, if_neg e] at this; omega
      have := ih (s ++ t) hA2 (fun c hc => by
        have h1 := hB c (List.mem_cons_of_mem _ hc)
        have hne : c ≠ a := fun e => by
          subst e
          obtain ⟨i, hi, hic⟩ := List.mem_iff_getElem.mp hc
          have := hA (i + 1) c (by rw [List.getElem?_cons_succ, List.getElem?_eq_getElem hi, hic])
          simp [idx] at this
        rcases List.mem_append.mp h1 with z | z
        · exact List.mem_append.mpr (Or.inl z)
        · rcases List.mem_cons.mp z with y | y
          · exact absurd y hne
          · exact List.mem_append.mpr (Or.inr y))
      simp only [List.length_append, List.length_cons] at this ⊢
      omega
  ntF_sub : ∀ {L M : List Int}, (∀ c ∈ L, c < 0 → c ∈ M) → (ntF [] L).length ≤ (ntF [] M).length := fun {L M} h => by
    refine pigeon _ _ (ntF_nd L [] (fun i c hc => by simp at hc)) (fun c hc => ?_)
    rcases ntF_mem L [] c hc with z | ⟨z, z0⟩
    · cases z
    · have := ntF_in z0 (N := []) (h c z z0)
      exact List.mem_of_getElem? (idx_get this)
