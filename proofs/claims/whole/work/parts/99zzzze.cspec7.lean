/-! all NAMES are known at the end -/
def NU (A B : PN) : Prop := ∀ (i : Nat) x, B[i]? = some x → (x.2.1 = 0 ∧ ∃ y, A[i]? = some y ∧ y.2.1 = 0) ∨ ((x.2.1 = 1 ∨ x.2.1 = 2) ∧ 0 ≤ x.2.2)
theorem NU.tr {A B C : PN} (h : NU A B) (h2 : NU B C) : NU A C := fun i x hx => by
  rcases h2 i x hx with ⟨a, y, b, c⟩ | a
  · rcases h i y b with ⟨_, z, d, e⟩ | ⟨d, _⟩
    · exact Or.inl ⟨a, z, d, e⟩
    · omega
  · exact Or.inr a
theorem NU.r {A B : PN} (h : NU A B) : NU B B := fun i x hx => by
  rcases h i x hx with ⟨a, _⟩ | a
  · exact Or.inl ⟨a, x, hx, a⟩
  · exact Or.inr a
/-- a NAME, what is behind it, and what it then is -/
theorem NU.chk {X : Int → Int} {n : Int} {st st4 : PS} {r : PS × Int} {nm2 : PN} {u : PS} {is a q : Int} (hA : NU st.2.1 st.2.1) (h1 : symS X n st = pOk r) (h2 : NU r.1.2.1 r.1.2.1 → NU r.1.2.1 nm2) (hu : u.2.1 = nm2) (his : is = 1 ∨ is = 2) (ha : 0 ≤ a) (h3 : chkS u r.2 is a q = pOk st4) : NU st.2.1 st4.2.1 := by
  have i1 := symS_i h1
  have hr : NU r.1.2.1 r.1.2.1 ∧ ∀ (i : Nat) y, i ≠ (r.2 - 1).toNat → r.1.2.1[i]? = some y → st.2.1[i]? = some y := by
    unfold symS at h1
    cases hm : nmF (wd X (tq X n st.1) (te X n st.1)) st.2.1 1 with
    | some k =>
      rw [hm] at h1
      cases h1
      exact ⟨hA, fun i y _ h => h⟩
    | none =>
      rw [hm] at h1
      dsimp only at h1
      by_cases h250 : st.2.1.length = 250
      · rw [if_pos h250] at h1; cases h1
      · rw [if_neg h250] at h1
        cases h1
        refine ⟨fun i x hx => ?_, fun i y hi hy => ?_⟩
        · have hx : (st.2.1 ++ [(wd X (tq X n st.1) (te X n st.1), (0 : Int), (0 : Int))])[i]? = some x := hx
          by_cases c : i < st.2.1.length
          · rw [List.getElem?_append_left c] at hx
            rcases hA i x hx with ⟨b, _⟩ | b
            · exact Or.inl ⟨b, x, by show (st.2.1 ++ _)[i]? = some x; rw [List.getElem?_append_left c]; exact hx, b⟩
            · exact Or.inr b
          · have hi : i = st.2.1.length := by
              have := (List.getElem?_eq_some_iff.mp hx).1
              rw [List.length_append] at this
              simp at this
              omega
            have hx2 := hx
            rw [hi, List.getElem?_append_right (Nat.le_refl _), Nat.sub_self] at hx2
            cases hx2
            exact Or.inl ⟨rfl, _, hx, rfl⟩
        · have hy : (st.2.1 ++ [(wd X (tq X n st.1) (te X n st.1), (0 : Int), (0 : Int))])[i]? = some y := hy
          have hi : i ≠ ((st.2.1.length : Int) + 1 - 1).toNat := hi
          have := (List.getElem?_eq_some_iff.mp hy).1
          rw [List.length_append] at this
          simp at this
          rw [List.getElem?_append_left (by omega)] at hy
          exact hy
  have h4 := h2 hr.1
  unfold chkS at h3
  cases hx : u.2.1[(r.2 - 1).toNat]? with
  | none => rw [hx] at h3; cases h3
  | some x =>
    rw [hx] at h3
    dsimp only at h3
    have key : ∀ (i : Nat) y, i ≠ (r.2 - 1).toNat → nm2[i]? = some y → (y.2.1 = 0 ∧ ∃ z, st.2.1[i]? = some z ∧ z.2.1 = 0) ∨ ((y.2.1 = 1 ∨ y.2.1 = 2) ∧ 0 ≤ y.2.2) := fun i y hi hy => by
      rcases h4 i y hy with ⟨b, z, c, d⟩ | b
      · exact Or.inl ⟨b, z, hr.2 i z hi c, d⟩
      · exact Or.inr b
    by_cases h0 : x.2.1 = 0
    · rw [if_pos h0] at h3
      cases h3
      intro i y hy
      have hy : (u.2.1.set (r.2 - 1).toNat (x.1, is, a))[i]? = some y := hy
      by_cases c : i = (r.2 - 1).toNat
      · subst c
        rw [List.getElem?_set_self (List.getElem?_eq_some_iff.mp hx).1] at hy
        cases hy
        exact Or.inr ⟨his, ha⟩
      · rw [List.getElem?_set_ne (by omega), hu] at hy
        exact key i y c hy
    · rw [if_neg h0] at h3
      by_cases h5 : x.2.1 = is ∧ x.2.2 = a
      · rw [if_pos h5] at h3
        cases h3
        intro i y hy
        by_cases c : i = (r.2 - 1).toNat
        · subst c
          rw [hx] at hy
          cases hy
          exact Or.inr ⟨by rw [h5.1]; exact his, by rw [h5.2]; exact ha⟩
        · rw [hu] at hy
          exact key i y c hy
      · rw [if_neg h5] at h3; cases h3
theorem varS_n {X : Int → Int} {n : Int} {st : PS} {a : PS × Int} (h2 : varS X n st = pOk a) : a.1.2.1 = st.2.1 := by
  unfold varS at h2
  cases hv : vrF X (wd X (tq X n st.1) (te X n st.1)) st.2.2.1 st.2.2.2.1 with
  | some u => rw [hv] at h2; cases h2; rfl
  | none =>
    rw [hv] at h2
    dsimp only at h2
    cases hv2 : vrF X (wd X (tq X n st.1) (te X n st.1)) st.2.2.1 st.2.2.2.2 with
    | some u => rw [hv2] at h2; cases h2; rfl
    | none =>
      rw [hv2] at h2
      dsimp only at h2
      unfold bndS at h2
      by_cases hb : st.2.2.1.length = 300
      · rw [if_pos hb] at h2; cases h2
      · rw [if_neg hb] at h2
        cases h2
        rfl
theorem sdS_n {X : Int → Int} {n : Int} : ∀ (m : Nat) (b : Bool) (d : Int) (st : PS) (a : PS × T), NU st.2.1 st.2.1 → sdS X n m b d st = pOk a → NU st.2.1 a.1.2.1
  | 0, b, d, st, a, _, h => by cases h
  | m + 1, true, d, st, a, hA, h => by
    unfold sdS at h
    obtain ⟨r, h1, h2⟩ := pb_y h
    have i1 := sdS_n m false d st r hA h1
    by_cases c1 : tk X n r.1.1 = 44
    · rw [if_pos c1] at h2
      obtain ⟨u, h3, h4⟩ := pb_y h2
      cases h4
      exact i1.tr (sdS_n m true d (adv X n r.1) u i1.r h3)
    · rw [if_neg c1] at h2
      by_cases c2 : tk X n r.1.1 = 41
      · rw [if_pos c2] at h2
        cases h2
        exact i1
      · rw [if_neg c2] at h2; cases h2
  | m + 1, false, d, st, a, hA, h => by
    unfold sdS at h
    by_cases c1 : tk X n st.1 = 1
    · rw [if_pos c1] at h
      obtain ⟨r, h1, h2⟩ := pb_y h
      cases h2
      show NU st.2.1 r.1.2.1
      rw [varS_n h1]; exact hA
    · rw [if_neg c1] at h
      by_cases c2 : tk X n st.1 = 2
      · rw [if_pos c2] at h
        obtain ⟨r, h1, h2⟩ := pb_y h
        obtain ⟨u, h3, h4⟩ := pb_y h2
        obtain ⟨st4, h5, h6⟩ := pb_y h4
        cases h6
        refine NU.chk hA h1 (fun hr => ?_) rfl (Or.inr rfl) (by omega) h5
        by_cases c40 : tk X n (adv X n r.1).1 = 40
        · rw [if_pos c40] at h3
          obtain ⟨dd, h7, h8⟩ := pb_y h3
          exact sdS_n m true dd (adv X n (adv X n r.1)) u hr h8
        · rw [if_neg c40] at h3
          cases h3
          exact hr
      · rw [if_neg c2] at h; cases h
theorem eqnS_n {X : Int → Int} {n : Int} {m : Nat} {t : T} {d : Int} {st : PS} {a : PS × Tm} (hA : NU st.2.1 st.2.1) (h : eqnS X n m t d st = pOk a) : NU st.2.1 a.1.2.1 := by
  unfold eqnS at h
  obtain ⟨r, h1, h2⟩ := pb_y h
  cases h2
  exact sdS_n m false d (adv X n st) r hA h1
theorem atmS_n {X : Int → Int} {n : Int} {m : Nat} {d : Int} {st : PS} {a : PS × Tm} (hA : NU st.2.1 st.2.1) (h : atmS X n m d st = pOk a) : NU st.2.1 a.1.2.1 := by
  unfold atmS at h
  by_cases c1 : tk X n st.1 = 1
  · rw [if_pos c1] at h
    obtain ⟨r, h1, h2⟩ := pb_y h
    by_cases c2 : tk X n (adv X n r.1).1 = 61 ∨ tk X n (adv X n r.1).1 = 300
    · rw [if_pos c2] at h2
      have e := varS_n h1
      have := eqnS_n (st := adv X n r.1) (by show NU r.1.2.1 r.1.2.1; rw [e]; exact hA) h2
      have this : NU r.1.2.1 a.1.2.1 := this
      rw [e] at this
      exact this
    · rw [if_neg c2] at h2; cases h2
  · rw [if_neg c1] at h
    obtain ⟨r, h1, h2⟩ := pb_y h
    obtain ⟨u, h3, h4⟩ := pb_y h2
    obtain ⟨s4, h5, h6⟩ := pb_y h4
    have k := NU.chk (nm2 := u.1.2.1) hA h1 (fun hr => by
      by_cases c40 : tk X n (adv X n r.1).1 = 40
      · rw [if_pos c40] at h3
        obtain ⟨dd, h7, h8⟩ := pb_y h3
        exact sdS_n m true dd (adv X n (adv X n r.1)) u hr h8
      · rw [if_neg c40] at h3
        cases h3
        exact hr) rfl (by split <;> simp) (by omega) h5
    by_cases c2 : tk X n u.1.1 = 61 ∨ tk X n u.1.1 = 300
    · rw [if_pos c2] at h6
      exact k.tr (eqnS_n k.r h6)
    · rw [if_neg c2] at h6
      cases h6
      exact k
theorem fmS_n {X : Int → Int} {n : Int} : ∀ (m lvl : Nat) (d : Int) (x : Tm) (st : PS) (a : PS × Tm), NU st.2.1 st.2.1 → fmS X n m lvl d x st = pOk a → NU st.2.1 a.1.2.1
  | 0, lvl, d, x, st, a, _, h => by cases h
  | m + 1, lvl, d, x, st, a, hA, h => by
    have ih := fmS_n (X := X) (n := n) m
    have unit : (if tk X n st.1 = 126 then pb (nstS X n d (adv X n st)) (fun d1 => pb (fmS X n m 4 d1 x (adv X n st)) (fun r => pOk (r.1, mk1 3 r.2)))
    else if tk X n st.1 = 33 ∨ tk X n st.1 = 63 then
      if tk X n (adv X n st).1 = 1 then pb (bdsS X n m (adv X n st)) (fun s1 => if tk X n s1.1 = 58 then pb (nstS X n d (adv X n s1)) (fun d1 => pb (fmS X n m 0 d1 x (adv X n s1)) (fun r => pOk ((r.1.1, r.1.2.1, r.1.2.2.1, st.2.2.2.1, r.1.2.2.2.2), qnt (if tk X n st.1 = 33 then 0 else 1) st.2.2.1.length (s1.2.2.1.length - st.2.2.1.length) r.2))) else pNo 1 (tq X n s1.1))
      else pNo 1 (tq X n (adv X n st).1)
    else if tk X n st.1 = 40 then pb (nstS X n d (adv X n st)) (fun d1 => pb (fmS X n m 0 d1 x (adv X n st)) (fun r => if tk X n r.1.1 = 41 then pOk (adv X n r.1, r.2) else pNo 1 (tq X n r.1.1)))
    else if tk X n st.1 = 1 ∨ tk X n st.1 = 2 then atmS X n m d st
    else pNo 1 (tq X n st.1)) = pOk a → NU st.2.1 a.1.2.1 := fun h => by
      by_cases c1 : tk X n st.1 = 126
      · rw [if_pos c1] at h
        obtain ⟨dd, h1, h2⟩ := pb_y h
        obtain ⟨r, h3, h4⟩ := pb_y h2
        cases h4
        exact ih 4 dd x (adv X n st) r hA h3
      rw [if_neg c1] at h
      by_cases c2 : tk X n st.1 = 33 ∨ tk X n st.1 = 63
      · rw [if_pos c2] at h
        by_cases c3 : tk X n (adv X n st).1 = 1
        · rw [if_pos c3] at h
          obtain ⟨s1, h1, h2⟩ := pb_y h
          by_cases c4 : tk X n s1.1 = 58
          · rw [if_pos c4] at h2
            obtain ⟨dd, h3, h4⟩ := pb_y h2
            obtain ⟨r, h5, h6⟩ := pb_y h4
            cases h6
            have e : s1.2.1 = st.2.1 := (bdsS_i m _ s1 h1).2.1
            have := ih 0 dd x (adv X n s1) r (by show NU s1.2.1 s1.2.1; rw [e]; exact hA) h5
            have this : NU s1.2.1 r.1.2.1 := this
            rw [e] at this
            exact this
          · rw [if_neg c4] at h2; cases h2
        · rw [if_neg c3] at h; cases h
      rw [if_neg c2] at h
      by_cases c5 : tk X n st.1 = 40
      · rw [if_pos c5] at h
        obtain ⟨dd, h1, h2⟩ := pb_y h
        obtain ⟨r, h3, h4⟩ := pb_y h2
        by_cases c6 : tk X n r.1.1 = 41
        · rw [if_pos c6] at h4
          cases h4
          exact ih 0 dd x (adv X n st) r hA h3
        · rw [if_neg c6] at h4; cases h4
      rw [if_neg c5] at h
      by_cases c7 : tk X n st.1 = 1 ∨ tk X n st.1 = 2
      · rw [if_pos c7] at h
        exact atmS_n hA h
      · rw [if_neg c7] at h; cases h
    match lvl, h with
    | 0, h =>
      obtain ⟨r, h1, h2⟩ := pb_y (show pb (fmS X n m 1 d x st) _ = pOk a from h)
      have i1 := ih 1 d x st r hA h1
      by_cases c : tk X n r.1.1 = 302
      · rw [if_pos c] at h2
        obtain ⟨u, h3, h4⟩ := pb_y h2
        cases h4
        exact i1.tr (ih 1 d x (adv X n r.1) u i1.r h3)
      · rw [if_neg c] at h2; cases h2; exact i1
    | 1, h =>
      obtain ⟨r, h1, h2⟩ := pb_y (show pb (fmS X n m 2 d x st) _ = pOk a from h)
      have i1 := ih 2 d x st r hA h1
      by_cases c : tk X n r.1.1 = 301
      · rw [if_pos c] at h2
        obtain ⟨dd, h3, h4⟩ := pb_y h2
        obtain ⟨u, h5, h6⟩ := pb_y h4
        cases h6
        exact i1.tr (ih 1 dd x (adv X n r.1) u i1.r h5)
      · rw [if_neg c] at h2; cases h2; exact i1
    | 2, h =>
      obtain ⟨r, h1, h2⟩ := pb_y (show pb (fmS X n m 3 d x st) _ = pOk a from h)
      have i1 := ih 3 d x st r hA h1
      exact i1.tr (ih 5 d r.2 r.1 a i1.r h2)
    | 3, h =>
      obtain ⟨r, h1, h2⟩ := pb_y (show pb (fmS X n m 4 d x st) _ = pOk a from h)
      have i1 := ih 4 d x st r hA h1
      exact i1.tr (ih 6 d r.2 r.1 a i1.r h2)
    | 5, h =>
      replace h : (if tk X n st.1 = 124 then pb (fmS X n m 3 d x (adv X n st)) (fun r => fmS X n m 5 d (mk2 5 x r.2) r.1) else pOk (st, x)) = pOk a := h
      by_cases c : tk X n st.1 = 124
      · rw [if_pos c] at h
        obtain ⟨u, h1, h2⟩ := pb_y h
        have i1 := ih 3 d x (adv X n st) u hA h1
        have i1 : NU st.2.1 u.1.2.1 := i1
        exact i1.tr (ih 5 d (mk2 5 x u.2) u.1 a i1.r h2)
      · rw [if_neg c] at h; cases h; exact hA
    | 6, h =>
      replace h : (if tk X n st.1 = 38 then pb (fmS X n m 4 d x (adv X n st)) (fun r => fmS X n m 6 d (mk2 4 x r.2) r.1) else pOk (st, x)) = pOk a := h
      by_cases c : tk X n st.1 = 38
      · rw [if_pos c] at h
        obtain ⟨u, h1, h2⟩ := pb_y h
        have i1 := ih 4 d x (adv X n st) u hA h1
        have i1 : NU st.2.1 u.1.2.1 := i1
        exact i1.tr (ih 6 d (mk2 4 x u.2) u.1 a i1.r h2)
      · rw [if_neg c] at h; cases h; exact hA
    | 4, h => exact unit h
    | l + 7, h => exact unit h
theorem seS_n {X : Int → Int} {n : Int} : ∀ (m : Nat) (st : PS) (L : List SE) (a : PS × List SE), NU [] st.2.1 → seS X n m st L = pOk a → NU [] a.1.2.1
  | 0, st, L, a, _, h => by cases h
  | m + 1, st, L, a, hA, h => by
    unfold seS at h
    by_cases c0 : tk X n st.1 = 0
    · rw [if_pos c0] at h; cases h; exact hA
    rw [if_neg c0] at h
    obtain ⟨r, h1, h2⟩ := pb_y h
    by_cases c46 : tk X n r.1.1 = 46
    · rw [if_pos c46] at h2
      have i1 := fmS_n m 0 0 (0, nl) _ r (by show NU st.2.1 st.2.1; exact hA.r) h1
      have i1 : NU st.2.1 r.1.2.1 := i1
      exact seS_n m (adv X n r.1) _ a (hA.tr i1) h2
    · rw [if_neg c46] at h2; cases h2
/-- what is known of a TEXT that was read -/
def TXo (nm : PN) (SL : List SE) (b : Nat) : Prop := SQ nm SL 0 b ∧ SU SL 0 b ∧ ∀ x ∈ nm, (x.2.1 = 1 ∨ x.2.1 = 2) ∧ 0 ≤ x.2.2
theorem TXo_of {X : Int → Int} {n : Int} (hn : n ≤ 20000) {m : Nat} {a : PS × List SE} (h : seS X n m (0, [], [], [], []) [] = pOk a) : TXo a.1.2.1 a.2 a.1.2.2.1.length := by
  refine ⟨seS_r hn m (0, [], [], [], []) [] a (show SQ [] [] 0 0 from Nat.le_refl 0) h, seS_u hn m (0, [], [], [], []) [] a (show SU [] 0 0 from rfl) h, fun x hx => ?_⟩
  have := seS_n m (0, [], [], [], []) [] a (fun i x hx => by cases hx) h
  obtain ⟨i, hi⟩ := List.getElem?_of_mem hx
  rcases this i x hi with ⟨_, y, hy, _⟩ | q
  · cases hy
  · exact q
