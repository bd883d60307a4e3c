/-! TERMS of a TEXT are not too deep -/
theorem ht_cat : ∀ {A B : T} {k : Nat}, ht A ≤ k → ht B ≤ k → ht (cat A B) ≤ k
  | .leaf _, B, k, _, h => h
  | .branch l x s, B, k, h, h2 => by
    have h : max (1 + ht x) (ht s) ≤ k := h
    show max (1 + ht x) (ht (cat s B)) ≤ k
    have := ht_cat (A := s) (B := B) (k := k) (by omega) h2
    omega
theorem ht_nd {l : Nat} {x s : T} : ht (nd l x s) = max (1 + ht x) (ht s) := rfl
theorem nst_y {X : Int → Int} {n d : Int} {st : PS} {dd : Int} (h : nstS X n d st = pOk dd) : dd = d + 1 ∧ d ≠ 60 := by
  unfold nstS at h
  by_cases c : d = 60
  · rw [if_pos c] at h; cases h
  · rw [if_neg c] at h; cases h; exact ⟨rfl, c⟩
theorem sdS_h {X : Int → Int} {n : Int} : ∀ (m : Nat) (b : Bool) (d : Int) (st : PS) (a : PS × T), 0 ≤ d → d ≤ 60 → sdS X n m b d st = pOk a → (ht a.2 : Int) ≤ 61 - d
  | 0, b, d, st, a, _, _, h => by cases h
  | m + 1, true, d, st, a, d0, d6, h => by
    unfold sdS at h
    obtain ⟨r, h1, h2⟩ := pb_y h
    have i1 := sdS_h m false d st r d0 d6 h1
    by_cases c1 : tk X n r.1.1 = 44
    · rw [if_pos c1] at h2
      obtain ⟨u, h3, h4⟩ := pb_y h2
      cases h4
      have i2 := sdS_h m true d (adv X n r.1) u d0 d6 h3
      have := ht_cat (A := r.2) (B := u.2) (k := (61 - d).toNat) (by omega) (by omega)
      show (ht (cat r.2 u.2) : Int) ≤ _
      omega
    · rw [if_neg c1] at h2
      by_cases c2 : tk X n r.1.1 = 41
      · rw [if_pos c2] at h2
        cases h2
        exact i1
      · rw [if_neg c2] at h2; cases h2
  | m + 1, false, d, st, a, d0, d6, h => by
    unfold sdS at h
    by_cases c1 : tk X n st.1 = 1
    · rw [if_pos c1] at h
      obtain ⟨r, h1, h2⟩ := pb_y h
      cases h2
      have : ht (nd (cu (-1 - r.2)) nl nl) = 1 := rfl
      show (ht (nd (cu (-1 - r.2)) nl nl) : Int) ≤ _
      omega
    · rw [if_neg c1] at h
      by_cases c2 : tk X n st.1 = 2
      · rw [if_pos c2] at h
        obtain ⟨r, h1, h2⟩ := pb_y h
        obtain ⟨u, h3, h4⟩ := pb_y h2
        obtain ⟨st4, h5, h6⟩ := pb_y h4
        cases h6
        have hu : (ht u.2 : Int) ≤ 60 - d := by
          by_cases c40 : tk X n (adv X n r.1).1 = 40
          · rw [if_pos c40] at h3
            obtain ⟨dd, h7, h8⟩ := pb_y h3
            obtain ⟨q1, q2⟩ := nst_y h7
            have := sdS_h m true dd (adv X n (adv X n r.1)) u (by omega) (by omega) h8
            omega
          · rw [if_neg c40] at h3
            cases h3
            show ((0 : Nat) : Int) ≤ 60 - d
            omega
        have e : ht (nd (cu r.2) u.2 nl) = max (1 + ht u.2) 0 := rfl
        show (ht (nd (cu r.2) u.2 nl) : Int) ≤ _
        omega
      · rw [if_neg c2] at h; cases h
theorem FH_at {l : Nat} {k : T} (hl : l ≤ 2) (h : ht k ≤ 100) : FH (tt (l, k)) := ⟨by rw [if_pos hl]; exact h, trivial⟩
theorem FH_u1 {l : Nat} {f : Tm} (hl : 3 ≤ l) (h : FH (tt f)) : FH (tt (mk1 l f)) := ⟨by rw [if_neg (by show ¬ l ≤ 2; omega)]; exact h, trivial⟩
theorem FH_u2 {l : Nat} {f g : Tm} (hl : 3 ≤ l) (h : FH (tt f)) (h2 : FH (tt g)) : FH (tt (mk2 l f g)) := ⟨by rw [if_neg (by show ¬ l ≤ 2; omega)]; exact ⟨h.1, h2⟩, trivial⟩
theorem FH_q {k first : Nat} : ∀ (j : Nat) {f : Tm}, FH (tt f) → FH (tt (qnt k first j f))
  | 0, f, h => h
  | j + 1, f, h => FH_q j (FH_u1 (by omega) h)
theorem eqnS_h {X : Int → Int} {n : Int} {m : Nat} {t : T} {d : Int} {st : PS} {a : PS × Tm} (d0 : 0 ≤ d) (d6 : d ≤ 60) (ht' : ht t ≤ 61) (h : eqnS X n m t d st = pOk a) : FH (tt a.2) := by
  unfold eqnS at h
  obtain ⟨r, h1, h2⟩ := pb_y h
  cases h2
  have := sdS_h m false d (adv X n st) r d0 d6 h1
  have := ht_cat (A := t) (B := r.2) (k := 61) ht' (by omega)
  refine FH_at ?_ (Nat.le_trans this (by omega))
  split <;> omega
theorem atmS_h {X : Int → Int} {n : Int} {m : Nat} {d : Int} {st : PS} {a : PS × Tm} (d0 : 0 ≤ d) (d6 : d ≤ 60) (h : atmS X n m d st = pOk a) : FH (tt a.2) := by
  unfold atmS at h
  by_cases c1 : tk X n st.1 = 1
  · rw [if_pos c1] at h
    obtain ⟨r, h1, h2⟩ := pb_y h
    by_cases c2 : tk X n (adv X n r.1).1 = 61 ∨ tk X n (adv X n r.1).1 = 300
    · rw [if_pos c2] at h2
      exact eqnS_h d0 d6 (show ht (nd (cu (-1 - r.2)) nl nl) ≤ 61 from (by decide : (1 : Nat) ≤ 61)) h2
    · rw [if_neg c2] at h2; cases h2
  · rw [if_neg c1] at h
    obtain ⟨r, h1, h2⟩ := pb_y h
    obtain ⟨u, h3, h4⟩ := pb_y h2
    obtain ⟨s4, h5, h6⟩ := pb_y h4
    have hu : ht u.2 ≤ 60 := by
      by_cases c40 : tk X n (adv X n r.1).1 = 40
      · rw [if_pos c40] at h3
        obtain ⟨dd, h7, h8⟩ := pb_y h3
        obtain ⟨q1, q2⟩ := nst_y h7
        have := sdS_h m true dd (adv X n (adv X n r.1)) u (by omega) (by omega) h8
        omega
      · rw [if_neg c40] at h3
        cases h3
        show (0 : Nat) ≤ 60
        omega
    have e : ht (nd (cu r.2) u.2 nl) = max (1 + ht u.2) 0 := rfl
    by_cases c2 : tk X n u.1.1 = 61 ∨ tk X n u.1.1 = 300
    · rw [if_pos c2] at h6
      exact eqnS_h d0 d6 (by omega) h6
    · rw [if_neg c2] at h6
      cases h6
      exact FH_at (by omega) (by show ht (nd (cu r.2) u.2 nl) ≤ 100; omega)
theorem fmS_h {X : Int → Int} {n : Int} : ∀ (m lvl : Nat) (d : Int) (x : Tm) (st : PS) (a : PS × Tm), 0 ≤ d → d ≤ 60 → (lvl = 5 ∨ lvl = 6 → FH (tt x)) → fmS X n m lvl d x st = pOk a → FH (tt a.2)
  | 0, lvl, d, x, st, a, _, _, _, h => by cases h
  | m + 1, lvl, d, x, st, a, d0, d6, hA, h => by
    have ih := fmS_h (X := X) (n := n) m
    have unit : (if tk X n st.1 = 126 then pb (nstS X n d (adv X n st)) (fun d1 => pb (fmS X n m 4 d1 x (adv X n st)) (fun r => pOk (r.1, mk1 3 r.2)))
    else if tk X n st.1 = 33 ∨ tk X n st.1 = 63 then
      if tk X n (adv X n st).1 = 1 then pb (bdsS X n m (adv X n st)) (fun s1 => if tk X n s1.1 = 58 then pb (nstS X n d (adv X n s1)) (fun d1 => pb (fmS X n m 0 d1 x (adv X n s1)) (fun r => pOk ((r.1.1, r.1.2.1, r.1.2.2.1, st.2.2.2.1, r.1.2.2.2.2), qnt (if tk X n st.1 = 33 then 0 else 1) st.2.2.1.length (s1.2.2.1.length - st.2.2.1.length) r.2))) else pNo 1 (tq X n s1.1))
      else pNo 1 (tq X n (adv X n st).1)
    else if tk X n st.1 = 40 then pb (nstS X n d (adv X n st)) (fun d1 => pb (fmS X n m 0 d1 x (adv X n st)) (fun r => if tk X n r.1.1 = 41 then pOk (adv X n r.1, r.2) else pNo 1 (tq X n r.1.1)))
    else if tk X n st.1 = 1 ∨ tk X n st.1 = 2 then atmS X n m d st
    else pNo 1 (tq X n st.1)) = pOk a → FH (tt a.2) := fun h => by
      by_cases c1 : tk X n st.1 = 126
      · rw [if_pos c1] at h
        obtain ⟨dd, h1, h2⟩ := pb_y h
        obtain ⟨r, h3, h4⟩ := pb_y h2
        cases h4
        obtain ⟨q1, q2⟩ := nst_y h1
        exact FH_u1 (by omega) (ih 4 dd x (adv X n st) r (by omega) (by omega) (by intro h; omega) h3)
      rw [if_neg c1] at h
      by_cases c2 : tk X n st.1 = 33 ∨ tk X n st.1 = 63
      · rw [if_pos c2] at h
        by_cases c3 : tk X n (adv X n st).1 = 1
        · rw [if_pos c3] at h
          obtain ⟨s1, h1, h2⟩ := pb_y h
          by_cases c4 : tk X n s1.1 = 58
          · rw [if_pos c4] at h2
            obtain ⟨dd, h3, h4⟩ := pb_y h2
            obtain ⟨r, h5, h6⟩ := pb_y h4
            cases h6
            obtain ⟨q1, q2⟩ := nst_y h3
            exact FH_q _ (ih 0 dd x (adv X n s1) r (by omega) (by omega) (by intro h; omega) h5)
          · rw [if_neg c4] at h2; cases h2
        · rw [if_neg c3] at h; cases h
      rw [if_neg c2] at h
      by_cases c5 : tk X n st.1 = 40
      · rw [if_pos c5] at h
        obtain ⟨dd, h1, h2⟩ := pb_y h
        obtain ⟨r, h3, h4⟩ := pb_y h2
        by_cases c6 : tk X n r.1.1 = 41
        · rw [if_pos c6] at h4
          cases h4
          obtain ⟨q1, q2⟩ := nst_y h1
          exact ih 0 dd x (adv X n st) r (by omega) (by omega) (by intro h; omega) h3
        · rw [if_neg c6] at h4; cases h4
      rw [if_neg c5] at h
      by_cases c7 : tk X n st.1 = 1 ∨ tk X n st.1 = 2
      · rw [if_pos c7] at h
        exact atmS_h d0 d6 h
      · rw [if_neg c7] at h; cases h
    match lvl, hA, h with
    | 0, _, h =>
      obtain ⟨r, h1, h2⟩ := pb_y (show pb (fmS X n m 1 d x st) _ = pOk a from h)
      have i1 := ih 1 d x st r d0 d6 (by intro h; omega) h1
      by_cases c : tk X n r.1.1 = 302
      · rw [if_pos c] at h2
        obtain ⟨u, h3, h4⟩ := pb_y h2
        cases h4
        exact FH_u2 (by omega) i1 (ih 1 d x (adv X n r.1) u d0 d6 (by intro h; omega) h3)
      · rw [if_neg c] at h2; cases h2; exact i1
    | 1, _, h =>
      obtain ⟨r, h1, h2⟩ := pb_y (show pb (fmS X n m 2 d x st) _ = pOk a from h)
      have i1 := ih 2 d x st r d0 d6 (by intro h; omega) h1
      by_cases c : tk X n r.1.1 = 301
      · rw [if_pos c] at h2
        obtain ⟨dd, h3, h4⟩ := pb_y h2
        obtain ⟨u, h5, h6⟩ := pb_y h4
        cases h6
        obtain ⟨q1, q2⟩ := nst_y h3
        exact FH_u2 (by omega) i1 (ih 1 dd x (adv X n r.1) u (by omega) (by omega) (by intro h; omega) h5)
      · rw [if_neg c] at h2; cases h2; exact i1
    | 2, _, h =>
      obtain ⟨r, h1, h2⟩ := pb_y (show pb (fmS X n m 3 d x st) _ = pOk a from h)
      have i1 := ih 3 d x st r d0 d6 (by intro h; omega) h1
      exact ih 5 d r.2 r.1 a d0 d6 (fun _ => i1) h2
    | 3, _, h =>
      obtain ⟨r, h1, h2⟩ := pb_y (show pb (fmS X n m 4 d x st) _ = pOk a from h)
      have i1 := ih 4 d x st r d0 d6 (by intro h; omega) h1
      exact ih 6 d r.2 r.1 a d0 d6 (fun _ => i1) h2
    | 5, hA, h =>
      replace h : (if tk X n st.1 = 124 then pb (fmS X n m 3 d x (adv X n st)) (fun r => fmS X n m 5 d (mk2 5 x r.2) r.1) else pOk (st, x)) = pOk a := h
      have hx := hA (Or.inl rfl)
      by_cases c : tk X n st.1 = 124
      · rw [if_pos c] at h
        obtain ⟨u, h1, h2⟩ := pb_y h
        have i1 := ih 3 d x (adv X n st) u d0 d6 (by intro h; omega) h1
        exact ih 5 d (mk2 5 x u.2) u.1 a d0 d6 (fun _ => FH_u2 (by omega) hx i1) h2
      · rw [if_neg c] at h; cases h; exact hx
    | 6, hA, h =>
      replace h : (if tk X n st.1 = 38 then pb (fmS X n m 4 d x (adv X n st)) (fun r => fmS X n m 6 d (mk2 4 x r.2) r.1) else pOk (st, x)) = pOk a := h
      have hx := hA (Or.inr rfl)
      by_cases c : tk X n st.1 = 38
      · rw [if_pos c] at h
        obtain ⟨u, h1, h2⟩ := pb_y h
        have i1 := ih 4 d x (adv X n st) u d0 d6 (by intro h; omega) h1
        exact ih 6 d (mk2 4 x u.2) u.1 a d0 d6 (fun _ => FH_u2 (by omega) hx i1) h2
      · rw [if_neg c] at h; cases h; exact hx
    | 4, _, h => exact unit h
    | l + 7, _, h => exact unit h
theorem seS_h {X : Int → Int} {n : Int} : ∀ (m : Nat) (st : PS) (L : List SE) (a : PS × List SE), (∀ e ∈ L, FH (tt e.2.2.1)) → seS X n m st L = pOk a → ∀ e ∈ a.2, FH (tt e.2.2.1)
  | 0, st, L, a, _, h => by cases h
  | m + 1, st, L, a, hA, h => by
    unfold seS at h
    by_cases c0 : tk X n st.1 = 0
    · rw [if_pos c0] at h; cases h; exact hA
    rw [if_neg c0] at h
    obtain ⟨r, h1, h2⟩ := pb_y h
    by_cases c46 : tk X n r.1.1 = 46
    · rw [if_pos c46] at h2
      have i1 := fmS_h m 0 0 (0, nl) _ r (by omega) (by omega) (by intro h; omega) h1
      refine seS_h m (adv X n r.1) _ a (fun e he => ?_) h2
      rcases List.mem_append.mp he with he | he
      · exact hA e he
      · rw [List.mem_singleton.mp he]; exact i1
    · rw [if_neg c46] at h2; cases h2
