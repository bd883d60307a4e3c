/-! every sign of a NAME is one of a byte -/
def NB (nm : PN) : Prop := ∀ x ∈ nm, ∀ c ∈ x.1, -128 ≤ c ∧ c ≤ 127
theorem NB.sym {X : Int → Int} {n : Int} {st : PS} {r : PS × Int} (hk : tk X n st.1 = 2) (hA : NB st.2.1) (h1 : symS X n st = pOk r) : NB r.1.2.1 := by
  unfold symS at h1
  cases hm : nmF (wd X (tq X n st.1) (te X n st.1)) st.2.1 1 with
  | some k => rw [hm] at h1; cases h1; exact hA
  | none =>
    rw [hm] at h1
    dsimp only at h1
    by_cases h250 : st.2.1.length = 250
    · rw [if_pos h250] at h1; cases h1
    · rw [if_neg h250] at h1
      cases h1
      intro x hx c hc
      have hx : x ∈ st.2.1 ++ [(wd X (tq X n st.1) (te X n st.1), (0 : Int), (0 : Int))] := hx
      rcases List.mem_append.mp hx with q | q
      · exact hA x q c hc
      · rw [List.mem_singleton] at q
        subst q
        have hc : c ∈ wd X (tq X n st.1) (te X n st.1) := hc
        obtain ⟨i, hi, rfl⟩ := List.mem_map.mp hc
        have hi := List.mem_range.mp hi
        have e : te X n st.1 = we X n (tq X n st.1) := by
          unfold te tq
          unfold tk at hk
          unfold tok at hk ⊢
          by_cases z0 : n ≤ sk X n st.1
          · rw [if_pos z0] at hk; exact absurd hk (by simp)
          · rw [if_neg z0] at hk ⊢
            by_cases z1 : cLt (X (sk X n st.1))
            · rw [if_pos z1]
            · rw [if_neg z1] at hk
              exfalso
              unfold sgn at hk
              repeat' split at hk
              all_goals (simp at hk <;> omega)
        have hw : cIw (X (tq X n st.1 + (i : Int))) := wep_iw _ (tq X n st.1) _ (by omega) (by
          have : te X n st.1 = wep X n (n - tq X n st.1).toNat (tq X n st.1) := e
          rw [← this]; omega)
        simp only [cIw, cLt] at hw
        omega
theorem NB.chk {st4 u : PS} {k is a q : Int} (h : NB u.2.1) (h3 : chkS u k is a q = pOk st4) : NB st4.2.1 := by
  unfold chkS at h3
  cases hx : u.2.1[(k - 1).toNat]? with
  | none => rw [hx] at h3; cases h3
  | some x =>
    rw [hx] at h3
    dsimp only at h3
    by_cases h0 : x.2.1 = 0
    · rw [if_pos h0] at h3
      cases h3
      intro y hy c hc
      have hy : y ∈ u.2.1.set (k - 1).toNat (x.1, is, a) := hy
      rcases List.mem_or_eq_of_mem_set hy with z | z
      · exact h y z c hc
      · subst z
        exact h x (List.mem_of_getElem? hx) c hc
    · rw [if_neg h0] at h3
      by_cases h5 : x.2.1 = is ∧ x.2.2 = a
      · rw [if_pos h5] at h3; cases h3; exact h
      · rw [if_neg h5] at h3; cases h3
theorem sdS_nb {X : Int → Int} {n : Int} : ∀ (m : Nat) (b : Bool) (d : Int) (st : PS) (a : PS × T), NB st.2.1 → sdS X n m b d st = pOk a → NB a.1.2.1
  | 0, b, d, st, a, _, h => by cases h
  | m + 1, true, d, st, a, hA, h => by
    unfold sdS at h
    obtain ⟨r, h1, h2⟩ := pb_y h
    have i1 := sdS_nb m false d st r hA h1
    by_cases c1 : tk X n r.1.1 = 44
    · rw [if_pos c1] at h2
      obtain ⟨u, h3, h4⟩ := pb_y h2
      cases h4
      exact (sdS_nb m true d (adv X n r.1) u i1 h3)
    · rw [if_neg c1] at h2
      by_cases c2 : tk X n r.1.1 = 41
      · rw [if_pos c2] at h2
        cases h2
        exact i1
      · rw [if_neg c2] at h2; cases h2
  | m + 1, false, d, st, a, hA, h => by
    unfold sdS at h
    by_cases c1 : tk X n st.1 = 1
    · rw [if_pos c1] at h
      obtain ⟨r, h1, h2⟩ := pb_y h
      cases h2
      show NB r.1.2.1
      rw [varS_n h1]; exact hA
    · rw [if_neg c1] at h
      by_cases c2 : tk X n st.1 = 2
      · rw [if_pos c2] at h
        obtain ⟨r, h1, h2⟩ := pb_y h
        obtain ⟨u, h3, h4⟩ := pb_y h2
        obtain ⟨st4, h5, h6⟩ := pb_y h4
        cases h6
        have hr : NB r.1.2.1 := NB.sym c2 hA h1
        refine NB.chk ?_ h5
        by_cases c40 : tk X n (adv X n r.1).1 = 40
        · rw [if_pos c40] at h3
          obtain ⟨dd, h7, h8⟩ := pb_y h3
          exact sdS_nb m true dd (adv X n (adv X n r.1)) u hr h8
        · rw [if_neg c40] at h3
          cases h3
          exact hr
      · rw [if_neg c2] at h; cases h
theorem eqnS_nb {X : Int → Int} {n : Int} {m : Nat} {t : T} {d : Int} {st : PS} {a : PS × Tm} (hA : NB st.2.1) (h : eqnS X n m t d st = pOk a) : NB a.1.2.1 := by
  unfold eqnS at h
  obtain ⟨r, h1, h2⟩ := pb_y h
  cases h2
  exact sdS_nb m false d (adv X n st) r hA h1
theorem atmS_nb {X : Int → Int} {n : Int} {m : Nat} {d : Int} {st : PS} {a : PS × Tm} (hk : tk X n st.1 = 1 ∨ tk X n st.1 = 2) (hA : NB st.2.1) (h : atmS X n m d st = pOk a) : NB a.1.2.1 := by
  unfold atmS at h
  by_cases c1 : tk X n st.1 = 1
  · rw [if_pos c1] at h
    obtain ⟨r, h1, h2⟩ := pb_y h
    by_cases c2 : tk X n (adv X n r.1).1 = 61 ∨ tk X n (adv X n r.1).1 = 300
    · rw [if_pos c2] at h2
      have e := varS_n h1
      have := eqnS_nb (st := adv X n r.1) (by show NB r.1.2.1; rw [e]; exact hA) h2
      have this : NB a.1.2.1 := this
      exact this
    · rw [if_neg c2] at h2; cases h2
  · rw [if_neg c1] at h
    obtain ⟨r, h1, h2⟩ := pb_y h
    obtain ⟨u, h3, h4⟩ := pb_y h2
    obtain ⟨s4, h5, h6⟩ := pb_y h4
    have hr : NB r.1.2.1 := NB.sym (hk.resolve_left c1) hA h1
    have k : NB s4.2.1 := NB.chk (by
      by_cases c40 : tk X n (adv X n r.1).1 = 40
      · rw [if_pos c40] at h3
        obtain ⟨dd, h7, h8⟩ := pb_y h3
        exact sdS_nb m true dd (adv X n (adv X n r.1)) u hr h8
      · rw [if_neg c40] at h3
        cases h3
        exact hr) h5
    by_cases c2 : tk X n u.1.1 = 61 ∨ tk X n u.1.1 = 300
    · rw [if_pos c2] at h6
      exact eqnS_nb (st := s4) k h6
    · rw [if_neg c2] at h6
      cases h6
      exact k
theorem fmS_nb {X : Int → Int} {n : Int} : ∀ (m lvl : Nat) (d : Int) (x : Tm) (st : PS) (a : PS × Tm), NB st.2.1 → fmS X n m lvl d x st = pOk a → NB a.1.2.1
  | 0, lvl, d, x, st, a, _, h => by cases h
  | m + 1, lvl, d, x, st, a, hA, h => by
    have ih := fmS_nb (X := X) (n := n) m
    have unit : (if tk X n st.1 = 126 then pb (nstS X n d (adv X n st)) (fun d1 => pb (fmS X n m 4 d1 x (adv X n st)) (fun r => pOk (r.1, mk1 3 r.2)))
    else if tk X n st.1 = 33 ∨ tk X n st.1 = 63 then
      if tk X n (adv X n st).1 = 1 then pb (bdsS X n m (adv X n st)) (fun s1 => if tk X n s1.1 = 58 then pb (nstS X n d (adv X n s1)) (fun d1 => pb (fmS X n m 0 d1 x (adv X n s1)) (fun r => pOk ((r.1.1, r.1.2.1, r.1.2.2.1, st.2.2.2.1, r.1.2.2.2.2), qnt (if tk X n st.1 = 33 then 0 else 1) st.2.2.1.length (s1.2.2.1.length - st.2.2.1.length) r.2))) else pNo 1 (tq X n s1.1))
      else pNo 1 (tq X n (adv X n st).1)
    else if tk X n st.1 = 40 then pb (nstS X n d (adv X n st)) (fun d1 => pb (fmS X n m 0 d1 x (adv X n st)) (fun r => if tk X n r.1.1 = 41 then pOk (adv X n r.1, r.2) else pNo 1 (tq X n r.1.1)))
    else if tk X n st.1 = 1 ∨ tk X n st.1 = 2 then atmS X n m d st
    else pNo 1 (tq X n st.1)) = pOk a → NB a.1.2.1 := fun h => by
      by_cases c1 : tk X n st.1 = 126
      · rw [if_pos c1] at h
        obtain ⟨dd, h1, h2⟩ := pb_y h
        obtain ⟨r, h3, h4⟩ := pb_y h2
        cases h4
        exact ih 4 dd x (adv X n st) r hA h3
      rw [if_neg c1] at h
      by_cases c2 : tk X n st.1 = 33 ∨ tk X n st.1 = 63
      · rw [if_pos c2] at h
        by_cases c3 : tk X n (adv X n st).1 = 1
        · rw [if_pos c3] at h
          obtain ⟨s1, h1, h2⟩ := pb_y h
          by_cases c4 : tk X n s1.1 = 58
          · rw [if_pos c4] at h2
            obtain ⟨dd, h3, h4⟩ := pb_y h2
            obtain ⟨r, h5, h6⟩ := pb_y h4
            cases h6
            have e : s1.2.1 = st.2.1 := (bdsS_i m _ s1 h1).2.1
            have := ih 0 dd x (adv X n s1) r (by show NB s1.2.1; rw [e]; exact hA) h5
            have this : NB r.1.2.1 := this
            exact this
          · rw [if_neg c4] at h2; cases h2
        · rw [if_neg c3] at h; cases h
      rw [if_neg c2] at h
      by_cases c5 : tk X n st.1 = 40
      · rw [if_pos c5] at h
        obtain ⟨dd, h1, h2⟩ := pb_y h
        obtain ⟨r, h3, h4⟩ := pb_y h2
        by_cases c6 : tk X n r.1.1 = 41
        · rw [if_pos c6] at h4
          cases h4
          exact ih 0 dd x (adv X n st) r hA h3
        · rw [if_neg c6] at h4; cases h4
      rw [if_neg c5] at h
      by_cases c7 : tk X n st.1 = 1 ∨ tk X n st.1 = 2
      · rw [if_pos c7] at h
        exact atmS_nb c7 hA h
      · rw [if_neg c7] at h; cases h
    match lvl, h with
    | 0, h =>
      obtain ⟨r, h1, h2⟩ := pb_y (show pb (fmS X n m 1 d x st) _ = pOk a from h)
      have i1 := ih 1 d x st r hA h1
      by_cases c : tk X n r.1.1 = 302
      · rw [if_pos c] at h2
        obtain ⟨u, h3, h4⟩ := pb_y h2
        cases h4
        exact (ih 1 d x (adv X n r.1) u i1 h3)
      · rw [if_neg c] at h2; cases h2; exact i1
    | 1, h =>
      obtain ⟨r, h1, h2⟩ := pb_y (show pb (fmS X n m 2 d x st) _ = pOk a from h)
      have i1 := ih 2 d x st r hA h1
      by_cases c : tk X n r.1.1 = 301
      · rw [if_pos c] at h2
        obtain ⟨dd, h3, h4⟩ := pb_y h2
        obtain ⟨u, h5, h6⟩ := pb_y h4
        cases h6
        exact (ih 1 dd x (adv X n r.1) u i1 h5)
      · rw [if_neg c] at h2; cases h2; exact i1
    | 2, h =>
      obtain ⟨r, h1, h2⟩ := pb_y (show pb (fmS X n m 3 d x st) _ = pOk a from h)
      have i1 := ih 3 d x st r hA h1
      exact (ih 5 d r.2 r.1 a i1 h2)
    | 3, h =>
      obtain ⟨r, h1, h2⟩ := pb_y (show pb (fmS X n m 4 d x st) _ = pOk a from h)
      have i1 := ih 4 d x st r hA h1
      exact (ih 6 d r.2 r.1 a i1 h2)
    | 5, h =>
      replace h : (if tk X n st.1 = 124 then pb (fmS X n m 3 d x (adv X n st)) (fun r => fmS X n m 5 d (mk2 5 x r.2) r.1) else pOk (st, x)) = pOk a := h
      by_cases c : tk X n st.1 = 124
      · rw [if_pos c] at h
        obtain ⟨u, h1, h2⟩ := pb_y h
        have i1 := ih 3 d x (adv X n st) u hA h1
        have i1 : NB u.1.2.1 := i1
        exact (ih 5 d (mk2 5 x u.2) u.1 a i1 h2)
      · rw [if_neg c] at h; cases h; exact hA
    | 6, h =>
      replace h : (if tk X n st.1 = 38 then pb (fmS X n m 4 d x (adv X n st)) (fun r => fmS X n m 6 d (mk2 4 x r.2) r.1) else pOk (st, x)) = pOk a := h
      by_cases c : tk X n st.1 = 38
      · rw [if_pos c] at h
        obtain ⟨u, h1, h2⟩ := pb_y h
        have i1 := ih 4 d x (adv X n st) u hA h1
        have i1 : NB u.1.2.1 := i1
        exact (ih 6 d (mk2 4 x u.2) u.1 a i1 h2)
      · rw [if_neg c] at h; cases h; exact hA
    | 4, h => exact unit h
    | l + 7, h => exact unit h
theorem seS_nb {X : Int → Int} {n : Int} : ∀ (m : Nat) (st : PS) (L : List SE) (a : PS × List SE), NB st.2.1 → seS X n m st L = pOk a → NB a.1.2.1
  | 0, st, L, a, _, h => by cases h
  | m + 1, st, L, a, hA, h => by
    unfold seS at h
    by_cases c0 : tk X n st.1 = 0
    · rw [if_pos c0] at h; cases h; exact hA
    rw [if_neg c0] at h
    obtain ⟨r, h1, h2⟩ := pb_y h
    by_cases c46 : tk X n r.1.1 = 46
    · rw [if_pos c46] at h2
      have i1 := fmS_nb m 0 0 (0, nl) _ r (by show NB st.2.1; exact hA) h1
      have i1 : NB r.1.2.1 := i1
      exact seS_nb m (adv X n r.1) _ a i1 h2
    · rw [if_neg c46] at h2; cases h2
