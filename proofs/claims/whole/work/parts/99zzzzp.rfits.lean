/-! the reference: whether a row fits -/
def RF2 (σ : zS) (E : List En) : Prop := σ.1 98 = (E.length : Int) ∧ E.length ≤ 8 ∧ ∀ (i : Nat) e, E[i]? = some e → (σ.2.1 95 (i : Int) = e.2.1 ∧ σ.2.1 96 (i : Int) = e.2.2) ∧ Px σ e.1.2.1 e.2.1 ∧ Px σ e.1.2.2 e.2.2
theorem RF2.f {I A : List Nat} {σ τ : zS} {E : List En} (h : RF2 σ E) (f : FrC I A σ τ) (i1 : I.elem 98 = false := by decide) (a1 : A.elem 95 = false := by decide) (a2 : A.elem 96 = false := by decide) (a3 : A.elem 43 = false := by decide) (a4 : A.elem 44 = false := by decide) (a5 : A.elem 45 = false := by decide) (a6 : A.elem 46 = false := by decide) : RF2 τ E := by
  obtain ⟨q1, q2, q3⟩ := h
  refine ⟨by rw [f.1 98 i1]; exact q1, q2, fun i d hd => ?_⟩
  obtain ⟨⟨r1, r2⟩, r4, r5⟩ := q3 i d hd
  exact ⟨⟨by rw [f.2.1 95 _ a1]; exact r1, by rw [f.2.1 96 _ a2]; exact r2⟩, Px_q r4 (f.pq a3 a4 a5 a6), Px_q r5 (f.pq a3 a4 a5 a6)⟩
theorem add_f {β : Nat} {σ : zS} {E : List En} {a : Lt} {x y : Int} (h : RF2 σ E) (hl : E.length < 8) (hx : Px σ a.2.1 x) (hy : Px σ a.2.2 y) : ∃ τ, zE tM_add β σ [x, y, 1] = some (τ, 0) ∧ FrC [98] [95, 96, 97] σ τ ∧ RF2 τ (E ++ [(a, x, y)]) := by
  obtain ⟨h1, h2, h3⟩ := id h
  obtain ⟨τ, hτ⟩ : ∃ z, z = zA (zI (zA (zA σ 95 (E.length : Int) x) 96 (E.length : Int) y) 98 ((E.length : Int) + 1)) 97 (E.length : Int) 1 := ⟨_, rfl⟩
  have f : FrC [98] [95, 96, 97] σ τ := by
    have b1 : FrC [98] [95, 96, 97] σ (zA σ 95 (E.length : Int) x) := FrC_A
    have b2 : FrC [98] [95, 96, 97] (zA σ 95 (E.length : Int) x) (zA (zA σ 95 (E.length : Int) x) 96 (E.length : Int) y) := FrC_A
    have b3 : FrC [98] [95, 96, 97] (zA (zA σ 95 (E.length : Int) x) 96 (E.length : Int) y) (zI (zA (zA σ 95 (E.length : Int) x) 96 (E.length : Int) y) 98 ((E.length : Int) + 1)) := FrC_I
    rw [hτ]
    exact ((b1.trans b2).trans b3).trans FrC_A
  refine ⟨τ, ?_, f, ?_, by simp; omega, fun i e he => ?_⟩
  · rw [zq_add, kZ_add, h1, if_pos (by omega), lt_e, zA_1, h1, if_pos (by omega), lt_e, zA_1, zA_1, h1, if_pos (by omega), lt_e, if_pos (by omega), if_pos (by omega), lt_e, ← hτ]
  · rw [hτ, zA_1, zI_1]; simp
  · by_cases hi : i < E.length
    · rw [List.getElem?_append_left hi] at he
      obtain ⟨⟨r1, r2⟩, r4, r5⟩ := h3 i e he
      have hq : (i : Int) ≠ (E.length : Int) := by omega
      have o : ∀ j, τ.2.1 j (i : Int) = σ.2.1 j (i : Int) := fun j => by rw [hτ, zA_i hq, zI_2, zA_i hq, zA_i hq]
      exact ⟨⟨by rw [o]; exact r1, by rw [o]; exact r2⟩, Px_q r4 f.pq, Px_q r5 f.pq⟩
    · have hi2 : i = E.length := by
        have := (List.getElem?_eq_some_iff.mp he).1
        simp at this; omega
      subst hi2
      rw [List.getElem?_append_right (Nat.le_refl _), Nat.sub_self] at he
      obtain rfl := Option.some.inj he
      refine ⟨⟨?_, ?_⟩, Px_q hx f.pq, Px_q hy f.pq⟩
      · rw [hτ, zA_j, zI_2, zA_j, zA_s]
      · rw [hτ, zA_j, zI_2, zA_s]
theorem dis2_7 {β : Nat} (hβ : 101 ≤ β) : ∀ (R D : List En) (N : List Int) (σ : zS) (E : List En), E = D ++ R → RF2 σ E → Nm σ N → N.length + wtL (lts R) ≤ 100 → ∃ τ, zE tM_distinct_7 β σ [(D.length : Int)] = some (τ, ((ntL N (lts R)).length : Int)) ∧ FrC [101] [100] σ τ
  | [], D, N, σ, E, hE, hQ, hN, hw => by
    rw [List.append_nil] at hE
    refine ⟨σ, ?_, FrC.refl⟩
    rw [zq_distinct_7, kZ_distinct_7, hQ.1, hE, if_pos (Int.le_refl _), hN.1]; rfl
  | e :: R, D, N, σ, E, hE, hQ, hN, hw => by
    have hl : E.length = D.length + (R.length + 1) := by rw [hE]; simp
    have he : E[D.length]? = some e := by rw [hE, List.getElem?_append_right (Nat.le_refl _), Nat.sub_self]; rfl
    have hE' : E = (D ++ [e]) ++ R := by rw [hE]; simp
    obtain ⟨⟨s1, s2⟩, p1, p2⟩ := hQ.2.2 D.length e he
    have l8 := hQ.2.1
    have e1 : tw e.1.2.1 = 1 + wt e.1.2.1.2 := rfl
    have e2 : tw e.1.2.2 = 1 + wt e.1.2.2.2 := rfl
    have h1 := ht_le_wt e.1.2.1.2
    have h2 := ht_le_wt e.1.2.2.2
    have ew : wtL (lts (e :: R)) = tw e.1.2.1 + tw e.1.2.2 + wtL (lts R) := rfl
    have n1 := nt_len (tt e.1.2.1) N
    have n2 := nt_len (tt e.1.2.2) (nt N (tt e.1.2.1))
    rw [tt_wt] at n1 n2
    have fr : ∀ {σ τ : zS}, Sn 0 0 σ τ → FrC [101] [100] σ τ := fun {σ τ} h => ⟨fun j hj => h.1 j (fun e => by subst e; cases hj), fun j q hj => h.2.2 j q (fun e => by subst e; cases hj) (by omega), fun j _ _ _ => by rw [h.2.1], Mg.of h.2.1⟩
    obtain ⟨σ1, a1, a2, a3⟩ := note_ok (β := β - 1) p1.1 p1.2 hN (by omega) (by omega)
    have f1 := fr a2
    have a3' : Nm σ1 (nt N (tt e.1.2.1)) := a3
    obtain ⟨σ2, b1, b2, b3⟩ := note_ok (β := β - 1) (Px_q p2 f1.pq).1 p2.2 a3' (by omega) (by omega)
    have f2 := fr b2
    have b3' : Nm σ2 (nt (nt N (tt e.1.2.1)) (tt e.1.2.2)) := b3
    have fF := f1.trans f2
    obtain ⟨τ, t1, t2⟩ := dis2_7 hβ R (D ++ [e]) _ σ2 E hE' (hQ.f fF) b3' (by omega)
    refine ⟨τ, ?_, fF.trans t2⟩
    have t1' : zE tM_distinct_7 β σ2 [(D.length : Int) + 1] = some (τ, ((ntL N (lts (e :: R))).length : Int)) := by
      have : ((D ++ [e]).length : Int) = (D.length : Int) + 1 := by simp
      rw [← this]; exact t1
    rw [zq_distinct_7, kZ_distinct_7, hQ.1, if_neg (by omega), if_pos (by omega), if_pos (by omega), s1, zbd_of a1, if_pos (by omega), f1.a 96, s2, zbd_of b1, if_pos (by omega)]
    exact t1'
theorem dis2_ok {β : Nat} (hβ : 101 ≤ β) {σ : zS} {E : List En} (hQ : RF2 σ E) (hw : wtL (lts E) ≤ 100) : ∃ τ, zE tM_distinct β σ [] = some (τ, ((ntL [] (lts E)).length : Int)) ∧ FrC [101] [100] σ τ := by
  have f : FrC [101] [100] σ (zI σ 101 0) := FrC_I
  obtain ⟨τ, t1, t2⟩ := dis2_7 hβ E [] [] (zI σ 101 0) E rfl (hQ.f f) ⟨zI_1, fun i c hc => by cases hc⟩ (by simpa using hw)
  refine ⟨τ, ?_, f.trans t2⟩
  rw [zq_distinct, kZ_distinct, lt_e]
  exact t1
abbrev FIt (σ τ : zS) : Prop := FrC [98, 101] [95, 96, 97, 100] σ τ
theorem fit_10 {β : Nat} (hβ : 102 ≤ β) {σ0 : zS} {r : Int} {c : List Lt} (h0 : 0 ≤ r) (h1 : r < 1200) (hR : RRw σ0 r c) (h47 : σ0.1 47 ≤ 420000) : ∀ (R D : List Lt) (E : List En) (σ : zS), c = D ++ R → lts E = D → RF2 σ E → FIt σ0 σ → ∃ τ x, zE tM_fits_10 β σ [24 * r, 3 * (c.length : Int), (wtL D : Int), 24 * r + 3 * (D.length : Int)] = some (τ, x) ∧ (x = 0 ∨ x = 1) ∧ (x = 0 ↔ ¬ inB c) ∧ FIt σ0 τ
  | [], D, E, σ, hc, hE, hQ, f => by
    rw [List.append_nil] at hc
    subst hc
    have l8 := hR.2.1
    by_cases hw : wtL c ≤ 100
    · obtain ⟨τ, t1, t2⟩ := dis2_ok (β := β - 1) (by omega) hQ (by rw [hE]; exact hw)
      rw [hE] at t1
      have fT : FIt σ0 τ := f.trans t2.w
      by_cases h6 : (ntL [] c).length ≤ 6
      · refine ⟨τ, 1, ?_, Or.inr rfl, ⟨fun h => by omega, fun h => absurd ⟨l8, hw, h6⟩ h⟩, fT⟩
        rw [zq_fits_10, kZ_fits_10, if_pos (by omega), if_pos (by omega), if_neg (by omega), if_pos (by omega), zbd_of t1, if_neg (by omega), zq_fits_95, kZ_fits_95, if_pos (by omega)]
      · refine ⟨τ, 0, ?_, Or.inl rfl, ⟨fun _ h => h6 h.2.2, fun _ => rfl⟩, fT⟩
        rw [zq_fits_10, kZ_fits_10, if_pos (by omega), if_pos (by omega), if_neg (by omega), if_pos (by omega), zbd_of t1, if_pos (by omega), zq_fits_94, kZ_fits_94, zq_fits_95, kZ_fits_95, if_pos (by omega)]
    · refine ⟨σ, 0, ?_, Or.inl rfl, ⟨fun _ h => hw h.2.1, fun _ => rfl⟩, f⟩
      rw [zq_fits_10, kZ_fits_10, if_pos (by omega), if_pos (by omega), if_pos (by omega), zq_fits_94, kZ_fits_94, zq_fits_95, kZ_fits_95, if_pos (by omega)]
  | a :: R, D, E, σ, hc, hE, hQ, f => by
    have l8 := hR.2.1
    have hl : c.length = D.length + (R.length + 1) := by rw [hc]; simp
    have ha : c[D.length]? = some a := by rw [hc, List.getElem?_append_right (Nat.le_refl _), Nat.sub_self]; rfl
    have hc' : c = (D ++ [a]) ++ R := by rw [hc]; simp
    have hEl : E.length = D.length := by rw [← hE, List.length_map]
    obtain ⟨d1, d2, d3, d4, d5⟩ := hR.2.2 D.length a ha
    have e1 : (tw a.2.1 : Int) = 1 + (wt a.2.1.2 : Int) := by simp only [tw]; omega
    have e2 : (tw a.2.2 : Int) = 1 + (wt a.2.2.2 : Int) := by simp only [tw]; omega
    have x1 : Px σ a.2.1 (σ0.2.1 63 (24 * r + 3 * (D.length : Int))) := Px_q ⟨d1.1, by have := d1.2.2; omega⟩ f.pq
    have x2 : Px σ a.2.2 (σ0.2.1 63 (24 * r + 3 * (D.length : Int) + 1)) := Px_q ⟨d2.1, by have := d2.2.2; omega⟩ f.pq
    obtain ⟨σ1, t1, t2, t3⟩ := add_f (β := β - 1) (a := a) hQ (by omega) x1 x2
    have hw8 : wtL D ≤ wtL c := by
      have : wtL c = wtL D + wtL (a :: R) := by rw [hc, wtL_app]
      omega
    have w9 : wtL c ≤ 100 * c.length := by
      have : ∀ L : List Lt, (∀ x ∈ L, tw x.2.1 + tw x.2.2 ≤ 100) → wtL L ≤ 100 * L.length := by
        intro L
        induction L with
        | nil => intro _; simp [wtL]
        | cons y L ih =>
          intro h
          have h1 := h y (by simp)
          have h2 := ih (fun x hx => h x (by simp [hx]))
          simp only [wtL, List.length_cons]
          omega
      refine this c (fun x hx => ?_)
      obtain ⟨i, hi⟩ := List.getElem?_of_mem hx
      exact (hR.2.2 i x hi).2.2.2.1
    obtain ⟨τ, x, u1, u2, u3, u4⟩ := fit_10 hβ h0 h1 hR h47 R (D ++ [a]) (E ++ [(a, σ0.2.1 63 (24 * r + 3 * (D.length : Int)), σ0.2.1 63 (24 * r + 3 * (D.length : Int) + 1))]) σ1 hc' (by simp [lts] at hE ⊢; exact hE) t3 (f.trans t2.w)
    refine ⟨τ, x, ?_, u2, u3, u4⟩
    have k1 := d1.1.1
    have k2 := d2.1.1
    have k3 := d1.2.2
    have k4 := d2.2.2
    have m1 : σ.2.1 46 (σ0.2.1 63 (24 * r + 3 * (D.length : Int))) = (tw a.2.1 : Int) := by rw [x1.1.2.2.1, e1]
    have m2 : σ.2.1 46 (σ0.2.1 63 (24 * r + 3 * (D.length : Int) + 1)) = (tw a.2.2 : Int) := by rw [x2.1.2.2.1, e2]
    have el : ((D ++ [a]).length : Int) = (D.length : Int) + 1 := by simp
    have ew : (wtL (D ++ [a]) : Int) = (wtL D : Int) + ((tw a.2.1 : Int) + (tw a.2.2 : Int)) := by rw [wtL_app]; simp only [wtL]; omega
    rw [el, ew] at u1
    rw [zq_fits_10, kZ_fits_10, if_pos (by omega), if_neg (by omega), if_pos (by omega), f.a 63, f.a 63, if_pos ⟨by omega, by omega⟩, if_pos (by omega), if_pos (by omega), if_pos ⟨by omega, by omega⟩, if_pos (by omega), zbd_of t1, m1, m2, if_pos ⟨by omega, by omega⟩, if_pos ⟨by omega, by omega⟩, if_pos (by omega), show 24 * r + 3 * (D.length : Int) + 3 = 24 * r + 3 * ((D.length : Int) + 1) by omega]
    exact u1
theorem fits_ok {β : Nat} (hβ : 102 ≤ β) {σ : zS} {r : Int} {c : List Lt} (h0 : 0 ≤ r) (h1 : r < 1200) (hR : RRw σ r c) (h47 : σ.1 47 ≤ 420000) : ∃ τ x, zE tM_fits β σ [24 * r, 3 * (c.length : Int)] = some (τ, x) ∧ (x = 0 ∨ x = 1) ∧ (x = 0 ↔ ¬ inB c) ∧ FIt σ τ := by
  have f : FIt σ (zI σ 98 0) := FrC_I
  obtain ⟨τ, x, u1, u2, u3, u4⟩ := fit_10 hβ h0 h1 hR h47 c [] [] (zI σ 98 0) rfl rfl ⟨by rw [zI_1]; rfl, by simp, fun i e he => by simp at he⟩ f
  refine ⟨τ, x, ?_, u2, u3, u4⟩
  rw [zq_fits, kZ_fits, lt_e]
  simpa [wtL] using u1
