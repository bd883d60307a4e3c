/-! the reference: what a CONCLUSION will be made of: planLeft 108, planRight 109, planBank 110, planIs 111, planned 112, planPlace 113, planInstead 114 -/
abbrev Pe : Type := En × Int
def PLi (ar : Int → Nat) (m9 : Int) (σ : zS) (i : Int) (e : Pe) : Prop := (σ.2.1 108 i = e.1.2.1 ∧ σ.2.1 109 i = e.1.2.2 ∧ σ.2.1 110 i = e.2 ∧ σ.2.1 111 i = e.1.1.1) ∧ (e.1.1.1 = 0 ∨ e.1.1.1 = 1) ∧ AT ar m9 σ e.1.2.1 e.2 e.1.1.2.1 ∧ AT ar m9 σ e.1.2.2 e.2 e.1.1.2.2
def PL (ar : Int → Nat) (m9 : Int) (σ : zS) (L : List Pe) : Prop := σ.1 112 = (L.length : Int) ∧ L.length ≤ 16 ∧ ∀ (i : Nat) e, L[i]? = some e → PLi ar m9 σ (i : Int) e
abbrev FPl (σ τ : zS) : Prop := FrC [112] [108, 109, 110, 111] σ τ
theorem AT.p {ar : Int → Nat} {m9 : Int} {σ τ : zS} {t b : Int} {x : Tm} (h : AT ar m9 σ t b x) (f : PB σ τ) : AT ar m9 τ t b x := ⟨⟨Pt_hi f h.1.1 h.1.2, h.1.2⟩, h.2⟩
theorem PLi.f {ar : Int → Nat} {m9 : Int} {σ τ : zS} {i : Int} {e : Pe} (h : PLi ar m9 σ i e) (n : ∀ j, (j = 108 ∨ j = 109 ∨ j = 110 ∨ j = 111) → τ.2.1 j i = σ.2.1 j i) (p : PB σ τ) : PLi ar m9 τ i e := by
  obtain ⟨⟨a1, a2, a3, a4⟩, b, c, d⟩ := h
  exact ⟨⟨by rw [n 108 (by simp)]; exact a1, by rw [n 109 (by simp)]; exact a2, by rw [n 110 (by simp)]; exact a3, by rw [n 111 (by simp)]; exact a4⟩, b, c.p p, d.p p⟩
theorem PL.f {ar : Int → Nat} {m9 : Int} {I A : List Nat} {σ τ : zS} {L : List Pe} (h : PL ar m9 σ L) (f : FrC I A σ τ) (p : PB σ τ) (i1 : I.elem 112 = false := by decide) (a1 : A.elem 108 = false := by decide) (a2 : A.elem 109 = false := by decide) (a3 : A.elem 110 = false := by decide) (a4 : A.elem 111 = false := by decide) : PL ar m9 τ L := by
  refine ⟨by rw [f.1 112 i1]; exact h.1, h.2.1, fun i e he => (h.2.2 i e he).f (fun j hj => ?_) p⟩
  rcases hj with rfl | rfl | rfl | rfl
  · exact f.2.1 108 _ a1
  · exact f.2.1 109 _ a2
  · exact f.2.1 110 _ a3
  · exact f.2.1 111 _ a4
theorem plan_ok {ar : Int → Nat} {m9 : Int} {β : Nat} {σ : zS} {L : List Pe} (h : PL ar m9 σ L) (hl : L.length < 16) {e : Pe} (he : e.1.1.1 = 0 ∨ e.1.1.1 = 1) (h1 : AT ar m9 σ e.1.2.1 e.2 e.1.1.2.1) (h2 : AT ar m9 σ e.1.2.2 e.2 e.1.1.2.2) : ∃ τ, zE tM_plan β σ [e.1.2.1, e.1.2.2, e.2, e.1.1.1] = some (τ, 0) ∧ FPl σ τ ∧ PL ar m9 τ (L ++ [e]) := by
  obtain ⟨τ, hτ⟩ : ∃ z, z = zA (zI (zA (zA (zA σ 108 (L.length : Int) e.1.2.1) 109 (L.length : Int) e.1.2.2) 110 (L.length : Int) e.2) 112 ((L.length : Int) + 1)) 111 (L.length : Int) e.1.1.1 := ⟨_, rfl⟩
  have f : FPl σ τ := by
    have b1 : FPl σ (zA σ 108 (L.length : Int) e.1.2.1) := FrC_A
    have b2 := b1.trans (FrC_A (k := 109) (i := (L.length : Int)) (x := e.1.2.2))
    have b3 := b2.trans (FrC_A (k := 110) (i := (L.length : Int)) (x := e.2))
    have b4 := b3.trans (FrC_I (k := 112) (x := (L.length : Int) + 1))
    rw [hτ]
    exact b4.trans FrC_A
  have hn := h.1
  refine ⟨τ, ?_, f, ?_, by simp; omega, fun i d hd => ?_⟩
  · rw [zq_plan, kZ_plan, hn, if_pos (by omega), lt_e, zA_1, hn, if_pos (by omega), lt_e, zA_1, zA_1, hn, if_pos (by omega), lt_e, zA_1, zA_1, zA_1, hn, if_pos (by omega), lt_e, if_pos (by omega), if_pos he, lt_e, ← hτ]
  · rw [hτ, zA_1, zI_1]; simp
  · by_cases hi : i < L.length
    · rw [List.getElem?_append_left hi] at hd
      refine (h.2.2 i d hd).f (fun j hj => ?_) f.pq
      have hq : (i : Int) ≠ (L.length : Int) := by omega
      rw [hτ, zA_i hq, zI_2, zA_i hq, zA_i hq, zA_i hq]
    · have hi2 : i = L.length := by
        have := (List.getElem?_eq_some_iff.mp hd).1
        simp at this; omega
      subst hi2
      rw [List.getElem?_append_right (Nat.le_refl _), Nat.sub_self] at hd
      obtain rfl := Option.some.inj hd
      refine ⟨⟨?_, ?_, ?_, ?_⟩, he, h1.p f.pq, h2.p f.pq⟩
      · rw [hτ, zA_j, zI_2, zA_j, zA_j, zA_s]
      · rw [hτ, zA_j, zI_2, zA_j, zA_s]
      · rw [hτ, zA_j, zI_2, zA_s]
      · rw [hτ, zA_s]
/-- the entries of a CLAUSE's LITERALS but i and j -/
def poE (σ : zS) (p b : Int) (i j : Nat) : Nat → List Lt → List Pe
  | _, [] => []
  | n, a :: C => if n = i ∨ n = j then poE σ p b i j (n + 1) C else ((a, σ.2.1 66 (p + (n : Int)), σ.2.1 67 (p + (n : Int))), b) :: poE σ p b i j (n + 1) C
theorem poE_f {σ τ : zS} (h1 : ∀ q, τ.2.1 66 q = σ.2.1 66 q) (h2 : ∀ q, τ.2.1 67 q = σ.2.1 67 q) {p b : Int} {i j : Nat} : ∀ (C : List Lt) (n : Nat), poE τ p b i j n C = poE σ p b i j n C
  | [], n => rfl
  | a :: C, n => by simp only [poE, poE_f h1 h2 C (n + 1), h1, h2]
theorem poE_oth {σ : zS} {p b : Int} {i j : Nat} : ∀ (C : List Lt) (n : Nat), (poE σ p b i j n C).map (fun e => e.1.1) = oth i j n C
  | [], n => rfl
  | a :: C, n => by
    by_cases h : n = i ∨ n = j
    · simp only [poE, oth, if_pos h, poE_oth C (n + 1)]
    · simp only [poE, oth, if_neg h, List.map_cons, poE_oth C (n + 1)]
theorem poE_len {σ : zS} {p b : Int} {i j : Nat} : ∀ (C : List Lt) (n : Nat), (poE σ p b i j n C).length ≤ C.length
  | [], n => Nat.le_refl _
  | a :: C, n => by
    have := poE_len (σ := σ) (p := p) (b := b) (i := i) (j := j) C (n + 1)
    by_cases h : n = i ∨ n = j
    · simp only [poE, if_pos h, List.length_cons]; omega
    · simp only [poE, if_neg h, List.length_cons]; omega
theorem lb_of {ar : Int → Nat} {m9 : Int} {σ : zS} {Cs : List CL} {k i : Nat} {c : CL} {a : Lt} {b : Int} (hR : RC σ Cs) (hc : Cs[k]? = some c) (wc : Wc ar m9 c.1) (ha : c.1[i]? = some a) (hb : b = 0 ∨ b = 6) : AT ar m9 σ (σ.2.1 66 (lpos Cs k + (i : Int))) b a.2.1 ∧ AT ar m9 σ (σ.2.1 67 (lpos Cs k + (i : Int))) b a.2.2 := by
  obtain ⟨l1, l2, l3, l4, _⟩ := hR.l hc ha
  have m := List.mem_of_getElem? ha
  obtain ⟨_, w1, w2⟩ := wc.2.2.2.2 a m
  have w := wtL_mm m
  have w100 := wc.2.1
  have h105 := hR.2.2.2.1.2
  have h2 := hR.2.1
  have el : lwt a = tw a.2.1 + tw a.2.2 := rfl
  have e1 : tw a.2.1 = 1 + wt a.2.1.2 := rfl
  have e2 : tw a.2.2 = 1 + wt a.2.2.2 := rfl
  exact ⟨⟨⟨l1.1, by omega⟩, w1, hb, by omega⟩, ⟨l2.1, by omega⟩, w2, hb, by omega⟩
theorem po_8 {ar : Int → Nat} {m9 : Int} {β : Nat} (hβ : 1 ≤ β) {Cs : List CL} {k i j : Nat} {c : CL} {b x2 x3 : Int} (hc : Cs[k]? = some c) (wc : Wc ar m9 c.1) (hb : b = 0 ∨ b = 6) (h2 : ∀ n : Nat, n < c.1.length → (lpos Cs k + (n : Int) = x2 ∨ lpos Cs k + (n : Int) = x3 ↔ n = i ∨ n = j)) : ∀ (R D : List Lt) (L : List Pe) (σ : zS), c.1 = D ++ R → RC σ Cs → PL ar m9 σ L → L.length + R.length ≤ 16 → ∃ τ, zE tM_planOthers_8 β σ [(k : Int), b, x2, x3, lpos Cs k + (D.length : Int)] = some (τ, 0) ∧ FPl σ τ ∧ PL ar m9 τ (L ++ poE σ (lpos Cs k) b i j D.length R)
  | [], D, L, σ, hD, hR, hL, hn => by
    rw [List.append_nil] at hD
    obtain ⟨hk, g1, g2, g3, g4, g5⟩ := hR.k hc
    rw [← hD]
    refine ⟨σ, ?_, FrC.refl, by simp only [poE, List.append_nil]; exact hL⟩
    rw [zq_planOthers_8, kZ_planOthers_8, if_pos (by omega), hk.1, hk.2.1, if_pos (by omega), if_pos (by omega)]
  | a :: R, D, L, σ, hD, hR, hL, hn => by
    obtain ⟨hk, g1, g2, g3, g4, g5⟩ := hR.k hc
    have hl : c.1.length = D.length + (R.length + 1) := by rw [hD]; simp
    have ha : c.1[D.length]? = some a := by rw [hD, List.getElem?_append_right (Nat.le_refl _), Nat.sub_self]; rfl
    have hD' : c.1 = (D ++ [a]) ++ R := by rw [hD]; simp
    have hq := h2 D.length (by omega)
    simp only [List.length_cons] at hn
    have go := po_8 hβ hc wc hb h2 R (D ++ [a])
    have el : (D ++ [a]).length = D.length + 1 := by simp
    rw [el] at go
    have s65 : ∀ ρ, zE tM_planOthers_65 β ρ [(k : Int), b, x2, x3, lpos Cs k + (D.length : Int)] = zE tM_planOthers_8 β ρ [(k : Int), b, x2, x3, lpos Cs k + ((D.length + 1 : Nat) : Int)] := fun ρ => by
      rw [zq_planOthers_65, kZ_planOthers_65, if_pos (by omega), show lpos Cs k + (D.length : Int) + 1 = lpos Cs k + ((D.length + 1 : Nat) : Int) by omega]
    by_cases hs : D.length = i ∨ D.length = j
    · obtain ⟨τ, t1, t2, t3⟩ := go L σ hD' hR hL (by omega)
      refine ⟨τ, ?_, t2, by simp only [poE, if_pos hs]; exact t3⟩
      rw [zq_planOthers_8, kZ_planOthers_8, if_pos (by omega), hk.1, hk.2.1, if_pos (by omega), if_neg (by omega)]
      by_cases hx : lpos Cs k + (D.length : Int) = x2
      · rw [if_pos hx, s65]; exact t1
      · rw [if_neg hx, if_pos ((hq.mpr hs).resolve_left hx), s65]; exact t1
    · obtain ⟨hA1, hA2⟩ := lb_of (b := b) hR hc wc ha hb
      have hs' : ¬ (lpos Cs k + (D.length : Int) = x2 ∨ lpos Cs k + (D.length : Int) = x3) := fun w => hs (hq.mp w)
      have l5 := (hR.l hc ha).2.2.2.2.1
      have w0 := (wc.2.2.2.2 a (List.mem_of_getElem? ha)).1
      obtain ⟨σ1, p1, p2, p3⟩ := plan_ok (β := β - 1) (e := ((a, σ.2.1 66 (lpos Cs k + (D.length : Int)), σ.2.1 67 (lpos Cs k + (D.length : Int))), b)) hL (by omega) w0 hA1 hA2
      obtain ⟨τ, t1, t2, t3⟩ := go _ σ1 hD' (hR.f p2 p2.pq) p3 (by simp; omega)
      refine ⟨τ, ?_, p2.trans t2, ?_⟩
      · have p1' : zE tM_plan (β - 1) σ [σ.2.1 66 (lpos Cs k + (D.length : Int)), σ.2.1 67 (lpos Cs k + (D.length : Int)), b, a.1] = some (σ1, 0) := p1
        rw [zq_planOthers_8, kZ_planOthers_8, if_pos (by omega), hk.1, hk.2.1, if_pos (by omega), if_neg (by omega), if_neg (fun w => hs' (Or.inl w)), if_neg (fun w => hs' (Or.inr w)), if_pos (by omega), if_pos hβ, l5, zbd_of p1', s65]
        exact t1
      · rw [poE_f (σ := σ) (fun q => p2.a 66 q) (fun q => p2.a 67 q)] at t3
        simp only [poE, if_neg hs]
        rw [List.append_assoc] at t3
        exact t3
theorem po_ok {ar : Int → Nat} {m9 : Int} {β : Nat} (hβ : 1 ≤ β) {Cs : List CL} {k i j : Nat} {c : CL} {b x2 x3 : Int} {L : List Pe} {σ : zS} (hR : RC σ Cs) (hc : Cs[k]? = some c) (wc : Wc ar m9 c.1) (hb : b = 0 ∨ b = 6) (h2 : ∀ n : Nat, n < c.1.length → (lpos Cs k + (n : Int) = x2 ∨ lpos Cs k + (n : Int) = x3 ↔ n = i ∨ n = j)) (hL : PL ar m9 σ L) (hl : L.length ≤ 8) : ∃ τ, zE tM_planOthers β σ [(k : Int), b, x2, x3] = some (τ, 0) ∧ FPl σ τ ∧ PL ar m9 τ (L ++ poE σ (lpos Cs k) b i j 0 c.1) := by
  obtain ⟨hk, g1, g2, g3, g4, g5⟩ := hR.k hc
  obtain ⟨τ, t1, t2, t3⟩ := po_8 hβ hc wc hb h2 c.1 [] L σ rfl hR hL (by omega)
  refine ⟨τ, ?_, t2, t3⟩
  rw [zq_planOthers, kZ_planOthers, if_pos (by omega), hk.1, ← t1]
  simp
theorem begin_ok {ar : Int → Nat} {m9 : Int} {β : Nat} {σ : zS} : ∃ τ, zE tM_begin β σ [] = some (τ, 0) ∧ FrC [112, 113] [] σ τ ∧ PL ar m9 τ [] ∧ τ.1 113 = -1 := by
  refine ⟨zI (zI σ 112 0) 113 (-1), by rw [zq_begin, kZ_begin, lt_e, lt_e], ?_, ⟨by rw [zI_o, zI_1]; rfl, by simp, fun i e he => by simp at he⟩, zI_1⟩
  have b : FrC [112, 113] [] σ (zI σ 112 0) := FrC_I
  exact b.trans FrC_I
theorem pi_ok {ar : Int → Nat} {m9 : Int} {β : Nat} {σ : zS} {i : Nat} {e : Pe} (h : PLi ar m9 σ (i : Int) e) (hi : i < 20) : zE tM_placeIn β σ [(i : Int)] = some (σ, if e.2 = 6 then σ.1 113 else -1) := by
  rw [zq_placeIn, kZ_placeIn, if_pos (by omega), h.1.2.2.1]
  by_cases q : e.2 = 6
  · rw [if_pos q, if_pos q, zq_placeIn_19, kZ_placeIn_19]
  · rw [if_neg q, if_neg q, zq_placeIn_19, kZ_placeIn_19]
/-! how many VARIABLES -/
theorem nt_mono : ∀ (C : List Lt) (N : List Int), N.length ≤ (ntL N C).length ∧ (ntL N C).length ≤ N.length + wtL C
  | [], N => by simp [ntL, wtL]
  | a :: C, N => by
    have h1 := nt_len (tt a.2.1) N
    have h2 := nt_len (tt a.2.2) (nt N (tt a.2.1))
    have h3 := nt_mono C (nt (nt N (tt a.2.1)) (tt a.2.2))
    rw [tt_wt] at h1 h2
    simp only [ntL, wtL]; omega
theorem dis_7 {ar : Int → Nat} {p : Int → Prop} {β : Nat} (hβ : 101 ≤ β) : ∀ (R D : List En) (N : List Int) (σ : zS) (E : List En), E = D ++ R → RQ ar p σ E → Nm σ N → N.length + wtL (lts R) ≤ 100 → ∃ τ, zE tM_distinct_7 β σ [(D.length : Int)] = some (τ, ((ntL N (lts R)).length : Int)) ∧ FrC [101] [100] σ τ
  | [], D, N, σ, E, hE, hQ, hN, hw => by
    rw [List.append_nil] at hE
    refine ⟨σ, ?_, FrC.refl⟩
    rw [zq_distinct_7, kZ_distinct_7, hQ.1, hE, if_pos (Int.le_refl _), hN.1]; rfl
  | e :: R, D, N, σ, E, hE, hQ, hN, hw => by
    have hl : E.length = D.length + (R.length + 1) := by rw [hE]; simp
    have he : E[D.length]? = some e := by rw [hE, List.getElem?_append_right (Nat.le_refl _), Nat.sub_self]; rfl
    have hE' : E = (D ++ [e]) ++ R := by rw [hE]; simp
    obtain ⟨⟨s1, s2, s3⟩, ⟨p1, p2⟩, _⟩ := hQ.2.2.1 D.length e he
    have l8 := hQ.2.1
    have e1 : tw e.1.2.1 = 1 + wt e.1.2.1.2 := rfl
    have e2 : tw e.1.2.2 = 1 + wt e.1.2.2.2 := rfl
    have h1 := ht_le_wt e.1.2.1.2
    have h2 := ht_le_wt e.1.2.2.2
    have ew : wtL (lts (e :: R)) = tw e.1.2.1 + tw e.1.2.2 + wtL (lts R) := rfl
    have n1 := nt_len (tt e.1.2.1) N
    have n2 := nt_len (tt e.1.2.2) (nt N (tt e.1.2.1))
    rw [tt_wt] at n1 n2
    have fr : ∀ {σ τ : zS}, Sn 0 0 σ τ → FrC [101] [100] σ τ := fun {σ τ} h => ⟨fun j hj => h.1 j (fun e => by subst e; cases hj), fun j q hj => h.2.2 j q (fun e => by subst e; cases hj) (by omega), fun j _ _ _ => by rw [h.2.1], Mg.of h.2.1⟩
    obtain ⟨σ1, a1, a2, a3⟩ := note_ok (β := β - 1) p1.1 p1.2 hN (by omega) (by omega)
    have f1 := fr a2
    have a3' : Nm σ1 (nt N (tt e.1.2.1)) := a3
    obtain ⟨σ2, b1, b2, b3⟩ := note_ok (β := β - 1) (Px_q p2 f1.pq).1 p2.2 a3' (by omega) (by omega)
    have f2 := fr b2
    have b3' : Nm σ2 (nt (nt N (tt e.1.2.1)) (tt e.1.2.2)) := b3
    have fF := f1.trans f2
    have hQ2 : RQ ar p σ2 E := by
      obtain ⟨q1, q2, q3, q4, q5⟩ := hQ
      refine ⟨by rw [fF.i 98]; exact q1, q2, fun i d hd => ?_, q4, q5⟩
      obtain ⟨⟨r1, r2, r3⟩, ⟨r4, r5⟩, r6⟩ := q3 i d hd
      exact ⟨⟨by rw [fF.a 95]; exact r1, by rw [fF.a 96]; exact r2, by rw [fF.a 97]; exact r3⟩, ⟨Px_q r4 fF.pq, Px_q r5 fF.pq⟩, r6⟩
    obtain ⟨τ, t1, t2⟩ := dis_7 hβ R (D ++ [e]) _ σ2 E hE' hQ2 b3' (by omega)
    refine ⟨τ, ?_, fF.trans t2⟩
    have t1' : zE tM_distinct_7 β σ2 [(D.length : Int) + 1] = some (τ, ((ntL N (lts (e :: R))).length : Int)) := by
      have : ((D ++ [e]).length : Int) = (D.length : Int) + 1 := by simp
      rw [← this]; exact t1
    rw [zq_distinct_7, kZ_distinct_7, hQ.1, if_neg (by omega), if_pos (by omega), if_pos (by omega), s1, zbd_of a1, if_pos (by omega), f1.a 96, s2, zbd_of b1, if_pos (by omega)]
    exact t1'
theorem dis_ok {ar : Int → Nat} {p : Int → Prop} {β : Nat} (hβ : 101 ≤ β) {σ : zS} {E : List En} (hQ : RQ ar p σ E) : ∃ τ, zE tM_distinct β σ [] = some (τ, ((ntL [] (lts E)).length : Int)) ∧ FrC [101] [100] σ τ := by
  have f : FrC [101] [100] σ (zI σ 101 0) := FrC_I
  have hQ2 : RQ ar p (zI σ 101 0) E := by
    obtain ⟨q1, q2, q3, q4, q5⟩ := hQ
    refine ⟨by rw [f.i 98]; exact q1, q2, fun i d hd => ?_, q4, q5⟩
    obtain ⟨r1, ⟨r4, r5⟩, r6⟩ := q3 i d hd
    exact ⟨r1, ⟨Px_q r4 f.pq, Px_q r5 f.pq⟩, r6⟩
  obtain ⟨τ, t1, t2⟩ := dis_7 hβ E [] [] (zI σ 101 0) E rfl hQ2 ⟨zI_1, fun i c h => by simp at h⟩ (by have := hQ.2.2.2.2; simp; omega)
  exact ⟨τ, by rw [zq_distinct, kZ_distinct, lt_e]; exact t1, f.trans t2⟩
