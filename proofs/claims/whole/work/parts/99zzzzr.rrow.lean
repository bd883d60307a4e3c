/-! the reference: rows become CLAUSES of the TEXT -/
theorem PT.m2 {σ τ : zS} {x : Tm} {t : Int} (h : PT σ x t) (h1 : ∀ k q, 205000 ≤ q → q < σ.1 47 → (k = 43 ∨ k = 44 ∨ k = 45 ∨ k = 46) → τ.2.1 k q = σ.2.1 k q) (h2 : σ.1 47 ≤ τ.1 47) : PT τ x t := by
  obtain ⟨a, b, c⟩ := h
  have e : (tw x : Int) = 1 + (wt x.2 : Int) := by simp only [tw]; omega
  exact ⟨Pt_q (fun k q q1 q2 hk => h1 k q (by omega) (by omega) hk) a, b, by omega⟩
theorem RRw.m2 {σ τ : zS} {r : Int} {c : List Lt} (h : RRw σ r c) (h1 : ∀ k q, 205000 ≤ q → q < σ.1 47 → (k = 43 ∨ k = 44 ∨ k = 45 ∨ k = 46) → τ.2.1 k q = σ.2.1 k q) (h2 : σ.1 47 ≤ τ.1 47) (h3 : ∀ q, τ.2.1 63 q = σ.2.1 63 q) (h4 : τ.2.1 64 r = σ.2.1 64 r) : RRw τ r c := by
  obtain ⟨a, b, d⟩ := h
  refine ⟨by rw [h4]; exact a, b, fun j x hx => ?_⟩
  obtain ⟨d1, d2, d3⟩ := d j x hx
  rw [h3, h3, h3]
  exact ⟨d1.m2 h1 h2, d2.m2 h1 h2, d3⟩
/-- what stays behind the CLAUSES, up to T -/
abbrev Hi (T : Int) (σ τ : zS) : Prop := ∀ k q, 205000 ≤ q → q < T → (k = 43 ∨ k = 44 ∨ k = 45 ∨ k = 46) → τ.2.1 k q = σ.2.1 k q
theorem Hi.t {T : Int} {σ τ ρ : zS} (h : Hi T σ τ) (g : Hi T τ ρ) : Hi T σ ρ := fun k q a b c => by rw [g k q a b c, h k q a b c]
theorem RRs.hi {T : Int} {σ τ : zS} {A : List (List Lt)} {r0 : Int} (h : RRs (zI σ 47 T) r0 A) (g : Hi T σ τ) (h3 : ∀ q, τ.2.1 63 q = σ.2.1 63 q) (h4 : ∀ q, τ.2.1 64 q = σ.2.1 64 q) : RRs (zI τ 47 T) r0 A := fun i c hc =>
  (h i c hc).m2 (fun k q a b d => g k q a (by rw [zI_1] at b; exact b) d) (by rw [zI_1, zI_1]; exact Int.le_refl _) h3 (h4 _)
theorem row_196 {ar : Int → Nat} {p : Int → Prop} {β : Nat} (hβ : 103 ≤ β) {T x0 r : Int} (hr : 0 ≤ r ∧ r < 1200) {c : List Lt} (hw : WL ar p c) (hb : wtL c ≤ 100) (hT : 205000 ≤ T ∧ T + 100 ≤ 420000) : ∀ (R D : List Lt) (E : List En) (σ : zS), c = D ++ R → lts E = D → RRw (zI σ 47 T) r c → RQ ar p σ E → (∀ f ∈ E, (T ≤ f.2.1 ∧ T ≤ f.2.2) ∧ f.2.1 + 1 + (wt f.1.2.1.2 : Int) ≤ σ.1 47 ∧ f.2.2 + 1 + (wt f.1.2.2.2 : Int) ≤ σ.1 47) → σ.1 47 = T + (wtL D : Int) → ∃ τ E2, xE tX_sentenceClauses_196 β σ [x0, r, 24 * r, 24 * r + 3 * (D.length : Int)] = xE tX_sentenceClauses_196 β τ [x0, r, 24 * r, 24 * r + 3 * (c.length : Int)] ∧ lts E2 = c ∧ RQ ar p τ E2 ∧ (∀ f ∈ E2, T ≤ f.2.1 ∧ T ≤ f.2.2) ∧ FrC [47, 98] [43, 44, 45, 46, 95, 96, 97] σ τ ∧ Pq σ τ 0 T
  | [], D, E, σ, hc, hE, hR, hQ, hB, h47 => by
    rw [List.append_nil] at hc
    subst hc
    exact ⟨σ, E, rfl, hE, hQ, fun f hf => (hB f hf).1, FrC.refl, fun _ _ _ _ _ => rfl⟩
  | a :: R, D, E, σ, hc, hE, hR, hQ, hB, h47 => by
    have l8 := hR.2.1
    have hl : c.length = D.length + (R.length + 1) := by rw [hc]; simp
    have ha : c[D.length]? = some a := by rw [hc, List.getElem?_append_right (Nat.le_refl _), Nat.sub_self]; rfl
    have hc' : c = (D ++ [a]) ++ R := by rw [hc]; simp
    have hEl : E.length = D.length := by rw [← hE, List.length_map]
    obtain ⟨d1, d2, d3, d4, d5⟩ := hR.2.2 D.length a ha
    have d3' : σ.2.1 63 (24 * r + 3 * (D.length : Int) + 2) = a.1 := d3
    have c64 : σ.2.1 64 r = 3 * (c.length : Int) := hR.1
    have wa := hw a (List.mem_of_getElem? ha)
    have e1 : tw a.2.1 = 1 + wt a.2.1.2 := rfl
    have e2 : tw a.2.2 = 1 + wt a.2.2.2 := rfl
    have h1 := ht_le_wt a.2.1.2
    have h2 := ht_le_wt a.2.2.2
    have ew : wtL c = wtL D + (tw a.2.1 + tw a.2.2 + wtL R) := by rw [hc, wtL_app]; simp only [wtL]
    obtain ⟨p1, s1, z1⟩ := d1
    obtain ⟨p2, s2, z2⟩ := d2
    rw [zI_1] at z1 z2
    obtain ⟨X, hX⟩ : ∃ X, X = σ.2.1 63 (24 * r + 3 * (D.length : Int)) := ⟨_, rfl⟩
    obtain ⟨Y, hY⟩ : ∃ Y, Y = σ.2.1 63 (24 * r + 3 * (D.length : Int) + 1) := ⟨_, rfl⟩
    have p1 : Pt σ a.2.1.1 a.2.1.2 X := by rw [hX]; exact Pt_q (σ := zI σ 47 T) (fun _ _ _ _ _ => rfl) p1
    have p2 : Pt σ a.2.2.1 a.2.2.2 Y := by rw [hY]; exact Pt_q (σ := zI σ 47 T) (fun _ _ _ _ _ => rfl) p2
    have z1 : X + (tw a.2.1 : Int) ≤ T := by rw [hX]; exact z1
    have z2 : Y + (tw a.2.2 : Int) ≤ T := by rw [hY]; exact z2
    obtain ⟨σ1, c1, g1, q1, _⟩ := copy_ok (β := β - 1) p1 (by omega) (by omega) (by omega)
    have k47 : σ1.1 47 = σ.1 47 + (tw a.2.1 : Int) := by rw [g1.1, e1]
    have p2' : Pt σ1 a.2.2.1 a.2.2.2 Y := Pt_q (g1.pq (by omega)) p2
    obtain ⟨σ2, c2, g2, q2, _⟩ := copy_ok (β := β - 1) p2' (by omega) (by omega) (by omega)
    have k472 : σ2.1 47 = σ1.1 47 + (tw a.2.2 : Int) := by rw [g2.1, e2]
    have fG : FrC [47] [43, 44, 45, 46] σ σ2 := g1.f.trans g2.f
    have pq2 : ∀ lo hi : Int, hi ≤ σ.1 47 → Pq σ σ2 lo hi := fun lo hi h k i i1 i2 hk => by rw [g2.pq (lo := lo) (hi := hi) (by omega) k i i1 i2 hk, g1.pq (lo := lo) (hi := hi) h k i i1 i2 hk]
    have hQ2 : RQ ar p σ2 E := hQ.f fG (fun e he => ⟨pq2 _ _ (hB e he).2.1, pq2 _ _ (hB e he).2.2⟩)
    have x1 : Px σ2 a.2.1 (σ.1 47) := ⟨Pt_q (g2.pq (by omega)) q1, by omega⟩
    have x2 : Px σ2 a.2.2 (σ1.1 47) := ⟨q2, by omega⟩
    have el : wtL (lts E) = wtL D := by rw [hE]
    have lw : lwt a = tw a.2.1 + tw a.2.2 := rfl
    obtain ⟨σ3, t1, t2, t3⟩ := add_q (β := β - 1) (a := a) hQ2 (by omega) x1 x2 wa (by omega) (by omega) (fun f hf => (hB f hf).2) (by omega)
    have fT : FrC [47, 98] [43, 44, 45, 46, 95, 96, 97] σ σ3 := fG.w.trans t2.w
    have pT : Pq σ σ3 0 T := fun k i i1 i2 hk => by
      have : Pq σ2 σ3 0 T := t2.pq
      rw [this k i i1 i2 hk, pq2 0 T (by omega) k i i1 i2 hk]
    have k473 : σ3.1 47 = σ2.1 47 := t2.i 47
    obtain ⟨τ, E2, u1, u2, u3, u4, u5, u6⟩ := row_196 (x0 := x0) hβ hr hw hb hT R (D ++ [a]) (E ++ [(a, σ.1 47, σ1.1 47)]) σ3 hc' (by simp [lts] at hE ⊢; exact hE) (hR.m2 (τ := zI σ3 47 T) (fun k q a b d => by rw [zI_1] at b; exact pT k q (by omega) b d) (by rw [zI_1, zI_1]; exact Int.le_refl _) (fun q => fT.a 63 q) (fT.a 64 r)) t3 (fun f hf => by
      rcases List.mem_append.mp hf with w | w
      · obtain ⟨⟨y1, y2⟩, y3, y4⟩ := hB f w
        exact ⟨⟨y1, y2⟩, by omega, by omega⟩
      · rw [List.mem_singleton] at w
        subst w
        exact ⟨⟨by show T ≤ σ.1 47; omega, by show T ≤ σ1.1 47; omega⟩, by show σ.1 47 + 1 + (wt a.2.1.2 : Int) ≤ _; omega, by show σ1.1 47 + 1 + (wt a.2.2.2 : Int) ≤ _; omega⟩) (by
      have : wtL (D ++ [a]) = wtL D + (tw a.2.1 + tw a.2.2) := by rw [wtL_app]; simp only [wtL]; omega
      rw [this]; omega)
    refine ⟨τ, E2, ?_, u2, u3, u4, fT.trans u5, fun k i i1 i2 hk => by rw [u6 k i i1 i2 hk, pT k i i1 i2 hk]⟩
    rw [← u1]
    have e252 : ∀ y : Int, y = a.1 → xE tX_sentenceClauses_252 β σ2 [x0, r, 24 * r, 24 * r + 3 * (D.length : Int), y, σ1.1 47, σ.1 47] = xE tX_sentenceClauses_196 β σ3 [x0, r, 24 * r, 24 * r + 3 * ((D ++ [a]).length : Int)] := fun y hy => by
      have el : ((D ++ [a]).length : Int) = (D.length : Int) + 1 := by simp
      rw [xq_sentenceClauses_252, kW_sentenceClauses_252, if_pos (by omega), hy, zbd_of t1, if_pos ⟨by omega, by omega⟩, el, show 24 * r + 3 * (D.length : Int) + 3 = 24 * r + 3 * ((D.length : Int) + 1) by omega]
    have g63 : ∀ q, σ1.2.1 63 q = σ.2.1 63 q := fun q => g1.f.a 63 q
    have g632 : ∀ q, σ2.2.1 63 q = σ.2.1 63 q := fun q => fG.a 63 q
    rw [xq_sentenceClauses_196, kW_sentenceClauses_196, if_pos ⟨by omega, by omega⟩, c64, if_pos ⟨by omega, by omega⟩, if_neg (by omega), if_pos ⟨by omega, by omega⟩, if_pos (by omega), ← hX, zbd_of c1, if_pos ⟨by omega, by omega⟩, if_pos ⟨by omega, by omega⟩, if_pos (by omega), g63, ← hY, zbd_of c2, if_pos ⟨by omega, by omega⟩, if_pos ⟨by omega, by omega⟩, g632, d3']
    rcases wa.1 with e | e
    · rw [if_neg (by omega)]; exact e252 0 e.symm
    · rw [if_pos e]; exact e252 1 e.symm
/-- what a row changes -/
abbrev RwF (σ τ : zS) : Prop := FrC [47, 72, 84, 98, 101, 105] [43, 44, 45, 46, 66, 67, 68, 69, 70, 71, 73, 74, 75, 76, 77, 78, 79, 80, 81, 82, 95, 96, 97, 100, 102, 103, 104] σ τ
theorem row_ok {ar : Int → Nat} {pd : Int → Prop} {m9 : Int} {p : Int → Prop} (hp' : ∀ c, p c → c < m9) {β : Nat} (hβ : 220 ≤ β) {T x0 : Int} {r : Nat} (hr : r < 1200) {c : List Lt} (hw : WL ar p c) (hb : inB c) (hT : 205000 ≤ T ∧ T + 100 ≤ 420000) {σ : zS} {A : List (List Lt)} (hc : A[r]? = some c) (hR : RRs (zI σ 47 T) 0 A) (h122 : σ.1 122 = T) (h65 : σ.1 65 = (A.length : Int)) {Cs : List CL} {f : Nat → Int} (hI : RI ar pd m9 σ (Cs, f)) (hn : Cs.length < 2000) : ∃ τ, xE tX_sentenceClauses_167 β σ [x0, (r : Int)] = xE tX_sentenceClauses_167 β τ [x0, ((r + 1 : Nat) : Int)] ∧ RI ar pd m9 τ (txA c Cs, f) ∧ RRs (zI τ 47 T) 0 A ∧ RwF σ τ := by
  have hrA := (List.getElem?_eq_some_iff.mp hc).1
  have hRr : RRw (zI σ 47 T) (r : Int) c := by have := hR r c hc; rw [Int.zero_add] at this; exact this
  obtain ⟨σ0, hσ0⟩ : ∃ z, z = zI (zI σ 47 T) 98 0 := ⟨_, rfl⟩
  have f0 : FrC [47, 98] [] σ σ0 := by
    have b : FrC [47, 98] [] σ (zI σ 47 T) := FrC_I
    rw [hσ0]; exact b.trans FrC_I
  have pb0 : PB σ σ0 := f0.pq
  have hQ0 : RQ ar p σ0 [] := ⟨by rw [hσ0, zI_1]; rfl, by simp, fun i e he => by simp at he, trivial, by simp [lts, wtL]⟩
  have hR0 : RRw (zI σ0 47 T) (r : Int) c := hRr.m2 (fun k q _ _ _ => by rw [hσ0]; rfl) (by rw [zI_1, zI_1]; exact Int.le_refl _) (fun q => by rw [hσ0]; rfl) (by rw [hσ0]; rfl)
  obtain ⟨σ1, E2, t1, t2, t3, t4, t5, t6⟩ := row_196 (x0 := x0) (β := β) (by omega) ⟨by omega, by omega⟩ hw hb.2.1 hT c [] [] σ0 rfl rfl hR0 hQ0 (fun f hf => by cases hf) (by rw [hσ0, zI_o, zI_1]; simp [wtL])
  have f1 : FrC [47, 98] [43, 44, 45, 46, 95, 96, 97] σ σ1 := f0.w.trans t5
  have pq1 : Pq σ σ1 0 T := fun k i i1 i2 hk => by
    have : Pq σ σ0 0 T := f0.pq
    rw [t6 k i i1 i2 hk, this k i i1 i2 hk]
  have hI1 : RI ar pd m9 σ1 (Cs, f) := hI.f f1 (fun k i i1 i2 hk => pq1 k i i1 (by omega) hk)
  obtain ⟨σ2, E3, v1, v2, v3, v4, v5, v6, v7, v8, v9⟩ := rq_red2 hp' (β := β - 1) (by omega) hI1 t3 (by rw [t2]; exact hb.2.2) t4
  rw [t2] at v2 v4 v5 v6
  have f2 : FrC [47, 98, 101] [43, 44, 45, 46, 95, 96, 97, 100] σ σ2 := f1.w.trans v8.w
  have hi2 : Hi T σ σ2 := fun k q a b d => by rw [v9 k q d b, pq1 k q (by omega) b d]
  have c64 : σ1.2.1 64 (r : Int) = 3 * (c.length : Int) := by rw [f1.a 64]; exact hRr.1
  have l8 := hb.1
  have go : xE tX_sentenceClauses_167 β σ [x0, (r : Int)] = xE tX_sentenceClauses_196 β σ1 [x0, (r : Int), 24 * (r : Int), 24 * (r : Int) + 3 * (c.length : Int)] := by
    rw [← t1, xq_sentenceClauses_167, kW_sentenceClauses_167, h65, if_neg (by omega), lt_e, lt_e, if_pos ⟨by omega, by omega⟩, h122, ← hσ0]
    simp
  have e280 : ∀ ρ, xE tX_sentenceClauses_280 β ρ [x0, (r : Int), 24 * (r : Int), 24 * (r : Int) + 3 * (c.length : Int)] = xE tX_sentenceClauses_167 β ρ [x0, ((r + 1 : Nat) : Int)] := fun ρ => by
    rw [xq_sentenceClauses_280, kW_sentenceClauses_280, if_pos ⟨by omega, by omega⟩]; rfl
  rw [go, xq_sentenceClauses_196, kW_sentenceClauses_196, if_pos ⟨by omega, by omega⟩, c64, if_pos ⟨by omega, by omega⟩, if_pos (by omega), if_pos (by omega), zbd_of v1, if_pos (by omega), zbd_of v2]
  by_cases ht : tautL (rnL [] (ddL [] c))
  · refine ⟨σ2, ?_, ?_, hR.hi hi2 (fun q => f2.a 63 q) (fun q => f2.a 64 q), f2.w⟩
    · rw [if_neg (by simp [b2, ht]), e280]
    · rw [show txA c Cs = Cs by simp [txA, ht]]; exact v7
  · obtain ⟨τ, w1, w2, w3, w4⟩ := rk_ok2 (β := β - 1) (x0 := 0) (x1 := -1) (x2 := -1) (by omega) v7 v3 (by rw [v4]; exact v5) (by rw [v4]; exact v6) (by show Cs.length ≠ 2000; omega)
    refine ⟨τ, ?_, ?_, hR.hi (hi2.t (fun k q a _ d => w4 k q d a)) (fun q => by rw [w3.a 63, f2.a 63]) (fun q => by rw [w3.a 64, f2.a 64]), f2.w.trans w3.w⟩
    · rw [if_pos (by simp [b2, ht]), if_pos (by omega), zbd_of w1, e280]
    · rw [show txA c Cs = Cs ++ [(rnL [] (ddL [] c), 0, -1, -1, 0, [])] by simp [txA, ht], ← v4]; exact w2
theorem rows_ok {ar : Int → Nat} {pd : Int → Prop} {m9 : Int} {p : Int → Prop} (hp' : ∀ c, p c → c < m9) {β : Nat} (hβ : 220 ≤ β) {T x0 : Int} (hT : 205000 ≤ T ∧ T + 100 ≤ 420000) {A : List (List Lt)} (hA : A.length ≤ 1200) (hw : ∀ c ∈ A, WL ar p c ∧ inB c) {f : Nat → Int} : ∀ (R D : List (List Lt)) (σ : zS) (Cs : List CL), A = D ++ R → RRs (zI σ 47 T) 0 A → σ.1 122 = T → σ.1 65 = (A.length : Int) → RI ar pd m9 σ (Cs, f) → Cs.length + R.length ≤ 2000 → ∃ τ, xE tX_sentenceClauses_167 β σ [x0, (D.length : Int)] = some (zI τ 3000 0, 0) ∧ RI ar pd m9 τ (txF R Cs, f) ∧ RwF σ τ
  | [], D, σ, Cs, hD, hR, h122, h65, hI, hn => by
    rw [List.append_nil] at hD
    subst hD
    refine ⟨σ, ?_, hI, FrC.refl⟩
    rw [xq_sentenceClauses_167, kW_sentenceClauses_167, h65, if_pos (Int.le_refl _), lt_e]
  | c :: R, D, σ, Cs, hD, hR, h122, h65, hI, hn => by
    have hl : A.length = D.length + (R.length + 1) := by rw [hD]; simp
    have hc : A[D.length]? = some c := by rw [hD, List.getElem?_append_right (Nat.le_refl _), Nat.sub_self]; rfl
    have hD' : A = (D ++ [c]) ++ R := by rw [hD]; simp
    simp only [List.length_cons] at hn
    obtain ⟨h1, h2⟩ := hw c (List.mem_of_getElem? hc)
    obtain ⟨τ, t1, t2, t3, t4⟩ := row_ok hp' hβ (x0 := x0) (r := D.length) (by omega) h1 h2 hT hc hR h122 h65 hI (by omega)
    have := txA_len c Cs
    obtain ⟨τ2, u1, u2, u3⟩ := rows_ok hp' hβ (x0 := x0) hT hA hw R (D ++ [c]) τ (txA c Cs) hD' t3 (by rw [t4.i 122]; exact h122) (by rw [t4.i 65]; exact h65) t2 (by omega)
    refine ⟨τ2, ?_, u2, t4.trans u3⟩
    rw [t1, ← u1]
    simp
