/-! THE CLASS MAKES THE CLAUSES AS THE SPEC SAYS -/
section MKC
variable {SL : List SE} {b : Nat} {NN : List N6} {TT : List Int} {w : Nat → Nat} {ar : Int → Nat} {pd : Int → Prop} {m9 : Int} {p : Int → Prop} {nm : PN} {fc : Nat → Int} {β : Nat}
abbrev l30 (σ : zS) : Prop := 16 ≤ σ.2.2 30 ∧ σ.2.2 30 ≤ 250000
theorem mk_row {σ : zS} (h : MS0 σ SL b NN TT w ar p nm) {k : Nat} {e : SE} (he : SL[k]? = some e) : σ.2.1 21 (5 * (k : Int)) = e.1 ∧ σ.2.1 21 (5 * (k : Int) + 1) = bi e.2.1 ∧ σ.2.1 21 (5 * (k : Int) + 2) = ((szl (SL.take k) + szn e.2.2.1.1 e.2.2.1.2 - 1 : Nat) : Int) ∧ 5 * (k : Int) + 4 < (σ.2.2 21 : Int) ∧ σ.2.2 21 ≤ 210000 ∧ σ.1 2001 = 5 * (SL.length : Int) := by
  obtain ⟨_, ⟨b1, b2, b3⟩, _⟩ := h
  obtain ⟨g1, g2, g3, g4, g5⟩ := sfl_g (lo := 0) (f := 0) he
  have hk := (List.getElem?_eq_some_iff.mp he).1
  have hl := b1.2.1
  have h0 := b1.1
  rw [sfl_len] at hl h0
  have q0 := Fl_get b1.2.2.2 g1
  have q1 := Fl_get b1.2.2.2 g2
  have q2 := Fl_get b1.2.2.2 g3
  have s1 := szn_1 (l := e.2.2.1.1) (k := e.2.2.1.2)
  refine ⟨?_, ?_, ?_, by omega, b2, by rw [h0]; omega⟩
  · rw [show 5 * (k : Int) = 0 + ((5 * k : Nat) : Int) by omega, q0]
  · rw [show 5 * (k : Int) + 1 = 0 + ((5 * k + 1 : Nat) : Int) by omega, q1]
  · rw [show 5 * (k : Int) + 2 = 0 + ((5 * k + 2 : Nat) : Int) by omega, q2]; omega
theorem mk_100 (hβ : 80 ≤ β) (hp : ∀ c, p c → c < m9) {k : Nat} {e : SE} (he : SL[k]? = some e) (hn : nF e.2.2.1 (!e.2.1) ≤ 200) (hwl : ∀ c ∈ csE w e, WL ar p c) {made : Int} : ∀ (m i : Nat) (σ : zS) (Cs : List CL), i + m = (csE w e).length → CI ar pd m9 σ (Cs, fc) → MS0 σ SL b NN TT w ar p nm → l30 σ → Cs.length + m ≤ 200 →
    ((∀ c ∈ (csE w e).drop i, inB c) → ∃ τ, yE tG_For_makeClauses_p100 β σ [made, 5 * (k : Int), ((szl (SL.take k) + szn e.2.2.1.1 e.2.2.1.2 - 1 : Nat) : Int), bi (!e.2.1), (i : Int)] = yE tG_For_makeClauses_p5 β τ [made, 5 * (k : Int) + 5] ∧ FrC tI tA σ τ ∧ CI ar pd m9 τ (txF ((csE w e).drop i) Cs, fc) ∧ MS0 τ SL b NN TT w ar p nm ∧ l30 τ) ∧
    ((¬ ∀ c ∈ (csE w e).drop i, inB c) → ∃ τ Cs2, yE tG_For_makeClauses_p100 β σ [made, 5 * (k : Int), ((szl (SL.take k) + szn e.2.2.1.1 e.2.2.1.2 - 1 : Nat) : Int), bi (!e.2.1), (i : Int)] = some (τ, e.1) ∧ FrC tI tA σ τ ∧ CI ar pd m9 τ (Cs2, fc) ∧ l30 τ) := by
  intro m
  induction m with
  | zero =>
    intro i σ Cs him hI hS h3 hC
    have hd : (csE w e).drop i = [] := List.drop_eq_nil_of_le (by omega)
    rw [hd]
    refine ⟨fun _ => ⟨σ, ?_, FrC.refl, hI, hS, h3⟩, fun h => absurd (fun c hc => by cases hc) h⟩
    obtain ⟨⟨z1, _⟩, _, c, _, ee⟩ := id hS
    obtain ⟨e1, e2, e3, e4⟩ := ee e (List.mem_of_getElem? he)
    have fs := FS_of e1
    obtain ⟨i', j', x1, _⟩ := (c k e he).1.nd fs
    have hl : (csE w e).length = nF e.2.2.1 (!e.2.1) := cFm_len _ fs _ _
    have hk := (List.getElem?_eq_some_iff.mp he).1
    obtain ⟨_, _, _, r4, r5, _⟩ := mk_row hS he
    have hcp := cp1_e (n := nF e.2.2.1 (!e.2.1)) (by omega)
    rw [yq_For_makeClauses_p100, kY_For_makeClauses_p100, if_pos (by omega), zbd_of (cof_ok (by omega) z1 x1 _)]
    have : nc (kk e.2.2.1.1, i', j', hgt e.2.2.1, cp1 (nF e.2.2.1 false), cp1 (nF e.2.2.1 true)) (!e.2.1) = (nF e.2.2.1 (!e.2.1) : Int) := by
      rw [← hcp]
      unfold nc
      cases e.2.1 <;> rfl
    rw [this, if_pos (by omega), if_pos ⟨by omega, by omega⟩]
  | succ m ih =>
    intro i σ Cs him hI hS h3 hC
    obtain ⟨⟨z1, z2⟩, _, c, _, ee⟩ := id hS
    obtain ⟨e1, e2, e3, e4⟩ := ee e (List.mem_of_getElem? he)
    have fs := FS_of e1
    obtain ⟨i', j', x1, _⟩ := (c k e he).1.nd fs
    have hl : (csE w e).length = nF e.2.2.1 (!e.2.1) := cFm_len _ fs _ _
    have hk := (List.getElem?_eq_some_iff.mp he).1
    obtain ⟨r1, r2, r3, r4, r5, _⟩ := mk_row hS he
    have hcp := cp1_e (n := nF e.2.2.1 (!e.2.1)) (by omega)
    have hnc : nc (kk e.2.2.1.1, i', j', hgt e.2.2.1, cp1 (nF e.2.2.1 false), cp1 (nF e.2.2.1 true)) (!e.2.1) = (nF e.2.2.1 (!e.2.1) : Int) := by
      rw [← hcp]
      unfold nc
      cases e.2.1 <;> rfl
    obtain ⟨a, ha⟩ : ∃ a, (csE w e)[i]? = some a := ⟨(csE w e)[i], List.getElem?_eq_getElem (by omega)⟩
    obtain ⟨v1, v2, v3⟩ := hS.vs he
    have hd : (csE w e).drop i = a :: (csE w e).drop (i + 1) := by
      rw [List.drop_eq_getElem_cons (by omega)]
      congr 1
      exact (List.getElem?_eq_some_iff.mp ha).2
    obtain ⟨σ2, w1, w2, w3, w4, w5, w6, w7⟩ := wcl_ok (β := β - 1) (by omega) ⟨z1, z2⟩ fs (c k e he).1 v1 v3 v2 e1 e3 hn ha hI.2.2.2.2.2.2.2.1 ⟨hI.2.2.2.2.1, hI.2.2.2.2.2.1⟩ h3 e2
    have hwa := hwl a (List.mem_of_getElem? ha)
    obtain ⟨qa, qb⟩ := qall hwa
    have start : yE tG_For_makeClauses_p100 β σ [made, 5 * (k : Int), ((szl (SL.take k) + szn e.2.2.1.1 e.2.2.1.2 - 1 : Nat) : Int), bi (!e.2.1), (i : Int)] = (if (σ2.1 3907) = 0 then (if 1 ≤ β then (zbd (yE tC_Dra_reduce (β - 1) σ2 []) (fun σ3 r3 => if 1 ≤ β then (zbd (yE tC_Dra_isTautology (β - 1) σ3 []) (fun σ4 r4 => if r4 = 0 then (if 1 ≤ β then (zbd (yE tG_Sto_add (β - 1) σ4 [0, (-1), (-1)]) (fun σ5 r5 => yE tG_For_makeClauses_p164 β σ5 [made, 5 * (k : Int), ((szl (SL.take k) + szn e.2.2.1.1 e.2.2.1.2 - 1 : Nat) : Int), bi (!e.2.1), (i : Int)])) else none) else (yE tG_For_makeClauses_p164 β σ4 [made, 5 * (k : Int), ((szl (SL.take k) + szn e.2.2.1.1 e.2.2.1.2 - 1 : Nat) : Int), bi (!e.2.1), (i : Int)]))) else none)) else none) else (if zr (5 * (k : Int) + 0) then (if zb (5 * (k : Int) + 0) (σ2.2.2 21) then (some (σ2, (σ2.2.1 21 (5 * (k : Int) + 0)))) else none) else none)) := by
      rw [yq_For_makeClauses_p100, kY_For_makeClauses_p100, if_pos (by omega), zbd_of (cof_ok (by omega) z1 x1 _), hnc, if_neg (by omega), if_pos (by omega), zbd_of w1]
    rw [start, hd]
    have f2 : FrC tI tA σ σ2 := w2.w
    have f2w : FrC [2901, 3904, 3905, 3906, 3907, 3911] [27, 30, 40, 41, 42, 43, 44, 45, 46] σ σ2 := w2.w
    have hN2 : ∃ N, DN σ2 N := by
      by_cases hb : inB a
      · rw [qa hb] at w5
        exact w5.2.2.1.dn
      · rw [qb hb] at w5
        exact w5.2
    have hI2 : CI ar pd m9 σ2 (Cs, fc) := hI.wr f2w w3 hN2 w6
    by_cases hb : inB a
    · rw [qa hb] at w5 w7
      have hS2 : MS0 σ2 SL b NN TT w ar p nm := hS.f f2 (w7 (by simp))
      obtain ⟨σ3, t1, t2, t3, t4, t5⟩ := text_ok hp (β := β - 1) (by omega) hI2 hwa hb w5 (by show Cs.length < 2000; omega)
      have e164 : ∀ ρ : zS, yE tG_For_makeClauses_p164 β ρ [made, 5 * (k : Int), ((szl (SL.take k) + szn e.2.2.1.1 e.2.2.1.2 - 1 : Nat) : Int), bi (!e.2.1), (i : Int)] = yE tG_For_makeClauses_p100 β ρ [made, 5 * (k : Int), ((szl (SL.take k) + szn e.2.2.1.1 e.2.2.1.2 - 1 : Nat) : Int), bi (!e.2.1), ((i + 1 : Nat) : Int)] := fun ρ => by
        rw [yq_For_makeClauses_p164, kY_For_makeClauses_p164, if_pos ⟨by omega, by omega⟩]; rfl
      have fin : ∃ ρ, (zbd (yE tC_Dra_isTautology (β - 1) σ3 []) (fun σ4 r4 => if r4 = 0 then (if 1 ≤ β then (zbd (yE tG_Sto_add (β - 1) σ4 [0, (-1), (-1)]) (fun σ5 r5 => yE tG_For_makeClauses_p164 β σ5 [made, 5 * (k : Int), ((szl (SL.take k) + szn e.2.2.1.1 e.2.2.1.2 - 1 : Nat) : Int), bi (!e.2.1), (i : Int)])) else none) else (yE tG_For_makeClauses_p164 β σ4 [made, 5 * (k : Int), ((szl (SL.take k) + szn e.2.2.1.1 e.2.2.1.2 - 1 : Nat) : Int), bi (!e.2.1), (i : Int)]))) = yE tG_For_makeClauses_p100 β ρ [made, 5 * (k : Int), ((szl (SL.take k) + szn e.2.2.1.1 e.2.2.1.2 - 1 : Nat) : Int), bi (!e.2.1), ((i + 1 : Nat) : Int)] ∧ FrC tI2 tA2 σ2 ρ ∧ CI ar pd m9 ρ (txA a Cs, fc) := by
        rw [zbd_of t2]
        unfold txA
        by_cases ht : tautL (rnL [] (ddL [] a))
        · rw [b2_t ht, if_neg (by decide), if_pos ht, e164]
          exact ⟨σ3, rfl, t3, t4 ht⟩
        · obtain ⟨ρ, r, u1, u2, u3⟩ := t5 ht
          rw [b2_f ht, if_pos rfl, if_neg ht, if_pos (by omega), zbd_of u1, e164]
          exact ⟨ρ, rfl, u2, u3⟩
      obtain ⟨ρ, f1, f3, f4⟩ := fin
      rw [if_pos w5.c0, if_pos (by omega), zbd_of t1, if_pos (by omega), f1]
      have f2ρ : FrC tI tA σ2 ρ := f3.w
      have hl2 : (txA a Cs).length ≤ Cs.length + 1 := txA_len a Cs
      obtain ⟨y1, y2⟩ := ih (i + 1) ρ (txA a Cs) (by omega) f4 (hS2.f f2ρ (fun v _ => f3.a 27 v)) (by unfold l30; rw [f3.l 30]; exact w4) (by omega)
      refine ⟨fun hall => ?_, fun hno => ?_⟩
      · obtain ⟨τ, x1, x2, x3⟩ := y1 (fun c hc => hall c (by simp [hc]))
        exact ⟨τ, x1, (f2.trans f2ρ).trans x2, x3⟩
      · obtain ⟨τ, Cs2, x1, x2, x3⟩ := y2 (fun hall => hno (fun c hc => by
          rcases List.mem_cons.mp hc with hc | hc
          · rw [hc]; exact hb
          · exact hall c hc))
        exact ⟨τ, Cs2, x1, (f2.trans f2ρ).trans x2, x3⟩
    · rw [qb hb] at w5
      have h7 : σ2.1 3907 = 1 := w5.1
      refine ⟨fun hall => absurd (hall a (by simp)) hb, fun _ => ⟨σ2, Cs, ?_, f2, hI2, w4⟩⟩
      rw [if_neg (by omega), if_pos ⟨by omega, by omega⟩, if_pos ⟨by omega, by rw [w2.l 21]; omega⟩, Int.add_zero, w2.a 21, r1]
/-- the SENTENCES -/
theorem mk_5 (hβ : 80 ≤ β) (hp : ∀ c, p c → c < m9) (hwl : ∀ e ∈ SL, ∀ c ∈ csE w e, WL ar p c) : ∀ (L : List SE) (k n : Nat) (σ : zS) (Cs : List CL), SL.drop k = L → CI ar pd m9 σ (Cs, fc) → MS0 σ SL b NN TT w ar p nm → l30 σ → Cs.length ≤ n → n ≤ 200 →
    (∀ q, mkS w L n Cs = .inl q → ∃ τ Cs2, yE tG_For_makeClauses_p5 β σ [(n : Int), 5 * (k : Int)] = some (τ, q) ∧ FrC tI tA σ τ ∧ CI ar pd m9 τ (Cs2, fc) ∧ l30 τ) ∧
    (∀ Cs2, mkS w L n Cs = .inr Cs2 → ∃ τ, yE tG_For_makeClauses_p5 β σ [(n : Int), 5 * (k : Int)] = some (τ, -1) ∧ FrC tI tA σ τ ∧ CI ar pd m9 τ (Cs2, fc) ∧ l30 τ) := by
  intro L
  induction L with
  | nil =>
    intro k n σ Cs hk hI hS h3 hC hn
    have hkl : SL.length ≤ k := by
      have := congrArg List.length hk
      rw [List.length_drop] at this
      simp at this
      omega
    refine ⟨fun q h => (by cases h), fun Cs2 h => ?_⟩
    cases h
    refine ⟨σ, ?_, FrC.refl, hI, h3⟩
    have h0 := hS.2.1.1.1
    rw [sfl_len] at h0
    rw [yq_For_makeClauses_p5, kY_For_makeClauses_p5, if_pos (by omega)]
  | cons e L ih =>
    intro k n σ Cs hk hI hS h3 hC hn
    have hkl : k < SL.length := by
      rcases Nat.lt_or_ge k SL.length with c | c
      · exact c
      · rw [List.drop_eq_nil_of_le c] at hk; cases hk
    have he : SL[k]? = some e := by
      rw [List.drop_eq_getElem_cons hkl] at hk
      rw [List.getElem?_eq_getElem hkl]
      exact congrArg some (List.head_eq_of_cons_eq hk)
    have hk1 : SL.drop (k + 1) = L := by
      rw [List.drop_eq_getElem_cons hkl] at hk
      exact List.tail_eq_of_cons_eq hk
    obtain ⟨r1, r2, r3, r4, r5, r6⟩ := mk_row hS he
    obtain ⟨⟨z1, z2⟩, _, c, _, ee⟩ := id hS
    obtain ⟨e1, e2, e3, e4⟩ := ee e (List.mem_of_getElem? he)
    have fs := FS_of e1
    obtain ⟨i', j', x1, _⟩ := (c k e he).1.nd fs
    have hl : (csE w e).length = nF e.2.2.1 (!e.2.1) := cFm_len _ fs _ _
    have n1 := nF_1 _ fs (!e.2.1)
    have e84 : ∀ a b c, yE tG_For_makeClauses_p84 β σ [a, 5 * (k : Int), b, c] = some (σ, e.1) := fun a b c => by
      rw [yq_For_makeClauses_p84, kY_For_makeClauses_p84, if_pos ⟨by omega, by omega⟩, if_pos ⟨by omega, by omega⟩, Int.add_zero, r1]
    have hnc : nc (kk e.2.2.1.1, i', j', hgt e.2.2.1, cp1 (nF e.2.2.1 false), cp1 (nF e.2.2.1 true)) (!e.2.1) = cp1 (nF e.2.2.1 (!e.2.1)) := by
      unfold nc
      cases e.2.1 <;> rfl
    have hcb : 1 ≤ cp1 (nF e.2.2.1 (!e.2.1)) ∧ cp1 (nF e.2.2.1 (!e.2.1)) ≤ 201 := by unfold cp1; split <;> omega
    have e5 : yE tG_For_makeClauses_p5 β σ [(n : Int), 5 * (k : Int)] = (if 200 < hgt e.2.2.1 then some (σ, e.1) else (if (n : Int) + cp1 (nF e.2.2.1 (!e.2.1)) ≤ 200 then yE tG_For_makeClauses_p100 β σ [(n : Int) + cp1 (nF e.2.2.1 (!e.2.1)), 5 * (k : Int), ((szl (SL.take k) + szn e.2.2.1.1 e.2.2.1.2 - 1 : Nat) : Int), bi (!e.2.1), 0] else some (σ, e.1))) := by
      have e51 : ∀ y, y = bi (!e.2.1) → yE tG_For_makeClauses_p51 β σ [(n : Int), 5 * (k : Int), ((szl (SL.take k) + szn e.2.2.1.1 e.2.2.1.2 - 1 : Nat) : Int), y] = (if 200 < hgt e.2.2.1 then some (σ, e.1) else (if (n : Int) + cp1 (nF e.2.2.1 (!e.2.1)) ≤ 200 then yE tG_For_makeClauses_p100 β σ [(n : Int) + cp1 (nF e.2.2.1 (!e.2.1)), 5 * (k : Int), ((szl (SL.take k) + szn e.2.2.1.1 e.2.2.1.2 - 1 : Nat) : Int), bi (!e.2.1), 0] else some (σ, e.1))) := fun y hy => by
        rw [yq_For_makeClauses_p51, kY_For_makeClauses_p51, if_pos (by omega), hy, zbd_of (cof_ok (by omega) z1 x1 _), hnc, if_pos (by omega), zbd_of (show yE tC_For_get (β - 1) σ [((szl (SL.take k) + szn e.2.2.1.1 e.2.2.1.2 - 1 : Nat) : Int), 3] = some (σ, hgt e.2.2.1) from get_ok z1 x1 (j := 3) (by omega) rfl), if_pos (show zr ((n : Int) + cp1 (nF e.2.2.1 (!e.2.1))) from ⟨by omega, by omega⟩), if_pos (show zr ((n : Int) + cp1 (nF e.2.2.1 (!e.2.1))) from ⟨by omega, by omega⟩), e84]
      rw [yq_For_makeClauses_p5, kY_For_makeClauses_p5, if_neg (by omega), if_pos ⟨by omega, by omega⟩, if_pos ⟨by omega, by omega⟩, if_pos ⟨by omega, by omega⟩, if_pos ⟨by omega, by omega⟩, r2, r3]
      cases hb : e.2.1 with
      | false =>
        rw [hb] at e51
        rw [if_pos (show bi false = 0 from rfl)]; exact e51 1 rfl
      | true =>
        rw [hb] at e51
        rw [if_neg (show ¬ bi true = 0 by decide)]; exact e51 0 rfl
    rw [e5]
    unfold mkS
    by_cases c1 : 200 < hgt e.2.2.1
    · rw [if_pos (Or.inl c1), if_pos c1]
      exact ⟨fun q h => (by cases h; exact ⟨σ, Cs, rfl, FrC.refl, hI, h3⟩), fun Cs2 h => (by cases h)⟩
    rw [if_neg c1]
    by_cases c2 : 200 < n + nF e.2.2.1 (!e.2.1)
    · rw [if_pos (Or.inr c2), if_neg (by unfold cp1; split <;> omega)]
      exact ⟨fun q h => (by cases h; exact ⟨σ, Cs, rfl, FrC.refl, hI, h3⟩), fun Cs2 h => (by cases h)⟩
    rw [if_neg (fun h => h.elim c1 c2), cp1_e (by omega), if_pos (show (n : Int) + (nF e.2.2.1 (!e.2.1) : Int) ≤ 200 by omega)]
    obtain ⟨y1, y2⟩ := mk_100 (fc := fc) hβ hp he (by omega) (hwl e (List.mem_of_getElem? he)) (made := (n : Int) + (nF e.2.2.1 (!e.2.1) : Int)) (csE w e).length 0 σ Cs (by omega) hI hS h3 (by omega)
    rw [List.drop_zero] at y1 y2
    rw [show ((0 : Nat) : Int) = 0 from rfl] at y1 y2
    by_cases hall : ∀ c ∈ csE w e, inB c
    · rw [if_pos hall]
      obtain ⟨τ, t1, t2, t3, t4, t5⟩ := y1 hall
      have hl2 := txF_len (csE w e) Cs
      obtain ⟨u1, u2⟩ := ih (k + 1) (n + nF e.2.2.1 (!e.2.1)) τ (txF (csE w e) Cs) hk1 t3 t4 t5 (by omega) (by omega)
      rw [show ((n + nF e.2.2.1 (!e.2.1) : Nat) : Int) = (n : Int) + (nF e.2.2.1 (!e.2.1) : Int) by omega, show 5 * ((k + 1 : Nat) : Int) = 5 * (k : Int) + 5 by omega] at u1 u2
      rw [t1]
      exact ⟨fun q h => by
        obtain ⟨ρ, C2, v1, v2, v3⟩ := u1 q h
        exact ⟨ρ, C2, v1, t2.trans v2, v3⟩, fun C2 h => by
        obtain ⟨ρ, v1, v2, v3⟩ := u2 C2 h
        exact ⟨ρ, v1, t2.trans v2, v3⟩⟩
    · rw [if_neg hall]
      obtain ⟨τ, C2, t1, t2, t3⟩ := y2 hall
      exact ⟨fun q h => (by cases h; exact ⟨τ, C2, t1, t2, t3⟩), fun Cs2 h => (by cases h)⟩
end MKC
