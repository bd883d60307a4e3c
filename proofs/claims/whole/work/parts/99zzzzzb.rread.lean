/-! THE REFERENCE'S read -/
/-- no CLAUSE stands -/
def RE0 (σ : zS) (A : PA) (P : List Int) : Prop := A.1 = [] ∧ σ.1 84 = 0 ∧ σ.1 72 = 0 ∧ KM σ A.2 ∧ σ.1 88 < 0 ∧ P = [] ∧ A.2 87 ≠ 1
/-- after a FAULT -/
def RFt (τ : zS) (k q : Int) : Prop := RE0 τ ([], fc0) [] ∧ τ.1 5 = k ∧ τ.1 6 = q ∧ τ.1 2 = 0 ∧ τ.1 85 = 0 ∧ τ.1 19 = 1 ∧ τ.1 20 = 0 ∧ τ.2.1 49 0 = 1 ∧ τ.2.1 48 0 = 0
/-- what read leaves as it was -/
def KpR (σ τ : zS) : Prop := τ.1 3 = σ.1 3 ∧ τ.2.1 0 = σ.2.1 0 ∧ τ.2.1 1 = σ.2.1 1 ∧ τ.2.2 1 = σ.2.2 1 ∧ τ.1 4 = 0 ∧ τ.1 3000 = 0
theorem rd_187 {β : Nat} {σ : zS} : ∃ τ, xE tX_read_187 β σ [] = some (τ, if σ.1 5 ≤ 0 then σ.1 84 else -1) ∧ FrC [2, 85, 3000] [] σ τ ∧ τ.1 2 = 0 ∧ τ.1 85 = σ.1 84 ∧ τ.1 3000 = 0 := by
  have b : FrC [2, 85, 3000] [] σ (zI σ 2 0) := FrC_I
  have b2 := (b.trans (FrC_I (k := 85) (x := (zI σ 2 0).1 84))).trans (FrC_I (k := 3000) (x := 0))
  refine ⟨zI (zI (zI σ 2 0) 85 ((zI σ 2 0).1 84)) 3000 0, ?_, b2, ?_, ?_, zI_1⟩
  · rw [xq_read_187, kW_read_187, lt_e, lt_e]
    have e5 : (zI (zI σ 2 0) 85 ((zI σ 2 0).1 84)).1 5 = σ.1 5 := by rw [zI_o, zI_o]
    have e84 : (zI (zI σ 2 0) 85 ((zI σ 2 0).1 84)).1 84 = σ.1 84 := by rw [zI_o, zI_o]
    rw [e5, e84]
    by_cases c : σ.1 5 ≤ 0
    · rw [if_pos c, if_pos c]; rfl
    · rw [if_neg c, if_neg c]; rfl
  · rw [zI_o, zI_o, zI_1]
  · rw [zI_o, zI_1, zI_o]
/-- the six cells of a FAULT -/
def fltS (σ : zS) (k q : Int) : zS := zI (zI (zI (zI (zI (zI σ 5 k) 6 q) 84 0) 72 0) 19 1) 20 0
theorem rd_flt {β : Nat} {σ : zS} {k q : Int} (hk : 1 ≤ k) (hK : KM σ fc0) (h88 : σ.1 88 < 0) (h49 : σ.2.1 49 0 = 1 ∧ σ.2.1 48 0 = 0) : ∃ τ, xE tX_read_187 β (fltS σ k q) [] = some (τ, -1) ∧ RFt τ k q ∧ FrC [2, 5, 6, 19, 20, 72, 84, 85, 3000] [] σ τ ∧ τ.1 3000 = 0 := by
  have f0 : FrC [2, 5, 6, 19, 20, 72, 84, 85, 3000] [] σ (zI σ 5 k) := FrC_I
  have f1 : FrC [2, 5, 6, 19, 20, 72, 84, 85, 3000] [] σ (fltS σ k q) := ((((f0.trans FrC_I).trans FrC_I).trans FrC_I).trans FrC_I).trans FrC_I
  obtain ⟨τ, t1, t2, t3, t4, t5⟩ := rd_187 (β := β) (σ := fltS σ k q)
  have e5 : (fltS σ k q).1 5 = k := by unfold fltS; rw [zI_o, zI_o, zI_o, zI_o, zI_o, zI_1]
  have e6 : (fltS σ k q).1 6 = q := by unfold fltS; rw [zI_o, zI_o, zI_o, zI_o, zI_1]
  have e84 : (fltS σ k q).1 84 = 0 := by unfold fltS; rw [zI_o, zI_o, zI_o, zI_1]
  have e72 : (fltS σ k q).1 72 = 0 := by unfold fltS; rw [zI_o, zI_o, zI_1]
  have e19 : (fltS σ k q).1 19 = 1 := by unfold fltS; rw [zI_o, zI_1]
  have e20 : (fltS σ k q).1 20 = 0 := by unfold fltS; rw [zI_1]
  rw [e5, if_neg (by omega)] at t1
  have f2 : FrC [2, 5, 6, 19, 20, 72, 84, 85, 3000] [] σ τ := f1.trans t2.w
  refine ⟨τ, t1, ⟨⟨rfl, by rw [t2.i 84]; exact e84, by rw [t2.i 72]; exact e72, hK.f f2, by rw [f2.i 88]; exact h88, rfl, by decide⟩, by rw [t2.i 5]; exact e5, by rw [t2.i 6]; exact e6, t3, by rw [t4]; exact e84, by rw [t2.i 19]; exact e19, by rw [t2.i 20]; exact e20, by rw [f2.a 49]; exact h49.1, by rw [f2.a 48]; exact h49.2⟩, f2, t5⟩
theorem FrS.km {σ τ : zS} {f : Nat → Int} (h : KM σ f) (g : FrS σ τ) : KM τ f := by
  unfold KM at *
  rw [g.1 87 (by decide), g.1 89 (by decide), g.1 90 (by decide), g.1 91 (by decide), g.1 92 (by decide), g.1 93 (by decide), g.1 94 (by decide)]
  exact h
theorem rread_ok {X : Int → Int} {n : Int} (hX : TXT X n) {β : Nat} (hβ : 1002 ≤ β) {σ : zS} (h0 : 0 ≤ n) (hn : n ≤ 20000) (hY : σ.2.1 0 = X) (h2 : σ.1 2 = n) {m : Nat} {r : (Int × Int) ⊕ (PS × List SE)} (hr : seS X n m (0, [], [], [], []) [] = some r) (hk : ∀ e, r = .inl e → 1 ≤ e.1) (hU : ∀ a, r = .inr a → UA a.2 ∧ frL a.2 ≤ 300 ∧ a.2.length ≤ 20100) :
    (∀ e, r = .inl e → ∃ τ, xE tX_read β σ [] = some (τ, -1) ∧ RFt τ e.1 e.2 ∧ KpR σ τ) ∧
    (∀ a, r = .inr a →
      (∀ q, mkS (wS a.1.2.1 a.2) a.2 0 [] = .inl q → ∃ τ, xE tX_read β σ [] = some (τ, -1) ∧ RFt τ 3 q ∧ KpR σ τ) ∧
      (∀ Cs, mkS (wS a.1.2.1 a.2) a.2 0 [] = .inr Cs → ∃ τ, xE tX_read β σ [] = some (τ, (Cs.length : Int)) ∧ RSt (arS a.1.2.1 a.2) (pdS a.1.2.1) (m9S a.1.2.1 a.2 a.1.2.2.1.length) τ (Cs, fc0) [] ∧ τ.1 5 = 0 ∧ τ.1 6 = 0 ∧ τ.1 2 = 0 ∧ τ.1 85 = (Cs.length : Int) ∧ RTb (arS a.1.2.1 a.2) (m9S a.1.2.1 a.2 a.1.2.2.1.length) τ ∧ RNm τ a.1.2.1 ∧ KpR σ τ)) := by
  obtain ⟨m, rfl⟩ : ∃ k, m = k + 1 := by
    cases m with
    | zero => cases hr
    | succ k => exact ⟨k, rfl⟩
  obtain ⟨σ1, hs1⟩ : ∃ x, x = zI (zI (zI (zI (zI (zI (zI (zI (zI (zI (zI (zI (zI σ 4 0) 18 0) 20 0) 19 1) 25 0) 37 0) 38 0) 40 0) 55 0) 56 0) 84 0) 72 0) 85 0 := ⟨_, rfl⟩
  obtain ⟨σ2, hs2⟩ : ∃ x, x = zI (zI (zI (zI (zI (zI (zI (zI (zI (zI (zI (zI σ1 86 0) 87 0) 88 (-1)) 89 0) 90 0) 91 0) 92 0) 93 0) 94 0) 105 0) 5 0) 6 0 := ⟨_, rfl⟩
  obtain ⟨σ3, hs3⟩ : ∃ x, x = zA (zA σ2 49 0 1) 48 0 0 := ⟨_, rfl⟩
  obtain ⟨σ4, hs4⟩ : ∃ x, x = zI (zI (zI σ3 7 0) 12 0) 11 0 := ⟨_, rfl⟩
  have f1 : FrC [4, 18, 20, 19, 25, 37, 38, 40, 55, 56, 84, 72, 85] [] σ σ1 := by
    have b : FrC [4, 18, 20, 19, 25, 37, 38, 40, 55, 56, 84, 72, 85] [] σ (zI σ 4 0) := FrC_I
    rw [hs1]; exact (((((((((((b.trans FrC_I).trans FrC_I).trans FrC_I).trans FrC_I).trans FrC_I).trans FrC_I).trans FrC_I).trans FrC_I).trans FrC_I).trans FrC_I).trans FrC_I).trans FrC_I
  have f2 : FrC [86, 87, 88, 89, 90, 91, 92, 93, 94, 105, 5, 6] [] σ1 σ2 := by
    have b : FrC [86, 87, 88, 89, 90, 91, 92, 93, 94, 105, 5, 6] [] σ1 (zI σ1 86 0) := FrC_I
    rw [hs2]; exact ((((((((((b.trans FrC_I).trans FrC_I).trans FrC_I).trans FrC_I).trans FrC_I).trans FrC_I).trans FrC_I).trans FrC_I).trans FrC_I).trans FrC_I).trans FrC_I
  have f3 : FrC [] [48, 49] σ2 σ3 := by
    have b : FrC [] [48, 49] σ2 (zA σ2 49 0 1) := FrC_A
    rw [hs3]; exact b.trans FrC_A
  have f4 : FrC [7, 11, 12] [] σ3 σ4 := by
    have b : FrC [7, 11, 12] [] σ3 (zI σ3 7 0) := FrC_I
    rw [hs4]; exact (b.trans FrC_I).trans FrC_I
  have g4 : FrC [4, 18, 20, 19, 25, 37, 38, 40, 55, 56, 84, 72, 85, 86, 87, 88, 89, 90, 91, 92, 93, 94, 105, 5, 6, 7, 11, 12] [48, 49] σ σ4 := ((f1.w.trans f2.w).trans f3.w).trans f4.w
  have v1 : ∀ j, j ∈ [4, 18, 20, 25, 37, 38, 40, 55, 56, 84, 72, 85] → σ1.1 j = 0 := fun j hj => by
    rw [hs1]
    simp only [List.mem_cons, List.not_mem_nil, or_false] at hj
    rcases hj with rfl | rfl | rfl | rfl | rfl | rfl | rfl | rfl | rfl | rfl | rfl | rfl <;> simp [zI]
  have v2 : ∀ j, j ∈ [86, 87, 89, 90, 91, 92, 93, 94, 105, 5, 6] → σ2.1 j = 0 := fun j hj => by
    rw [hs2]
    simp only [List.mem_cons, List.not_mem_nil, or_false] at hj
    rcases hj with rfl | rfl | rfl | rfl | rfl | rfl | rfl | rfl | rfl | rfl | rfl <;> simp [zI]
  have f24 : FrC [7, 11, 12] [48, 49] σ2 σ4 := f3.w.trans f4.w
  have f14 : FrC [86, 87, 88, 89, 90, 91, 92, 93, 94, 105, 5, 6, 7, 11, 12] [48, 49] σ1 σ4 := f2.w.trans f24.w
  have w88 : σ4.1 88 = -1 := by rw [f24.i 88, hs2]; simp [zI]
  have z49 : σ4.2.1 49 0 = 1 ∧ σ4.2.1 48 0 = 0 := by
    rw [f4.a 49, f4.a 48, hs3]
    exact ⟨by rw [zA_j, zA_s], zA_s⟩
  have hKM : KM σ4 fc0 := ⟨by rw [f24.i 87]; exact v2 87 (by simp), by rw [f24.i 89]; exact v2 89 (by simp), by rw [f24.i 90]; exact v2 90 (by simp), by rw [f24.i 91]; exact v2 91 (by simp), by rw [f24.i 92]; exact v2 92 (by simp), by rw [f24.i 93]; exact v2 93 (by simp), by rw [f24.i 94]; exact v2 94 (by simp)⟩
  have q4 : σ4.1 7 = 0 ∧ σ4.1 12 = 0 ∧ σ4.1 11 = 0 := by
    rw [hs4]
    exact ⟨by rw [zI_o, zI_o, zI_1], by rw [zI_o, zI_1], zI_1⟩
  have o : ∀ j, j ∈ [4, 18, 20, 25, 37, 38, 40, 55, 56, 84, 72, 85] → σ4.1 j = 0 := fun j hj => by
    rw [← v1 j hj]
    refine f14.1 j ?_
    simp only [List.mem_cons, List.not_mem_nil, or_false] at hj
    rcases hj with rfl | rfl | rfl | rfl | rfl | rfl | rfl | rfl | rfl | rfl | rfl | rfl <;> decide
  have hRP : RPw X n σ4 (0, [], [], [], []) := by
    refine ⟨⟨⟨?_, by rw [g4.i 2]; exact h2, Int.le_refl _, h0, hn⟩, Or.inl ⟨q4.2.2, q4.1, ?_, ?_⟩⟩, ⟨o 20 (by simp), by simp, (by intro x hx; cases hx), o 18 (by simp), fun i x hx => (by cases hx)⟩, ⟨o 25 (by simp), by simp, fun i x hx => (by cases hx)⟩, ?_⟩
    · rw [← hY]; funext q; exact g4.a 0 q
    · omega
    · show σ4.1 12 ≤ 0; omega
    · show RCt σ4 (0 - 0)
      unfold RCt
      rw [o 37 (by simp), o 38 (by simp), o 40 (by simp)]
      omega
  have hSe : RSe σ4 [] := ⟨o 55 (by simp), o 56 (by simp), fun i e he => (by cases he)⟩
  obtain ⟨p1, p2⟩ := ps_15w hX (β := β - 1) (by omega) m σ4 (0, [], [], [], []) [] r hRP hSe (Nat.le_refl _) (Int.le_refl _) hr
  have kp : ∀ {τ τ2 : zS} {I A : List Nat}, FrS σ4 τ → FrC I A τ τ2 → I.elem 3 = false → I.elem 4 = false → A.elem 0 = false → A.elem 1 = false → τ2.1 3000 = 0 → KpR σ τ2 := fun {τ τ2 I A} a b i3 i4 a0 a1 hz => by
    refine ⟨by rw [b.1 3 i3, a.1 3 (by decide), g4.i 3], ?_, ?_, ?_, by rw [b.1 4 i4, a.1 4 (by decide)]; exact o 4 (by simp), hz⟩
    · funext q; rw [b.2.1 0 q a0, a.2.1 0 (by decide), g4.a 0]
    · funext q; rw [b.2.1 1 q a1, a.2.1 1 (by decide), g4.a 1]
    · rw [b.2.2.1 1 a1 (by decide) (by decide), a.2.2, g4.l 1]
  have start : ∀ {R : Option zR}, xE tX_read_139 β σ3 [] = R → xE tX_read β σ [] = R := fun {R} h => by
    rw [xq_read, kW_read, lt_e, lt_e, lt_e, lt_e, lt_e, lt_e, lt_e, lt_e, lt_e, lt_e, lt_e, lt_e, lt_e, ← hs1, xq_read_65, kW_read_65, lt_e, lt_e, lt_e, lt_e, lt_e, lt_e, lt_e, lt_e, lt_e, lt_e, lt_e, lt_e, ← hs2, if_pos ⟨by omega, by omega⟩, lt_e, lt_e, ← hs3]
    exact h
  have e15 : xE tX_parse (β - 1) σ3 [] = xE tX_parse_15 (β - 1) σ4 [] := by
    rw [xq_parse, kW_parse, lt_e, lt_e, lt_e, ← hs4]
  refine ⟨fun e he => ?_, fun a ha => ?_⟩
  · obtain ⟨τ, r', t1, t2, t3, t4, t5⟩ := p1 e.1 e.2 (by rw [he])
    obtain ⟨τ2, u1, u2, u3, u4⟩ := rd_flt (β := β) (σ := τ) (k := e.1) (q := e.2) (hk e he) (FrS.km hKM t5) (by rw [t5.1 88 (by decide), w88]; decide) (by rw [t5.2.1 49 (by decide), t5.2.1 48 (by decide)]; exact z49)
    refine ⟨τ2, start ?_, u2, kp t5 u3 (by decide) (by decide) (by decide) (by decide) u4⟩
    rw [xq_read_139, kW_read_139, if_pos (by omega), zbd_of (e15.trans t1), t2, if_neg (by decide), if_pos rfl, lt_e, lt_e, lt_e, lt_e, lt_e, lt_e, t3, t4]
    exact u1
  · subst ha
    obtain ⟨τ, t1, t2, t3, t4, t5⟩ := p2 a rfl
    obtain ⟨hUA, hfr, hLn⟩ := hU a rfl
    have hTX := TXo_of hn hr
    have hFH : ∀ e ∈ a.2, FH (tt e.2.2.1) := seS_h (m + 1) (0, [], [], [], []) [] a (fun e he => by cases he) hr
    have hKM1 := FrS.km hKM t5
    have hRC : RC τ [] := by
      have e84 : τ.1 84 = 0 := by rw [t5.1 84 (by decide)]; exact o 84 (by simp)
      have e72 : τ.1 72 = 0 := by rw [t5.1 72 (by decide)]; exact o 72 (by simp)
      have e105 : τ.1 105 = 0 := by rw [t5.1 105 (by decide), f24.i 105]; exact v2 105 (by simp)
      have e86 : τ.1 86 = 0 := by rw [t5.1 86 (by decide), f24.i 86]; exact v2 86 (by simp)
      exact ⟨e84, by simp, e72, by rw [e105]; simp, by rw [e86]; simp, (by intro c hc; cases hc), fun k c hc => (by cases hc)⟩
    have hRJ : RJ τ [] := ⟨by rw [t5.1 105 (by decide), f24.i 105]; exact v2 105 (by simp), fun k c hc => (by cases hc)⟩
    obtain ⟨τ2, g1, g2, g3⟩ := clf_ok (β := β - 1) (by omega) t3 t4 hLn hfr hTX hUA hFH (by rw [t5.2.1 49 (by decide), t5.2.1 48 (by decide)]; exact z49) hRC hRJ hKM1
    have h139 : xE tX_read_139 β σ3 [] = (if (τ2.1 3000) = 0 then (xE tX_read_187 β τ2 []) else (if (τ2.1 3000) = 1 then (xE tX_read_187 β (fltS τ2 (τ2.1 3003) (τ2.1 3004)) []) else none)) := by
      rw [xq_read_139, kW_read_139, if_pos (by omega), zbd_of (e15.trans t1), t2, if_pos rfl, if_pos (by omega), zbd_of g1]
      rfl
    have e88 : τ2.1 88 < 0 := by rw [g2.i 88, t5.1 88 (by decide), w88]; decide
    refine ⟨fun q hq => ?_, fun Cs hCs => ?_⟩
    · rcases g3 with ⟨Cs, k1, _⟩ | ⟨q', k1, k2, k3, k4, k5, k6⟩
      · rw [k1] at hq; cases hq
      rw [k1] at hq
      cases hq
      obtain ⟨τ3, u1, u2, u3, u4⟩ := rd_flt (β := β) (σ := τ2) (k := 3) (q := q) (by decide) (hKM1.f g2) e88 ⟨k5, k6⟩
      have f3' : FrC [2, 5, 6, 19, 20, 47, 62, 65, 72, 84, 85, 98, 101, 105, 122, 3000, 3003, 3004] [23, 24, 43, 44, 45, 46, 48, 49, 58, 59, 60, 61, 63, 64, 66, 67, 68, 69, 70, 71, 73, 74, 75, 76, 77, 78, 79, 80, 81, 82, 95, 96, 97, 100, 102, 103, 104] τ τ3 := g2.w.trans u3.w
      refine ⟨τ3, start ?_, u2, kp t5 f3' (by decide) (by decide) (by decide) (by decide) u4⟩
      rw [h139, k2, if_neg (by decide), if_pos rfl, k3, k4]
      exact u1
    · rcases g3 with ⟨Cs', k1, k2, k3, k4⟩ | ⟨q', k1, _⟩
      · rw [k1] at hCs
        cases hCs
        obtain ⟨τ3, u1, u2, u3, u4, u5⟩ := rd_187 (β := β) (σ := τ2)
        have f3' : FrC [2, 19, 47, 62, 65, 72, 84, 85, 98, 101, 105, 122, 3000, 3003, 3004] [23, 24, 43, 44, 45, 46, 48, 49, 58, 59, 60, 61, 63, 64, 66, 67, 68, 69, 70, 71, 73, 74, 75, 76, 77, 78, 79, 80, 81, 82, 95, 96, 97, 100, 102, 103, 104] τ τ3 := g2.w.trans u2.w
        have e5 : τ3.1 5 = 0 := by rw [f3'.i 5, t5.1 5 (by decide), f24.i 5]; exact v2 5 (by simp)
        have e6 : τ3.1 6 = 0 := by rw [f3'.i 6, t5.1 6 (by decide), f24.i 6]; exact v2 6 (by simp)
        have e52 : τ2.1 5 = 0 := by rw [g2.i 5, t5.1 5 (by decide), f24.i 5]; exact v2 5 (by simp)
        have e84 : τ2.1 84 = (Cs.length : Int) := k3.1.1
        rw [e52, if_pos (Int.le_refl _), e84] at u1
        refine ⟨τ3, start ?_, ⟨k3.f u2 u2.pq, fun _ => ⟨by rw [u2.i 88]; exact e88, rfl⟩, fun h => absurd h (show ¬ (0 : Int) = 1 by decide)⟩, e5, e6, u3, by rw [u4]; exact e84, ⟨by rw [u2.i 19]; exact k4.1, fun c c1 c2 => by rw [u2.a 48]; exact k4.2 c c1 c2⟩, ?_, kp t5 f3' (by decide) (by decide) (by decide) (by decide) u5⟩
        · rw [h139, k2, if_pos rfl]
          exact u1
        · exact t3.2.1.c ⟨f3'.i 20, f3'.i 18⟩ (fun a ha => by funext q; exact f3'.2.1 a q (by
            obtain ⟨a1, a2⟩ := ha
            have : a = 13 ∨ a = 14 ∨ a = 15 ∨ a = 16 ∨ a = 17 := by omega
            rcases this with rfl | rfl | rfl | rfl | rfl <;> decide))
      · rw [k1] at hCs; cases hCs
