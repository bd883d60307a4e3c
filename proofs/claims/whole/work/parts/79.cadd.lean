/-! one more in a row -/
theorem radd {σ : zS} {r a : Nat} {X : List Int} {x : Int} {B : Nat} (h : RowC σ r a X) (hM : Mb σ) (hR : RL σ) (hX : X.length ≤ 2820000) (hB : σ.2.2 a ≤ B) (hB2 : 2 * X.length + 1 ≤ B) (ha : rws.elem a = true := by decide) : zrok σ r a ∧ RowC (zAdd σ r a x) r a (X ++ [x]) ∧ FrC [r] [a] σ (zAdd σ r a x) ∧ Mb (zAdd σ r a x) ∧ RL (zAdd σ r a x) ∧ (zAdd σ r a x).2.2 a ≤ B := by
  obtain ⟨q1, q2, q3⟩ := zAdd_row (x := x) h ha
  refine ⟨zrok_of hM hR h ha, q1, q2, hM.m q2.2.2.2, fun j hj => ?_, by omega⟩
  by_cases e : j = a
  · subst e
    have := hR j hj
    omega
  · have hm : j ∈ rws := List.elem_iff.mp hj
    simp only [rws, List.mem_cons, List.not_mem_nil, or_false] at hm
    rw [q2.2.2.1 j (by simp [e]) (by omega) (by omega)]
    exact hR j hj
theorem row_ex {σ : zS} {r a n : Nat} (h1 : σ.1 r = (n : Int)) (h2 : n ≤ σ.2.2 a) (h3 : 16 ≤ σ.2.2 a) : ∃ X, RowC σ r a X ∧ X.length = n := by
  refine ⟨(List.range n).map (fun i : Nat => σ.2.1 a (i : Int)), ⟨by simp [h1], by simpa using h2, h3, Fl_of (fun i c hc => ?_)⟩, by simp⟩
  rw [List.getElem?_map] at hc
  have hi : i < n := by
    by_cases w : i < n
    · exact w
    · rw [List.getElem?_eq_none (by simpa using w)] at hc; cases hc
  rw [List.getElem?_range hi] at hc
  simp at hc
  rw [show (0 : Int) + (i : Int) = (i : Int) by omega]; exact hc
theorem row_lo {σ τ : zS} {r a : Nat} {X Y : List Int} (h : RowC σ r a X) (g : RowC τ r a (X ++ Y)) {q : Int} (q0 : 0 ≤ q) (q1 : q < (X.length : Int)) : τ.2.1 a q = σ.2.1 a q := by
  obtain ⟨i, rfl⟩ := Int.eq_ofNat_of_zero_le q0
  have hi : i < X.length := by omega
  have e1 := Fl_get h.2.2.2 (List.getElem?_eq_getElem hi)
  have e2 := Fl_get g.2.2.2 (i := i) (c := X[i]) (by rw [List.getElem?_append_left hi]; exact List.getElem?_eq_getElem hi)
  rw [show (0 : Int) + (i : Int) = (i : Int) by omega] at e1 e2
  rw [e1, e2]
/-- LITERALS as they are laid down -/
def layL : List Lt → List Int
  | [] => []
  | a :: E => [a.1, 0, 0, (tw a.2.1 : Int), (tw a.2.2 : Int)] ++ (fl (tt a.2.1) ++ fl (tt a.2.2)) ++ layL E
theorem layL_app : ∀ A B : List Lt, layL (A ++ B) = layL A ++ layL B
  | [], B => rfl
  | a :: A, B => by simp only [List.cons_append, layL, layL_app A B, List.append_assoc]
theorem layL_len : ∀ E : List Lt, (layL E).length = szL E
  | [] => rfl
  | a :: E => by simp only [layL, List.length_append, List.length_cons, List.length_nil, tt_len, layL_len E, szL]; omega
theorem layL_LL {g : Int → Int} : ∀ {E : List Lt} {p : Int}, Fl g p (layL E) → LL g p E
  | [], p, _ => trivial
  | a :: E, p, h => by
    obtain ⟨h1, h2⟩ := Fl_app.mp (show Fl g p (([a.1, 0, 0, (tw a.2.1 : Int), (tw a.2.2 : Int)] ++ (fl (tt a.2.1) ++ fl (tt a.2.2))) ++ layL E) from h)
    obtain ⟨h3, h4⟩ := Fl_app.mp h1
    obtain ⟨h5, h6⟩ := Fl_app.mp h4
    simp only [List.length_append, List.length_cons, List.length_nil, tt_len] at h2 h4 h5 h6
    obtain ⟨k1, k2, k3, k4, k5, _⟩ := h3
    refine ⟨k1, ?_, ?_, ?_, ?_, layL_LL ?_⟩
    · rw [show p + 3 = p + 1 + 1 + 1 by omega]; exact k4
    · rw [show p + 4 = p + 1 + 1 + 1 + 1 by omega]; exact k5
    · have e : p + 5 = p + ((0 + 1 + 1 + 1 + 1 + 1 : Nat) : Int) := by omega
      rw [e]; exact h5
    · have e : p + 5 + (tw a.2.1 : Int) = p + ((0 + 1 + 1 + 1 + 1 + 1 : Nat) : Int) + (tw a.2.1 : Int) := by omega
      rw [e]; exact h6
    · have e : p + 5 + (tw a.2.1 : Int) + (tw a.2.2 : Int) = p + ((0 + 1 + 1 + 1 + 1 + 1 + (tw a.2.1 + tw a.2.2) : Nat) : Int) := by omega
      rw [e]; exact h2
/-- rows, while a CLAUSE is added -/
abbrev AF (σ τ : zS) : Prop := FrC [4701] [48] σ τ
theorem add_215 {β : Nat} {x0 x1 x2 i : Int} (i0 : 0 ≤ i) (i8 : i < 8) {e : Int} : ∀ (L X : List Int) (σ : zS) (q : Int), RowC σ 4701 48 X → Mb σ → RL σ → σ.2.2 48 ≤ 565000 → X.length + L.length ≤ 282000 → Fl (σ.2.1 40) q L → 0 ≤ q → q + (L.length : Int) = e → e ≤ 100 → σ.2.1 41 (i + 1) = e → ∃ τ, yE tG_Sto_add_p215 β σ [x0, x1, x2, i, q] = yE tG_Sto_add_p113 β τ [x0, x1, x2, i + 1] ∧ AF σ τ ∧ RowC τ 4701 48 (X ++ L) ∧ Mb τ ∧ RL τ ∧ τ.2.2 48 ≤ 565000
  | [], X, σ, q, hX, hM, hR, h48, hl, hF, q0, hq, he, h41 => by
    simp only [List.length_nil] at hq
    refine ⟨σ, ?_, FrC.refl, by rw [List.append_nil]; exact hX, hM, hR, h48⟩
    rw [yq_Sto_add_p215, kY_Sto_add_p215, if_pos (by omega), if_pos (by omega), h41, if_pos (by omega)]
  | c :: L, X, σ, q, hX, hM, hR, h48, hl, hF, q0, hq, he, h41 => by
    simp only [List.length_cons] at hq hl
    obtain ⟨r1, r2, r3, r4, r5, r6⟩ := radd (x := c) (B := 565000) hX hM hR (by omega) h48 (by omega)
    obtain ⟨τ, t1, t2, t3, t4, t5, t6⟩ := add_215 (β := β) (x0 := x0) (x1 := x1) (x2 := x2) i0 i8 (e := e) L (X ++ [c]) _ (q + 1) r2 r4 r5 r6 (by simp; omega) (Fl_q (fun j _ _ => r3.a 40 j) hF.2) (by omega) (by omega) he (by rw [r3.a 41]; exact h41)
    refine ⟨τ, ?_, r3.trans t2, by simpa using t3, t4, t5, t6⟩
    rw [yq_Sto_add_p215, kY_Sto_add_p215, if_pos (by omega), if_pos (by omega), h41, if_neg (by omega), if_pos (by omega), if_pos r1, hF.1, lt_e, if_pos (by omega), t1]
theorem add_113 {β : Nat} {x0 x1 x2 : Int} : ∀ (E A : List Lt) (X : List Int) (σ : zS), DE σ (A ++ E) → (∀ a ∈ E, a.1 = 0 ∨ a.1 = 1) → RowC σ 4701 48 X → Mb σ → RL σ → σ.2.2 48 ≤ 565000 → X.length + szL E ≤ 282000 → ∃ τ, yE tG_Sto_add_p113 β σ [x0, x1, x2, (A.length : Int)] = yE tG_Sto_add_p113 β τ [x0, x1, x2, σ.1 3905] ∧ AF σ τ ∧ RowC τ 4701 48 (X ++ layL E) ∧ Mb τ ∧ RL τ ∧ τ.2.2 48 ≤ 565000
  | [], A, X, σ, hD, hs, hX, hM, hR, h48, hl => by
    have := hD.1
    rw [List.append_nil] at this
    rw [this]
    exact ⟨σ, rfl, FrC.refl, by simpa [layL] using hX, hM, hR, h48⟩
  | a :: E, A, X, σ, hD, hs, hX, hM, hR, h48, hl => by
    simp only [szL] at hl
    have h1 := hD.1
    have h2 := hD.2.1
    simp only [List.length_append, List.length_cons] at h1 h2
    have hg : (A ++ a :: E)[A.length]? = some a := by rw [List.getElem?_append_right (Nat.le_refl _)]; simp
    obtain ⟨b1, b2, b3, b4, b5, b6, b7, b8⟩ := DE_get hD hg
    have sa := hs a List.mem_cons_self
    have t1 := tw_pos a.2.1
    have t2 := tw_pos a.2.2
    have len1 : ∀ (Y : List Int) (y : Int), (Y ++ [y]).length = Y.length + 1 := fun Y y => by simp
    obtain ⟨σ1, e1⟩ : ∃ z, z = zAdd σ 4701 48 a.1 := ⟨_, rfl⟩
    have P := radd (x := a.1) (B := 565000) hX hM hR (by omega) h48 (by omega)
    rw [← e1] at P
    obtain ⟨p1, p2, p3, p4, p5, p6⟩ := P
    obtain ⟨σ2, e2⟩ : ∃ z, z = zAdd σ1 4701 48 0 := ⟨_, rfl⟩
    have P := radd (x := 0) (B := 565000) p2 p4 p5 (by rw [len1]; omega) p6 (by rw [len1]; omega)
    rw [← e2] at P
    obtain ⟨q1, q2, q3, q4, q5, q6⟩ := P
    obtain ⟨σ3, e3⟩ : ∃ z, z = zAdd σ2 4701 48 0 := ⟨_, rfl⟩
    have P := radd (x := 0) (B := 565000) q2 q4 q5 (by rw [len1, len1]; omega) q6 (by rw [len1, len1]; omega)
    rw [← e3] at P
    obtain ⟨r1, r2, r3, r4, r5, r6⟩ := P
    have f3 := (p3.trans q3).trans r3
    obtain ⟨σ4, e4⟩ : ∃ z, z = zAdd σ3 4701 48 (tw a.2.1 : Int) := ⟨_, rfl⟩
    have P := radd (x := (tw a.2.1 : Int)) (B := 565000) r2 r4 r5 (by rw [len1, len1, len1]; omega) r6 (by rw [len1, len1, len1]; omega)
    rw [← e4] at P
    obtain ⟨s1, s2, s3, s4, s5, s6⟩ := P
    have f4 := f3.trans s3
    obtain ⟨σ5, e5⟩ : ∃ z, z = zAdd σ4 4701 48 (tw a.2.2 : Int) := ⟨_, rfl⟩
    have P := radd (x := (tw a.2.2 : Int)) (B := 565000) s2 s4 s5 (by rw [len1, len1, len1, len1]; omega) s6 (by rw [len1, len1, len1, len1]; omega)
    rw [← e5] at P
    obtain ⟨u1, u2, u3, u4, u5, u6⟩ := P
    have f5 : AF σ σ5 := f4.trans u3
    have eX : X ++ [a.1] ++ [0] ++ [0] ++ [(tw a.2.1 : Int)] ++ [(tw a.2.2 : Int)] = X ++ [a.1, 0, 0, (tw a.2.1 : Int), (tw a.2.2 : Int)] := by simp
    rw [eX] at u2
    have l5 : (X ++ [a.1, 0, 0, (tw a.2.1 : Int), (tw a.2.2 : Int)]).length = X.length + 5 := by simp
    have hFl : Fl (σ5.2.1 40) (wtL ((A ++ a :: E).take A.length) : Int) (fl (tt a.2.1) ++ fl (tt a.2.2)) := Fl_app.mpr ⟨Fl_q (fun j _ _ => f5.a 40 j) b5, by rw [tt_len]; exact Fl_q (fun j _ _ => f5.a 40 j) b6⟩
    obtain ⟨σ6, v1, v2, v3, v4, v5, v6⟩ := add_215 (β := β) (x0 := x0) (x1 := x1) (x2 := x2) (i := (A.length : Int)) (by omega) (by omega) (e := (wtL ((A ++ a :: E).take A.length) : Int) + (tw a.2.1 : Int) + (tw a.2.2 : Int)) (fl (tt a.2.1) ++ fl (tt a.2.2)) _ σ5 (wtL ((A ++ a :: E).take A.length) : Int) u2 u4 u5 u6 (by rw [l5, List.length_append, tt_len, tt_len]; omega) hFl b7 (by rw [List.length_append, tt_len, tt_len]; omega) b8 (by rw [f5.a 41]; exact b3)
    have f6 : AF σ σ6 := f5.trans v2
    have hD6 : DE σ6 ((A ++ [a]) ++ E) := by
      rw [List.append_assoc]
      refine ⟨by rw [f6.i 3905]; exact hD.1, hD.2.1, by rw [f6.i 3904]; exact hD.2.2.1, hD.2.2.2.1, RS_q hD.2.2.2.2 (fun j _ _ _ => f6.a 41 j) (fun j _ _ => ⟨f6.a 42 j, f6.a 43 j⟩) (fun j _ _ => f6.a 40 j)⟩
    obtain ⟨τ, w1, w2, w3, w4, w5, w6⟩ := add_113 (β := β) (x0 := x0) (x1 := x1) (x2 := x2) E (A ++ [a]) _ σ6 hD6 (fun b hb => hs b (List.mem_cons_of_mem _ hb)) v3 v4 v5 v6 (by rw [List.length_append, l5, List.length_append, tt_len, tt_len]; omega)
    refine ⟨τ, ?_, f6.trans w2, ?_, w4, w5, w6⟩
    · have k1 : σ3.2.1 42 (A.length : Int) - σ3.2.1 41 (A.length : Int) = (tw a.2.1 : Int) := by rw [f3.a 42, f3.a 41]; omega
      have k2 : σ4.2.1 41 ((A.length : Int) + 1) - σ4.2.1 42 (A.length : Int) = (tw a.2.2 : Int) := by rw [f4.a 42, f4.a 41]; omega
      have k3 : σ5.2.1 41 (A.length : Int) = (wtL ((A ++ a :: E).take A.length) : Int) := by rw [f5.a 41]; exact b1
      have hx : (((A ++ [a]).length : Nat) : Int) = (A.length : Int) + 1 := by simp
      have e141 : yE tG_Sto_add_p141 β σ [x0, x1, x2, (A.length : Int), a.1] = yE tG_Sto_add_p113 β τ [x0, x1, x2, σ.1 3905] := by
        rw [yq_Sto_add_p141, kY_Sto_add_p141, if_pos p1, lt_e, ← e1, if_pos q1, lt_e, ← e2, if_pos r1, lt_e, ← e3, if_pos (by omega), if_pos (by omega), k1, if_pos (by omega), if_pos s1, lt_e, ← e4, if_pos (by omega), if_pos (by omega), k2, if_pos (by omega), if_pos u1, lt_e, ← e5, k3, v1, ← hx, w1, f6.i 3905]
      rw [yq_Sto_add_p113, kY_Sto_add_p113, if_neg (by omega), if_pos (by omega), b4]
      rcases sa with z | z
      · rw [if_pos z]; rw [z] at e141; exact e141
      · rw [if_neg (by omega)]; rw [z] at e141; exact e141
    · have ey : X ++ layL (a :: E) = X ++ [a.1, 0, 0, (tw a.2.1 : Int), (tw a.2.2 : Int)] ++ (fl (tt a.2.1) ++ fl (tt a.2.2)) ++ layL E := by simp only [layL, List.append_assoc]
      rw [ey]; exact w3
/-- a new CLAUSE -/
theorem add_ok {β : Nat} {σ : zS} {Cs : List CL} {E : List Lt} {x0 x1 x2 : Int} (h : SC σ Cs) (hD : DE σ E) (hs : ∀ a ∈ E, a.1 = 0 ∨ a.1 = 1) (hv : σ.1 3906 = ((ntL [] E).length : Int)) (hM : Mb σ) (hR : RL σ) (hn : Cs.length < 2000) (hsz : szC Cs ≤ 140 * Cs.length) : ∃ τ, yE tG_Sto_add β σ [x0, x1, x2] = some (τ, (Cs.length : Int)) ∧ FrC [5101, 4701, 5402] [48, 52] σ τ ∧ SC τ (Cs ++ [(E, x0, x1, x2, 0, [])]) ∧ Mb τ ∧ RL τ ∧ (∀ q, q < σ.1 4701 → 0 ≤ q → τ.2.1 48 q = σ.2.1 48 q) ∧ (∀ q, 0 ≤ q → q < 11 * (Cs.length : Int) → τ.2.1 52 q = σ.2.1 52 q) ∧ τ.2.1 52 ((Cs.length : Int) * 11 + 10) = 0 ∧ τ.2.1 52 ((Cs.length : Int) * 11 + 9) = σ.1 4901 := by
  obtain ⟨gSK, gSN⟩ := SC_iff.mp h
  obtain ⟨n1, n2, n3, ⟨n4, n5, n6⟩, ⟨n7, n8, n9⟩, ⟨m1, m2, m3, m4⟩, m5⟩ := id gSN
  obtain ⟨X, hX, lX⟩ := row_ex (σ := σ) (r := 5101) (a := 52) (n := 11 * Cs.length) (by omega) (by omega) n9
  obtain ⟨Y, hY, lY⟩ := row_ex (σ := σ) (r := 4701) (a := 48) (n := szC Cs) n2 (by omega) n6
  have len1 : ∀ (Y : List Int) (y : Int), (Y ++ [y]).length = Y.length + 1 := fun Y y => by simp
  have dE := hD.2.1
  have dW := hD.2.2.2.1
  obtain ⟨σ1, e1⟩ : ∃ z, z = zAdd σ 5101 52 x0 := ⟨_, rfl⟩
  have P := radd (x := x0) (B := 45000) hX hM hR (by rw [lX]; omega) n8 (by rw [lX]; omega)
  rw [← e1] at P
  obtain ⟨z1, X1, g1, M1, R1, L1⟩ := P
  have f1 : FrC [5101] [52] σ σ1 := g1
  obtain ⟨σ2, e2⟩ : ∃ z, z = zAdd σ1 5101 52 x1 := ⟨_, rfl⟩
  have P := radd (x := x1) (B := 45000) X1 M1 R1 (by rw [len1, lX]; omega) L1 (by rw [len1, lX]; omega)
  rw [← e2] at P
  obtain ⟨z2, X2, g2, M2, R2, L2⟩ := P
  have f2 : FrC [5101] [52] σ σ2 := f1.trans g2
  obtain ⟨σ3, e3⟩ : ∃ z, z = zAdd σ2 5101 52 x2 := ⟨_, rfl⟩
  have P := radd (x := x2) (B := 45000) X2 M2 R2 (by rw [len1, len1, lX]; omega) L2 (by rw [len1, len1, lX]; omega)
  rw [← e3] at P
  obtain ⟨z3, X3, g3, M3, R3, L3⟩ := P
  have f3 : FrC [5101] [52] σ σ3 := f2.trans g3
  obtain ⟨σ4, e4⟩ : ∃ z, z = zAdd σ3 5101 52 (E.length : Int) := ⟨_, rfl⟩
  have P := radd (x := (E.length : Int)) (B := 45000) X3 M3 R3 (by rw [len1, len1, len1, lX]; omega) L3 (by rw [len1, len1, len1, lX]; omega)
  rw [← e4] at P
  obtain ⟨z4, X4, g4, M4, R4, L4⟩ := P
  have f4 : FrC [5101] [52] σ σ4 := f3.trans g4
  obtain ⟨σ5, e5⟩ : ∃ z, z = zAdd σ4 5101 52 (wtL E : Int) := ⟨_, rfl⟩
  have P := radd (x := (wtL E : Int)) (B := 45000) X4 M4 R4 (by rw [len1, len1, len1, len1, lX]; omega) L4 (by rw [len1, len1, len1, len1, lX]; omega)
  rw [← e5] at P
  obtain ⟨z5, X5, g5, M5, R5, L5⟩ := P
  have f5 : FrC [5101] [52] σ σ5 := f4.trans g5
  obtain ⟨σ6, e6⟩ : ∃ z, z = zAdd σ5 5101 52 ((ntL [] E).length : Int) := ⟨_, rfl⟩
  have P := radd (x := ((ntL [] E).length : Int)) (B := 45000) X5 M5 R5 (by rw [len1, len1, len1, len1, len1, lX]; omega) L5 (by rw [len1, len1, len1, len1, len1, lX]; omega)
  rw [← e6] at P
  obtain ⟨z6, X6, g6, M6, R6, L6⟩ := P
  have f6 : FrC [5101] [52] σ σ6 := f5.trans g6
  obtain ⟨σ7, e7⟩ : ∃ z, z = zAdd σ6 5101 52 0 := ⟨_, rfl⟩
  have P := radd (x := 0) (B := 45000) X6 M6 R6 (by rw [len1, len1, len1, len1, len1, len1, lX]; omega) L6 (by rw [len1, len1, len1, len1, len1, len1, lX]; omega)
  rw [← e7] at P
  obtain ⟨z7, X7, g7, M7, R7, L7⟩ := P
  have f7 : FrC [5101] [52] σ σ7 := f6.trans g7
  obtain ⟨σ8, e8⟩ : ∃ z, z = zAdd σ7 5101 52 0 := ⟨_, rfl⟩
  have P := radd (x := 0) (B := 45000) X7 M7 R7 (by rw [len1, len1, len1, len1, len1, len1, len1, lX]; omega) L7 (by rw [len1, len1, len1, len1, len1, len1, len1, lX]; omega)
  rw [← e8] at P
  obtain ⟨z8, X8, g8, M8, R8, L8⟩ := P
  have f8 : FrC [5101] [52] σ σ8 := f7.trans g8
  obtain ⟨σ9, e9⟩ : ∃ z, z = zAdd σ8 5101 52 (szC Cs : Int) := ⟨_, rfl⟩
  have P := radd (x := (szC Cs : Int)) (B := 45000) X8 M8 R8 (by rw [len1, len1, len1, len1, len1, len1, len1, len1, lX]; omega) L8 (by rw [len1, len1, len1, len1, len1, len1, len1, len1, lX]; omega)
  rw [← e9] at P
  obtain ⟨z9, X9, g9, M9, R9, L9⟩ := P
  have f9 : FrC [5101] [52] σ σ9 := f8.trans g9
  obtain ⟨σ10, e10⟩ : ∃ z, z = zAdd σ9 5101 52 (σ.1 4901) := ⟨_, rfl⟩
  have P := radd (x := (σ.1 4901)) (B := 45000) X9 M9 R9 (by rw [len1, len1, len1, len1, len1, len1, len1, len1, len1, lX]; omega) L9 (by rw [len1, len1, len1, len1, len1, len1, len1, len1, len1, lX]; omega)
  rw [← e10] at P
  obtain ⟨z10, X10, g10, M10, R10, L10⟩ := P
  have f10 : FrC [5101] [52] σ σ10 := f9.trans g10
  obtain ⟨σ11, e11⟩ : ∃ z, z = zAdd σ10 5101 52 0 := ⟨_, rfl⟩
  have P := radd (x := 0) (B := 45000) X10 M10 R10 (by rw [len1, len1, len1, len1, len1, len1, len1, len1, len1, len1, lX]; omega) L10 (by rw [len1, len1, len1, len1, len1, len1, len1, len1, len1, len1, lX]; omega)
  rw [← e11] at P
  obtain ⟨z11, X11, g11, M11, R11, L11⟩ := P
  have f11 : FrC [5101] [52] σ σ11 := f10.trans g11
  have ff : FrC [5101] [52] σ σ11 := f11
  have hY11 : RowC σ11 4701 48 Y := hY.f ff
  have hD11 : DE σ11 ([] ++ E) := ⟨by rw [ff.i 3905]; exact hD.1, hD.2.1, by rw [ff.i 3904]; exact hD.2.2.1, hD.2.2.2.1, RS_q hD.2.2.2.2 (fun j _ _ _ => ff.a 41 j) (fun j _ _ => ⟨ff.a 42 j, ff.a 43 j⟩) (fun j _ _ => ff.a 40 j)⟩
  have hse : szL E ≤ 140 := by rw [szL_wt]; omega
  obtain ⟨ρ, v1, v2, v3, v4, v5, v6⟩ := add_113 (β := β) (x0 := x0) (x1 := x1) (x2 := x2) E [] Y σ11 hD11 hs hY11 M11 R11 (by rw [ff.l 48]; exact n5) (by rw [lY]; omega)
  simp only [List.length_nil] at v1
  obtain ⟨τ, hτ⟩ : ∃ z, z = zI ρ 5402 (ρ.1 5402 + 1) := ⟨_, rfl⟩
  have fρ : FrC [5101, 4701] [48, 52] σ ρ := ff.w.trans v2.w
  have fτ : FrC [5101, 4701, 5402] [48, 52] σ τ := by
    have b1 : FrC [5101, 4701, 5402] [48, 52] ρ τ := by rw [hτ]; exact FrC_I
    exact fρ.w.trans b1
  have r52 : RowC τ 5101 52 (X ++ [x0, x1, x2, (E.length : Int), (wtL E : Int), ((ntL [] E).length : Int), 0, 0, (szC Cs : Int), σ.1 4901, 0]) := by
    have a1 := X11.f (τ := ρ) v2
    have a2 : RowC τ 5101 52 _ := a1.q (by rw [hτ, zI_o]) (fun q => by rw [hτ, zI_2]) (by rw [hτ, zI_2])
    simpa using a2
  have r48 : RowC τ 4701 48 (Y ++ layL E) := v3.q (by rw [hτ, zI_o]) (fun q => by rw [hτ, zI_2]) (by rw [hτ, zI_2])
  have e52 : ∀ q, 0 ≤ q → q < 11 * (Cs.length : Int) → τ.2.1 52 q = σ.2.1 52 q := fun q q0 q1 => row_lo hX r52 q0 (by omega)
  have e48 : ∀ q, 0 ≤ q → q < (szC Cs : Int) → τ.2.1 48 q = σ.2.1 48 q := fun q q0 q1 => row_lo hY r48 q0 (by omega)
  have new52 := (Fl_app.mp r52.2.2.2).2
  have new48 := (Fl_app.mp r48.2.2.2).2
  rw [lX] at new52
  rw [lY] at new48
  have lc : (Cs ++ [(E, x0, x1, x2, 0, [])] : List CL).length = Cs.length + 1 := by simp
  have n10 : τ.2.1 52 ((Cs.length : Int) * 11 + 10) = 0 ∧ τ.2.1 52 ((Cs.length : Int) * 11 + 9) = σ.1 4901 := by
    have w := new52
    rw [show (0 : Int) + ((11 * Cs.length : Nat) : Int) = (Cs.length : Int) * 11 by omega] at w
    obtain ⟨_, _, _, _, _, _, _, _, _, c9, c10, _⟩ := w
    refine ⟨?_, ?_⟩
    · rw [show (Cs.length : Int) * 11 + 10 = (Cs.length : Int) * 11 + 1 + 1 + 1 + 1 + 1 + 1 + 1 + 1 + 1 + 1 by omega]; exact c10
    · rw [show (Cs.length : Int) * 11 + 9 = (Cs.length : Int) * 11 + 1 + 1 + 1 + 1 + 1 + 1 + 1 + 1 + 1 by omega]; exact c9
  refine ⟨τ, ?_, fτ, SC_iff.mpr ⟨fun i c hc => ?_, ?_⟩, v4.m (by rw [hτ]; exact Mg.of rfl), fun j hj => by rw [hτ, zI_2]; exact v5 j hj, fun q q1 q0 => e48 q q0 (by omega), e52, n10.1, n10.2⟩
  · have kk : yE tG_Sto_add β σ [x0, x1, x2] = yE tG_Sto_add_p113 β σ11 [x0, x1, x2, 0] := by
      rw [yq_Sto_add, kY_Sto_add]
      rw [if_pos z1, lt_e, ← e1]
      rw [if_pos z2, lt_e, ← e2]
      rw [if_pos z3, lt_e, ← e3]
      rw [if_pos z4, f3.i 3905, hD.1, lt_e, ← e4]
      rw [if_pos z5, f4.i 3904, hD.2.2.1, lt_e, ← e5]
      rw [if_pos z6, f5.i 3906, hv, lt_e, ← e6]
      rw [if_pos z7, lt_e, ← e7]
      rw [if_pos z8, lt_e, ← e8]
      rw [if_pos z9, f8.i 4701, n2, lt_e, ← e9]
      rw [if_pos z10, f9.i 4901, lt_e, ← e10]
      rw [if_pos z11, lt_e, ← e11]
    rw [kk]
    refine v1.trans ?_
    rw [yq_Sto_add_p113, kY_Sto_add_p113, if_pos (by rw [v2.i 3905]; omega), if_pos (by rw [fρ.i 5402]; omega), lt_e, ← hτ, fρ.i 5402, n1]
  · by_cases hi : i < Cs.length
    · rw [List.getElem?_append_left hi] at hc
      obtain ⟨a1, a2, a3, a4, a5, a6⟩ := gSK i c hc
      have hp : pos (Cs ++ [(E, x0, x1, x2, 0, [])]) i = pos Cs i := by unfold pos; rw [List.take_append_of_le_length (by omega)]
      have hk := h.k hc
      have hle := szC_le hc
      have e9 : ∀ w : Int, 0 ≤ w → w < 11 → τ.2.1 52 ((i : Int) * 11 + w) = σ.2.1 52 ((i : Int) * 11 + w) := fun w w0 w1 => e52 _ (by omega) (by omega)
      rw [hp]
      obtain ⟨b0, b1, b2, b3, b4, b5, b6, b7, b8⟩ := a1
      refine ⟨⟨by rw [e9 0 (by omega) (by omega)]; exact b0, by rw [e9 1 (by omega) (by omega)]; exact b1, by rw [e9 2 (by omega) (by omega)]; exact b2, by rw [e9 3 (by omega) (by omega)]; exact b3, by rw [e9 4 (by omega) (by omega)]; exact b4, by rw [e9 5 (by omega) (by omega)]; exact b5, by rw [e9 6 (by omega) (by omega)]; exact b6, by rw [e9 7 (by omega) (by omega)]; exact b7, by rw [e9 8 (by omega) (by omega)]; exact b8⟩, LL_q (fun q q0 q1 _ => e48 q (by omega) (by rw [← n2]; omega)) a2, by rw [e9 9 (by omega) (by omega)]; exact a3, by rw [e9 9 (by omega) (by omega), fτ.i 4901]; exact a4, by rw [e9 9 (by omega) (by omega)]; exact Fl_q (fun q _ _ => fτ.a 50 q) a5, by rw [e9 10 (by omega) (by omega)]; exact a6⟩
    · have hi2 : i = Cs.length := by
        have := (List.getElem?_eq_some_iff.mp hc).1
        rw [lc] at this; omega
      subst hi2
      rw [List.getElem?_append_right (Nat.le_refl _)] at hc
      simp at hc
      subst hc
      have hp : pos (Cs ++ [(E, x0, x1, x2, 0, [])]) Cs.length = (szC Cs : Int) := by unfold pos; rw [List.take_append_of_le_length (Nat.le_refl _), List.take_length]
      rw [hp]
      have eb : (0 : Int) + ((11 * Cs.length : Nat) : Int) = (Cs.length : Int) * 11 := by omega
      rw [eb] at new52
      obtain ⟨c0, c1, c2, c3, c4, c5, c6, c7, c8, c9, c10, _⟩ := new52
      have sh' : ∀ w : Int, (Cs.length : Int) * 11 + w = (Cs.length : Int) * 11 + w := fun _ => rfl
      refine ⟨⟨by rw [Int.add_zero]; exact c0, c1, ?_, ?_, ?_, ?_, ?_, ?_, ?_⟩, layL_LL (by rw [show (szC Cs : Int) = 0 + (szC Cs : Int) by omega]; exact new48), ?_, ?_, trivial, ?_⟩
      · rw [show (Cs.length : Int) * 11 + 2 = (Cs.length : Int) * 11 + 1 + 1 by omega]; exact c2
      · rw [show (Cs.length : Int) * 11 + 3 = (Cs.length : Int) * 11 + 1 + 1 + 1 by omega]; exact c3
      · rw [show (Cs.length : Int) * 11 + 4 = (Cs.length : Int) * 11 + 1 + 1 + 1 + 1 by omega]; exact c4
      · rw [show (Cs.length : Int) * 11 + 5 = (Cs.length : Int) * 11 + 1 + 1 + 1 + 1 + 1 by omega]; exact c5
      · rw [show (Cs.length : Int) * 11 + 6 = (Cs.length : Int) * 11 + 1 + 1 + 1 + 1 + 1 + 1 by omega]; exact c6
      · rw [show (Cs.length : Int) * 11 + 7 = (Cs.length : Int) * 11 + 1 + 1 + 1 + 1 + 1 + 1 + 1 by omega]; exact c7
      · rw [show (Cs.length : Int) * 11 + 8 = (Cs.length : Int) * 11 + 1 + 1 + 1 + 1 + 1 + 1 + 1 + 1 by omega]; exact c8
      · rw [show (Cs.length : Int) * 11 + 9 = (Cs.length : Int) * 11 + 1 + 1 + 1 + 1 + 1 + 1 + 1 + 1 + 1 by omega, c9]; exact m1
      · rw [show (Cs.length : Int) * 11 + 9 = (Cs.length : Int) * 11 + 1 + 1 + 1 + 1 + 1 + 1 + 1 + 1 + 1 by omega, c9, fτ.i 4901]; show σ.1 4901 + ((0 : Nat) : Int) ≤ σ.1 4901; omega
      · rw [show (Cs.length : Int) * 11 + 10 = (Cs.length : Int) * 11 + 1 + 1 + 1 + 1 + 1 + 1 + 1 + 1 + 1 + 1 by omega]; exact Or.inl c10
  · have s1 : szC (Cs ++ [(E, x0, x1, x2, 0, [])]) = szC Cs + szL E := by rw [szC_app]; simp [szC]
    have q48 := r48.1
    have q52 := r52.1
    rw [List.length_append, layL_len, lY] at q48
    simp only [List.length_append, List.length_cons, List.length_nil, lX] at q52
    refine ⟨by rw [hτ, zI_1, fρ.i 5402, n1, lc]; omega, by rw [q48, s1], by rw [q52, lc]; omega, ⟨?_, by rw [hτ, zI_2]; exact v6, r48.2.2.1⟩, ⟨?_, by rw [hτ, zI_2, v2.l 52]; exact L11, r52.2.2.1⟩, ⟨by rw [fτ.i 4901]; exact m1, by rw [fτ.i 4901, fτ.l 50]; exact m2, by rw [fτ.l 50]; exact m3, by rw [fτ.l 50]; exact m4⟩, by rw [lc]; omega⟩
    · rw [r48.1]; have := r48.2.1; omega
    · rw [r52.1]; have := r52.2.1; omega
