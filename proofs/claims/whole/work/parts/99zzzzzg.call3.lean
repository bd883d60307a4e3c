/-! one call of both: literal, count, look, search -/
variable {qo : Nat}
theorem plit_ok {σ ρ : zS} {n : Nat} (h : TL qo σ ρ n) (h3 : σ.2.2 3000 = 0) {β γ : Nat} (hβ : 6 ≤ β) (hγ : 3 ≤ γ) {x y w : Int} : An qo (yE tP_CP_literal β σ [x, y, w]) (zE tM_literal γ ρ [x, y, w]) σ mNS n := by
  have hz := h.zr
  obtain ⟨ar, pd, m9, A, P, T, nm, o, d, s, c, q, r, i⟩ := id h
  have hSC := s.1.2.2.1
  have h84 := q.n.1
  have e28 : yE tP_CP_literal_p28 β σ [x, y, w] = some (zT σ 3, 0) := by rw [yq_CP_literal_p28, kY_CP_literal_p28, if_pos hz, lt_e]
  have e47 : yE tP_CP_literal_p47 β σ [x, y, w] = some (zT σ 2, 0) := by rw [yq_CP_literal_p47, kY_CP_literal_p47, if_pos hz, lt_e]
  have e35 : ∀ {κ : zS}, zE tM_literal_35 γ κ [x, y, w] = some (κ, 0) := fun {κ} => by rw [zq_literal_35, kZ_literal_35]
  by_cases q0 : x < 0 ∨ (A.1.length : Int) ≤ x
  · refine An.th (c := 3) (r := 0) (κ := zI ρ 4 1) (s := 0) (by decide) ?_ ?_ zI_1 h.t
    · rw [yq_CP_literal, kY_CP_literal, if_pos (by omega), zbd_of (has_ok hSC), b2_f (by omega), if_pos rfl]; exact e28
    · rw [zq_literal, kZ_literal, if_pos (by omega), zbd_of (none_t (by omega) h84 q0), if_neg (by decide)]; exact e35
  obtain ⟨k, hk⟩ : ∃ k : Nat, x = (k : Int) := ⟨x.toNat, by omega⟩
  subst hk
  obtain ⟨e, he⟩ : ∃ e, A.1[k]? = some e := ⟨_, List.getElem?_eq_getElem (by omega)⟩
  have hZ : zE tM_none (γ - 1) ρ [(k : Int)] = some (zI ρ 4 0, 0) := none_f (by omega) h84 (by omega) (by omega)
  have hY : yE tC_Sto_has (β - 1) σ [(k : Int)] = some (σ, 1) := by
    have := has_ok (β := β - 1) hSC (k := (k : Int))
    rw [b2_t ⟨by omega, by omega⟩] at this
    exact this
  have hF := (hSC.f3 (β := β - 1) he).1
  have hS := q.s k (by omega)
  obtain ⟨⟨z1, z2, _⟩, l0, l1, _, hN, l8⟩ := hS.1.1.k he
  have hb : zb (k : Int) 2001 := ⟨by omega, by omega⟩
  have h74 : (zI ρ 4 0).2.1 74 (k : Int) = (e.1.length : Int) := z2
  by_cases q1 : y < 0 ∨ (e.1.length : Int) ≤ y
  · refine An.th (c := 3) (r := 0) (κ := zI ρ 4 1) (s := 0) (by decide) ?_ ?_ zI_1 h.t
    · rw [yq_CP_literal, kY_CP_literal, if_pos (by omega), zbd_of hY, if_neg (by decide)]
      by_cases q2 : y < 0
      · rw [if_pos q2]; exact e28
      · rw [if_neg q2, if_pos (by omega), zbd_of hF, if_neg (by omega)]; exact e28
    · have e24 : zE tM_literal_24 γ (zI ρ 4 0) [(k : Int), y, w, 1] = some (zI ρ 4 1, 0) := by
        rw [zq_literal_24, kZ_literal_24, zq_literal_29, kZ_literal_29, if_pos (by omega), zbd_of ref_1, if_neg (by decide), zI_zI]; exact e35
      rw [zq_literal, kZ_literal, if_pos (by omega), zbd_of hZ, if_pos rfl]
      by_cases q2 : y < 0
      · rw [if_pos q2]; exact e24
      · rw [if_neg q2, if_pos hb, h74, if_neg (by omega)]; exact e24
  obtain ⟨j, hj⟩ : ∃ j : Nat, y = (j : Int) := ⟨y.toNat, by omega⟩
  subst hj
  obtain ⟨a, ha⟩ : ∃ a, e.1[j]? = some a := ⟨_, List.getElem?_eq_getElem (by omega)⟩
  have goZ : ∀ {R : Option zR}, (if w < 0 ∨ 3 < w then (lt_ (zI (zI ρ 4 0) 4 2) (fun σ2 => some (σ2, 0))) else (if w = 0 then (if zr (lpos A.1 k + (j : Int)) then (if zb (lpos A.1 k + (j : Int)) 16100 then (if (ρ.2.1 68 (lpos A.1 k + (j : Int))) = 0 then (zE tM_literal_95 γ (zI ρ 4 0) [(k : Int), (j : Int), w, (lpos A.1 k + (j : Int)), 0]) else (zE tM_literal_95 γ (zI ρ 4 0) [(k : Int), (j : Int), w, (lpos A.1 k + (j : Int)), 1])) else none) else none) else (if w = 1 then (if zr (lpos A.1 k + (j : Int)) then (if zb (lpos A.1 k + (j : Int)) 16100 then (some (zI ρ 4 0, (ρ.2.1 69 (lpos A.1 k + (j : Int))))) else none) else none) else (if w = 2 then (if zr (lpos A.1 k + (j : Int)) then (if zb (lpos A.1 k + (j : Int)) 16100 then (if (ρ.2.1 71 (lpos A.1 k + (j : Int))) = 0 then (zE tM_literal_119 γ (zI ρ 4 0) [(k : Int), (j : Int), w, (lpos A.1 k + (j : Int)), 0]) else (zE tM_literal_119 γ (zI ρ 4 0) [(k : Int), (j : Int), w, (lpos A.1 k + (j : Int)), 1])) else none) else none) else (if zr (lpos A.1 k + (j : Int)) then (if zb (lpos A.1 k + (j : Int)) 16100 then (some (zI ρ 4 0, (ρ.2.1 70 (lpos A.1 k + (j : Int))))) else none) else none))))) = R → zE tM_literal γ ρ [(k : Int), (j : Int), w] = R := fun {R} hR => by
    have e73 : (zI ρ 4 0).2.1 73 (k : Int) = lpos A.1 k := z1
    rw [zq_literal, kZ_literal, if_pos (by omega), zbd_of hZ, if_pos rfl, if_neg (by omega), if_pos hb, h74, if_pos (by omega), zq_literal_29, kZ_literal_29, if_pos (by omega), zbd_of ref_0, if_pos rfl, if_pos hb, e73]
    exact hR
  by_cases q2 : w < 0 ∨ 3 < w
  · refine An.th (c := 2) (r := 0) (κ := zI ρ 4 2) (s := 0) (by decide) ?_ (goZ (by rw [if_pos q2, lt_e, zI_zI])) zI_1 h.t
    rw [yq_CP_literal, kY_CP_literal, if_pos (by omega), zbd_of hY, if_neg (by decide), if_neg (by omega), if_pos (by omega), zbd_of hF, if_pos (by omega)]
    by_cases q3 : w < 0
    · rw [if_pos q3]; exact e47
    · rw [if_neg q3, if_neg (by omega)]; exact e47
  have wc := s.1.2.2.2.2.2.2.2.2.2.1 e (List.mem_of_getElem? he)
  have hCx := s.1.1
  have hCy : Cy ar m9 σ := ⟨hCx.1, hCx.2.1, hCx.2.2.2.1, hCx.2.2.2.2.1, hSC.2.2.2.2.1.2.1⟩
  obtain ⟨τ, j1, j2, j3, j4, j5⟩ := judge_ok (β := β - 1) (by omega) he wc hCy hSC
  have S2 := s.jd he j2 j3 j4 j5
  have hSC2 := S2.1.2.2.1
  have hHd := headOf_ok (β := β - 1) (by omega) hSC2 he (i := j) (by omega) l8
  have hHL := hSC2.hl he ha
  obtain ⟨hj1, hj2⟩ := j5 j a ha
  have t1 := tw_pos a.2.1
  have t2 := tw_pos a.2.2
  obtain ⟨b1, b2', b3, _, _, b6, b7, b8, b9⟩ := hHL
  obtain ⟨_, _, _, _, r5, r6⟩ := hS.1.1.l he ha
  obtain ⟨o1, o2, _⟩ := hS.1.2.1.2 k e he j a ha
  have a01 : a.1 = 0 ∨ a.1 = 1 := (wc.2.2.2.2 a (List.mem_of_getElem? ha)).1
  have hzr : zr (lpos A.1 k + (j : Int)) := ⟨by omega, by omega⟩
  have hzb : zb (lpos A.1 k + (j : Int)) 16100 := ⟨by omega, by omega⟩
  have tl : TL qo τ (zI ρ 4 0) n := by
    have g : FrC [4] [] ρ (zI ρ 4 0) := FrC_I
    exact ⟨ar, pd, m9, A, P, T, nm, o, d, S2, c.f j2, q.f g g.pq, r.f g, i.f j2 g⟩
  have goY : ∀ {R : Option zR}, (if w = 3 then (if zr (hp (pos A.1 k) e.1 j + 3) then (if zb (hp (pos A.1 k) e.1 j + 3) (τ.2.2 48) then (if zr (hp (pos A.1 k) e.1 j + 4) then (if zb (hp (pos A.1 k) e.1 j + 4) (τ.2.2 48) then (if zr ((τ.2.1 48 (hp (pos A.1 k) e.1 j + 3)) + (τ.2.1 48 (hp (pos A.1 k) e.1 j + 4))) then (some (τ, ((τ.2.1 48 (hp (pos A.1 k) e.1 j + 3)) + (τ.2.1 48 (hp (pos A.1 k) e.1 j + 4))))) else none) else none) else none) else none) else none) else (if w = 0 then (yE tP_CP_literal_p131 β τ [(k : Int), (j : Int), w, hp (pos A.1 k) e.1 j, 0, hp (pos A.1 k) e.1 j]) else (if w = 1 then (yE tP_CP_literal_p131 β τ [(k : Int), (j : Int), w, hp (pos A.1 k) e.1 j, 1, hp (pos A.1 k) e.1 j]) else (yE tP_CP_literal_p131 β τ [(k : Int), (j : Int), w, hp (pos A.1 k) e.1 j, 2, hp (pos A.1 k) e.1 j])))) = R → yE tP_CP_literal β σ [(k : Int), (j : Int), w] = R := fun {R} hR => by
    rw [yq_CP_literal, kY_CP_literal, if_pos (by omega), zbd_of hY, if_neg (by decide), if_neg (by omega), if_pos (by omega), zbd_of hF, if_pos (by omega), if_neg (by omega), if_pos (by omega), if_pos (by omega), zbd_of j1, if_pos (by omega), zbd_of hHd]
    exact hR
  have p131 : ∀ (z v : Int), 0 ≤ z → z ≤ 2 → τ.2.1 48 (hp (pos A.1 k) e.1 j + z) = v → yE tP_CP_literal_p131 β τ [(k : Int), (j : Int), w, hp (pos A.1 k) e.1 j, z, hp (pos A.1 k) e.1 j] = some (τ, v) := fun z v z0 z2 hv => by
    rw [yq_CP_literal_p131, kY_CP_literal_p131, if_pos ⟨by omega, by omega⟩, if_pos (show zb (hp (pos A.1 k) e.1 j + z) (τ.2.2 48) from ⟨by omega, by omega⟩), hv]
  have h33 : τ.2.2 3000 = 0 := by rw [j3]; exact h3
  have mg : Mg σ τ := j2.2.2.2
  rcases (show w = 0 ∨ w = 1 ∨ w = 2 ∨ w = 3 by omega) with rfl | rfl | rfl | rfl
  · refine An.ok (r := a.1) (goY ?_) (goZ ?_) h33 zI_1 rfl mg tl
    · rw [if_neg (by decide), if_pos rfl]; exact p131 0 _ (by decide) (by decide) (by rw [Int.add_zero]; exact b1)
    · rw [if_neg q2, if_pos rfl, if_pos hzr, if_pos hzb, r5]
      rcases a01 with a0 | a0
      · rw [if_pos a0, a0, zq_literal_95, kZ_literal_95]
      · rw [if_neg (by omega), a0, zq_literal_95, kZ_literal_95]
  · refine An.ok (r := ordL a) (goY ?_) (goZ ?_) h33 zI_1 rfl mg tl
    · rw [if_neg (by decide), if_neg (by decide), if_pos rfl]; exact p131 1 _ (by decide) (by decide) hj1
    · rw [if_neg q2, if_neg (by decide), if_pos rfl, if_pos hzr, if_pos hzb, o1]
  · refine An.ok (r := b2 (elI e.1 j)) (goY ?_) (goZ ?_) h33 zI_1 rfl mg tl
    · rw [if_neg (by decide), if_neg (by decide), if_neg (by decide)]; exact p131 2 _ (by decide) (by decide) hj2
    · rw [if_neg q2, if_neg (by decide), if_neg (by decide), if_pos rfl, if_pos hzr, if_pos hzb, o2]
      by_cases hE : elI e.1 j
      · rw [b2_t hE, if_neg (by decide), zq_literal_119, kZ_literal_119]
      · rw [b2_f hE, if_pos rfl, zq_literal_119, kZ_literal_119]
  · refine An.ok (r := (lwt a : Int)) (goY ?_) (goZ ?_) h33 zI_1 rfl mg tl
    · rw [if_pos rfl, if_pos ⟨by omega, by omega⟩, if_pos (show zb (hp (pos A.1 k) e.1 j + 3) (τ.2.2 48) from ⟨by omega, by omega⟩), if_pos ⟨by omega, by omega⟩, if_pos (show zb (hp (pos A.1 k) e.1 j + 4) (τ.2.2 48) from ⟨by omega, by omega⟩), b2', b3, if_pos ⟨by omega, by omega⟩]
      show some (τ, _) = some (τ, ((tw a.2.1 + tw a.2.2 : Nat) : Int))
      congr 2
    · rw [if_neg q2, if_neg (by decide), if_neg (by decide), if_neg (by decide), if_pos hzr, if_pos hzb, r6]
/-- how many CLAUSES are in a state -/
def hmL (s : Int) : List CL → Nat
  | [] => 0
  | c :: Cs => (if cst c = s then 1 else 0) + hmL s Cs
theorem hmL_le (s : Int) : ∀ Cs : List CL, hmL s Cs ≤ Cs.length
  | [] => Nat.le_refl _
  | c :: Cs => by
    have := hmL_le s Cs
    show (if cst c = s then 1 else 0) + hmL s Cs ≤ Cs.length + 1
    split <;> omega
theorem hmY {β : Nat} (hβ : 1 ≤ β) {σ : zS} {Cs : List CL} (h : SC σ Cs) {s : Int} : ∀ (m i a : Nat), i + m = Cs.length → a ≤ i → yE tC_Sto_howMany_p4 β σ [s, (a : Int), (i : Int)] = some (σ, ((a + hmL s (Cs.drop i) : Nat) : Int))
  | 0, i, a, hm, ha => by
    rw [yq_Sto_howMany_p4, kY_Sto_howMany_p4, h.2.1, if_pos (by omega), List.drop_eq_nil_of_le (by omega)]
    rfl
  | m + 1, i, a, hm, ha => by
    have h2 := h.2.2.2.2.2.2.2
    obtain ⟨c, hc⟩ : ∃ c, Cs[i]? = some c := ⟨_, List.getElem?_eq_getElem (by omega)⟩
    obtain ⟨hlt, heq⟩ := List.getElem?_eq_some_iff.mp hc
    have hd : Cs.drop i = c :: Cs.drop (i + 1) := by rw [List.drop_eq_getElem_cons hlt, heq]
    rw [yq_Sto_howMany_p4, kY_Sto_howMany_p4, h.2.1, if_neg (by omega), if_pos hβ, zbd_of (h.f3 hc).2.2.1, hd]
    by_cases e : cst c = s
    · have ih := hmY (β := β) hβ h (s := s) m (i + 1) (a + 1) (by omega) (by omega)
      rw [if_pos e, yq_Sto_howMany_p29, kY_Sto_howMany_p29, if_pos ⟨by omega, by omega⟩, if_pos ⟨by omega, by omega⟩]
      have : hmL s (c :: Cs.drop (i + 1)) = 1 + hmL s (Cs.drop (i + 1)) := by
        show (if cst c = s then 1 else 0) + _ = _
        rw [if_pos e]
      rw [this, show a + (1 + hmL s (Cs.drop (i + 1))) = a + 1 + hmL s (Cs.drop (i + 1)) by omega, ← ih]
      rfl
    · have ih := hmY (β := β) hβ h (s := s) m (i + 1) a (by omega) (by omega)
      rw [if_neg e, yq_Sto_howMany_p29, kY_Sto_howMany_p29, if_pos ⟨by omega, by omega⟩, if_pos ⟨by omega, by omega⟩]
      have : hmL s (c :: Cs.drop (i + 1)) = hmL s (Cs.drop (i + 1)) := by
        show (if cst c = s then 1 else 0) + _ = _
        rw [if_neg e, Nat.zero_add]
      rw [this, ← ih, Int.add_zero]
      rfl
theorem hmZ {γ : Nat} {ρ : zS} {Cs : List CL} (h84 : ρ.1 84 = (Cs.length : Int)) (hN : Cs.length ≤ 2000) (h80 : ∀ (k : Nat) c, Cs[k]? = some c → ρ.2.1 80 (k : Int) = cst c) {s : Int} : ∀ (m i a : Nat), i + m = Cs.length → a ≤ i → zE tM_inState_4 γ ρ [s, (a : Int), (i : Int)] = some (ρ, ((a + hmL s (Cs.drop i) : Nat) : Int))
  | 0, i, a, hm, ha => by
    rw [zq_inState_4, kZ_inState_4, h84, if_pos (by omega), List.drop_eq_nil_of_le (by omega)]
    rfl
  | m + 1, i, a, hm, ha => by
    obtain ⟨c, hc⟩ : ∃ c, Cs[i]? = some c := ⟨_, List.getElem?_eq_getElem (by omega)⟩
    obtain ⟨hlt, heq⟩ := List.getElem?_eq_some_iff.mp hc
    have hd : Cs.drop i = c :: Cs.drop (i + 1) := by rw [List.drop_eq_getElem_cons hlt, heq]
    rw [zq_inState_4, kZ_inState_4, h84, if_neg (by omega), if_pos ⟨by omega, by omega⟩, h80 i c hc, hd]
    by_cases e : cst c = s
    · have ih := hmZ (γ := γ) h84 hN h80 (s := s) m (i + 1) (a + 1) (by omega) (by omega)
      rw [if_pos e, if_pos ⟨by omega, by omega⟩, zq_inState_25, kZ_inState_25, if_pos ⟨by omega, by omega⟩]
      have : hmL s (c :: Cs.drop (i + 1)) = 1 + hmL s (Cs.drop (i + 1)) := by
        show (if cst c = s then 1 else 0) + _ = _
        rw [if_pos e]
      rw [this, show a + (1 + hmL s (Cs.drop (i + 1))) = a + 1 + hmL s (Cs.drop (i + 1)) by omega, ← ih]
      rfl
    · have ih := hmZ (γ := γ) h84 hN h80 (s := s) m (i + 1) a (by omega) (by omega)
      rw [if_neg e, zq_inState_25, kZ_inState_25, if_pos ⟨by omega, by omega⟩]
      have : hmL s (c :: Cs.drop (i + 1)) = hmL s (Cs.drop (i + 1)) := by
        show (if cst c = s then 1 else 0) + _ = _
        rw [if_neg e, Nat.zero_add]
      rw [this, ← ih]
      rfl
theorem pcnt_ok {σ ρ : zS} {n : Nat} (h : TL qo σ ρ n) {β γ : Nat} (hβ : 2 ≤ β) (hγ : 1 ≤ γ) {x : Int} : ∃ r, yE tC_CP_count β σ [x] = some (σ, r) ∧ zE tM_count1 γ ρ [x] = some (zI ρ 4 0, r) := by
  obtain ⟨ar, pd, m9, A, P, T, nm, o, d, s, c, q, r, ⟨⟨i1, i2, _⟩, _, ⟨i3, i4, _⟩, _⟩⟩ := id h
  have hSC := s.1.2.2.1
  obtain ⟨c0, c1, c2, c3, c4, c5, c6⟩ := s.1.2.2.2.1
  obtain ⟨n1, ⟨k0, k1, k2, k3, k4, k5, k6⟩, n3⟩ := q.n
  have w : ∀ j, j ≠ 4 → (zI ρ 4 0).1 j = ρ.1 j := fun j hj => zI_o hj
  rw [yq_CP_count, kY_CP_count, zq_count1, kZ_count1, lt_e]
  by_cases q0 : x < 0 ∨ 13 < x
  · exact ⟨-1, by rw [if_pos q0], by rw [if_pos q0]⟩
  rw [if_neg q0, if_neg q0]
  have hst : ∀ t : Int, ∃ r, yE tC_Sto_howMany (β - 1) σ [t] = some (σ, r) ∧ zE tM_inState (γ - 1) (zI ρ 4 0) [t] = some (zI ρ 4 0, r) := fun t => by
    refine ⟨((0 + hmL t (A.1.drop 0) : Nat) : Int), ?_, ?_⟩
    · rw [yq_Sto_howMany, kY_Sto_howMany]
      exact hmY (by omega) hSC A.1.length 0 0 (by omega) (Nat.le_refl _)
    · rw [zq_inState, kZ_inState]
      refine hmZ (by rw [zI_o]; exact n1) n3 (fun k e he => ?_) A.1.length 0 0 (by omega) (Nat.le_refl _)
      have hk := (List.getElem?_eq_some_iff.mp he).1
      exact ((q.s k hk).1.1.k he).1.2.2.2.2.2.2.2.1
  rcases (show x = 0 ∨ x = 1 ∨ x = 2 ∨ x = 3 ∨ x = 4 ∨ x = 5 ∨ x = 6 ∨ x = 7 ∨ x = 8 ∨ x = 9 ∨ x = 10 ∨ x = 11 ∨ x = 12 ∨ x = 13 by omega) with rfl | rfl | rfl | rfl | rfl | rfl | rfl | rfl | rfl | rfl | rfl | rfl | rfl | rfl
  · exact ⟨σ.1 5402, by simp only [if_true], by simp only [if_true]; rw [w 84 (by decide), n1, hSC.2.1]⟩
  · exact ⟨σ.1 5403, by simp (config := {decide := true}) only [if_true, if_false], by simp (config := {decide := true}) only [if_true, if_false]; rw [w 85 (by decide), r.2.2.1, c.2.1]⟩
  · obtain ⟨r', y1, y2⟩ := hst 0
    refine ⟨r', ?_, ?_⟩
    · simp (config := {decide := true}) only [if_true, if_false]; rw [if_pos (by omega), zbd_of y1]
    · simp (config := {decide := true}) only [if_true, if_false]; rw [if_pos (by omega), zbd_of y2]
  · obtain ⟨r', y1, y2⟩ := hst 1
    refine ⟨r', ?_, ?_⟩
    · simp (config := {decide := true}) only [if_true, if_false]; rw [if_pos (by omega), zbd_of y1]
    · simp (config := {decide := true}) only [if_true, if_false]; rw [if_pos (by omega), zbd_of y2]
  · exact ⟨σ.1 5301, by simp (config := {decide := true}) only [if_true, if_false], by simp (config := {decide := true}) only [if_true, if_false]; rw [w 89 (by decide), k1, c1]⟩
  · exact ⟨σ.1 5302, by simp (config := {decide := true}) only [if_true, if_false], by simp (config := {decide := true}) only [if_true, if_false]; rw [w 90 (by decide), k2, c2]⟩
  · exact ⟨σ.1 5303, by simp (config := {decide := true}) only [if_true, if_false], by simp (config := {decide := true}) only [if_true, if_false]; rw [w 91 (by decide), k3, c3]⟩
  · exact ⟨σ.1 5304, by simp (config := {decide := true}) only [if_true, if_false], by simp (config := {decide := true}) only [if_true, if_false]; rw [w 92 (by decide), k4, c4]⟩
  · exact ⟨σ.1 5305, by simp (config := {decide := true}) only [if_true, if_false], by simp (config := {decide := true}) only [if_true, if_false]; rw [w 93 (by decide), k5, c5]⟩
  · exact ⟨σ.1 5306, by simp (config := {decide := true}) only [if_true, if_false], by simp (config := {decide := true}) only [if_true, if_false]; rw [w 94 (by decide), k6, c6]⟩
  · exact ⟨σ.1 5300, by simp (config := {decide := true}) only [if_true, if_false], by simp (config := {decide := true}) only [if_true, if_false]; rw [w 87 (by decide), k0, c0]⟩
  · exact ⟨σ.1 605, by simp (config := {decide := true}) only [if_true, if_false], by simp (config := {decide := true}) only [if_true, if_false]; rw [w 19 (by decide), r.1.1, c.2.2.1]⟩
  · exact ⟨σ.1 101, by simp (config := {decide := true}) only [if_true, if_false], by simp (config := {decide := true}) only [if_true, if_false]; rw [w 2 (by decide), i2, i1]⟩
  · exact ⟨σ.1 301, by simp (config := {decide := true}) only [if_true, if_false], by simp (config := {decide := true}) only [if_true, if_false]; rw [w 3 (by decide), i4, i3]⟩
