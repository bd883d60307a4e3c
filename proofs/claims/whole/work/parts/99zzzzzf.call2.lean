/-! one call of both: symbol, clause, rewrote, literal, count -/
variable {qo : Nat}
theorem SI.jd {ar : Int → Nat} {pd : Int → Prop} {m9 : Int} {σ τ : zS} {A : PA} {P : List Int} (h : SI ar pd m9 σ A P) {g : Nat} {c : CL} (hg : A.1[g]? = some c) (f : FrC [] [13, 48] σ τ) (el : τ.2.2 = σ.2.2) (e48 : ∀ q, ¬ LLq (pos A.1 g) c.1 q → τ.2.1 48 q = σ.2.1 48 q) (hJ : JG (τ.2.1 48) (pos A.1 g) c.1) : SI ar pd m9 τ A P := by
  obtain ⟨⟨c1, c2, c3, c4, c5, c6, c7, ⟨N, c8⟩, c9, c10, c11⟩, s2, s3, s4, s5, s6⟩ := h
  obtain ⟨gSK, gSN⟩ := SC_iff.mp c3
  have far : ∀ (i : Nat) (d : CL), A.1[i]? = some d → i ≠ g → ∀ q, pos A.1 i ≤ q → q < pos A.1 i + (szL d.1 : Int) → τ.2.1 48 q = σ.2.1 48 q := fun i d hd hi q q0 q1 => e48 q (fun w => by
    obtain ⟨w1, w2⟩ := LLq_lo w
    by_cases e : i < g
    · have := pos_lt hd e; omega
    · have := pos_lt hg (show g < i by omega); omega)
  have S : SC τ A.1 := by
    refine SC_iff.mpr ⟨fun i d hd => ?_, ?_⟩
    · obtain ⟨⟨b0, b1, b2, b3, b4, b5, b6, b7, b8⟩, a2, a3, a4, a5, a6⟩ := gSK i d hd
      rw [← f.a 52] at b0 b1 b2 b3 b4 b5 b6 b7 b8 a3 a4 a5 a6
      refine ⟨⟨b0, b1, b2, b3, b4, b5, b6, b7, b8⟩, ?_, a3, by rw [f.i 4901]; exact a4, Fl_q (fun q _ _ => f.a 50 q) a5, a6⟩
      by_cases e : i = g
      · subst e
        rw [hg] at hd
        obtain rfl := Option.some.inj hd
        exact LL_q (fun q _ _ w => e48 q w) a2
      · exact LL_q (fun q q0 q1 _ => far i d hd e q q0 q1) a2
    · obtain ⟨n1, n2, n3, n4, n5, n6, n7⟩ := gSN
      exact ⟨by rw [f.i 5402]; exact n1, by rw [f.i 4701]; exact n2, by rw [f.i 5101]; exact n3, by rw [f.i 4701, el]; exact n4, by rw [f.i 5101, el]; exact n5, by rw [f.i 4901, el]; exact n6, n7⟩
  refine ⟨⟨c1.q (fun q => f.a 7 q) (fun q => f.a 12 q) (f.i 4701) (by rw [el]), c2, S, c4.f f, c5.m f.2.2.2, fun j hj => by rw [el]; exact c6 j hj, c7.f f, ⟨N, c8.f f⟩, by rw [f.i 3905]; exact c9, c10, fun j d hj hs => ?_⟩, fun q => ⟨⟨fun k k0 k1 => by rw [f.a 52]; exact (s2 q).1.1 k k0 k1, by rw [f.i 4901]; exact (s2 q).1.2⟩, (s2 q).2⟩, ⟨by rw [f.i 5501]; exact s3.1, by rw [el]; exact s3.2.1, by rw [el]; exact s3.2.2.1, Fl_q (fun q _ _ => f.a 56 q) s3.2.2.2⟩, by rw [el]; exact s4, by rw [el]; exact s5, by rw [el]; exact s6⟩
  by_cases e : j = g
  · subst e
    rw [hg] at hj
    obtain rfl := Option.some.inj hj
    exact hJ
  · have hJj := c11 j d hj hs
    intro i a ha
    obtain ⟨z1, z2⟩ := hJj i a ha
    have b1 : szL (d.1.take i) + 7 ≤ szL d.1 := by
      have t1 := tw_pos a.2.1
      have t2 := tw_pos a.2.2
      have e1 : d.1.take (i + 1) = d.1.take i ++ [a] := by rw [List.take_add_one, ha]; rfl
      have e2 := congrArg szL (List.take_append_drop (i + 1) d.1)
      rw [szL_app, e1, szL_app] at e2
      simp only [szL] at e2
      omega
    have p1 : hp (pos A.1 j) d.1 i = pos A.1 j + (szL (d.1.take i) : Int) := rfl
    rw [far j d hj e _ (by omega) (by omega), far j d hj e _ (by omega) (by omega)]
    exact ⟨z1, z2⟩
theorem psym_ok {σ ρ : zS} {n : Nat} (h : TL qo σ ρ n) (h3 : σ.2.2 3000 = 0) {β γ : Nat} (hβ : 1 ≤ β) (hγ : 1 ≤ γ) {x y : Int} : An qo (yE tP_CP_symbol β σ [x, y]) (zE tM_symbol2 γ ρ [x, y]) σ mNS n := by
  have hz := h.zr
  obtain ⟨ar, pd, m9, A, P, T, nm, o, d, s, c, q, ⟨⟨t1, t2⟩, ⟨p1, p2⟩, r3, r4⟩, i⟩ := id h
  have hCx := s.1.1
  have e605 : σ.1 605 = m9 := c.2.2.1
  have e604 : σ.1 604 = (nm.length : Int) := by have := c.2.2.2.1; rw [zI_o] at this; exact this
  have e19 : (zI ρ 4 0).1 19 = m9 := by rw [zI_o]; exact t1
  by_cases q0 : x < 0 ∨ m9 ≤ x
  · refine An.th (c := 3) (r := 0) (κ := zI ρ 4 1) (s := 0) (by decide) ?_ ?_ zI_1 h.t
    · have e15 : yE tP_CP_symbol_p15 β σ [x, y] = some (zT σ 3, 0) := by rw [yq_CP_symbol_p15, kY_CP_symbol_p15, if_pos hz, lt_e]
      rw [yq_CP_symbol, kY_CP_symbol, e605]
      by_cases q1 : x < 0
      · rw [if_pos q1]; exact e15
      · rw [if_neg q1, if_neg (by omega)]; exact e15
    · have eF : zE tM_symbol2_19 γ (zI ρ 4 0) [x, y, 1] = some (zI ρ 4 1, 0) := by
        rw [zq_symbol2_19, kZ_symbol2_19, zq_symbol2_24, kZ_symbol2_24, if_pos hγ, zbd_of ref_1, if_neg (by decide), zI_zI, zq_symbol2_52, kZ_symbol2_52]
      rw [zq_symbol2, kZ_symbol2, lt_e, e19]
      by_cases q1 : x < 0
      · rw [if_pos q1]; exact eF
      · rw [if_neg q1, if_neg (by omega)]; exact eF
  have x0 : 0 ≤ x := by omega
  have x1 : x < m9 := by omega
  have go : ∀ {R : Option zR}, (if y < 0 then (zE tM_symbol2_41 γ (zI ρ 4 0) [x, y, 2]) else (if y ≤ 2 then (zE tM_symbol2_46 γ (zI ρ 4 0) [x, y, 0, 2]) else (zE tM_symbol2_41 γ (zI ρ 4 0) [x, y, 2]))) = R → zE tM_symbol2 γ ρ [x, y] = R := fun {R} hR => by
    rw [zq_symbol2, kZ_symbol2, lt_e, e19, if_neg (by omega), if_pos x1, zq_symbol2_24, kZ_symbol2_24, if_pos hγ, zbd_of ref_0, if_pos rfl]
    exact hR
  by_cases q1 : y < 0 ∨ 2 < y
  · refine An.th (c := 2) (r := 0) (κ := zI ρ 4 2) (s := 0) (by decide) ?_ (go ?_) zI_1 h.t
    · have e15 : yE tP_CP_symbol_p35 β σ [x, y] = some (zT σ 2, 0) := by rw [yq_CP_symbol_p35, kY_CP_symbol_p35, if_pos hz, lt_e]
      rw [yq_CP_symbol, kY_CP_symbol, e605, if_neg (by omega), if_pos x1]
      by_cases q2 : y < 0
      · rw [if_pos q2]; exact e15
      · rw [if_neg q2, if_neg (by omega)]; exact e15
    · have eF : zE tM_symbol2_41 γ (zI ρ 4 0) [x, y, 2] = some (zI ρ 4 2, 0) := by
        rw [zq_symbol2_41, kZ_symbol2_41, zq_symbol2_46, kZ_symbol2_46, if_pos hγ, zbd_of ref_1, if_neg (by decide), zI_zI, zq_symbol2_52, kZ_symbol2_52]
      by_cases q2 : y < 0
      · rw [if_pos q2]; exact eF
      · rw [if_neg q2, if_neg (by omega)]; exact eF
  have y0 : ¬ y < 0 := by omega
  have y2 : y ≤ 2 := by omega
  have m5 : m9 ≤ 551 := hCx.2.1
  have goY : ∀ {R : Option zR}, (if y = 0 then (if zb x 551 then (some (σ, (σ.2.1 7 x))) else none) else (if y = 1 then (if 1 ≤ β then (zbd (yE tC_Sym_isPredicate (β - 1) σ [x]) (fun σ2 r2 => yE tP_CP_symbol_p83 β σ2 [x, y, r2])) else none) else (if 1 ≤ β then (zbd (yE tC_Sym_isWitness (β - 1) σ [x]) (fun σ1 r1 => yE tP_CP_symbol_p83 β σ1 [x, y, r1])) else none))) = R → yE tP_CP_symbol β σ [x, y] = R := fun {R} hR => by
    rw [yq_CP_symbol, kY_CP_symbol, e605, if_neg (by omega), if_pos x1, if_neg y0, if_pos y2]
    exact hR
  have goZ : ∀ {R : Option zR}, (if y = 0 then (if zb x 900 then (zE tM_symbol2_102 γ (zI ρ 4 0) [x, y, (ρ.2.1 48 x)]) else none) else (if y = 1 then (if zb x 900 then (if (ρ.2.1 49 x) = 0 then (zE tM_symbol2_102 γ (zI ρ 4 0) [x, y, 0]) else (zE tM_symbol2_102 γ (zI ρ 4 0) [x, y, 1])) else none) else (if x ≤ (nm.length : Int) then (zE tM_symbol2_102 γ (zI ρ 4 0) [x, y, 0]) else (zE tM_symbol2_102 γ (zI ρ 4 0) [x, y, 1])))) = R → zE tM_symbol2 γ ρ [x, y] = R := fun {R} hR => go (by
    have e20 : (zI ρ 4 0).1 20 = (nm.length : Int) := by rw [zI_o]; exact r4.1
    rw [if_neg y0, if_pos y2, zq_symbol2_46, kZ_symbol2_46, if_pos hγ, zbd_of ref_0, if_pos rfl, e20]
    exact hR)
  have p83 : ∀ b : Int, b = 0 ∨ b = 1 → yE tP_CP_symbol_p83 β σ [x, y, b] = some (σ, b) := fun b hb => by
    rw [yq_CP_symbol_p83, kY_CP_symbol_p83]
    rcases hb with rfl | rfl
    · rw [if_pos rfl, yq_CP_symbol_p93, kY_CP_symbol_p93]
    · rw [if_neg (by decide), yq_CP_symbol_p93, kY_CP_symbol_p93]
  have z102 : ∀ b : Int, zE tM_symbol2_102 γ (zI ρ 4 0) [x, y, b] = some (zI ρ 4 0, b) := fun b => by rw [zq_symbol2_102, kZ_symbol2_102]
  by_cases c0 : y = 0
  · refine An.ok (τ := σ) (κ := zI ρ 4 0) (r := (ar x : Int)) (goY ?_) (goZ ?_) h3 zI_1 rfl Mg.refl h.t
    · rw [if_pos c0, if_pos ⟨x0, by omega⟩, (hCx.1 x ⟨by omega, x1⟩ x0).2]
    · rw [if_pos c0, if_pos ⟨x0, by omega⟩, t2 x x0 x1]; exact z102 _
  by_cases c1 : y = 1
  · by_cases hp : pd x
    · refine An.ok (τ := σ) (κ := zI ρ 4 0) (r := 1) (goY ?_) (goZ ?_) h3 zI_1 rfl Mg.refl h.t
      · have e : yE tC_Sym_isPredicate (β - 1) σ [x] = some (σ, 1) := by
          rw [yq_Sym_isPredicate, kY_Sym_isPredicate, if_pos ⟨x0, by omega⟩, if_pos ((hCx.2.2.1 x x0 x1).mpr hp), yq_Sym_isPredicate_p15, kY_Sym_isPredicate_p15, if_pos (Or.inr rfl)]
        rw [if_neg c0, if_pos c1, if_pos hβ, zbd_of e]; exact p83 1 (Or.inr rfl)
      · rw [if_neg c0, if_pos c1, if_pos ⟨x0, by omega⟩, if_neg (fun z => (p2 x x0 x1).mp z hp)]; exact z102 _
    · refine An.ok (τ := σ) (κ := zI ρ 4 0) (r := 0) (goY ?_) (goZ ?_) h3 zI_1 rfl Mg.refl h.t
      · have e : yE tC_Sym_isPredicate (β - 1) σ [x] = some (σ, 0) := by
          rw [yq_Sym_isPredicate, kY_Sym_isPredicate, if_pos ⟨x0, by omega⟩, if_neg (fun z => hp ((hCx.2.2.1 x x0 x1).mp z)), yq_Sym_isPredicate_p15, kY_Sym_isPredicate_p15, if_pos (Or.inl rfl)]
        rw [if_neg c0, if_pos c1, if_pos hβ, zbd_of e]; exact p83 0 (Or.inl rfl)
      · rw [if_neg c0, if_pos c1, if_pos ⟨x0, by omega⟩, if_pos ((p2 x x0 x1).mpr hp)]; exact z102 _
  · by_cases hw : x ≤ (nm.length : Int)
    · refine An.ok (τ := σ) (κ := zI ρ 4 0) (r := 0) (goY ?_) (goZ ?_) h3 zI_1 rfl Mg.refl h.t
      · have e : yE tC_Sym_isWitness (β - 1) σ [x] = some (σ, 0) := by
          rw [yq_Sym_isWitness, kY_Sym_isWitness, e604, if_pos hw, yq_Sym_isWitness_p13, kY_Sym_isWitness_p13, if_pos (Or.inl rfl)]
        rw [if_neg c0, if_neg c1, if_pos hβ, zbd_of e]; exact p83 0 (Or.inl rfl)
      · rw [if_neg c0, if_neg c1, if_pos hw]; exact z102 _
    · refine An.ok (τ := σ) (κ := zI ρ 4 0) (r := 1) (goY ?_) (goZ ?_) h3 zI_1 rfl Mg.refl h.t
      · have e : yE tC_Sym_isWitness (β - 1) σ [x] = some (σ, 1) := by
          rw [yq_Sym_isWitness, kY_Sym_isWitness, e604, if_neg hw, yq_Sym_isWitness_p13, kY_Sym_isWitness_p13, if_pos (Or.inr rfl)]
        rw [if_neg c0, if_neg c1, if_pos hβ, zbd_of e]; exact p83 1 (Or.inr rfl)
      · rw [if_neg c0, if_neg c1, if_neg hw]; exact z102 _
/-- no such CLAUSE -/
theorem none_t {γ : Nat} (hγ : 2 ≤ γ) {ρ : zS} {N : Nat} (h84 : ρ.1 84 = (N : Int)) {k : Int} (hk : k < 0 ∨ (N : Int) ≤ k) : zE tM_none γ ρ [k] = some (zI ρ 4 1, 1) := by
  have e24 : zE tM_none_24 γ (zI ρ 4 0) [k, 1, 1] = some (zI ρ 4 1, 1) := by
    rw [zq_none_24, kZ_none_24, if_pos (by omega), zbd_of ref_1, if_pos (Or.inr rfl), zI_zI]
  have e84 : (zI ρ 4 0).1 84 = (N : Int) := by rw [zI_o]; exact h84
  rw [zq_none, kZ_none, lt_e, e84]
  by_cases c : k < 0
  · rw [if_pos c, zq_none_19, kZ_none_19]; exact e24
  · rw [if_neg c, if_neg (by omega), zq_none_19, kZ_none_19]; exact e24
theorem none_f {γ : Nat} (hγ : 2 ≤ γ) {ρ : zS} {N : Nat} (h84 : ρ.1 84 = (N : Int)) {k : Int} (h0 : 0 ≤ k) (h1 : k < (N : Int)) : zE tM_none γ ρ [k] = some (zI ρ 4 0, 0) := by
  have e84 : (zI ρ 4 0).1 84 = (N : Int) := by rw [zI_o]; exact h84
  rw [zq_none, kZ_none, lt_e, e84, if_neg (by omega), if_pos h1, zq_none_24, kZ_none_24, if_pos (by omega), zbd_of ref_0, if_pos (Or.inl rfl)]
theorem pcla_ok {σ ρ : zS} {n : Nat} (h : TL qo σ ρ n) (h3 : σ.2.2 3000 = 0) {β γ : Nat} (hβ : 1 ≤ β) (hγ : 3 ≤ γ) {x y : Int} : An qo (yE tP_CP_clause β σ [x, y]) (zE tM_clause γ ρ [x, y]) σ mNS n := by
  have hz := h.zr
  obtain ⟨ar, pd, m9, A, P, T, nm, o, d, s, c, q, r, i⟩ := id h
  have hSC := s.1.2.2.1
  have h84 := q.n.1
  by_cases q0 : x < 0 ∨ (A.1.length : Int) ≤ x
  · refine An.th (c := 3) (r := 0) (κ := zI ρ 4 1) (s := 0) (by decide) ?_ ?_ zI_1 h.t
    · rw [yq_CP_clause, kY_CP_clause, if_pos hβ, zbd_of (has_ok hSC), b2_f (by omega), if_pos rfl, if_pos hz, lt_e]
    · rw [zq_clause, kZ_clause, if_pos (by omega), zbd_of (none_t (by omega) h84 q0), if_neg (by decide)]
  obtain ⟨k, hk⟩ : ∃ k : Nat, x = (k : Int) := ⟨x.toNat, by omega⟩
  subst hk
  obtain ⟨e, he⟩ : ∃ e, A.1[k]? = some e := ⟨_, List.getElem?_eq_getElem (by omega)⟩
  have hZ : zE tM_none (γ - 1) ρ [(k : Int)] = some (zI ρ 4 0, 0) := none_f (by omega) h84 (by omega) (by omega)
  have hY : yE tC_Sto_has (β - 1) σ [(k : Int)] = some (σ, 1) := by
    have := has_ok (β := β - 1) hSC (k := (k : Int))
    rw [b2_t ⟨by omega, by omega⟩] at this
    exact this
  by_cases q1 : y < 0 ∨ 7 < y
  · refine An.th (c := 2) (r := 0) (κ := zI ρ 4 2) (s := 0) (by decide) ?_ ?_ zI_1 h.t
    · have e31 : yE tP_CP_clause_p31 β σ [(k : Int), y] = some (zT σ 2, 0) := by rw [yq_CP_clause_p31, kY_CP_clause_p31, if_pos hz, lt_e]
      rw [yq_CP_clause, kY_CP_clause, if_pos hβ, zbd_of hY, if_neg (by decide)]
      by_cases q2 : y < 0
      · rw [if_pos q2]; exact e31
      · rw [if_neg q2, if_neg (by omega)]; exact e31
    · rw [zq_clause, kZ_clause, if_pos (by omega), zbd_of hZ, if_pos rfl, if_pos q1, lt_e, zI_zI]
  have hS := q.s k (by omega)
  obtain ⟨⟨z1, z2, z3, z4, z5, z6, z7, z8, z9, _⟩, _, _, _, hN, _⟩ := hS.1.1.k he
  obtain ⟨⟨⟨f0, f1, f2, f3, f4, f5, f6, f7, f8⟩, _⟩, _⟩ := hSC.k he
  have hb : zb (k : Int) 2001 := ⟨by omega, by omega⟩
  have goY : ∀ v, σ.2.1 52 ((k : Int) * 11 + y) = v → yE tP_CP_clause β σ [(k : Int), y] = some (σ, v) := fun v hv => by
    rw [yq_CP_clause, kY_CP_clause, if_pos hβ, zbd_of hY, if_neg (by decide), if_neg (by omega), if_pos (by omega), if_pos hβ, zbd_of (fact_ok hSC (by omega) (by omega) (by omega) (by omega)), hv]
  have goZ : ∀ {R : Option zR}, (if y = 0 then (if zb (k : Int) 2001 then (some (zI ρ 4 0, (ρ.2.1 77 (k : Int)))) else none) else (if y = 1 then (if zb (k : Int) 2001 then (some (zI ρ 4 0, (ρ.2.1 78 (k : Int)))) else none) else (if y = 2 then (if zb (k : Int) 2001 then (some (zI ρ 4 0, (ρ.2.1 79 (k : Int)))) else none) else (if y = 3 then (if zb (k : Int) 2001 then (some (zI ρ 4 0, (ρ.2.1 74 (k : Int)))) else none) else (if y = 4 then (if zb (k : Int) 2001 then (some (zI ρ 4 0, (ρ.2.1 75 (k : Int)))) else none) else (if y = 5 then (if zb (k : Int) 2001 then (some (zI ρ 4 0, (ρ.2.1 76 (k : Int)))) else none) else (if y = 6 then (if zb (k : Int) 2001 then (some (zI ρ 4 0, (ρ.2.1 80 (k : Int)))) else none) else (if zb (k : Int) 2001 then (some (zI ρ 4 0, (ρ.2.1 82 (k : Int)))) else none)))))))) = R → zE tM_clause γ ρ [(k : Int), y] = R := fun {R} hR => by
    rw [zq_clause, kZ_clause, if_pos (by omega), zbd_of hZ, if_pos rfl, if_neg q1]
    exact hR
  rcases (show y = 0 ∨ y = 1 ∨ y = 2 ∨ y = 3 ∨ y = 4 ∨ y = 5 ∨ y = 6 ∨ y = 7 by omega) with rfl | rfl | rfl | rfl | rfl | rfl | rfl | rfl
  · exact An.ok (goY _ f0) (goZ (by rw [if_pos rfl, if_pos hb, z5])) h3 zI_1 rfl Mg.refl h.t
  · exact An.ok (goY _ f1) (goZ (by rw [if_neg (by decide), if_pos rfl, if_pos hb, z6])) h3 zI_1 rfl Mg.refl h.t
  · exact An.ok (goY _ f2) (goZ (by rw [if_neg (by decide), if_neg (by decide), if_pos rfl, if_pos hb, z7])) h3 zI_1 rfl Mg.refl h.t
  · exact An.ok (goY _ f3) (goZ (by rw [if_neg (by decide), if_neg (by decide), if_neg (by decide), if_pos rfl, if_pos hb, z2])) h3 zI_1 rfl Mg.refl h.t
  · exact An.ok (goY _ f4) (goZ (by rw [if_neg (by decide), if_neg (by decide), if_neg (by decide), if_neg (by decide), if_pos rfl, if_pos hb, z3])) h3 zI_1 rfl Mg.refl h.t
  · exact An.ok (goY _ f5) (goZ (by rw [if_neg (by decide), if_neg (by decide), if_neg (by decide), if_neg (by decide), if_neg (by decide), if_pos rfl, if_pos hb, z4])) h3 zI_1 rfl Mg.refl h.t
  · exact An.ok (goY _ f6) (goZ (by rw [if_neg (by decide), if_neg (by decide), if_neg (by decide), if_neg (by decide), if_neg (by decide), if_neg (by decide), if_pos rfl, if_pos hb, z8])) h3 zI_1 rfl Mg.refl h.t
  · exact An.ok (goY _ f7) (goZ (by rw [if_neg (by decide), if_neg (by decide), if_neg (by decide), if_neg (by decide), if_neg (by decide), if_neg (by decide), if_neg (by decide), if_pos hb, z9])) h3 zI_1 rfl Mg.refl h.t
theorem prew_ok {σ ρ : zS} {n : Nat} (h : TL qo σ ρ n) (h3 : σ.2.2 3000 = 0) {β γ : Nat} (hβ : 1 ≤ β) (hγ : 3 ≤ γ) {x y : Int} : An qo (yE tP_CP_rewrote β σ [x, y]) (zE tM_rewrote γ ρ [x, y]) σ mNR n := by
  have hz := h.zr
  obtain ⟨ar, pd, m9, A, P, T, nm, o, d, s, c, q, r, i⟩ := id h
  have hSC := s.1.2.2.1
  have h84 := q.n.1
  have e29 : yE tP_CP_rewrote_p29 β σ [x, y] = some (zT σ 3, 0) := by rw [yq_CP_rewrote_p29, kY_CP_rewrote_p29, if_pos hz, lt_e]
  have e35 : ∀ {κ : zS}, zE tM_rewrote_35 γ κ [x, y] = some (κ, 0) := fun {κ} => by rw [zq_rewrote_35, kZ_rewrote_35]
  by_cases q0 : x < 0 ∨ (A.1.length : Int) ≤ x
  · refine An.th (c := 3) (r := 0) (κ := zI ρ 4 1) (s := 0) (by decide) ?_ ?_ zI_1 h.t
    · rw [yq_CP_rewrote, kY_CP_rewrote, if_pos hβ, zbd_of (has_ok hSC), b2_f (by omega), if_pos rfl]; exact e29
    · rw [zq_rewrote, kZ_rewrote, if_pos (by omega), zbd_of (none_t (by omega) h84 q0), if_neg (by decide)]; exact e35
  obtain ⟨k, hk⟩ : ∃ k : Nat, x = (k : Int) := ⟨x.toNat, by omega⟩
  subst hk
  obtain ⟨e, he⟩ : ∃ e, A.1[k]? = some e := ⟨_, List.getElem?_eq_getElem (by omega)⟩
  have hZ : zE tM_none (γ - 1) ρ [(k : Int)] = some (zI ρ 4 0, 0) := none_f (by omega) h84 (by omega) (by omega)
  have hY : yE tC_Sto_has (β - 1) σ [(k : Int)] = some (σ, 1) := by
    have := has_ok (β := β - 1) hSC (k := (k : Int))
    rw [b2_t ⟨by omega, by omega⟩] at this
    exact this
  have hS := q.s k (by omega)
  obtain ⟨⟨z1, z2, z3, z4, z5, z6, z7, z8, z9, z10, z11, z12⟩, _, _, _, hN, _⟩ := hS.1.1.k he
  obtain ⟨⟨⟨f0, f1, f2, f3, f4, f5, f6, f7, f8⟩, _, g1, g2, g3, _⟩, _⟩ := hSC.k he
  have hb : zb (k : Int) 2001 := ⟨by omega, by omega⟩
  have h82 : (zI ρ 4 0).2.1 82 (k : Int) = ((cus e).length : Int) := z9
  by_cases q1 : y < 0 ∨ ((cus e).length : Int) ≤ y
  · refine An.th (c := 3) (r := 0) (κ := zI ρ 4 1) (s := 0) (by decide) ?_ ?_ zI_1 h.t
    · rw [yq_CP_rewrote, kY_CP_rewrote, if_pos hβ, zbd_of hY, if_neg (by decide)]
      by_cases q2 : y < 0
      · rw [if_pos q2]; exact e29
      · rw [if_neg q2, if_pos hβ, zbd_of (fact_ok hSC (by omega) (by omega) (by omega) (by omega)), f7, if_neg (by omega)]; exact e29
    · have e24 : zE tM_rewrote_24 γ (zI ρ 4 0) [(k : Int), y, 1] = some (zI ρ 4 1, 0) := by
        rw [zq_rewrote_24, kZ_rewrote_24, zq_rewrote_29, kZ_rewrote_29, if_pos (by omega), zbd_of ref_1, if_neg (by decide), zI_zI]; exact e35
      rw [zq_rewrote, kZ_rewrote, if_pos (by omega), zbd_of hZ, if_pos rfl]
      by_cases q2 : y < 0
      · rw [if_pos q2]; exact e24
      · rw [if_neg q2, if_pos hb, h82, if_neg (by omega)]; exact e24
  obtain ⟨j, hj⟩ : ∃ j : Nat, y = (j : Int) := ⟨y.toNat, by omega⟩
  subst hj
  obtain ⟨u, hu⟩ : ∃ u, (cus e)[j]? = some u := ⟨_, List.getElem?_eq_getElem (by omega)⟩
  have c4901 := hSC.2.2.2.2.2.2.1
  have r86 := hS.1.1.2.2.2.2.1
  refine An.ok (τ := σ) (κ := zI ρ 4 0) (r := u) ?_ ?_ h3 zI_1 rfl Mg.refl h.t
  · rw [yq_CP_rewrote, kY_CP_rewrote, if_pos hβ, zbd_of hY, if_neg (by decide), if_neg (by omega), if_pos hβ, zbd_of (fact_ok hSC (by omega) (by omega) (by omega) (by omega)), f7, if_pos (by omega), if_pos hβ, zbd_of (fact_ok hSC (by omega) (by omega) (by omega) (by omega)), if_pos ⟨by omega, by omega⟩, if_pos (show zb (σ.2.1 52 ((k : Int) * 11 + 9) + (j : Int)) (σ.2.2 50) from ⟨by omega, by omega⟩), Fl_get g3 hu]
  · have e81 : (zI ρ 4 0).2.1 81 (k : Int) = ρ.2.1 81 (k : Int) := rfl
    have e83 : ∀ q, (zI ρ 4 0).2.1 83 q = ρ.2.1 83 q := fun _ => rfl
    rw [zq_rewrote, kZ_rewrote, if_pos (by omega), zbd_of hZ, if_pos rfl, if_neg (by omega), if_pos hb, h82, if_pos (by omega), zq_rewrote_29, kZ_rewrote_29, if_pos (by omega), zbd_of ref_0, if_pos rfl, if_pos hb, e81, if_pos ⟨by omega, by omega⟩, if_pos (show zb (ρ.2.1 81 (k : Int) + (j : Int)) 130000 from ⟨by omega, by omega⟩), e83, Fl_get z12 hu]
