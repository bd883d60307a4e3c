/-! makeWitnesses -/
/-- SENTENCES as they lie, before CLAUSES are made -/
def PS0 (σ : zS) (SL : List SE) (b : Nat) (NN : List N6) (TT : List Int) : Prop := (RowC σ 2001 21 (sfl SL 0 0) ∧ σ.2.2 21 ≤ 210000 ∧ SL.length ≤ 70000) ∧ GO σ b NN TT SL ∧ ((frs SL).length ≤ 300 ∧ b ≤ 300 ∧ ∀ (i : Nat) v, (frs SL)[i]? = some v → σ.2.1 28 (i : Int) = v) ∧ ∀ e ∈ SL, FS (tt e.2.2.1)
theorem PS0.f {I A : List Nat} {σ τ : zS} {SL : List SE} {b : Nat} {NN : List N6} {TT : List Int} (h : PS0 σ SL b NN TT) (f : FrC I A σ τ) (hI : I.elem 2001 = false := by decide) (a1 : A.elem 17 = false := by decide) (a2 : A.elem 21 = false := by decide) (a3 : A.elem 24 = false := by decide) (a4 : A.elem 25 = false := by decide) (a5 : A.elem 28 = false := by decide) : PS0 τ SL b NN TT := by
  obtain ⟨⟨b1, b2, b3⟩, c, ⟨d1, d2, d3⟩, e⟩ := h
  exact ⟨⟨b1.f f hI a2, by rw [f.2.2.1 21 a2 (by decide) (by decide)]; exact b2, b3⟩, c.q (fun v => ⟨f.2.1 17 v a1, f.2.1 24 v a3, f.2.1 25 v a4⟩), ⟨d1, d2, fun i v h => by rw [f.2.1 28 _ a5]; exact d3 i v h⟩, e⟩
theorem PS0.vs {σ : zS} {SL : List SE} {b : Nat} {NN : List N6} {TT : List Int} (h : PS0 σ SL b NN TT) {k : Nat} {e : SE} (he : SL[k]? = some e) : CVs σ (5 * (k : Int)) (frL (SL.take k)) e.2.2.2 [] ∧ σ.2.1 21 (5 * (k : Int) + 1) = bi e.2.1 ∧ σ.2.1 21 (5 * (k : Int) + 2) = ((szl (SL.take k) + szn e.2.2.1.1 e.2.2.1.2 - 1 : Nat) : Int) ∧ σ.1 2001 = 5 * (SL.length : Int) := by
  obtain ⟨⟨b1, b2, b3⟩, c, ⟨d1, d2, d3⟩, ee⟩ := h
  obtain ⟨g1, g2, g3, g4, g5⟩ := sfl_g (lo := 0) (f := 0) he
  have hk := (List.getElem?_eq_some_iff.mp he).1
  have hl := b1.2.1
  have h0 := b1.1
  rw [sfl_len] at hl h0
  have q1 := Fl_get b1.2.2.2 g2
  have q2 := Fl_get b1.2.2.2 g3
  have q3 := Fl_get b1.2.2.2 g4
  have q4 := Fl_get b1.2.2.2 g5
  have s1 := szn_1 (l := e.2.2.1.1) (k := e.2.2.1.2)
  have hfl := frL_take he
  have hfs := frs_len SL
  obtain ⟨_, c2⟩ := c k e he
  refine ⟨⟨⟨by omega, by omega, b2⟩, ⟨?_, ?_, by omega⟩, fun i v hv => ?_, ⟨-1, rfl⟩, fun v hv => by cases hv⟩, ?_, ?_, by rw [h0]; omega⟩
  · rw [show 5 * (k : Int) + 3 = 0 + ((5 * k + 3 : Nat) : Int) by omega, q3, Nat.zero_add]
  · rw [show 5 * (k : Int) + 4 = 0 + ((5 * k + 4 : Nat) : Int) by omega, q4, Nat.zero_add]
  · obtain ⟨r1, r2, r3, r4, r5⟩ := c2 i v hv
    exact ⟨d3 _ v (frs_g he hv), r1, by omega, r3, r4, r5⟩
  · rw [show 5 * (k : Int) + 1 = 0 + ((5 * k + 1 : Nat) : Int) by omega, q1]
  · rw [show 5 * (k : Int) + 2 = 0 + ((5 * k + 2 : Nat) : Int) by omega, q2]; omega
theorem replF_ok {β : Nat} {σ : zS} {sn : Int} {F0 : Nat} {fr : List Int} (hV : CVs σ sn F0 fr []) {s : Bool} : ∃ τ, yE tC_For_replaceFree β σ [sn, bi s] = some (τ, 0) ∧ FrC [] [27] σ τ ∧ (∀ v ∈ fr, τ.2.1 27 v = bi s) ∧ ∀ u, u ∉ fr → τ.2.1 27 u = σ.2.1 27 u := by
  obtain ⟨⟨h1, h2, h3⟩, ⟨h4, h5, h6⟩, h7, _⟩ := id hV
  have loop : ∀ (L : List Int) (i : Nat) (ρ : zS), fr.drop i = L → FrC [] [27] σ ρ → i + L.length = fr.length → ∃ τ, yE tC_For_replaceFree_p12 β ρ [sn, bi s, ((F0 + i : Nat) : Int)] = some (τ, 0) ∧ FrC [] [27] ρ τ ∧ (∀ v ∈ L, τ.2.1 27 v = bi s) ∧ ∀ u, u ∉ L → τ.2.1 27 u = ρ.2.1 27 u := by
    intro L
    induction L with
    | nil =>
      intro i ρ hd f hi
      simp only [List.length_nil] at hi
      refine ⟨ρ, ?_, FrC.refl, (by intro v hv; cases hv), fun u _ => rfl⟩
      rw [yq_For_replaceFree_p12, kY_For_replaceFree_p12, if_pos ⟨by omega, by omega⟩, f.l 21, if_pos ⟨by omega, by omega⟩, f.a 21, h5, if_pos (by omega)]
    | cons v L ih =>
      intro i ρ hd f hi
      simp only [List.length_cons] at hi
      have hv : fr[i]? = some v := by
        have : (fr.drop i)[0]? = some v := by rw [hd]; rfl
        rw [List.getElem?_drop] at this
        exact this
      have hd2 : fr.drop (i + 1) = L := by
        rw [List.drop_eq_getElem_cons (by omega)] at hd
        exact List.tail_eq_of_cons_eq hd
      obtain ⟨g1, g2, g3, _⟩ := h7 i v hv
      have f1 : FrC [] [27] ρ (zA ρ 27 v (bi s)) := FrC_A
      obtain ⟨τ, t1, t2, t3, t4⟩ := ih (i + 1) (zA ρ 27 v (bi s)) hd2 (f.trans f1) (by omega)
      refine ⟨τ, ?_, f1.trans t2, fun u hu => ?_, fun u hu => ?_⟩
      · rw [yq_For_replaceFree_p12, kY_For_replaceFree_p12, if_pos ⟨by omega, by omega⟩, f.l 21, if_pos ⟨by omega, by omega⟩, f.a 21, h5, if_neg (by omega), if_pos ⟨by omega, by omega⟩, f.a 28, g1, if_pos ⟨by omega, by omega⟩, if_pos (by cases s <;> simp [bi]), lt_e, if_pos ⟨by omega, by omega⟩]
        exact t1
      · by_cases c : u ∈ L
        · exact t3 u c
        · rw [t4 u c]
          rcases List.mem_cons.mp hu with e | e
          · rw [e, zA_s]
          · exact absurd e c
      · rw [t4 u (fun h => hu (by simp [h])), zA_i (fun e => hu (by simp [e]))]
  obtain ⟨τ, t1, t2, t3, t4⟩ := loop fr 0 σ (by simp) FrC.refl (by omega)
  refine ⟨τ, ?_, t2, t3, t4⟩
  rw [yq_For_replaceFree, kY_For_replaceFree, if_pos ⟨by omega, by omega⟩, if_pos ⟨by omega, by omega⟩, h4]
  exact t1
theorem szl_succ : ∀ {L : List SE} {k : Nat} {e : SE}, L[k]? = some e → szl (L.take (k + 1)) = szl (L.take k) + szn e.2.2.1.1 e.2.2.1.2
  | [], k, e, h => by cases h
  | x :: L, 0, e, h => by
    cases h
    show szn _ _ + szl (L.take 0) = 0 + _
    rw [List.take_zero]
    show _ + 0 = _
    omega
  | x :: L, k + 1, e, h => by
    have := szl_succ (L := L) (k := k) h
    show szn _ _ + szl (L.take (k + 1)) = szn _ _ + szl (L.take k) + _
    omega
theorem szl_mono : ∀ {L : List SE} {j k : Nat}, j ≤ k → szl (L.take j) ≤ szl (L.take k)
  | L, j, 0, h => by rw [show j = 0 by omega]; exact Nat.le_refl _
  | L, j, k + 1, h => by
    by_cases c : j = k + 1
    · rw [c]; exact Nat.le_refl _
    · have h1 := szl_mono (L := L) (j := j) (k := k) (by omega)
      cases hx : L[k]? with
      | none => rw [List.take_add_one, hx]; simpa using h1
      | some e => rw [szl_succ hx]; omega
theorem szl_lt {L : List SE} {j k : Nat} {e : SE} (h : L[j]? = some e) (hjk : j < k) : szl (L.take j) + szn e.2.2.1.1 e.2.2.1.2 ≤ szl (L.take k) := by
  have h1 := szl_mono (L := L) (j := j + 1) (k := k) (by omega)
  rw [szl_succ h] at h1
  exact h1
/-- roots reached, free VARIABLES marked, for the first k SENTENCES -/
def W2s (SL : List SE) (NN : List N6) (k : Nat) (σ : zS) : Prop := (∀ (j : Nat) e, SL[j]? = some e → j < k → σ.2.1 19 (((szl (SL.take j) + szn e.2.2.1.1 e.2.2.1.2 - 1 : Nat) : Int) * 7 + 6) = (wyE e : Int) ∧ ∀ v ∈ e.2.2.2, σ.2.1 27 v = bi e.2.1) ∧ ∀ i : Nat, i < NN.length → (∀ (j : Nat) e, SL[j]? = some e → j < k → i ≠ szl (SL.take j) + szn e.2.2.1.1 e.2.2.1.2 - 1) → σ.2.1 19 ((i : Int) * 7 + 6) = 0
theorem mw_2 {β : Nat} (hβ : 2 ≤ β) {SL : List SE} {b : Nat} {NN : List N6} {TT : List Int} (hlen : NN.length = szl SL) (hSU : SU SL 0 b) : ∀ (m k : Nat) (σ : zS), k + m = SL.length → PS0 σ SL b NN TT → NdW σ NN → σ.1 1801 = 7 * (NN.length : Int) → W2s SL NN k σ → ∃ τ, yE tC_For_makeWitnesses_p2 β σ [5 * (k : Int)] = yE tC_For_makeWitnesses_p83 β τ [(NN.length : Int) - 1] ∧ FrC [] [19, 27] σ τ ∧ NdW τ NN ∧ W2s SL NN SL.length τ := by
  intro m
  induction m with
  | zero =>
    intro k σ hk hP hN h18 hW
    have h0 := hP.1.1.1
    rw [sfl_len] at h0
    have hn := hN.1
    have hk : k = SL.length := by omega
    refine ⟨σ, ?_, FrC.refl, hN, by rw [← hk]; exact hW⟩
    have ed : Int.tdiv (7 * (NN.length : Int)) 7 = (NN.length : Int) := by rw [Int.tdiv_eq_ediv_of_nonneg (by omega)]; omega
    rw [yq_For_makeWitnesses_p2, kY_For_makeWitnesses_p2, if_pos (by omega), h18, ed, if_pos ⟨by omega, by omega⟩, if_pos ⟨by omega, by omega⟩]
  | succ m ih =>
    intro k σ hk hP hN h18 hW
    obtain ⟨e, he⟩ : ∃ e, SL[k]? = some e := ⟨SL[k], List.getElem?_eq_getElem (by omega)⟩
    obtain ⟨hV, r1, r2, r3⟩ := hP.vs he
    obtain ⟨⟨h1, h2, h3⟩, _⟩ := id hV
    have s1 := szn_1 (l := e.2.2.1.1) (k := e.2.2.1.2)
    have hsz := szl_lt he (k := SL.length) (by omega)
    rw [List.take_length] at hsz
    have hw : wyE e = 1 ∨ wyE e = 2 ∨ wyE e = 3 := by unfold wyE; split <;> omega
    have z0 : σ.2.1 19 (((szl (SL.take k) + szn e.2.2.1.1 e.2.2.1.2 - 1 : Nat) : Int) * 7 + 6) = 0 := hW.2 _ (by omega) (fun j x hx hj => by
      have := szl_lt hx hj
      have := szn_1 (l := x.2.2.1.1) (k := x.2.2.1.2)
      omega)
    obtain ⟨σ1, hs1⟩ : ∃ x, x = zA σ 19 (((szl (SL.take k) + szn e.2.2.1.1 e.2.2.1.2 - 1 : Nat) : Int) * 7 + 6) (wyE e : Int) := ⟨_, rfl⟩
    have f1 : FrC [] [19, 27] σ σ1 := by rw [hs1]; exact fA
    have f1' : FrC [] [19] σ σ1 := by rw [hs1]; exact FrC_A
    have N1 : NdW σ1 NN := by rw [hs1]; exact hN.z
    have e1 : yE tC_For_reach (β - 1) σ [((szl (SL.take k) + szn e.2.2.1.1 e.2.2.1.2 - 1 : Nat) : Int), (wyE e : Int)] = some (σ1, 0) := by
      rw [reach_ok hN (by omega), z0, zor_0w hw, hs1]
    obtain ⟨σ2, t1, t2, t3, t4⟩ := replF_ok (β := β - 1) (hV.f f1') (s := e.2.1)
    have f2 : FrC [] [19, 27] σ1 σ2 := t2.w
    have step : yE tC_For_makeWitnesses_p2 β σ [5 * (k : Int)] = yE tC_For_makeWitnesses_p2 β σ2 [5 * ((k + 1 : Nat) : Int)] := by
      have e55 : ∀ y : Int, y = (wyE e : Int) → yE tC_For_makeWitnesses_p55 β σ [5 * (k : Int), bi e.2.1, y, ((szl (SL.take k) + szn e.2.2.1.1 e.2.2.1.2 - 1 : Nat) : Int)] = yE tC_For_makeWitnesses_p2 β σ2 [5 * ((k + 1 : Nat) : Int)] := fun y hy => by
        rw [yq_For_makeWitnesses_p55, kY_For_makeWitnesses_p55, if_pos (by omega), hy, zbd_of e1, if_pos (by omega), zbd_of t1, if_pos ⟨by omega, by omega⟩, show 5 * (k : Int) + 5 = 5 * ((k + 1 : Nat) : Int) by omega]
      have e33 : ∀ y : Int, y = bi e.2.1 → yE tC_For_makeWitnesses_p33 β σ [5 * (k : Int), y] = yE tC_For_makeWitnesses_p2 β σ2 [5 * ((k + 1 : Nat) : Int)] := fun y hy => by
        rw [yq_For_makeWitnesses_p33, kY_For_makeWitnesses_p33, if_pos ⟨by omega, by omega⟩, if_pos ⟨by omega, by omega⟩, r2, hy]
        cases hb : e.2.1 with
        | false =>
          rw [hb] at e55
          rw [if_pos (show bi false = 0 from rfl)]
          exact e55 2 (by unfold wyE; rw [hb]; rfl)
        | true =>
          rw [hb] at e55
          rw [if_neg (show ¬ bi true = 0 by decide)]
          exact e55 1 (by unfold wyE; rw [hb]; rfl)
      rw [yq_For_makeWitnesses_p2, kY_For_makeWitnesses_p2, if_neg (by omega), if_pos ⟨by omega, by omega⟩, if_pos ⟨by omega, by omega⟩, r1]
      cases hb : e.2.1 with
      | false =>
        rw [hb] at e33
        rw [if_neg (show ¬ bi false = 1 by decide)]
        exact e33 0 rfl
      | true =>
        rw [hb] at e33
        rw [if_pos (show bi true = 1 from rfl)]
        exact e33 1 rfl
    have hW2 : W2s SL NN (k + 1) σ2 := by
      refine ⟨fun j x hx hj => ?_, fun i hi hne => ?_⟩
      · by_cases c : j = k
        · subst c
          rw [he] at hx
          cases hx
          exact ⟨by rw [t2.a 19, hs1, zA_s], t3⟩
        · obtain ⟨q1, q2⟩ := hW.1 j x hx (by omega)
          have d1 := szl_lt hx (k := k) (by omega)
          have d2 := szn_1 (l := x.2.2.1.1) (k := x.2.2.1.2)
          refine ⟨by rw [t2.a 19, hs1, zA_i (by omega)]; exact q1, fun v hv => ?_⟩
          have v0 : 0 ≤ v := by
            obtain ⟨a, ha⟩ := List.getElem?_of_mem hv
            exact ((hP.2.1 j x hx).2 a v ha).1
          rw [t4 v (fun hv2 => c (hSU.un hx he (v := v.toNat) (Or.inr (by rw [Int.toNat_of_nonneg v0]; exact hv)) (Or.inr (by rw [Int.toNat_of_nonneg v0]; exact hv2)))), f1'.a 27]
          exact q2 v hv
      · rw [t2.a 19, hs1, zA_i (fun h => hne k e he (by omega) (by omega))]
        exact hW.2 i hi (fun j x hx hj => hne j x hx (by omega))
    obtain ⟨τ, u1, u2, u3, u4⟩ := ih (k + 1) σ2 (by omega) ((hP.f f1).f f2) (N1.f t2) (by rw [t2.i 1801, f1.i 1801]; exact h18) hW2
    exact ⟨τ, step.trans u1, (f1.trans f2).trans u2, u3, u4⟩
