/-! the class writes CLAUSES: VARIABLES, TERMS, LITERALS -/
/-- the VARIABLES around: free ones of the SENTENCE, bound ones (innermost first) -/
def CVs (σ : zS) (sn : Int) (F0 : Nat) (fr C : List Int) : Prop := (0 ≤ sn ∧ sn + 4 < (σ.2.2 21 : Int) ∧ σ.2.2 21 ≤ 210000) ∧ (σ.2.1 21 (sn + 3) = (F0 : Int) ∧ σ.2.1 21 (sn + 4) = ((F0 + fr.length : Nat) : Int) ∧ F0 + fr.length ≤ 300) ∧ (∀ (i : Nat) v, fr[i]? = some v → σ.2.1 28 ((F0 + i : Nat) : Int) = v ∧ 0 ≤ v ∧ v < 300 ∧ σ.2.1 17 v = -2 ∧ σ.2.1 24 v = (i : Int) ∧ σ.2.1 25 v = sn) ∧ (∃ c, chn σ C c) ∧ ∀ v ∈ C, σ.2.1 25 v = sn
theorem chn.g {σ τ : zS} (h1 : ∀ q, τ.2.1 17 q = σ.2.1 17 q) (h2 : ∀ q, τ.2.1 24 q = σ.2.1 24 q) : ∀ {C : List Int} {c : Int}, chn σ C c → chn τ C c
  | [], c, h => h
  | u :: L, c, h => ⟨h.1, h.2.1, h.2.2.1, by rw [h2]; exact h.2.2.2.1, by rw [h1]; exact chn.g h1 h2 h.2.2.2.2⟩
theorem CVs.f {I A : List Nat} {σ τ : zS} {sn : Int} {F0 : Nat} {fr C : List Int} (h : CVs σ sn F0 fr C) (f : FrC I A σ τ) (a1 : A.elem 17 = false := by decide) (a2 : A.elem 21 = false := by decide) (a3 : A.elem 24 = false := by decide) (a4 : A.elem 25 = false := by decide) (a5 : A.elem 28 = false := by decide) : CVs τ sn F0 fr C := by
  obtain ⟨h1, h2, h3, ⟨c, h4⟩, h5⟩ := h
  refine ⟨by rw [f.2.2.1 21 a2 (by decide) (by decide)]; exact h1, by rw [f.2.1 21 _ a2, f.2.1 21 _ a2]; exact h2, fun i v hv => by rw [f.2.1 28 _ a5, f.2.1 17 _ a1, f.2.1 24 _ a3, f.2.1 25 _ a4]; exact h3 i v hv, ⟨c, chn.g (fun q => f.2.1 17 q a1) (fun q => f.2.1 24 q a3) h4⟩, fun v hv => by rw [f.2.1 25 _ a4]; exact h5 v hv⟩
theorem chn_suf {σ : zS} {v : Int} {B : List Int} : ∀ {A : List Int} {c : Int}, chn σ (A ++ v :: B) c → ∃ c2, chn σ (v :: B) c2
  | [], c, h => ⟨c, h⟩
  | _ :: A, c, h => chn_suf (A := A) h.2.2.2.2
theorem chn_17 {σ : zS} {v c : Int} {B : List Int} (h : chn σ (v :: B) c) : σ.2.1 17 v ≠ -2 := by
  have h2 := h.2.2.2.2
  match B, h2 with
  | [], h2 => have h2 : σ.2.1 17 v = -1 := h2; omega
  | u :: B, h2 => have := h2.1; have := h2.2.1; omega
theorem rev_at {C : List Int} {j : Nat} {v : Int} (h : C.reverse[j]? = some v) : ∃ A B, C = A ++ v :: B ∧ B.length = j := by
  have hj := (List.getElem?_eq_some_iff.mp h).1
  rw [List.length_reverse] at hj
  rw [List.getElem?_reverse hj] at h
  obtain ⟨h1, h2⟩ := List.getElem?_eq_some_iff.mp h
  refine ⟨C.take (C.length - 1 - j), C.drop (C.length - 1 - j + 1), ?_, by rw [List.length_drop]; omega⟩
  rw [← h2, List.getElem_cons_drop, List.take_append_drop]
/-- what is known of the i-th around -/
theorem CVs.at {σ : zS} {sn : Int} {F0 : Nat} {fr C : List Int} (h : CVs σ sn F0 fr C) {i : Nat} {v : Int} (hv : (fr ++ C.reverse)[i]? = some v) : 0 ≤ v ∧ v < 300 ∧ σ.2.1 25 v = sn ∧ ((i < fr.length ∧ σ.2.1 17 v = -2 ∧ σ.2.1 24 v = (i : Int)) ∨ (fr.length ≤ i ∧ σ.2.1 17 v ≠ -2 ∧ σ.2.1 24 v = (i : Int) - (fr.length : Int) ∧ ∃ A B c, C = A ++ v :: B ∧ B.length = i - fr.length ∧ chn σ (v :: B) c)) := by
  obtain ⟨h1, h2, h3, ⟨c, h4⟩, h5⟩ := h
  by_cases ci : i < fr.length
  · rw [List.getElem?_append_left ci] at hv
    obtain ⟨g1, g2, g3, g4, g5, g6⟩ := h3 i v hv
    exact ⟨g2, g3, g6, Or.inl ⟨ci, g4, g5⟩⟩
  · rw [List.getElem?_append_right (by omega)] at hv
    obtain ⟨A, B, e, hB⟩ := rev_at hv
    rw [e] at h4 h5
    obtain ⟨c2, h6⟩ := chn_suf h4
    have h7 := id h6
    obtain ⟨_, g2, g3, g4, g5⟩ := h7
    exact ⟨g2, g3, h5 v (by simp), Or.inr ⟨by omega, chn_17 h6, by rw [g4, hB]; omega, A, B, c2, e, hB, h6⟩⟩
theorem around_ok {β : Nat} {σ : zS} {sn : Int} {F0 : Nat} {fr C : List Int} (h : CVs σ sn F0 fr C) {i : Nat} {v : Int} (hv : (fr ++ C.reverse)[i]? = some v) (hi : i ≤ 100000) : yE tC_For_around β σ [v] = some (σ, (i : Int)) := by
  obtain ⟨g1, g2, g3, g4⟩ := h.at hv
  obtain ⟨⟨h1, h2, h3⟩, ⟨h4, h5, h6⟩, _⟩ := h
  have e57 : ∀ a b, yE tC_For_around_p57 β σ [v, a, b] = some (σ, b) := fun a b => by rw [yq_For_around_p57, kY_For_around_p57]
  rw [yq_For_around, kY_For_around, if_pos ⟨g1, g2⟩]
  rcases g4 with ⟨c1, c2, c3⟩ | ⟨c1, c2, c3, _⟩
  · rw [if_pos c2, e57, c3]
  · rw [if_neg c2, g3, h4, h5, c3, if_pos ⟨by omega, by omega⟩, if_pos ⟨by omega, by omega⟩, if_pos ⟨by omega, by omega⟩, if_pos ⟨by omega, by omega⟩, if_pos ⟨by omega, by omega⟩, if_pos ⟨by omega, by omega⟩, e57]
    congr 2
    omega
theorem up_ok {β : Nat} {σ : zS} {x0 x1 x2 x3 x4 : Int} : ∀ {k : Nat} {v c : Int} {B : List Int} {u : Int}, chn σ (v :: B) c → (v :: B)[k]? = some u → k ≤ 100000 → yE tC_For_aroundAt_p68 β σ [x0, x1, x2, x3, x4, v, (k : Int)] = some (σ, u)
  | 0, v, c, B, u, h, hu, _ => by
    cases hu
    rw [yq_For_aroundAt_p68, kY_For_aroundAt_p68, if_pos (by omega)]
  | k + 1, v, c, B, u, h, hu, hk => by
    obtain ⟨g1, g2, g3, g4, g5⟩ := h
    match B, g5, hu with
    | [], _, hu => simp at hu
    | w :: B, g5, hu =>
      have e := g5.1
      rw [yq_For_aroundAt_p68, kY_For_aroundAt_p68, if_neg (by omega), if_pos ⟨g2, g3⟩, if_pos ⟨by omega, by omega⟩, e, show ((k + 1 : Nat) : Int) + -1 = (k : Int) by omega]
      exact up_ok g5 hu (by omega)
theorem aroundAt_ok {β : Nat} {σ : zS} {sn : Int} {F0 : Nat} {fr C : List Int} (h : CVs σ sn F0 fr C) {i x : Nat} {v u : Int} (hv : (fr ++ C.reverse)[i]? = some v) (hx : x < i) (hu : (fr ++ C.reverse)[x]? = some u) (hi : i ≤ 100000) : yE tC_For_aroundAt β σ [v, (x : Int)] = some (σ, u) := by
  obtain ⟨g1, g2, g3, g4⟩ := h.at hv
  have hh := h
  obtain ⟨⟨h1, h2, h3⟩, ⟨h4, h5, h6⟩, h7, _⟩ := h
  have e0 : (((F0 + fr.length : Nat) : Int) - (F0 : Int)) = (fr.length : Int) := by omega
  rw [yq_For_aroundAt, kY_For_aroundAt, if_pos ⟨g1, g2⟩, g3, h4, h5, e0, if_pos ⟨by omega, by omega⟩, if_pos ⟨by omega, by omega⟩, if_pos ⟨by omega, by omega⟩, if_pos ⟨by omega, by omega⟩, if_pos ⟨by omega, by omega⟩]
  by_cases c : (fr.length : Int) ≤ (x : Int)
  · rw [if_pos c]
    rcases g4 with ⟨c1, _⟩ | ⟨c1, c2, c3, A, B, c4, e, hB, h8⟩
    · omega
    · rw [c3, if_pos ⟨by omega, by omega⟩, if_pos ⟨by omega, by omega⟩]
      rw [show (i : Int) - (fr.length : Int) - ((x : Int) - (fr.length : Int)) = ((i - x : Nat) : Int) by omega]
      refine up_ok h8 ?_ (by omega)
      rw [List.getElem?_append_right (by omega), e, List.reverse_append, List.reverse_cons, List.append_assoc, List.getElem?_append_left (by rw [List.length_reverse]; omega), List.getElem?_reverse (by omega)] at hu
      obtain ⟨j, hj⟩ : ∃ j, i - x = j + 1 := ⟨i - x - 1, by omega⟩
      rw [hj, List.getElem?_cons_succ, ← hu]
      congr 1
      omega
  · rw [if_neg c, if_pos ⟨by omega, by omega⟩, if_pos ⟨by omega, by omega⟩]
    rw [List.getElem?_append_left (by omega)] at hu
    have := (h7 x u hu).1
    rw [show (F0 : Int) + (x : Int) = ((F0 + x : Nat) : Int) by omega, this]
/-- which of them stay, and the WITNESSES of the others -/
def CE (σ : zS) (E : VE) : Prop := ∀ (i : Nat) x, E[i]? = some x → (σ.2.1 27 (x.1 : Int) = 0 ∧ x.2 = vt (x.1 : Int)) ∨ (σ.2.1 27 (x.1 : Int) = 1 ∧ x.2 = (cu (σ.2.1 26 (x.1 : Int)), eT (E.take i)) ∧ 0 ≤ σ.2.1 26 (x.1 : Int))
theorem CE.f {I A : List Nat} {σ τ : zS} {E : VE} (h : CE σ E) (f : FrC I A σ τ) (a1 : A.elem 26 = false := by decide) (a2 : A.elem 27 = false := by decide) : CE τ E := fun i x hx => by
  rw [f.2.1 26 _ a1, f.2.1 27 _ a2]
  exact h i x hx
theorem eT_snoc : ∀ (E : VE) (x : Nat × Tm), eT (E ++ [x]) = cat (eT E) (tt x.2)
  | [], x => rfl
  | y :: E, x => by show nd _ _ (eT (E ++ [x])) = nd _ _ (cat (eT E) (tt x.2)); rw [eT_snoc E x]
theorem eT_take {E : VE} {k : Nat} {x : Nat × Tm} (h : E[k]? = some x) : eT (E.take (k + 1)) = cat (eT (E.take k)) (tt x.2) := by
  rw [List.take_add_one, h]
  exact eT_snoc _ _
theorem eT_le {E : VE} : ∀ {i k : Nat}, k ≤ i → ∃ F, eT (E.take i) = cat (eT (E.take k)) F
  | 0, k, h => ⟨nl, by rw [show k = 0 by omega]; rfl⟩
  | i + 1, k, h => by
    by_cases c : k = i + 1
    · exact ⟨nl, by rw [c, cat_nl]⟩
    · obtain ⟨F, hF⟩ := eT_le (E := E) (i := i) (k := k) (by omega)
      cases hx : E[i]? with
      | none =>
        refine ⟨F, ?_⟩
        rw [List.take_add_one, hx]
        simpa using hF
      | some x => exact ⟨cat F (tt x.2), by rw [eT_take hx, hF, cat_assoc]⟩
theorem DS.by {σ : zS} {D : Option (List Int × List Int)} (h : DS σ D) : DS (zI σ 3907 1) none := by
  obtain ⟨N, hN⟩ := h.dn
  exact ⟨zI_1, N, hN.f (I := [3907]) (A := []) FrC_I⟩
theorem DS.no {σ : zS} {D : Option (List Int × List Int)} (h : DS σ D) (hn : σ.1 3907 ≠ 0) : D = none := by
  cases D with
  | none => rfl
  | some q => exact absurd h.1 hn
theorem fl_vt1 (v : Int) : fl (tt (vt v)) = [-1 - v] := by
  show [cl (cu (-1 - v))] = _
  rw [cl_cu]
theorem wv_ok {sn : Int} {F0 : Nat} {fr C : List Int} {E : VE} (hE : E.map (fun x => (x.1 : Int)) = fr ++ C.reverse) (hl : E.length ≤ 100000) : ∀ (i : Nat) (x : Nat × Tm), E[i]? = some x → ∀ (d β : Nat) (σ : zS) (D : Option (List Int × List Int)), d ≤ 61 → 62 ≤ β + d → CVs σ sn F0 fr C → CE σ E → DS σ D →
    ∃ τ, yE tC_For_writeVariable β σ [(x.1 : Int), (d : Int)] = some (τ, 0) ∧ DF σ τ ∧ (DS τ (dput D (fl (tt x.2))) ∨ (DS τ none ∧ 2 ^ (61 - d) ≤ tw x.2 ∧ ∃ w, x.2 = (w, eT (E.take i)))) := by
  intro i
  induction i using Nat.strongRecOn with
  | _ i ih =>
  intro x hx d β σ D hd hβ hV hC hD
  have vs : ∀ {j : Nat} {y : Nat × Tm}, E[j]? = some y → (fr ++ C.reverse)[j]? = some (y.1 : Int) := fun {j y} hy => by rw [← hE, List.getElem?_map, hy]; rfl
  have hil := (List.getElem?_eq_some_iff.mp hx).1
  obtain ⟨g1, g2, g3, g4⟩ := hV.at (vs hx)
  have e85 : ∀ (ρ : zS) (a b : Int), yE tC_For_writeVariable_p85 β ρ [(x.1 : Int), (d : Int), a, b] = some (ρ, 0) := fun ρ a b => by rw [yq_For_writeVariable_p85, kY_For_writeVariable_p85]
  rw [yq_For_writeVariable, kY_For_writeVariable, if_pos ⟨g1, g2⟩]
  rcases hC i x hx with ⟨r0, r1⟩ | ⟨r0, r1, r2⟩
  · rw [if_pos r0, if_pos (by omega)]
    obtain ⟨τ, r, p1, p2, ρ, p3, p4, p5⟩ := putv_ok (β := β - 1) hD g1 g2
    refine ⟨ρ, by rw [zbd_of p1, if_pos (by omega), zbd_of p3], p4, Or.inl ?_⟩
    rw [r1, fl_vt1]; exact p5
  · rw [if_neg (by omega), if_pos (by omega)]
    obtain ⟨σ1, p1, p2, p3⟩ := put_ok (β := β - 1) (c := σ.2.1 26 (x.1 : Int)) hD r2
    have hV1 := hV.f p2
    have hC1 := hC.f p2
    rw [zbd_of p1, if_pos (by omega), zbd_of (around_ok hV1 (vs hx) (by omega))]
    have hfx : fl (tt x.2) = [σ.2.1 26 (x.1 : Int)] ++ fl (eT (E.take i)) := by
      rw [r1]
      show cl (cu _) :: (fl (eT (E.take i)) ++ []) = _
      rw [cl_cu, List.append_nil]; rfl
    have htx : tw x.2 = 1 + wt (eT (E.take i)) := by rw [r1]
    by_cases c : (d : Int) ≤ 60
    · rw [if_pos c, yq_For_writeVariable_p47, kY_For_writeVariable_p47]
      have loop : ∀ (m k : Nat) (ρ : zS), m + k = i → CVs ρ sn F0 fr C → CE ρ E → DS ρ (dput (dput D [σ.2.1 26 (x.1 : Int)]) (fl (eT (E.take k)))) → ∃ τ, yE tC_For_writeVariable_p50 β ρ [(x.1 : Int), (d : Int), (i : Int), (k : Int)] = some (τ, 0) ∧ DF ρ τ ∧ (DS τ (dput (dput D [σ.2.1 26 (x.1 : Int)]) (fl (eT (E.take i)))) ∨ (DS τ none ∧ 2 ^ (61 - d) ≤ tw x.2)) := by
        intro m
        induction m with
        | zero =>
          intro k ρ hk v1 v2 v3
          refine ⟨ρ, ?_, FrC.refl, Or.inl ?_⟩
          · rw [yq_For_writeVariable_p50, kY_For_writeVariable_p50, if_pos (by omega), e85]
          · rw [show i = k by omega]; exact v3
        | succ m ihm =>
          intro k ρ hk v1 v2 v3
          rw [yq_For_writeVariable_p50, kY_For_writeVariable_p50, if_neg (by omega)]
          by_cases cb : ρ.1 3907 = 0
          · obtain ⟨y, hy⟩ : ∃ y, E[k]? = some y := ⟨E[k], List.getElem?_eq_getElem (by omega)⟩
            rw [if_pos cb, if_pos (by omega), zbd_of (aroundAt_ok v1 (vs hx) (by omega) (vs hy) (by omega)), if_pos ⟨by omega, by omega⟩, if_pos (by omega)]
            obtain ⟨ρ2, q1, q2, q3⟩ := ih k (by omega) y hy (d + 1) (β - 1) ρ _ (by omega) (by omega) v1 v2 v3
            rw [show (d : Int) + 1 = ((d + 1 : Nat) : Int) by omega, zbd_of q1, if_pos ⟨by omega, by omega⟩, show (k : Int) + 1 = ((k + 1 : Nat) : Int) by omega]
            rcases q3 with q3 | ⟨q3, q4, w, q5⟩
            · rw [← dput_app, ← fl_cat, ← eT_take hy] at q3
              obtain ⟨τ, t1, t2, t3⟩ := ihm (k + 1) ρ2 (by omega) (v1.f q2) (v2.f q2) q3
              exact ⟨τ, t1, q2.trans t2, t3⟩
            · refine ⟨ρ2, ?_, q2, Or.inr ⟨q3, ?_⟩⟩
              · rw [yq_For_writeVariable_p50, kY_For_writeVariable_p50]
                by_cases ck : (i : Int) ≤ ((k + 1 : Nat) : Int)
                · rw [if_pos ck, e85]
                · rw [if_neg ck, if_neg (by rw [q3.1]; decide), e85]
              · obtain ⟨F, hF⟩ := eT_le (E := E) (i := i) (k := k + 1) (by omega)
                have hw : wt (eT (E.take i)) = wt (eT (E.take k)) + tw y.2 + wt F := by
                  rw [hF, wt_cat, eT_take hy, wt_cat]
                  simp only [tt, wt, tw]
                  omega
                have ht : tw y.2 = 1 + wt (eT (E.take k)) := by rw [q5]
                have e2 : 61 - d = (61 - (d + 1)) + 1 := by omega
                rw [e2, Nat.pow_succ, htx]
                omega
          · rw [if_neg cb, e85]
            have hn := v3.no cb
            refine ⟨ρ, rfl, FrC.refl, Or.inl ?_⟩
            obtain ⟨F, hF⟩ := eT_le (E := E) (i := i) (k := k) (by omega)
            rw [hF, fl_cat, dput_app, hn]
            rw [hn] at v3
            exact v3
      obtain ⟨τ, t1, t2, t3⟩ := loop i 0 σ1 (by omega) hV1 hC1 (by
        have e0 : fl (eT (E.take 0)) = [] := rfl
        rw [e0, dput_nil p3.b]; exact p3)
      rw [show ((0 : Nat) : Int) = 0 from rfl] at t1
      refine ⟨τ, t1, p2.trans t2, ?_⟩
      rcases t3 with t3 | ⟨t3, t4⟩
      · refine Or.inl ?_
        rw [hfx, dput_app]; exact t3
      · exact Or.inr ⟨t3, t4, _, r1⟩
    · rw [if_neg c, lt_e, yq_For_writeVariable_p47, kY_For_writeVariable_p47]
      have hb := p3.by
      have f2 : DF σ1 (zI σ1 3907 1) := by
        have : FrC [3907] [] σ1 (zI σ1 3907 1) := FrC_I
        exact this.w
      refine ⟨zI σ1 3907 1, ?_, p2.trans f2, Or.inr ⟨hb, ?_, _, r1⟩⟩
      · rw [yq_For_writeVariable_p50, kY_For_writeVariable_p50]
        by_cases ck : (i : Int) ≤ 0
        · rw [if_pos ck, e85]
        · rw [if_neg ck, if_neg (by rw [hb.1]; decide), e85]
      · rw [show 61 - d = 0 by omega]
        show 1 ≤ tw x.2
        omega
/-- a VARIABLE of the TEXT -/
theorem wv0_ok {sn : Int} {F0 : Nat} {fr C : List Int} {E : VE} (hE : E.map (fun x => (x.1 : Int)) = fr ++ C.reverse) (hl : E.length ≤ 100000) {i : Nat} {x : Nat × Tm} (hx : E[i]? = some x) {β : Nat} {σ : zS} {D : Option (List Int × List Int)} (hβ : 62 ≤ β) (hV : CVs σ sn F0 fr C) (hC : CE σ E) (hD : DS σ D) :
    ∃ τ, yE tC_For_writeVariable β σ [(x.1 : Int), 0] = some (τ, 0) ∧ DF σ τ ∧ DS τ (dput D (fl (tt x.2))) := by
  obtain ⟨τ, t1, t2, t3⟩ := wv_ok hE hl i x hx 0 β σ D (by omega) (by omega) hV hC hD
  refine ⟨τ, t1, t2, ?_⟩
  rcases t3 with t3 | ⟨t3, t4, _⟩
  · exact t3
  · have e : (fl (tt x.2)).length = tw x.2 := by rw [fl_length]; simp only [tt, wt, tw]; omega
    have : dput D (fl (tt x.2)) = none := by
      cases D with
      | none => rfl
      | some q =>
        show (if _ then _ else none) = none
        rw [if_neg]
        intro h
        have := h.1
        rw [e] at this
        have : (2 : Nat) ^ 61 ≤ 100 := by omega
        exact absurd this (by decide)
    rw [this]; exact t3
