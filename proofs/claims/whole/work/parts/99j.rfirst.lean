/-! the first place in the draft that a single = REWRITES -/
noncomputable def rw1 (pd : Int → Prop) : List (Nat × Lt) → Tm → Option (Nat × Tm)
  | [], _ => none
  | b :: L, y => match rwI pd b.2.2.1 b.2.2.2 y with
    | some z => some (b.1, z)
    | none => match rwI pd b.2.2.2 b.2.2.1 y with
      | some z => some (b.1, z)
      | none => rw1 pd L y
noncomputable def rfF (pd : Int → Prop) (L : List (Nat × Lt)) (F : T) : Nat → Nat → Option (Nat × Nat × Tm)
  | 0, _ => none
  | m + 1, o => match sbF o F with
    | none => none
    | some y => if cl y.1 < 0 then rfF pd L F m (o + 1) else match rw1 pd L y with
      | some q => some (o, q.1, q.2)
      | none => rfF pd L F m (o + 1)
abbrev RG (σ τ : zS) : Prop := FrC [6603, 6605, 3904] [13, 67, 68, 40, 41, 42] σ τ
theorem rf_p13 {ar : Int → Nat} {pd : Int → Prop} {m9 : Int} {β : Nat} (hβ : 5 ≤ β) {Cs : List CL} (wC : ∀ c ∈ Cs, Wc ar m9 c.1) {E : List Lt} (wE : WL ar (lb m9) E) {o : Nat} {y : Tm} (hy : sbF o (cF E) = some y) (nv : ¬ cl y.1 < 0) : ∀ (L2 : List (Nat × Lt)) (n : Nat) (σ : zS), Cx ar pd m9 σ → SC σ Cs → DE σ E → RowC σ 5701 58 (sgI (sgL Cs 0)) → σ.2.2 58 ≤ 10000 → (sgL Cs 0).drop n = L2 →
    ∃ τ, (rw1 pd L2 y = none ∧ RF σ τ ∧ ∃ x1, yE tC_Mat_rewriteFirst_r57_p13 β σ [(o : Int), (n : Int)] = yE tC_Mat_rewriteFirst_r57_p92 β τ [(o : Int), x1]) ∨ (∃ (k : Nat) (z : Tm), rw1 pd L2 y = some (k, z) ∧ RG σ τ ∧ DE τ (rpE z o E) ∧ wf ar (lb m9) (tt z) ∧ yE tC_Mat_rewriteFirst_r57_p13 β σ [(o : Int), (n : Int)] = some (τ, (k : Int)))
  | [], n, σ, hC, hS, hD, hR, hcap, hL => by
    obtain ⟨d1, d2, d3, d4, d5⟩ := id hD
    have hF : Fl (σ.2.1 40) 0 (fl (cF E)) := by rw [cF_fl]; exact RS_Fl d5
    obtain ⟨q1, q2⟩ := sb_Fl hF hy
    rw [cF_wt] at q2
    have ty := tw_pos y
    rw [show (0 : Int) + (o : Int) = (o : Int) by omega] at q1
    have ey : σ.2.1 40 (o : Int) = cl y.1 := q1.1
    have hl := List.drop_eq_nil_iff.mp hL
    have hr := hR.1
    have lI : (sgI (sgL Cs 0)).length = (sgL Cs 0).length := by simp [sgI]
    refine ⟨σ, Or.inl ⟨rfl, FrC.refl, (n : Int), ?_⟩⟩
    rw [yq_Mat_rewriteFirst_r57_p13, kY_Mat_rewriteFirst_r57_p13, if_pos (by omega), ey, if_neg nv, if_pos (by omega)]
  | b :: L3, n, σ, hC, hS, hD, hR, hcap, hL => by
    obtain ⟨d1, d2, d3, d4, d5⟩ := id hD
    have hF : Fl (σ.2.1 40) 0 (fl (cF E)) := by rw [cF_fl]; exact RS_Fl d5
    obtain ⟨q1, q2⟩ := sb_Fl hF hy
    have wy := (sb_wf (cF_wf wE) hy).1
    rw [cF_wt] at q2
    have ty := tw_pos y
    rw [show (0 : Int) + (o : Int) = (o : Int) by omega] at q1
    have ey : σ.2.1 40 (o : Int) = cl y.1 := q1.1
    have hr := hR.1
    have lI : (sgI (sgL Cs 0)).length = (sgL Cs 0).length := by simp [sgI]
    have hlt : n < (sgL Cs 0).length := by
      have : ¬ (sgL Cs 0).length ≤ n := fun h => by rw [List.drop_eq_nil_iff.mpr h] at hL; cases hL
      omega
    have hcons := List.drop_eq_getElem_cons hlt
    rw [hL] at hcons
    injection hcons with e1 e2
    have hb : (sgL Cs 0)[n]? = some b := by rw [List.getElem?_eq_getElem hlt, e1]
    have e58 : σ.2.1 58 (n : Int) = (b.1 : Int) := by
      have := Fl_get hR.2.2.2 (i := n) (c := (b.1 : Int)) (by unfold sgI; rw [List.getElem?_map, hb]; rfl)
      rw [show (0 : Int) + (n : Int) = (n : Int) by omega] at this; exact this
    obtain ⟨k, a⟩ := b
    obtain ⟨c, _, m2, m3, m4, m5⟩ := sgL_m (List.mem_of_getElem? hb)
    rw [Nat.sub_zero] at m2
    have wc := wC c (List.mem_of_getElem? m2)
    have ha : c.1[0]? = some a := by rw [m3]; rfl
    have cap : n < σ.2.2 58 := by have := hR.2.1; omega
    obtain ⟨σ1, r1, r2, r3⟩ := rw40_ok (pd := pd) (β := β - 1) (by omega) hC hS m2 wc ha (s := 0) (Or.inl rfl) q1 wy (by omega) (by omega) (by omega)
    have s0 : sdT a 0 = a.2.1 := rfl
    have s1 : sdT a (1 - 0) = a.2.2 := rfl
    have s2 : sdT a 1 = a.2.2 := rfl
    have s3 : sdT a (1 - 1) = a.2.1 := rfl
    rw [s0, s1] at r1 r3
    have fin : ∀ (ρ : zS) (z : Tm) (x1 : Int), RF σ ρ → ρ.1 6605 = (tw z : Int) → Fl (ρ.2.1 68) 0 (fl (tt z)) → wf ar (lb m9) (tt z) → tw z ≤ tw y → ∃ τ, RG σ τ ∧ DE τ (rpE z o E) ∧ yE tC_Mat_rewriteFirst_r57_p70 β ρ [(o : Int), x1, (k : Int)] = some (τ, (k : Int)) := fun ρ z x1 fρ h1 h2 h3 h4 => by
      obtain ⟨τ, t1, t2, t3⟩ := rep_ok (β := β - 1) (by omega) (hC.f fρ).1 (hD.f fρ) wE hy h2 h4
      refine ⟨τ, fρ.w.trans t2.w, t3, ?_⟩
      rw [yq_Mat_rewriteFirst_r57_p70, kY_Mat_rewriteFirst_r57_p70, if_pos (by omega), h1, zbd_of t1]
    rw [yq_Mat_rewriteFirst_r57_p13, kY_Mat_rewriteFirst_r57_p13, if_pos (by omega), ey, if_neg nv, if_neg (by omega), if_pos (by omega), if_pos (by omega)]
    dsimp only at e58
    rw [e58, zbd_of r1]
    cases hz : rwI pd a.2.1 a.2.2 y with
    | some z =>
      obtain ⟨v1, v2, v3, v4⟩ := r3 z hz
      obtain ⟨τ, t1, t2, t3⟩ := fin σ1 z (n : Int) r2 v1 v2 v3 v4
      refine ⟨τ, Or.inr ⟨k, z, by unfold rw1; dsimp only; rw [hz], t1, t2, v3, ?_⟩⟩
      rw [b2_t (by simp), if_neg (by decide)]
      exact t3
    | none =>
      rw [b2_f (by simp), if_pos rfl, if_pos (by omega)]
      obtain ⟨σ2, p1, p2, p3⟩ := rw40_ok (pd := pd) (β := β - 1) (by omega) (hC.f r2) (hS.f r2) m2 wc ha (s := 1) (Or.inr rfl) (Fl_q (fun j _ _ => r2.a 40 j) q1) wy (by omega) (by omega) (by omega)
      rw [s2, s3] at p1 p3
      rw [zbd_of p1]
      have f2 : RF σ σ2 := r2.trans p2
      cases hz2 : rwI pd a.2.2 a.2.1 y with
      | some z =>
        obtain ⟨v1, v2, v3, v4⟩ := p3 z hz2
        obtain ⟨τ, t1, t2, t3⟩ := fin σ2 z (n : Int) f2 v1 v2 v3 v4
        refine ⟨τ, Or.inr ⟨k, z, by unfold rw1; dsimp only; rw [hz]; dsimp only; rw [hz2], t1, t2, v3, ?_⟩⟩
        rw [b2_t (by simp), if_neg (by decide)]
        exact t3
      | none =>
        rw [b2_f (by simp), if_pos rfl, if_pos (by omega), show (n : Int) + 1 = ((n + 1 : Nat) : Int) by omega]
        have er : rw1 pd ((k, a) :: L3) y = rw1 pd L3 y := by
          show (match rwI pd a.2.1 a.2.2 y with | some z => some (k, z) | none => match rwI pd a.2.2 a.2.1 y with | some z => some (k, z) | none => rw1 pd L3 y) = _
          rw [hz, hz2]
        obtain ⟨τ, t⟩ := rf_p13 hβ wC wE hy nv L3 (n + 1) σ2 (hC.f f2) (hS.f f2) (hD.f f2) (hR.f f2) (by rw [f2.l 58]; exact hcap) e2.symm
        refine ⟨τ, ?_⟩
        rw [er]
        rcases t with ⟨u1, u2, u3⟩ | ⟨k', z, u1, u2, u3⟩
        · exact Or.inl ⟨u1, f2.trans u2, u3⟩
        · exact Or.inr ⟨k', z, u1, f2.w.trans u2, u3⟩
theorem rf_p2 {ar : Int → Nat} {pd : Int → Prop} {m9 : Int} {β : Nat} (hβ : 5 ≤ β) {Cs : List CL} (wC : ∀ c ∈ Cs, Wc ar m9 c.1) {E : List Lt} (wE : WL ar (lb m9) E) : ∀ (m o : Nat) (σ : zS), Cx ar pd m9 σ → SC σ Cs → DE σ E → RowC σ 5701 58 (sgI (sgL Cs 0)) → σ.2.2 58 ≤ 10000 → o + m = wtL E →
    ∃ τ, (rfF pd (sgL Cs 0) (cF E) m o = none ∧ RF σ τ ∧ yE tC_Mat_rewriteFirst_r57_p2 β σ [(o : Int)] = some (τ, -1)) ∨ (∃ (q k : Nat) (z : Tm), rfF pd (sgL Cs 0) (cF E) m o = some (q, k, z) ∧ RG σ τ ∧ DE τ (rpE z q E) ∧ wf ar (lb m9) (tt z) ∧ yE tC_Mat_rewriteFirst_r57_p2 β σ [(o : Int)] = some (τ, (k : Int)))
  | 0, o, σ, hC, hS, hD, hR, hcap, hm => by
    obtain ⟨d1, d2, d3, d4, d5⟩ := id hD
    exact ⟨σ, Or.inl ⟨rfl, FrC.refl, by rw [yq_Mat_rewriteFirst_r57_p2, kY_Mat_rewriteFirst_r57_p2, if_pos (by omega)]⟩⟩
  | m + 1, o, σ, hC, hS, hD, hR, hcap, hm => by
    obtain ⟨d1, d2, d3, d4, d5⟩ := id hD
    obtain ⟨y, hy⟩ := sb_ex (F := cF E) (o := o) (by rw [cF_wt]; omega)
    have hF : Fl (σ.2.1 40) 0 (fl (cF E)) := by rw [cF_fl]; exact RS_Fl d5
    obtain ⟨q1, q2⟩ := sb_Fl hF hy
    rw [cF_wt] at q2
    have ty := tw_pos y
    rw [show (0 : Int) + (o : Int) = (o : Int) by omega] at q1
    have ey : σ.2.1 40 (o : Int) = cl y.1 := q1.1
    have next : ∀ (ρ : zS) (x1 : Int), RF σ ρ → ∃ τ, (rfF pd (sgL Cs 0) (cF E) m (o + 1) = none ∧ RF σ τ ∧ yE tC_Mat_rewriteFirst_r57_p92 β ρ [(o : Int), x1] = some (τ, -1)) ∨ (∃ (q k : Nat) (z : Tm), rfF pd (sgL Cs 0) (cF E) m (o + 1) = some (q, k, z) ∧ RG σ τ ∧ DE τ (rpE z q E) ∧ wf ar (lb m9) (tt z) ∧ yE tC_Mat_rewriteFirst_r57_p92 β ρ [(o : Int), x1] = some (τ, (k : Int))) := fun ρ x1 fρ => by
      obtain ⟨τ, t⟩ := rf_p2 hβ wC wE m (o + 1) ρ (hC.f fρ) (hS.f fρ) (hD.f fρ) (hR.f fρ) (by rw [fρ.l 58]; exact hcap) (by omega)
      refine ⟨τ, ?_⟩
      rw [yq_Mat_rewriteFirst_r57_p92, kY_Mat_rewriteFirst_r57_p92, if_pos (by omega), show (o : Int) + 1 = ((o + 1 : Nat) : Int) by omega]
      rcases t with ⟨u1, u2, u3⟩ | ⟨q, k, z, u1, u2, u3⟩
      · exact Or.inl ⟨u1, fρ.trans u2, u3⟩
      · exact Or.inr ⟨q, k, z, u1, fρ.w.trans u2, u3⟩
    rw [yq_Mat_rewriteFirst_r57_p2, kY_Mat_rewriteFirst_r57_p2, if_neg (by omega)]
    by_cases nv : cl y.1 < 0
    · have er : rfF pd (sgL Cs 0) (cF E) (m + 1) o = rfF pd (sgL Cs 0) (cF E) m (o + 1) := by
        rw [rfF, hy]; dsimp only; rw [if_pos nv]
      rw [er, yq_Mat_rewriteFirst_r57_p13, kY_Mat_rewriteFirst_r57_p13, if_pos (by omega), ey, if_pos nv]
      exact next σ 0 FrC.refl
    · obtain ⟨τ, t⟩ := rf_p13 (pd := pd) hβ wC wE hy nv (sgL Cs 0) 0 σ hC hS hD hR hcap List.drop_zero
      rcases t with ⟨u1, u2, x1, u3⟩ | ⟨k, z, u1, u2, u3, u4, u5⟩
      · have er : rfF pd (sgL Cs 0) (cF E) (m + 1) o = rfF pd (sgL Cs 0) (cF E) m (o + 1) := by
          rw [rfF, hy]; dsimp only; rw [if_neg nv, u1]
        have u3' : yE tC_Mat_rewriteFirst_r57_p13 β σ [(o : Int), 0] = _ := u3
        rw [er, u3']
        exact next τ x1 u2
      · have er : rfF pd (sgL Cs 0) (cF E) (m + 1) o = some (o, k, z) := by
          rw [rfF, hy]; dsimp only; rw [if_neg nv, u1]
        have u5' : yE tC_Mat_rewriteFirst_r57_p13 β σ [(o : Int), 0] = _ := u5
        rw [er, u5']
        exact ⟨τ, Or.inr ⟨o, k, z, rfl, u2, u3, u4, rfl⟩⟩
noncomputable def rf (pd : Int → Prop) (L : List (Nat × Lt)) (E : List Lt) : Option (Nat × Nat × Tm) := rfF pd L (cF E) (wtL E) 0
theorem rf_ok {ar : Int → Nat} {pd : Int → Prop} {m9 : Int} {β : Nat} (hβ : 5 ≤ β) {σ : zS} {Cs : List CL} (wC : ∀ c ∈ Cs, Wc ar m9 c.1) {E : List Lt} (wE : WL ar (lb m9) E) (hC : Cx ar pd m9 σ) (hS : SC σ Cs) (hD : DE σ E) (hR : RowC σ 5701 58 (sgI (sgL Cs 0))) (hcap : σ.2.2 58 ≤ 10000) :
    ∃ τ, (rf pd (sgL Cs 0) E = none ∧ RF σ τ ∧ yE tC_Mat_rewriteFirst_r57 β σ [] = some (τ, -1)) ∨ (∃ (q k : Nat) (z : Tm), rf pd (sgL Cs 0) E = some (q, k, z) ∧ RG σ τ ∧ DE τ (rpE z q E) ∧ wf ar (lb m9) (tt z) ∧ yE tC_Mat_rewriteFirst_r57 β σ [] = some (τ, (k : Int))) := by
  obtain ⟨τ, t⟩ := rf_p2 (pd := pd) hβ wC wE (wtL E) 0 σ hC hS hD hR hcap (by omega)
  refine ⟨τ, ?_⟩
  rw [yq_Mat_rewriteFirst_r57, kY_Mat_rewriteFirst_r57]
  exact t
