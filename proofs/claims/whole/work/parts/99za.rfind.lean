/-! the reference: the first place that is REWRITTEN -/
abbrev FG (σ τ : zS) : Prop := FrC [47, 116, 117, 118] BL σ τ ∧ Pq σ τ 0 (σ.1 47)
/-- nothing is REWRITTEN there -/
def FN (pd : Int → Prop) (L : List (Nat × Lt)) (F : T) : Prop := ∀ o x, sbF o F = some x → rw1 pd L x = none
/-- the first place -/
def FY (pd : Int → Prop) (L : List (Nat × Lt)) (F : T) (o k : Nat) (z : Tm) : Prop := ∃ x, sbF o F = some x ∧ rw1 pd L x = some (k, z) ∧ ∀ o' x', o' < o → sbF o' F = some x' → rw1 pd L x' = none
/-- found: where, what, by which -/
def Fo (ar : Int → Nat) (m9 : Int) (σ τ : zS) (P : Int) (k : Nat) (z : Tm) : Prop := τ.1 116 = P ∧ τ.1 117 = σ.1 47 ∧ τ.1 118 = (k : Int) ∧ Px τ z (σ.1 47) ∧ τ.1 47 = σ.1 47 + (tw z : Int) ∧ wf ar (lb m9) (tt z) ∧ tw z ≤ 100
section find
variable {ar : Int → Nat} {pd : Int → Prop} {m9 : Int} {Cs : List CL}
theorem RC.fg {σ τ : zS} (h : RC σ Cs) (g : FG σ τ) (h47 : 205000 ≤ σ.1 47) : RC τ Cs := h.f g.1 (fun k i a b c => g.2 k i a (by omega) c)
theorem fp_33 {β : Nat} (hβ : 211 ≤ β) (m0 : 0 ≤ m9) {n : Nat} {c : CL} {a : Lt} (hc : Cs[n]? = some c) (ha : c.1 = [a]) (wc : Wc ar m9 c.1) {y : Tm} {t : Int} (wy : wf ar (lb m9) (tt y)) (ty : tw y ≤ 100) {s : Int} (hs : s = 0 ∨ s = 1) {σ : zS} (hR : RC σ Cs) (hp : Pd σ m9 pd) (hy : Px σ y t) (h47 : t + (tw y : Int) ≤ σ.1 47) (h47a : 205000 ≤ σ.1 47) (h47b : σ.1 47 + 100 ≤ 420000) :
    ∃ τ, FG σ τ ∧ ((rwI pd (sdT a s) (sdT a (1 - s)) y = none ∧ zE tM_findPlace_33 β σ [t, (n : Int), s] = zE tM_findPlace_33 β τ [t, (n : Int), s + 1] ∧ τ.1 47 = σ.1 47) ∨ (∃ z, rwI pd (sdT a s) (sdT a (1 - s)) y = some z ∧ zE tM_findPlace_33 β σ [t, (n : Int), s] = some (τ, 1) ∧ Fo ar m9 σ τ t n z)) := by
  obtain ⟨σ1, f1, p1, u⟩ := bec_ok (pd := pd) (β := β - 1) (by omega) hR hp m0 hc ha wc hs hy wy ty h47 h47a h47b
  rw [zq_findPlace_33, kZ_findPlace_33, if_neg (by omega), if_pos (by omega)]
  rcases u with ⟨u1, u2⟩ | ⟨z, u1, u2, u3, u4, u5, u6⟩
  · obtain ⟨τ, hτ⟩ : ∃ x, x = zI σ1 47 (σ.1 47) := ⟨_, rfl⟩
    have g : FG σ τ := ⟨f1.w.trans (by rw [hτ]; exact FrC_I), fun k i a b c => by rw [hτ]; exact p1 k i a b c⟩
    refine ⟨τ, g, Or.inl ⟨u1, ?_, by rw [hτ, zI_1]⟩⟩
    rw [zbd_of u2, if_neg (by decide), lt_e, ← hτ, if_pos (by omega)]
  · obtain ⟨τ, hτ⟩ : ∃ x, x = zI (zI (zI σ1 116 t) 117 (σ.1 47)) 118 (n : Int) := ⟨_, rfl⟩
    have fz : FrC [47, 116, 117, 118] BL σ1 τ := by
      have b1 : FrC [47, 116, 117, 118] BL σ1 (zI σ1 116 t) := FrC_I
      have b2 : FrC [47, 116, 117, 118] BL (zI σ1 116 t) (zI (zI σ1 116 t) 117 (σ.1 47)) := FrC_I
      rw [hτ]; exact (b1.trans b2).trans FrC_I
    have e2 : τ.2 = σ1.2 := by rw [hτ]; rfl
    have g : FG σ τ := ⟨f1.w.trans fz, fun k i a b c => by rw [e2]; exact p1 k i a b c⟩
    refine ⟨τ, g, Or.inr ⟨z, u1, ?_, by rw [hτ, zI_o, zI_o, zI_1], by rw [hτ, zI_o, zI_1], by rw [hτ, zI_1], ?_, by rw [hτ, zI_o, zI_o, zI_o]; exact u4, u5, by omega⟩⟩
    · rw [zbd_of u2, if_pos (by omega), lt_e, lt_e, lt_e, ← hτ]
    · exact Px_q u3 (fun k i _ _ _ => by rw [e2])
theorem fp_2 {β : Nat} (hβ : 212 ≤ β) (m0 : 0 ≤ m9) (wC : ∀ c ∈ Cs, Wc ar m9 c.1) {y : Tm} {t : Int} (wy : wf ar (lb m9) (tt y)) (ty : tw y ≤ 100) : ∀ (X : List CL) (n : Nat) (σ : zS), Cs.drop n = X → RC σ Cs → Pd σ m9 pd → Px σ y t → t + (tw y : Int) ≤ σ.1 47 → 205000 ≤ σ.1 47 → σ.1 47 + 100 ≤ 420000 →
    ∃ τ, FG σ τ ∧ ((rw1 pd (sgL X n) y = none ∧ zE tM_findPlace_2 β σ [t, (n : Int)] = zE tM_findPlace_104 β τ [t, τ.2.1 44 t] ∧ τ.1 47 = σ.1 47) ∨ (∃ k z, rw1 pd (sgL X n) y = some (k, z) ∧ zE tM_findPlace_2 β σ [t, (n : Int)] = some (τ, 1) ∧ Fo ar m9 σ τ t k z))
  | [], n, σ, hX, hR, hp, hy, h47, h47a, h47b => by
    have h1 := hR.1
    have := List.drop_eq_nil_iff.mp hX
    have t0 := hy.1.1
    have ey : tw y = 1 + wt y.2 := rfl
    have y2 := hy.2
    refine ⟨σ, ⟨FrC.refl, fun _ _ _ _ _ => rfl⟩, Or.inl ⟨rfl, ?_, rfl⟩⟩
    rw [zq_findPlace_2, kZ_findPlace_2, if_pos (by omega), if_pos (by omega)]
  | c :: X, n, σ, hX, hR, hp, hy, h47, h47a, h47b => by
    have h1 := hR.1
    have h2 := hR.2.1
    have t0 := hy.1.1
    have ey : tw y = 1 + wt y.2 := rfl
    have hlt : n < Cs.length := by
      have : ¬ Cs.length ≤ n := fun h => by rw [List.drop_eq_nil_iff.mpr h] at hX; cases hX
      omega
    have hcons := List.drop_eq_getElem_cons hlt
    rw [hX] at hcons
    injection hcons with e1 e2
    have hc : Cs[n]? = some c := by rw [List.getElem?_eq_getElem hlt, e1]
    have wc := wC c (List.mem_of_getElem? hc)
    obtain ⟨hk, _⟩ := hR.k hc
    have k8 := hk.2.2.2.2.2.2.2.1
    have next : ∀ ρ : zS, FG σ ρ → ρ.1 47 = σ.1 47 → rw1 pd (sgL (c :: X) n) y = rw1 pd (sgL X (n + 1)) y → ∃ τ, FG σ τ ∧ ((rw1 pd (sgL (c :: X) n) y = none ∧ zE tM_findPlace_91 β ρ [t, (n : Int)] = zE tM_findPlace_104 β τ [t, τ.2.1 44 t] ∧ τ.1 47 = σ.1 47) ∨ (∃ k z, rw1 pd (sgL (c :: X) n) y = some (k, z) ∧ zE tM_findPlace_91 β ρ [t, (n : Int)] = some (τ, 1) ∧ Fo ar m9 σ τ t k z)) := fun ρ gρ iρ er => by
      obtain ⟨τ, g, u⟩ := fp_2 hβ m0 wC wy ty X (n + 1) ρ e2.symm (hR.fg gρ h47a) (hp.f gρ.1) (Px_q hy (Pq.w gρ.2 t0 (by omega))) (by omega) (by omega) (by omega)
      have gT : FG σ τ := ⟨gρ.1.trans g.1, fun k i a b c => by rw [g.2 k i a (by omega) c, gρ.2 k i a b c]⟩
      refine ⟨τ, gT, ?_⟩
      have e91 : zE tM_findPlace_91 β ρ [t, (n : Int)] = zE tM_findPlace_2 β ρ [t, ((n + 1 : Nat) : Int)] := by rw [zq_findPlace_91, kZ_findPlace_91, if_pos (by omega), show (n : Int) + 1 = ((n + 1 : Nat) : Int) by omega]
      rw [e91, er]
      rcases u with ⟨u1, u2, u3⟩ | ⟨k, z, u1, u2, u3⟩
      · exact Or.inl ⟨u1, u2, by omega⟩
      · refine Or.inr ⟨k, z, u1, u2, ?_⟩
        unfold Fo at u3 ⊢
        rw [iρ] at u3
        exact u3
    rw [zq_findPlace_2, kZ_findPlace_2, if_neg (by omega), if_pos (by omega), k8]
    by_cases q : cst c = 1
    · rw [if_pos q, if_pos (by omega), zbd_of (runit_ok (β := β - 1) hR hc (fun a ha => (wc.2.2.2.2 a ha).1))]
      by_cases g : sngL c.1
      · obtain ⟨a, ha, ha1⟩ := id g
        have er : rw1 pd (sgL (c :: X) n) y = (match rwI pd a.2.1 a.2.2 y with | some z => some (n, z) | none => match rwI pd a.2.2 a.2.1 y with | some z => some (n, z) | none => rw1 pd (sgL X (n + 1)) y) := by rw [sgL_t ha q ha1]; rfl
        rw [b2_t g, if_neg (by decide)]
        obtain ⟨σ1, f1, u⟩ := fp_33 (pd := pd) (β := β) (by omega) m0 hc ha wc wy ty (s := 0) (Or.inl rfl) hR hp hy h47 h47a h47b
        rcases u with ⟨u1, u2, u3⟩ | ⟨z, u1, u2, u3⟩
        · obtain ⟨σ2, f2, v⟩ := fp_33 (pd := pd) (β := β) (by omega) m0 hc ha wc wy ty (s := 1) (Or.inr rfl) (hR.fg f1 h47a) (hp.f f1.1) (Px_q hy (Pq.w f1.2 t0 (by omega))) (by omega) (by omega) (by omega)
          have f12 : FG σ σ2 := ⟨f1.1.trans f2.1, fun k i a b c => by rw [f2.2 k i a (by omega) c, f1.2 k i a b c]⟩
          have u1' : rwI pd a.2.1 a.2.2 y = none := u1
          rw [u2, show (0 : Int) + 1 = 1 by omega]
          rcases v with ⟨v1, v2, v3⟩ | ⟨z, v1, v2, v3⟩
          · have v1' : rwI pd a.2.2 a.2.1 y = none := v1
            rw [v2, zq_findPlace_33, kZ_findPlace_33, if_pos (by omega)]
            exact next σ2 f12 (by omega) (by rw [er, u1', v1'])
          · have v1' : rwI pd a.2.2 a.2.1 y = some z := v1
            refine ⟨σ2, f12, Or.inr ⟨n, z, by rw [er, u1', v1'], v2, ?_⟩⟩
            unfold Fo at v3 ⊢
            rw [u3] at v3
            exact v3
        · have u1' : rwI pd a.2.1 a.2.2 y = some z := u1
          exact ⟨σ1, f1, Or.inr ⟨n, z, by rw [er, u1'], u2, u3⟩⟩
      · rw [b2_f g, if_pos rfl]
        exact next σ ⟨FrC.refl, fun _ _ _ _ _ => rfl⟩ rfl (by rw [sgL_f (fun w => g w.2)])
    · rw [if_neg q]
      exact next σ ⟨FrC.refl, fun _ _ _ _ _ => rfl⟩ rfl (by rw [sgL_f (fun w => q w.1)])
theorem fp_of {β : Nat} (hβ : 212 ≤ β) (m0 : 0 ≤ m9) (wC : ∀ c ∈ Cs, Wc ar m9 c.1) {x : Tm} {t : Int} (wx : wf ar (lb m9) (tt x)) (tx : tw x ≤ 100) {σ : zS} (hR : RC σ Cs) (hp : Pd σ m9 pd) (hx : Px σ x t) (h47 : t + (tw x : Int) ≤ σ.1 47) (h47a : 205000 ≤ σ.1 47) (h47b : σ.1 47 + 100 ≤ 420000) (go : ∀ ρ : zS, FG σ ρ → ρ.1 47 = σ.1 47 → ∃ τ, FG σ τ ∧ ((FN pd (sgL Cs 0) x.2 ∧ zE tM_findPlace_104 β ρ [t, ρ.2.1 44 t] = some (τ, 0) ∧ τ.1 47 = σ.1 47) ∨ (∃ o k z, FY pd (sgL Cs 0) x.2 o k z ∧ zE tM_findPlace_104 β ρ [t, ρ.2.1 44 t] = some (τ, 1) ∧ Fo ar m9 σ τ (t + 1 + (o : Int)) k z))) :
    ∃ τ, FG σ τ ∧ ((FN pd (sgL Cs 0) (tt x) ∧ zE tM_findPlace β σ [t] = some (τ, 0) ∧ τ.1 47 = σ.1 47) ∨ (∃ o k z, FY pd (sgL Cs 0) (tt x) o k z ∧ zE tM_findPlace β σ [t] = some (τ, 1) ∧ Fo ar m9 σ τ (t + (o : Int)) k z)) := by
  obtain ⟨σ1, f1, u⟩ := fp_2 (pd := pd) hβ m0 wC wx tx Cs 0 σ List.drop_zero hR hp hx h47 h47a h47b
  rw [zq_findPlace, kZ_findPlace]
  rcases u with ⟨u1, u2, u3⟩ | ⟨k, z, u1, u2, u3⟩
  · have u2' : zE tM_findPlace_2 β σ [t, 0] = _ := u2
    rw [u2']
    obtain ⟨τ, g, v⟩ := go σ1 f1 u3
    refine ⟨τ, g, ?_⟩
    rcases v with ⟨v1, v2, v3⟩ | ⟨o, k, z, ⟨y, v1, v1', v1''⟩, v2, v3⟩
    · left
      refine ⟨fun o y h => ?_, v2, v3⟩
      cases o with
      | zero => rw [show tt x = nd x.1 x.2 nl from rfl, sb_nd0] at h; obtain rfl := Option.some.inj h; exact u1
      | succ o =>
        have hl := sb_lt h
        have ex : wt (tt x) = 1 + wt x.2 := by rw [tt_wt]
        rw [show tt x = nd x.1 x.2 nl from rfl, sb_ndk (by omega)] at h
        exact v1 o y h
    · right
      refine ⟨o + 1, k, z, ⟨y, by rw [show tt x = nd x.1 x.2 nl from rfl, sb_ndk (sb_lt v1)]; exact v1, v1', fun o' x' hlt h => ?_⟩, v2, by rw [show t + ((o + 1 : Nat) : Int) = t + 1 + (o : Int) by omega]; exact v3⟩
      cases o' with
      | zero => rw [show tt x = nd x.1 x.2 nl from rfl, sb_nd0] at h; obtain rfl := Option.some.inj h; exact u1
      | succ o' =>
        have hl := sb_lt h
        have ex : wt (tt x) = 1 + wt x.2 := by rw [tt_wt]
        rw [show tt x = nd x.1 x.2 nl from rfl, sb_ndk (by omega)] at h
        exact v1'' o' x' (by omega) h
  · have u2' : zE tM_findPlace_2 β σ [t, 0] = _ := u2
    rw [u2']
    exact ⟨σ1, f1, Or.inr ⟨0, k, z, ⟨x, rfl, u1, fun o' x' h => by omega⟩, rfl, by rw [show t + ((0 : Nat) : Int) = t by omega]; exact u3⟩⟩
theorem fp_loop (m0 : 0 ≤ m9) (wC : ∀ c ∈ Cs, Wc ar m9 c.1) : ∀ (S : T) (β : Nat) (σ : zS) (x0 x1 : Int), RC σ Cs → Pd σ m9 pd → Pc σ S x1 → x1 + (wt S : Int) ≤ σ.1 47 → wf ar (lb m9) S → wt S ≤ 100 → 205000 ≤ σ.1 47 → σ.1 47 + 100 ≤ 420000 → ht S + 212 ≤ β →
    ∃ τ, FG σ τ ∧ ((FN pd (sgL Cs 0) S ∧ zE tM_findPlace_104 β σ [x0, x1] = some (τ, 0) ∧ τ.1 47 = σ.1 47) ∨ (∃ o k z, FY pd (sgL Cs 0) S o k z ∧ zE tM_findPlace_104 β σ [x0, x1] = some (τ, 1) ∧ Fo ar m9 σ τ (x1 + (o : Int)) k z))
  | .leaf (), β, σ, x0, x1, hR, hp, hP, _, _, _, _, _, _ => by
    have h1 : x1 < 0 := hP
    refine ⟨σ, ⟨FrC.refl, fun _ _ _ _ _ => rfl⟩, Or.inl ⟨fun o x h => (by cases h), ?_, rfl⟩⟩
    rw [zq_findPlace_104, kZ_findPlace_104, if_pos h1]
  | .branch n k s, β, σ, x0, x1, hR, hp, hP, hbd, hw, hwt, h47a, h47b, hd => by
    have kb := Pc_kid hP hbd (by omega)
    have sb' := Pc_bes hP hbd (by omega)
    have hPt := (Pc_nd.mp hP).1
    have hP6 := hP.2.2.2.2.2.1
    have hP7 := hP.2.2.2.2.2.2
    have hP4 := hPt.2.2.2.1
    have hP5 := hPt.2.2.2.2
    simp only [ht] at hd
    simp only [wt] at hbd hwt
    obtain ⟨w1, w2, w3, w4⟩ := hw
    have t0 := hPt.1
    have again : ∀ (F : T) (u : Int) (ρ : zS), FG σ ρ → Pc σ F u → u + (wt F : Int) ≤ σ.1 47 → Pc ρ F u := fun F u ρ g h hb => by
      rcases Pc_bd h with ⟨q1, q2⟩ | ⟨q1, q2⟩
      · have := wt0 q1
        subst this; exact q2
      · exact Pc_q (Pq.w g.2 q2 (by omega)) h
    obtain ⟨σ1, f1, u⟩ := fp_of (pd := pd) (β := β - 1) (by omega) m0 wC (x := (n, k)) (t := x1) ⟨w1, w2, w3, trivial⟩ (by show 1 + wt k ≤ 100; omega) hR hp ⟨hPt, by show x1 + 1 + (wt k : Int) ≤ 420000; omega⟩ (by show x1 + ((1 + wt k : Nat) : Int) ≤ σ.1 47; omega) h47a h47b (fun ρ gρ iρ => by
      have e44 : ρ.2.1 44 x1 = σ.2.1 44 x1 := gρ.2 44 x1 t0 (by omega) (by simp)
      rw [e44]
      obtain ⟨τ, g, v⟩ := fp_loop m0 wC k (β - 1) ρ x1 (σ.2.1 44 x1) (hR.fg gρ h47a) (hp.f gρ.1) (again k _ ρ gρ hP4 (by omega)) (by omega) w3 (by omega) (by omega) (by omega) (by omega)
      have gT : FG σ τ := ⟨gρ.1.trans g.1, fun k i a b c => by rw [g.2 k i a (by omega) c, gρ.2 k i a b c]⟩
      refine ⟨τ, gT, ?_⟩
      rcases v with ⟨v1, v2, v3⟩ | ⟨o, k', z, v1, v2, v3⟩
      · exact Or.inl ⟨v1, v2, by omega⟩
      · refine Or.inr ⟨o, k', z, v1, v2, ?_⟩
        obtain ⟨y, v1', _⟩ := v1
        have hl := sb_lt v1'
        rw [hP5 (by omega)] at v3
        unfold Fo at v3 ⊢
        rw [iρ] at v3
        exact v3)
    rw [zq_findPlace_104, kZ_findPlace_104, if_neg (by omega), if_pos (by omega)]
    have ex : wt (tt ((n, k) : Tm)) = 1 + wt k := by rw [tt_wt]
    have etk : ∀ o, o < 1 + wt k → sbF o (.branch n k s) = sbF o (tt ((n, k) : Tm)) := fun o ho => by
      cases o with
      | zero => rfl
      | succ o => rw [show (.branch n k s : T) = nd n k s from rfl, sb_ndk (by omega), show tt ((n, k) : Tm) = nd n k nl from rfl, sb_ndk (by omega)]
    rcases u with ⟨u1, u2, u3⟩ | ⟨o, k', z, ⟨y, u1, u1', u1''⟩, u2, u3⟩
    · rw [zbd_of u2, if_pos rfl, if_pos (by omega)]
      have e45 : σ1.2.1 45 x1 = σ.2.1 45 x1 := f1.2 45 x1 t0 (by omega) (by simp)
      obtain ⟨τ, g, v⟩ := fp_loop m0 wC s β σ1 x0 (σ.2.1 45 x1) (hR.fg f1 h47a) (hp.f f1.1) (again s _ σ1 f1 hP6 (by omega)) (by omega) w4 (by omega) (by omega) (by omega) (by omega)
      have gT : FG σ τ := ⟨f1.1.trans g.1, fun k i a b c => by rw [g.2 k i a (by omega) c, f1.2 k i a b c]⟩
      rw [e45]
      refine ⟨τ, gT, ?_⟩
      have lo : ∀ o' x', o' < 1 + wt k → sbF o' (.branch n k s) = some x' → rw1 pd (sgL Cs 0) x' = none := fun o' x' ho h => by
        rw [etk o' ho] at h; exact u1 o' x' h
      rcases v with ⟨v1, v2, v3⟩ | ⟨o, k', z, ⟨y, v1, v1', v1''⟩, v2, v3⟩
      · left
        refine ⟨fun o x h => ?_, v2, by omega⟩
        by_cases q : o < 1 + wt k
        · exact lo o x q h
        · obtain ⟨o', rfl⟩ : ∃ o', o = 1 + wt k + o' := ⟨o - (1 + wt k), by omega⟩
          rw [show (.branch n k s : T) = nd n k s from rfl, sb_nds] at h
          exact v1 o' x h
      · right
        refine ⟨1 + wt k + o, k', z, ⟨y, by rw [show (.branch n k s : T) = nd n k s from rfl, sb_nds]; exact v1, v1', fun o' x' hlt h => ?_⟩, v2, ?_⟩
        · by_cases q : o' < 1 + wt k
          · exact lo o' x' q h
          · obtain ⟨o2, rfl⟩ : ∃ o2, o' = 1 + wt k + o2 := ⟨o' - (1 + wt k), by omega⟩
            rw [show (.branch n k s : T) = nd n k s from rfl, sb_nds] at h
            exact v1'' o2 x' (by omega) h
        · have hl := sb_lt v1
          rw [hP7 (by omega)] at v3
          unfold Fo at v3 ⊢
          rw [u3] at v3
          rw [show x1 + ((1 + wt k + o : Nat) : Int) = x1 + 1 + (wt k : Int) + (o : Int) by omega]
          exact v3
    · rw [zbd_of u2, if_neg (by decide)]
      have hl := sb_lt u1
      refine ⟨σ1, f1, Or.inr ⟨o, k', z, ⟨y, by rw [etk o (by omega)]; exact u1, u1', fun o' x' hlt h => ?_⟩, rfl, u3⟩⟩
      rw [etk o' (by omega)] at h
      exact u1'' o' x' hlt h
theorem fp_t (m0 : 0 ≤ m9) (wC : ∀ c ∈ Cs, Wc ar m9 c.1) {β : Nat} (hβ : 312 ≤ β) {x : Tm} {t : Int} (wx : wf ar (lb m9) (tt x)) (tx : tw x ≤ 100) {σ : zS} (hR : RC σ Cs) (hp : Pd σ m9 pd) (hx : Px σ x t) (h47 : t + (tw x : Int) ≤ σ.1 47) (h47a : 205000 ≤ σ.1 47) (h47b : σ.1 47 + 100 ≤ 420000) :
    ∃ τ, FG σ τ ∧ ((FN pd (sgL Cs 0) (tt x) ∧ zE tM_findPlace β σ [t] = some (τ, 0) ∧ τ.1 47 = σ.1 47) ∨ (∃ o k z, FY pd (sgL Cs 0) (tt x) o k z ∧ zE tM_findPlace β σ [t] = some (τ, 1) ∧ Fo ar m9 σ τ (t + (o : Int)) k z)) := by
  have ex : tw x = 1 + wt x.2 := rfl
  have hh := ht_le_wt x.2
  have t0 := hx.1.1
  have kb := Pt_kid (b := σ.1 47) hx.1 (by omega) (by omega)
  have hP4 := hx.1.2.2.2.1
  have hP5 := hx.1.2.2.2.2
  refine fp_of (by omega) m0 wC wx tx hR hp hx h47 h47a h47b (fun ρ gρ iρ => ?_)
  have e44 : ρ.2.1 44 t = σ.2.1 44 t := gρ.2 44 t t0 (by omega) (by simp)
  rw [e44]
  have kq : Pc ρ x.2 (σ.2.1 44 t) := by
    rcases Pc_bd hP4 with ⟨q1, q2⟩ | ⟨q1, q2⟩
    · have := wt0 q1
      rw [this]; exact q2
    · exact Pc_q (Pq.w gρ.2 q2 (by omega)) hP4
  obtain ⟨τ, g, v⟩ := fp_loop (pd := pd) m0 wC x.2 β ρ t (σ.2.1 44 t) (hR.fg gρ h47a) (hp.f gρ.1) kq (by omega) wx.2.2.1 (by omega) (by omega) (by omega) (by omega)
  have gT : FG σ τ := ⟨gρ.1.trans g.1, fun k i a b c => by rw [g.2 k i a (by omega) c, gρ.2 k i a b c]⟩
  refine ⟨τ, gT, ?_⟩
  rcases v with ⟨v1, v2, v3⟩ | ⟨o, k', z, v1, v2, v3⟩
  · exact Or.inl ⟨v1, v2, by omega⟩
  · refine Or.inr ⟨o, k', z, v1, v2, ?_⟩
    obtain ⟨y, v1', _⟩ := v1
    have hl := sb_lt v1'
    rw [hP5 (by omega)] at v3
    unfold Fo at v3 ⊢
    rw [iρ] at v3
    exact v3
end find
