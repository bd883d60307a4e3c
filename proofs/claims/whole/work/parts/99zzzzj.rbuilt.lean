/-! the reference builds TERMS of CLAUSES -/
/-- the same but in the POOL -/
def GS (σ τ : zS) : Prop := (∀ j, j ≠ 47 → τ.1 j = σ.1 j) ∧ τ.2.2 = σ.2.2 ∧ ∀ j q, ¬ (j = 43 ∨ j = 44 ∨ j = 45 ∨ j = 46) → τ.2.1 j q = σ.2.1 j q
theorem GS.tr {σ τ ρ : zS} (h : GS σ τ) (g : GS τ ρ) : GS σ ρ := ⟨fun j hj => by rw [g.1 j hj, h.1 j hj], by rw [g.2.1, h.2.1], fun j q hj => by rw [g.2.2 j q hj, h.2.2 j q hj]⟩
theorem Grow.gs {σ τ : zS} {m : Nat} (h : Grow σ τ m) : GS σ τ := ⟨h.2.1, h.2.2.1, fun j q hj => h.2.2.2 j q (Or.inr hj)⟩
theorem hng_gs (τ : zS) (x1 x2 q : Int) : GS τ (hng τ x1 x2 q) := ⟨fun j _ => by rw [hng_i], hng_l _ _ _ _, fun j i hj => hng_o _ _ _ _ j i (by omega) (by omega) (by omega)⟩
theorem REv.gs {w : Nat → Nat} {σ τ : zS} {E : VE} (h : REv w σ E) (g : GS σ τ) : REv w τ E := ⟨by rw [g.1 62 (by decide)]; exact h.1, h.2.1, fun i x hx => by rw [g.2.2 59 _ (by decide), g.2.2 60 _ (by decide), g.2.2 61 _ (by decide), g.2.2 23 _ (by decide)]; exact h.2.2 i x hx⟩
theorem RTm.gs {σ τ : zS} {F : T} {lo hi t : Int} (h : RTm σ F lo hi t) (g : GS σ τ) : RTm τ F lo hi t := h.ext (fun i _ _ _ => ⟨g.2.2 34 _ (by decide), g.2.2 35 _ (by decide), g.2.2 36 _ (by decide)⟩)
/-- what was made is hung in -/
theorem hang1 {σ τ1 : zS} {x1 x2 : Int} {y : Tm} (G1 : Grow σ τ1 (tw y)) (P1 : Pt τ1 y.1 y.2 (σ.1 47)) (g1 : 0 ≤ x1) (g2 : x1 < σ.1 47) (h4 : 0 ≤ σ.2.1 46 x1) (h5 : σ.2.1 46 x1 + (tw y : Int) ≤ 2000000) : (hng τ1 x1 x2 (σ.1 47)).1 47 = σ.1 47 + (tw y : Int) ∧ (hng τ1 x1 x2 (σ.1 47)).2.1 46 x1 = σ.2.1 46 x1 + (tw y : Int) ∧ ∀ τ2, (τ2 = (if 0 ≤ x2 then zA τ1 45 x2 (σ.1 47) else zA τ1 44 x1 (σ.1 47))) → zr (τ2.2.1 46 x1 + τ2.2.1 46 (σ.1 47)) ∧ zA τ2 46 x1 (τ2.2.1 46 x1 + τ2.2.1 46 (σ.1 47)) = hng τ1 x1 x2 (σ.1 47) := by
  have w1 : τ1.2.1 46 x1 = σ.2.1 46 x1 := G1.2.2.2 46 x1 (Or.inl (by omega))
  have wy : τ1.2.1 46 (σ.1 47) = 1 + (wt y.2 : Int) := P1.2.2.1
  have ey : (tw y : Int) = 1 + (wt y.2 : Int) := by simp only [tw]; omega
  refine ⟨by rw [hng_i, G1.1], by rw [hng_w, w1, wy, ey], fun τ2 h2 => ?_⟩
  have c5 : ∀ q, τ2.2.1 46 q = τ1.2.1 46 q := fun q => by
    rw [h2]
    split <;> simp [zA]
  rw [c5, c5]
  refine ⟨by rw [w1, wy]; exact ⟨by omega, by omega⟩, ?_⟩
  rw [h2]
  rfl
theorem ht_tt (x : Tm) : ht (tt x) = 1 + ht x.2 := by simp only [tt, ht]; omega
theorem bd_ok1 {w : Nat → Nat} {E : VE} : ∀ (i : Nat) (x : Nat × Tm), E[i]? = some x → ∀ (σ : zS) (β : Nat), REv w σ E → 0 ≤ σ.1 47 → σ.1 47 + (tw x.2 : Int) ≤ 420000 → ht (tt x.2) ≤ β → ∃ τ, zE tM_bound1 β σ [(x.1 : Int)] = some (τ, σ.1 47) ∧ Grow σ τ (tw x.2) ∧ Pt τ x.2.1 x.2.2 (σ.1 47) ∧ τ.2.1 45 (σ.1 47) = -1 := by
  intro i
  induction i using Nat.strongRecOn with
  | _ i ih =>
  intro x hx σ β hR h0 hp hb
  have hil := (List.getElem?_eq_some_iff.mp hx).1
  have hl := hR.len
  obtain ⟨x1, x2, x3, x4⟩ := hR.2.2 i x hx
  rw [ht_tt] at hb
  have etw : (tw x.2 : Int) = 1 + (wt x.2.2 : Int) := by simp only [tw]; omega
  rw [zq_bound1, kZ_bound1, if_pos ⟨by omega, by omega⟩]
  rcases x4 with ⟨x4, x5⟩ | ⟨x4, x5, x6, x7⟩
  · rw [x4, if_neg (by decide), if_pos ⟨by omega, by omega⟩, if_pos (by omega)]
    obtain ⟨τ1, e1, G1, f1, f2, f3, f4⟩ := fresh_ok (σ := σ) (β := β - 1) (c := -1 - (x.1 : Int)) h0 (by omega)
    obtain ⟨G, P, b⟩ := Lp_root (n := x.2.1) h0 G1 (by rw [f1, x5]; show _ = cl (cu _); rw [cl_cu]) f2 f3 f4 (k := nl) Lp_nil
    refine ⟨τ1, by rw [zbd_of e1], ?_, ?_, b⟩
    · rw [x5]; exact G
    · rw [x5] at P ⊢; exact P
  · rw [x4, if_pos (by omega), if_pos (by omega), x7]
    obtain ⟨τ1, e1, G1, f1, f2, f3, f4⟩ := fresh_ok (σ := σ) (β := β - 1) (c := cl (w x.1)) h0 (by omega)
    have hk : x.2.2 = eT (E.take i) := by rw [x5]
    have hn : x.2.1 = w x.1 := by rw [x5]
    rw [zbd_of e1]
    have loop : ∀ (m k : Nat) (ρ : zS) (y1 y2 : Int), k + m = i → REv w ρ E → 0 ≤ y1 → y1 < ρ.1 47 → y2 < ρ.1 47 → ρ.1 47 + (wt (eT ((E.take i).drop k)) : Int) ≤ 420000 → 0 ≤ ρ.2.1 46 y1 → ρ.2.1 46 y1 + (wt (eT ((E.take i).drop k)) : Int) ≤ 2000000 → ht (eT ((E.take i).drop k)) ≤ β - 1 → ∃ τ, zE tM_bound1_41 β ρ [(x.1 : Int), y1, (i : Int), y2, (k : Int)] = some (τ, y1) ∧ Lp ρ τ y1 y2 (eT ((E.take i).drop k)) := by
      intro m
      induction m with
      | zero =>
        intro k ρ y1 y2 hk hR2 g1 g2 g3 g4 g5 g6 g7
        have hd : (E.take i).drop k = [] := List.drop_eq_nil_of_le (by rw [List.length_take]; omega)
        rw [hd]
        exact ⟨ρ, by rw [zq_bound1_41, kZ_bound1_41, if_pos (by omega)], Lp_nil⟩
      | succ m ihm =>
        intro k ρ y1 y2 hk hR2 g1 g2 g3 g4 g5 g6 g7
        obtain ⟨y, hy⟩ : ∃ y, E[k]? = some y := ⟨E[k], List.getElem?_eq_getElem (by omega)⟩
        have hd : (E.take i).drop k = y :: (E.take i).drop (k + 1) := by
          rw [List.drop_eq_getElem_cons (by rw [List.length_take]; omega)]
          congr 1
          rw [List.getElem_take]
          exact (List.getElem?_eq_some_iff.mp hy).2
        rw [hd] at g4 g6 g7 ⊢
        have g4 : ρ.1 47 + ((1 + wt y.2.2 + wt (eT ((E.take i).drop (k + 1))) : Nat) : Int) ≤ 420000 := g4
        have g6 : ρ.2.1 46 y1 + ((1 + wt y.2.2 + wt (eT ((E.take i).drop (k + 1))) : Nat) : Int) ≤ 2000000 := g6
        have g7 : max (1 + ht y.2.2) (ht (eT ((E.take i).drop (k + 1)))) ≤ β - 1 := g7
        have etwy : (tw y.2 : Int) = 1 + (wt y.2.2 : Int) := by simp only [tw]; omega
        obtain ⟨ρ1, t1, t2, t3, t4⟩ := ih k (by omega) y hy ρ (β - 1) hR2 (by omega) (by omega) (by rw [ht_tt]; omega)
        obtain ⟨q1, q2, q3⟩ := hang1 (x1 := y1) (x2 := y2) t2 t3 g1 g2 g5 (by omega)
        obtain ⟨τ, u1, u2⟩ := ihm (k + 1) (hng ρ1 y1 y2 (ρ.1 47)) y1 (ρ.1 47) (by omega) ((hR2.gs t2.gs).gs (hng_gs _ _ _ _)) g1 (by omega) (by omega) (by omega) (by omega) (by omega) (by omega)
        refine ⟨τ, ?_, Lp_cons t2 t3 t4 g1 g2 g3 u2⟩
        have e85 : ∀ τ2 : zS, τ2 = (if 0 ≤ y2 then zA ρ1 45 y2 (ρ.1 47) else zA ρ1 44 y1 (ρ.1 47)) → zE tM_bound1_85 β τ2 [(x.1 : Int), y1, (i : Int), y2, (k : Int), ρ.1 47] = some (τ, y1) := fun τ2 h2 => by
          obtain ⟨z1, z2⟩ := q3 τ2 h2
          rw [zq_bound1_85, kZ_bound1_85, if_pos ⟨by omega, by omega⟩, if_pos ⟨by omega, by omega⟩, if_pos z1, lt_e, z2, if_pos ⟨by omega, by omega⟩]
          exact u1
        rw [zq_bound1_41, kZ_bound1_41, if_neg (by omega), if_pos ⟨by omega, by omega⟩, if_pos (by omega), (hR2.2.2 k y hy).2.1, zbd_of t1]
        by_cases hy2 : 0 ≤ y2
        · rw [if_pos hy2, if_pos ⟨by omega, by omega⟩, lt_e]
          exact e85 _ (by rw [if_pos hy2])
        · rw [if_neg hy2, if_pos ⟨by omega, by omega⟩, lt_e]
          exact e85 _ (by rw [if_neg hy2])
    have d0 : (E.take i).drop 0 = E.take i := List.drop_zero
    have t47 : τ1.1 47 = σ.1 47 + 1 := G1.1
    obtain ⟨τ, u1, u2⟩ := loop i 0 τ1 (σ.1 47) (-1) (by omega) (hR.gs G1.gs) h0 (by omega) (by omega) (by rw [d0, ← hk]; omega) (by rw [f4]; decide) (by rw [d0, ← hk, f4]; omega) (by rw [d0, ← hk]; omega)
    rw [d0, ← hk] at u2
    obtain ⟨G, P, b⟩ := Lp_root (n := x.2.1) h0 G1 (by rw [f1, hn]) f2 f3 f4 u2
    refine ⟨τ, ?_, G, P, b⟩
    rw [G1.2.2.2 61 _ (Or.inr (by decide)), x4]
    exact u1
/-- TERMS of the TEXT, with what stands for their VARIABLES -/
theorem blt_loop {w : Nat → Nat} {E : VE} : ∀ {F : T} {lo hi t : Int} {σ : zS} {β : Nat} {x0 y x1 x2 : Int}, RTm σ F lo hi t → hi ≤ 20100 → VO E F → REv w σ E → 0 ≤ x1 → x1 < σ.1 47 → x2 < σ.1 47 → σ.1 47 + (wt (su (eV E) F) : Int) ≤ 420000 → 0 ≤ σ.2.1 46 x1 → σ.2.1 46 x1 + (wt (su (eV E) F) : Int) ≤ 2000000 → 2 * ht (su (eV E) F) + 2 ≤ β → ∃ τ, zE tM_built2_12 β σ [x0, y, x1, x2, t] = some (τ, x1) ∧ Lp σ τ x1 x2 (su (eV E) F)
  | .leaf _, lo, hi, t, σ, β, x0, y, x1, x2, hR, hh, hv, hE, g1, g2, g3, g4, g5, g6, g7 => by
    have hR : t = -1 := hR
    exact ⟨σ, by rw [zq_built2_12, kZ_built2_12, if_pos (by omega)], Lp_nil⟩
  | .branch l k s, lo, hi, t, σ, β, x0, y, x1, x2, hR, hh, hv, hE, g1, g2, g3, g4, g5, g6, g7 => by
    obtain ⟨r0, r1, r2, r3, r4, r5⟩ := id hR
    obtain ⟨v1, v2, v3⟩ := hv
    obtain ⟨z, hz⟩ : ∃ z : Tm, z = sbT (eV E) l (su (eV E) k) := ⟨_, rfl⟩
    have es : su (eV E) (.branch l k s) = nd z.1 z.2 (su (eV E) s) := by rw [hz]; rfl
    rw [es] at g4 g6 g7 ⊢
    have g4 : σ.1 47 + ((1 + wt z.2 + wt (su (eV E) s) : Nat) : Int) ≤ 420000 := g4
    have g6 : σ.2.1 46 x1 + ((1 + wt z.2 + wt (su (eV E) s) : Nat) : Int) ≤ 2000000 := g6
    have g7 : 2 * max (1 + ht z.2) (ht (su (eV E) s)) + 2 ≤ β := g7
    have etw : (tw z : Int) = 1 + (wt z.2 : Int) := by simp only [tw]; omega
    have key : ∃ τ1, zE tM_built1 (β - 1) σ [t] = some (τ1, σ.1 47) ∧ Grow σ τ1 (tw z) ∧ Pt τ1 z.1 z.2 (σ.1 47) ∧ τ1.2.1 45 (σ.1 47) = -1 := by
      have e40 : ∀ (ρ : zS) (a b : Int), zE tM_built1_40 (β - 1) ρ [a, b] = some (ρ, b) := fun ρ a b => by rw [zq_built1_40, kZ_built1_40]
      by_cases c : cl l < 0
      · obtain ⟨_, x, hx, e⟩ := v1 c
        clear v1
        obtain ⟨i, hi2⟩ := List.getElem?_of_mem hx
        have hx3 := (hE.2.2 i x hi2).1
        have hzx : z = x.2 := by
          rw [hz]
          unfold sbT
          rw [if_pos c, ← e, hE.ev hi2]
        obtain ⟨τ1, t1, t2, t3, t4⟩ := bd_ok1 i x hi2 σ (β - 1 - 1) hE (by omega) (by rw [← hzx]; omega) (by rw [ht_tt, ← hzx]; omega)
        refine ⟨τ1, ?_, by rw [hzx]; exact t2, by rw [hzx]; exact t3, t4⟩
        rw [zq_built1, kZ_built1, if_pos ⟨by omega, by omega⟩, r3, if_neg (by omega), if_pos ⟨by omega, by omega⟩, if_pos (by omega), ← e, zbd_of t1, e40]
      · clear v1
        have hzx : z = (l, su (eV E) k) := by
          rw [hz]
          unfold sbT
          rw [if_neg c]
        rw [hzx] at g4 g6 g7 etw ⊢
        have g4 : σ.1 47 + ((1 + wt (su (eV E) k) + wt (su (eV E) s) : Nat) : Int) ≤ 420000 := g4
        have g7 : 2 * max (1 + ht (su (eV E) k)) (ht (su (eV E) s)) + 2 ≤ β := g7
        obtain ⟨τ1, e1, G1, f1, f2, f3, f4⟩ := fresh_ok (σ := σ) (β := β - 1 - 1 - 1) (c := cl l) (by omega) (by omega)
        have t47 : τ1.1 47 = σ.1 47 + 1 := G1.1
        obtain ⟨τ2, u1, u2⟩ := blt_loop (F := k) (x0 := cl l) (y := σ.2.1 35 t) (x1 := σ.1 47) (x2 := -1) (β := β - 1 - 1) (r4.gs G1.gs) (by omega) v2 (hE.gs G1.gs) (by omega) (by omega) (by omega) (by omega) (by rw [f4]; decide) (by rw [f4]; omega) (by omega)
        obtain ⟨G, P, b⟩ := Lp_root (n := l) (by omega) G1 f1 f2 f3 f4 u2
        refine ⟨τ2, ?_, G, P, b⟩
        rw [zq_built1, kZ_built1, if_pos ⟨by omega, by omega⟩, r3, if_pos (by omega), if_pos (by omega)]
        have e2 : zE tM_built2 (β - 1 - 1) σ [cl l, σ.2.1 35 t] = some (τ2, σ.1 47) := by
          rw [zq_built2, kZ_built2, if_pos (by omega), zbd_of e1]
          exact u1
        rw [zbd_of e2, e40]
    clear v1
    obtain ⟨τ1, t1, t2, t3, t4⟩ := key
    obtain ⟨q1, q2, q3⟩ := hang1 (x1 := x1) (x2 := x2) t2 t3 g1 g2 g5 (by omega)
    have gg : GS σ (hng τ1 x1 x2 (σ.1 47)) := t2.gs.tr (hng_gs _ _ _ _)
    obtain ⟨τ, u1, u2⟩ := blt_loop (F := s) (σ := hng τ1 x1 x2 (σ.1 47)) (x0 := x0) (y := y) (x1 := x1) (x2 := σ.1 47) (β := β) (r5.gs gg) hh v3 (hE.gs gg) g1 (by omega) (by omega) (by omega) (by omega) (by omega) (by omega)
    refine ⟨τ, ?_, Lp_cons t2 t3 t4 g1 g2 g3 u2⟩
    have e50 : ∀ τ2 : zS, τ2 = (if 0 ≤ x2 then zA τ1 45 x2 (σ.1 47) else zA τ1 44 x1 (σ.1 47)) → zE tM_built2_50 β τ2 [x0, y, x1, x2, t, σ.1 47] = some (τ, x1) := fun τ2 h2 => by
      obtain ⟨z1, z2⟩ := q3 τ2 h2
      rw [zq_built2_50, kZ_built2_50, if_pos ⟨by omega, by omega⟩, if_pos ⟨by omega, by omega⟩, if_pos z1, lt_e, z2, if_pos ⟨by omega, by omega⟩, gg.2.2 36 _ (by decide)]
      exact u1
    rw [zq_built2_12, kZ_built2_12, if_neg (by omega), if_pos (by omega), zbd_of t1]
    by_cases hx2 : 0 ≤ x2
    · rw [if_pos hx2, if_pos ⟨by omega, by omega⟩, lt_e]
      exact e50 _ (by rw [if_pos hx2])
    · rw [if_neg hx2, if_pos ⟨by omega, by omega⟩, lt_e]
      exact e50 _ (by rw [if_neg hx2])
/-- a SYMBOL with TERMS -/
theorem blt2_ok {w : Nat → Nat} {E : VE} {l : Nat} {k : T} {lo hi t : Int} {σ : zS} {β : Nat} (hR : RTm σ k lo hi t) (hh : hi ≤ 20100) (hv : VO E k) (hE : REv w σ E) (h0 : 0 ≤ σ.1 47) (g4 : σ.1 47 + 1 + (wt (su (eV E) k) : Int) ≤ 420000) (g7 : 2 * ht (su (eV E) k) + 2 ≤ β) : ∃ τ, zE tM_built2 β σ [cl l, t] = some (τ, σ.1 47) ∧ Grow σ τ (1 + wt (su (eV E) k)) ∧ Pt τ l (su (eV E) k) (σ.1 47) ∧ τ.2.1 45 (σ.1 47) = -1 := by
  obtain ⟨τ1, e1, G1, f1, f2, f3, f4⟩ := fresh_ok (σ := σ) (β := β - 1) (c := cl l) h0 (by omega)
  have t47 : τ1.1 47 = σ.1 47 + 1 := G1.1
  obtain ⟨τ2, u1, u2⟩ := blt_loop (F := k) (x0 := cl l) (y := t) (x1 := σ.1 47) (x2 := -1) (β := β) (hR.gs G1.gs) hh hv (hE.gs G1.gs) h0 (by omega) (by omega) (by omega) (by rw [f4]; decide) (by rw [f4]; omega) (by omega)
  obtain ⟨G, P, b⟩ := Lp_root (n := l) h0 G1 f1 f2 f3 f4 u2
  exact ⟨τ2, by rw [zq_built2, kZ_built2, if_pos (by omega), zbd_of e1]; exact u1, G, P, b⟩
/-- a TERM -/
theorem blt1_ok {w : Nat → Nat} {E : VE} {x : Tm} {t : Int} {σ : zS} {β : Nat} (hR : RTr σ x.1 x.2 t) (hh : σ.1 38 ≤ 20100) (hv : VO E (tt x)) (hE : REv w σ E) (h0 : 0 ≤ σ.1 47) (g4 : σ.1 47 + (tw (st (eV E) x) : Int) ≤ 420000) (g7 : 2 * ht (tt (st (eV E) x)) + 2 ≤ β) : ∃ τ, zE tM_built1 β σ [t] = some (τ, σ.1 47) ∧ Grow σ τ (tw (st (eV E) x)) ∧ Pt τ (st (eV E) x).1 (st (eV E) x).2 (σ.1 47) ∧ τ.2.1 45 (σ.1 47) = -1 := by
  obtain ⟨r0, r1, r3, r4⟩ := hR
  obtain ⟨v1, v2, _⟩ := hv
  rw [ht_tt] at g7
  have e40 : ∀ (ρ : zS) (a b : Int), zE tM_built1_40 β ρ [a, b] = some (ρ, b) := fun ρ a b => by rw [zq_built1_40, kZ_built1_40]
  by_cases c : cl x.1 < 0
  · obtain ⟨_, y, hy, e⟩ := v1 c
    clear v1
    obtain ⟨i, hi2⟩ := List.getElem?_of_mem hy
    have hx3 := (hE.2.2 i y hi2).1
    have hzx : st (eV E) x = y.2 := by
      show sbT (eV E) x.1 (su (eV E) x.2) = _
      unfold sbT
      rw [if_pos c, ← e, hE.ev hi2]
    rw [hzx] at g4 g7 ⊢
    obtain ⟨τ1, t1, t2, t3, t4⟩ := bd_ok1 i y hi2 σ (β - 1) hE h0 g4 (by rw [ht_tt]; omega)
    refine ⟨τ1, ?_, t2, t3, t4⟩
    rw [zq_built1, kZ_built1, if_pos ⟨by omega, by omega⟩, r3, if_neg (by omega), if_pos ⟨by omega, by omega⟩, if_pos (by omega), ← e, zbd_of t1, e40]
  · clear v1
    have hzx : st (eV E) x = (x.1, su (eV E) x.2) := by
      show sbT (eV E) x.1 (su (eV E) x.2) = _
      unfold sbT
      rw [if_neg c]
    rw [hzx] at g4 g7 ⊢
    have g4 : σ.1 47 + ((1 + wt (su (eV E) x.2) : Nat) : Int) ≤ 420000 := g4
    have g7 : 2 * (1 + ht (su (eV E) x.2)) + 2 ≤ β := g7
    obtain ⟨τ1, t1, t2, t3, t4⟩ := blt2_ok (l := x.1) (β := β - 1) r4 (by omega) v2 hE h0 (by omega) (by omega)
    refine ⟨τ1, ?_, t2, t3, t4⟩
    rw [zq_built1, kZ_built1, if_pos ⟨by omega, by omega⟩, r3, if_pos (by omega), if_pos (by omega), zbd_of t1, e40]
