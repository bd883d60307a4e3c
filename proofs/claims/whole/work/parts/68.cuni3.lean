theorem su_cat (τ : Vs) : ∀ A B : T, su τ (cat A B) = cat (su τ A) (su τ B)
  | .leaf _, B => rfl
  | .branch n k s, B => by simp only [cat, su_nd, su_cat τ s B]
theorem FA.hd {ar : Int → Nat} {m9 : Int} {σ : zS} {q b : Int} {n : Nat} {k s : T} (h : FA ar m9 σ q b (nd n k s)) : TA ar m9 σ q b (n, k) := by
  obtain ⟨a1, a2, a3, a4, a5, a6, a7, a8⟩ := h
  simp only [wt] at a6 a7 a8
  refine ⟨a1, ?_, ⟨a3.1, a3.2.1, a3.2.2.1, trivial⟩, a4, a5, by simp only [tt, wt]; omega, by simp only [tt, wt]; omega, by simp only [tt, wt]; omega⟩
  simp only [tt, fl, List.append_nil]
  exact ⟨a2.1, (Fl_app.mp a2.2).1⟩
theorem FA.tl {ar : Int → Nat} {m9 : Int} {σ : zS} {q b : Int} {n : Nat} {k s : T} (h : FA ar m9 σ q b (nd n k s)) : FA ar m9 σ (q + 1 + (wt k : Int)) b s := by
  obtain ⟨a1, a2, a3, a4, a5, a6, a7, a8⟩ := h
  simp only [wt] at a6 a7 a8
  have := (Fl_app.mp a2.2).2
  rw [fl_length] at this
  exact ⟨a1, this, a3.2.2.2, a4, by omega, by omega, by omega, by omega⟩
theorem FA.ct {ar : Int → Nat} {m9 : Int} {σ : zS} {q b : Int} {n : Nat} {k s : T} (h : FA ar m9 σ q b (nd n k s)) : FA ar m9 σ (q + 1) b (cat k s) := by
  obtain ⟨a1, a2, a3, a4, a5, a6, a7, a8⟩ := h
  simp only [wt] at a6 a7 a8
  refine ⟨a1, by rw [fl_cat]; exact a2.2, wf_cat a3.2.2.1 a3.2.2.2, a4, by omega, by rw [wt_cat]; omega, by rw [wt_cat]; omega, by rw [wt_cat]; omega⟩
/-- two SYMBOLS: other ones, or one goes on within them -/
theorem unite_nv {ar : Int → Nat} {pd : Int → Prop} {m9 : Int} {σ : zS} (hC : Cx ar pd m9 σ) {β : Nat} {p0 b q0 c dep p q i : Int} {n n2 : Nat} {k s k2 s2 : T} (hF : FA ar m9 σ p b (nd n k s)) (hG : FA ar m9 σ q c (nd n2 k2 s2)) (h1 : ¬ cl n < 0) (h2 : ¬ cl n2 < 0) (i0 : 0 ≤ i) (i1 : i < 100) : yE tG_Uni_unite_p30 β σ [p0, b, q0, c, dep, p, q, (len (nd n k s) : Int), i] = if n = n2 then yE tG_Uni_unite_p30 β σ [p0, b, q0, c, dep, p + 1, q + 1, (len (cat k s) : Int), i + 1] else some (σ, 0) := by
  obtain ⟨a1, a2, a3, a4, a5, a6, a7, a8⟩ := hF
  obtain ⟨b1, b2, b3, b4, b5, b6, b7, b8⟩ := hG
  obtain ⟨c1, c2, c3⟩ := hC.2.2.2
  have e1 : σ.2.1 48 p = cl n := a2.1
  have e2 : σ.2.1 48 q = cl n2 := b2.1
  have z1 := len_le_wt k
  have z2 := len_le_wt s
  have hl : (len (cat k s) : Int) = (len k : Int) + (len s : Int) := by rw [len_cat]; omega
  have e3 : ((len (nd n k s) : Nat) : Int) = 1 + (len s : Int) := by simp only [len]; omega
  simp only [wt] at a6 a7 a8 b6 b7 b8
  obtain ⟨s1, s2'⟩ := hC.1 _ a3.2.1 (by omega)
  have ha := a3.1
  rw [if_neg h1] at ha
  rw [yq_Uni_unite_p30, kY_Uni_unite_p30, e3, if_neg (by omega), if_neg (by omega), if_pos (by omega), e1, if_neg h1, if_pos (by omega), e2, if_pos (by omega)]
  by_cases hn : n = n2
  · rw [if_pos hn, if_pos (by rw [hn]), if_pos (by omega), if_pos (by omega), if_pos (by omega), s2', if_pos (by omega), if_pos (by omega), yq_Uni_unite_p149, kY_Uni_unite_p149, if_pos (by omega), hl, show 1 + (len s : Int) + ((ar (cl n) : Int) - 1) = (len k : Int) + (len s : Int) by omega]
  · rw [if_neg hn, if_neg (fun w => hn (cl_inj w))]
theorem unite_loop {ar : Int → Nat} {pd : Int → Prop} {m9 : Int} {Sol : Vs → Prop} (hSol : ∀ τ, Sol τ → ∀ v, 0 ≤ v → ¬ (0 ≤ cl (τ v).1 ∧ pd (cl (τ v).1))) {dep : Int} (d0 : 0 ≤ dep) (d1 : dep ≤ 48) (ih : UnOk ar pd m9 Sol (dep + 1)) {β : Nat} (hβ : 3 * (49 - dep) + 6 ≤ (β : Int)) {P : Tm → Tm → Prop} {b c p0 q0 : Int} : ∀ (m : Nat) (F G : T) (σ : zS) (rt : Int → Int) (vl : Int → Option Tm) (V : Int → Tm → Prop) (L : Tm → Tm → Prop) (p q i : Int), wt F ≤ m → UB ar pd m9 Sol P σ rt vl V L → FA ar m9 σ p b F → FA ar m9 σ q c G → len F = len G → 0 ≤ i → i + (wt F : Int) ≤ 100 → (∀ τ, Sol τ → su τ (sh b F) = su τ (sh c G)) → (dep = 0 ∨ ∀ τ, Sol τ → dep + (n12 (fun v => tw (τ v) ≤ wt (su τ (sh b F))) : Int) ≤ 12) →
    Ok (yE tG_Uni_unite_p30 β σ [p0, b, q0, c, dep, p, q, (len F : Int), i]) (UP ar pd m9 Sol P σ rt V L (fun rt2 V2 => JF rt2 V2 (sh b F) (sh c G)))
  | m, .leaf (), .branch n2 k2 s2, σ, rt, vl, V, L, p, q, i, _, _, _, _, hl, _, _, _, _ => by simp only [len] at hl; omega
  | m, .branch n k s, .leaf (), σ, rt, vl, V, L, p, q, i, _, _, _, _, hl, _, _, _, _ => by simp only [len] at hl; omega
  | m, .leaf (), .leaf (), σ, rt, vl, V, L, p, q, i, _, hB, _, _, _, i0, _, _, _ => by
    have e155 : yE tG_Uni_unite_p155 β σ [p0, b, q0, c, dep, p, q, ((len (.leaf ()) : Nat) : Int), i] = some (σ, 1) := by rw [yq_Uni_unite_p155, kY_Uni_unite_p155]
    have fin : UP ar pd m9 Sol P σ rt V L (fun rt2 V2 => JF rt2 V2 (sh b (.leaf ())) (sh c (.leaf ()))) σ 1 := ⟨FrC.refl, hB.2.2.2.1, Or.inl ⟨rfl, rt, vl, V, L, hB.2.2.2.2.1, hB.2.2.2.2.2, Mo.refl, trivial⟩⟩
    refine Ok.q yq_Uni_unite_p30 ?_
    unfold kY_Uni_unite_p30
    refine Ok.i (fun _ => Ok.of e155 fin) (fun _ => Ok.g (by simp [len]) (Ok.of e155 fin))
  | 0, .branch n k s, .branch n2 k2 s2, σ, rt, vl, V, L, p, q, i, hm, _, _, _, _, _, _, _, _ => by simp only [wt] at hm; omega
  | m + 1, .branch n k s, .branch n2 k2 s2, σ, rt, vl, V, L, p, q, i, hm, hB, hF, hG, hl, i0, i1, hs, hK => by
    have hC := hB.1
    have hF' := hF
    have hG' := hG
    have tx := hF.hd
    have ty := hG.hd
    obtain ⟨a1, a2, a3, a4, a5, a6, a7, a8⟩ := hF
    obtain ⟨b1, b2, b3, b4, b5, b6, b7, b8⟩ := hG
    obtain ⟨c1, c2, c3⟩ := hC.2.2.2
    have e1 : σ.2.1 48 p = cl n := a2.1
    have e2 : σ.2.1 48 q = cl n2 := b2.1
    have hb0 : 0 ≤ b := by omega
    have hc0 : 0 ≤ c := by omega
    simp only [wt] at a6 a7 a8 b6 b7 b8 hm i1
    simp only [len] at hl
    -- the heads and the rest
    have hh : ∀ τ, Sol τ → st τ (shT b (n, k)) = st τ (shT c (n2, k2)) ∧ su τ (sh b s) = su τ (sh c s2) := fun τ hτ => by
      have := hs τ hτ
      have u1 : su τ (sh b (.branch n k s)) = nd (st τ (shT b (n, k))).1 (st τ (shT b (n, k))).2 (su τ (sh b s)) := rfl
      have u2 : su τ (sh c (.branch n2 k2 s2)) = nd (st τ (shT c (n2, k2))).1 (st τ (shT c (n2, k2))).2 (su τ (sh c s2)) := rfl
      rw [u1, u2] at this
      injection this with v1 v2 v3
      exact ⟨Prod.ext v1 v2, v3⟩
    have hw : ∀ τ : Vs, wt (su τ (sh b (.branch n k s))) = tw (st τ (shT b (n, k))) + wt (su τ (sh b s)) := fun τ => rfl
    by_cases hv : cl n < 0 ∨ cl n2 < 0
    · -- one is a VARIABLE
      have hd : ∀ τ, Sol τ → dep + 1 + (n12 (fun v => tw (τ v) < tw (st τ (shT b (n, k)))) : Int) ≤ 12 := fun τ hτ => by
        obtain ⟨w, w0, w1, w2⟩ : ∃ w, 0 ≤ w ∧ w < 12 ∧ τ w = st τ (shT b (n, k)) := by
          have l1 := a3.2.1.1
          have l2 := b3.2.1.1
          rcases hv with hv | hv
          · refine ⟨-1 - cl n + b, by omega, by omega, ?_⟩
            rw [st_v τ (x := shT b (n, k)) ((shT_neg (x := (n, k)) hb0).mpr hv), shT_v (x := (n, k)) hb0 hv]
            congr 1; show -1 - cl n + b = -1 - (cl n - b); omega
          · refine ⟨-1 - cl n2 + c, by omega, by omega, ?_⟩
            rw [(hh τ hτ).1, st_v τ (x := shT c (n2, k2)) ((shT_neg (x := (n2, k2)) hc0).mpr hv), shT_v (x := (n2, k2)) hc0 hv]
            congr 1; show -1 - cl n2 + c = -1 - (cl n2 - c); omega
        rcases hK with rfl | hK
        · have := n12_lt (P := fun v => tw (τ v) < tw (st τ (shT b (n, k)))) (Q := fun _ => True) (fun _ _ => trivial) w0 w1 trivial (by rw [w2]; exact Nat.lt_irrefl _)
          have := n12_le (fun _ => True)
          omega
        · have := n12_lt (P := fun v => tw (τ v) < tw (st τ (shT b (n, k)))) (Q := fun v => tw (τ v) ≤ wt (su τ (sh b (.branch n k s)))) (fun v hv => by rw [hw]; omega) w0 w1 (by rw [w2, hw]; omega) (by rw [w2]; exact Nat.lt_irrefl _)
          have := hK τ hτ
          omega
      have hu := uvar_ok hSol d0 d1 ih (β := β - 1) (by omega) hB tx ty hv (fun τ hτ => (hh τ hτ).1) hd
      have p58 : Ok (yE tG_Uni_unite_p58 β σ [p0, b, q0, c, dep, p, q, ((len (.branch n k s) : Nat) : Int), i]) (UP ar pd m9 Sol P σ rt V L (fun rt2 V2 => JF rt2 V2 (sh b (.branch n k s)) (sh c (.branch n2 k2 s2)))) := by
        refine Ok.q yq_Uni_unite_p58 ?_
        unfold kY_Uni_unite_p58
        refine Ok.g (by omega) (Ok.c hu (fun σ1 r1 hp => ?_))
        obtain ⟨p1, p2, p3⟩ := hp
        rcases p3 with ⟨e, rt2, vl2, V2, L2, z1, z2, z3, z4⟩ | ⟨e, w⟩
        · subst e
          have B1 := hB.n p1 p2 z1 z2
          have hC1 := hC.f p1
          have tx1 := tx.f p1
          have ty1 := ty.f p1
          have l48 : ((σ1.2.2 48 : Nat) : Int) ≤ 100000000 := by have := hC1.2.2.2.2.2; omega
          have k1 := aft48 (β := β - 1) hC1.1 l48 tx1.2.1 tx1.2.2.1 (by have := tx1.2.2.2; omega) (by have := tx1.2.2.2; have := hC1.2.2.2.2.1; simp only [tt, wt, tw] at *; omega)
          have k2' := aft48 (β := β - 1) hC1.1 l48 ty1.2.1 ty1.2.2.1 (by have := ty1.2.2.2; omega) (by have := ty1.2.2.2; have := hC1.2.2.2.2.1; simp only [tt, wt, tw] at *; omega)
          refine Ok.n (by omega) (Ok.g (by omega) (Ok.c1 k1 (Ok.g (by omega) (Ok.c1 k2' ?_))))
          have e3 : ((len (.branch n k s) : Nat) : Int) + -1 = (len s : Int) := by simp only [len]; omega
          have zl := len_le_wt s
          rw [e3]
          refine Ok.g (by omega) (Ok.q yq_Uni_unite_p149 ?_)
          unfold kY_Uni_unite_p149
          refine Ok.g (by omega) ?_
          have t1 : p + ((tw (n, k) : Nat) : Int) = p + 1 + (wt k : Int) := by simp only [tw]; omega
          have t2 : q + ((tw (n2, k2) : Nat) : Int) = q + 1 + (wt k2 : Int) := by simp only [tw]; omega
          rw [t1, t2]
          have := unite_loop hSol d0 d1 ih hβ (p0 := p0) (q0 := q0) m s s2 σ1 rt2 vl2 V2 L2 (p + 1 + (wt k : Int)) (q + 1 + (wt k2 : Int)) (i + 1) (by omega) B1 (hF'.tl.f p1) (hG'.tl.f p1) (by omega) (by omega) (by omega) (fun τ hτ => (hh τ hτ).2) (hK.imp id (fun h τ hτ => by
            have a := h τ hτ
            have := n12_mono (P := fun v => tw (τ v) ≤ wt (su τ (sh b s))) (Q := fun v => tw (τ v) ≤ wt (su τ (sh b (.branch n k s)))) (fun v hv => by rw [hw]; omega)
            omega))
          refine Ok.w this (fun σ2 r2 hp2 => ?_)
          obtain ⟨o1, o2, o3⟩ := hp2
          refine ⟨p1.trans o1, o2, ?_⟩
          rcases o3 with ⟨e, rt3, vl3, V3, L3, y1, y2, y3, y4⟩ | o3
          · refine Or.inl ⟨e, rt3, vl3, V3, L3, y1, y2, z3.trans y3, ?_⟩
            have z5 := y3.jf z4
            exact ⟨z5.1, y4⟩
          · exact Or.inr o3
        · subst e
          exact Ok.g rfl (Ok.ret ⟨p1, p2, Or.inr ⟨rfl, w⟩⟩)
      refine Ok.q yq_Uni_unite_p30 ?_
      unfold kY_Uni_unite_p30
      refine Ok.n (by omega) (Ok.n (by simp only [len]; omega) (Ok.g (by omega) ?_))
      rw [e1]
      by_cases h1 : cl n < 0
      · exact Ok.g h1 p58
      · refine Ok.n h1 (Ok.g (by omega) ?_)
        rw [e2]
        exact Ok.n (by omega) p58
    · -- two SYMBOLS
      have h1 : ¬ cl n < 0 := fun w => hv (Or.inl w)
      have h2 : ¬ cl n2 < 0 := fun w => hv (Or.inr w)
      have n1 : ¬ cl (shT b (n, k)).1 < 0 := fun w => h1 ((shT_neg (x := (n, k)) hb0).mp w)
      have n2' : ¬ cl (shT c (n2, k2)).1 < 0 := fun w => h2 ((shT_neg (x := (n2, k2)) hc0).mp w)
      refine Ok.q (unite_nv hC hF' hG' h1 h2 i0 (by omega)) ?_
      have es : ∀ τ, st τ (shT b (n, k)) = (n, su τ (sh b k)) ∧ st τ (shT c (n2, k2)) = (n2, su τ (sh c k2)) := fun τ => by
        rw [st_f τ n1, st_f τ n2', shT_f (x := (n, k)) h1, shT_f (x := (n2, k2)) h2]
        exact ⟨rfl, rfl⟩
      by_cases hn : n = n2
      · refine Ok.g hn ?_
        subst hn
        have hk : len k = len k2 := by rw [a3.1, b3.1]
        have := unite_loop hSol d0 d1 ih hβ (p0 := p0) (q0 := q0) m (cat k s) (cat k2 s2) σ rt vl V L (p + 1) (q + 1) (i + 1) (by rw [wt_cat]; omega) hB hF'.ct hG'.ct (by rw [len_cat, len_cat]; omega) (by omega) (by rw [wt_cat]; omega) (fun τ hτ => by
          obtain ⟨u1, u2⟩ := hh τ hτ
          rw [(es τ).1, (es τ).2] at u1
          injection u1 with u3 u4
          rw [sh_cat, sh_cat, su_cat, su_cat, u4, u2]) (hK.imp id (fun h τ hτ => by
          have a := h τ hτ
          have := n12_mono (P := fun v => tw (τ v) ≤ wt (su τ (sh b (cat k s)))) (Q := fun v => tw (τ v) ≤ wt (su τ (sh b (.branch n k s)))) (fun v hv => by
            rw [sh_cat, su_cat, wt_cat] at hv
            rw [hw, (es τ).1]; simp only [tw] at hv ⊢; omega)
          omega))
        refine Ok.w this (fun σ2 r2 hp2 => ?_)
        obtain ⟨o1, o2, o3⟩ := hp2
        refine ⟨o1, o2, ?_⟩
        rcases o3 with ⟨e, rt3, vl3, V3, L3, y1, y2, y3, y4⟩ | o3
        · refine Or.inl ⟨e, rt3, vl3, V3, L3, y1, y2, y3, ?_⟩
          rw [sh_cat, sh_cat, JF_cat (by rw [sh_len, sh_len]; exact hk)] at y4
          refine ⟨?_, y4.2⟩
          rw [sh_cl hb0, sh_cl hc0]
          simp only [h1, if_false]
          exact ⟨trivial, y4.1⟩
        · exact Or.inr o3
      · refine Ok.n hn (Ok.ret ⟨FrC.refl, hB.2.2.2.1, Or.inr ⟨rfl, fun θ hθ => ?_⟩⟩)
        have := (hh θ hθ).1
        rw [(es θ).1, (es θ).2] at this
        injection this with u1 u2
        exact hn u1
theorem unite_at {ar : Int → Nat} {pd : Int → Prop} {m9 : Int} {Sol : Vs → Prop} (hSol : ∀ τ, Sol τ → ∀ v, 0 ≤ v → ¬ (0 ≤ cl (τ v).1 ∧ pd (cl (τ v).1))) : ∀ (D : Nat) (dep : Int), dep + (D : Int) = 49 → 0 ≤ dep → UnOk ar pd m9 Sol dep
  | 0, dep, hD, h0 => fun β σ P rt vl V L p b q c x y hβ hB hx hy hs hd => by
    refine Ok.q yq_Uni_unite ?_
    unfold kY_Uni_unite
    refine Ok.n (by omega) (Ok.ret ⟨FrC.refl, hB.2.2.2.1, Or.inr ⟨rfl, fun θ hθ => ?_⟩⟩)
    rcases hd with hd | ⟨_, _, hd⟩
    · omega
    · have := hd θ hθ; omega
  | D + 1, dep, hD, h0 => fun β σ P rt vl V L p b q c x y hβ hB hx hy hs hd => by
    have ih : UnOk ar pd m9 Sol (dep + 1) := unite_at hSol D (dep + 1) (by omega) (by omega)
    have hb0 : 0 ≤ b := by have := hx.1; omega
    have hc0 : 0 ≤ c := by have := hy.1; omega
    have e1 : ((len (tt x) : Nat) : Int) = 1 := by simp [tt, len]
    have hx100 := hx.2.2.2.2.2.2.2
    refine Ok.q yq_Uni_unite ?_
    unfold kY_Uni_unite
    refine Ok.g (by omega) ?_
    have hss : ∀ τ, Sol τ → su τ (sh b (tt x)) = su τ (sh c (tt y)) := fun τ hτ => by
      have a1 : su τ (sh b (tt x)) = tt (st τ (shT b x)) := rfl
      have a2 : su τ (sh c (tt y)) = tt (st τ (shT c y)) := rfl
      rw [a1, a2, hs τ hτ]
    rcases hd with hd | ⟨nx, ny, hd⟩
    · have := unite_loop hSol h0 (by omega) ih hβ (p0 := p) (q0 := q) (P := P) (wt (tt x)) (tt x) (tt y) σ rt vl V L p q 0 (Nat.le_refl _) hB hx hy rfl (by omega) (by omega) hss (Or.inl hd)
      rw [e1] at this
      exact this
    · have n1 : ¬ cl (shT b x).1 < 0 := fun w => nx ((shT_neg hb0).mp w)
      have n2 : ¬ cl (shT c y).1 < 0 := fun w => ny ((shT_neg hc0).mp w)
      have step := unite_nv hB.1 (β := β) (p0 := p) (q0 := q) (dep := dep) (i := 0) (n := x.1) (k := x.2) (s := nl) (n2 := y.1) (k2 := y.2) (s2 := nl) hx hy nx ny (by omega) (by omega)
      rw [e1] at step
      refine Ok.q step ?_
      have es : ∀ τ, st τ (shT b x) = (x.1, su τ (sh b x.2)) ∧ st τ (shT c y) = (y.1, su τ (sh c y.2)) := fun τ => by
        rw [st_f τ n1, st_f τ n2, shT_f nx, shT_f ny]
        exact ⟨rfl, rfl⟩
      by_cases hn : x.1 = y.1
      · refine Ok.g hn ?_
        have hk : len x.2 = len y.2 := by rw [hx.2.2.1.1, hy.2.2.1.1, hn]
        have hxc := FA.ct (n := x.1) (k := x.2) (s := nl) hx
        have hyc := FA.ct (n := y.1) (k := y.2) (s := nl) hy
        rw [cat_nl] at hxc hyc ⊢
        have := unite_loop hSol h0 (by omega) ih hβ (p0 := p) (q0 := q) (P := P) (wt x.2) x.2 y.2 σ rt vl V L (p + 1) (q + 1) (0 + 1) (Nat.le_refl _) hB hxc hyc hk (by omega) (by simp only [tt, wt] at hx100; omega) (fun τ hτ => by
          have u1 := hs τ hτ
          rw [(es τ).1, (es τ).2] at u1
          injection u1 with u3 u4) (Or.inr (fun τ hτ => by
          have a := hd τ hτ
          have := n12_mono (P := fun v => tw (τ v) ≤ wt (su τ (sh b x.2))) (Q := fun v => tw (τ v) < tw (st τ (shT b x))) (fun v hv => by
            rw [(es τ).1]; simp only [tw] at hv ⊢; omega)
          omega))
        refine Ok.w this (fun σ2 r2 hp2 => ?_)
        obtain ⟨o1, o2, o3⟩ := hp2
        refine ⟨o1, o2, ?_⟩
        rcases o3 with ⟨e, rt3, vl3, V3, L3, y1, y2, y3, y4⟩ | o3
        · refine Or.inl ⟨e, rt3, vl3, V3, L3, y1, y2, y3, ?_, trivial⟩
          rw [if_neg n1, if_neg n2]
          exact ⟨by rw [shT_f nx, shT_f ny]; exact hn, y4⟩
        · exact Or.inr o3
      · refine Ok.n hn (Ok.ret ⟨FrC.refl, hB.2.2.2.1, Or.inr ⟨rfl, fun θ hθ => ?_⟩⟩)
        have := hs θ hθ
        rw [(es θ).1, (es θ).2] at this
        injection this with u1 u2
        exact hn u1
theorem unite_ok {ar : Int → Nat} {pd : Int → Prop} {m9 : Int} {Sol : Vs → Prop} (hSol : ∀ τ, Sol τ → ∀ v, 0 ≤ v → ¬ (0 ≤ cl (τ v).1 ∧ pd (cl (τ v).1))) : UnOk ar pd m9 Sol 0 := unite_at hSol 49 0 (by omega) (by omega)
