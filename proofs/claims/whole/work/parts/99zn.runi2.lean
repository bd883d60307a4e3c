/-! the reference: two TERMS are made the same -/
def UR (ar : Int → Nat) (pd : Int → Prop) (m9 : Int) (B : Ev) (τ : zS) (Q : Vs → Prop) (r : Int) : Prop := (r = 1 ∧ ∃ B', EB ar pd m9 τ B' ∧ Su B B' ∧ (B' = B ∨ un B' < un B) ∧ ∀ θ, np pd θ → ((cm θ B ∧ Q θ) ↔ cm θ B')) ∨ (r = 0 ∧ ∀ θ, np pd θ → cm θ B → ¬ Q θ)
def Rt (ar : Int → Nat) (m9 : Int) (σ : zS) (X0 : Tm) : Prop := ∃ t b x, X0 = shT b x ∧ AT ar m9 σ t b x
def UNs (ar : Int → Nat) (pd : Int → Prop) (m9 : Int) (X0 Y0 : Tm) (u s : Nat) : Prop := ∀ (σ : zS) (B : Ev) (t1 b1 : Int) (x : Tm) (t2 b2 : Int) (y : Tm) (d1 d2 β : Nat), Pd σ m9 pd → EB ar pd m9 σ B → un B ≤ u → AT ar m9 σ t1 b1 x → AT ar m9 σ t2 b2 y → tw (st (rs B) (shT b1 x)) ≤ s → Rt ar m9 σ X0 → Rt ar m9 σ Y0 → Pth B X0 d1 (shT b1 x) → Pth B Y0 d2 (shT b2 y) → 1440 ≤ β + d1 → 1440 ≤ β + d2 → ∃ (τ : zS) (r : Int), zE tM_unify β σ [t1, b1, t2, b2] = some (τ, r) ∧ VB σ τ ∧ UR ar pd m9 B τ (fun θ => st θ (shT b1 x) = st θ (shT b2 y)) r
def UFs (ar : Int → Nat) (pd : Int → Prop) (m9 : Int) (X0 Y0 : Tm) (u s : Nat) : Prop := ∀ (F G : T) (σ : zS) (B : Ev) (u1 b1 u2 b2 : Int) (x0 x1 x2 x3 x4 x6 : Int) (d1 d2 β : Nat), Pd σ m9 pd → EB ar pd m9 σ B → un B ≤ u → Pc σ F u1 → u1 + (wt F : Int) ≤ 205000 → wf ar (lb m9) F → wt F ≤ 100 → (b1 = 0 ∨ b1 = 6) → Pc σ G u2 → u2 + (wt G : Int) ≤ 205000 → wf ar (lb m9) G → wt G ≤ 100 → (b2 = 0 ∨ b2 = 6) → len F = len G → wt (su (rs B) (sh b1 F)) ≤ s → Rt ar m9 σ X0 → Rt ar m9 σ Y0 → (∀ z, kd z F → Pth B X0 d1 (shT b1 z)) → (∀ z, kd z G → Pth B Y0 d2 (shT b2 z)) → 1441 ≤ β + d1 → 1441 ≤ β + d2 → ∃ (τ : zS) (r : Int), zE tM_unify_288 β σ [x0, x1, x2, x3, x4, b1, x6, b2, u2, u1] = some (τ, r) ∧ VB σ τ ∧ UR ar pd m9 B τ (fun θ => su θ (sh b1 F) = su θ (sh b2 G)) r
theorem Rt.f {ar : Int → Nat} {m9 : Int} {σ τ : zS} {X0 : Tm} (h : Rt ar m9 σ X0) (f : VB σ τ) : Rt ar m9 τ X0 := by
  obtain ⟨t, b, x, h1, h2⟩ := h
  exact ⟨t, b, x, h1, h2.f f⟩
theorem Rt.d {ar : Int → Nat} {pd : Int → Prop} {m9 : Int} {σ : zS} {B : Ev} {X0 x : Tm} {d : Nat} (h : Rt ar m9 σ X0) (hB : EB ar pd m9 σ B) (hp : Pth B X0 d x) : d < 1430 ∧ DB B (1430 - d) x := by
  obtain ⟨t, b, y, rfl, h2⟩ := h
  exact hp.d (DB_1430 hB h2)
theorem EB.cm {ar : Int → Nat} {pd : Int → Prop} {m9 : Int} {σ : zS} {B : Ev} (h : EB ar pd m9 σ B) : cm (rs B) B := by
  obtain ⟨r, hr, hr2⟩ := h.2.2
  exact rs_cm hr (fun v _ _ => by have := hr2 v; omega)
theorem un_term {ar : Int → Nat} {pd : Int → Prop} {m9 : Int} {X0 Y0 : Tm} {u s : Nat} (ih : ∀ s', s' < s → UFs ar pd m9 X0 Y0 u s') : UNs ar pd m9 X0 Y0 u s := by
  intro σ B t1 b1 x t2 b2 y d1 d2 β hp hB hu hx hy hs hX hY p1 p2 h1 h2
  obtain ⟨r, hr, hr2⟩ := hB.2.2
  obtain ⟨t1', b1', x', d1', e1, a1, q1, l1, f1, g1⟩ := dr_6 (β := β) hB hr (x0 := t1) (x1 := b1) (x2 := t2) (x3 := b2) 13 t1 b1 x d1 hx p1 (fun _ => by have := hr2 (-1 - cl x.1 + b1); omega)
  obtain ⟨t2', b2', y', d2', e2, a2, q2, l2, f2, g2⟩ := dr_78 (β := β) hB hr (x0 := t1) (x1 := b1) (x2 := t2) (x3 := b2) (x4 := t1') (x5 := b1') 13 t2 b2 y d2 hy p2 (fun _ => by have := hr2 (-1 - cl y.1 + b2); omega)
  have go : zE tM_unify β σ [t1, b1, t2, b2] = zE tM_unify_143 β σ [t1, b1, t2, b2, t1', b1', t2', b2'] := by
    rw [zq_unify, kZ_unify, e1, zq_unify_71, kZ_unify_71, e2]
  rw [go]
  -- the question, behind the VARIABLES
  have hq : ∀ θ, cm θ B → (st θ (shT b1 x) = st θ (shT b2 y) ↔ st θ (shT b1' x') = st θ (shT b2' y')) := fun θ hc => by rw [g1 θ hc, g2 θ hc]
  have UR' : ∀ τ r, UR ar pd m9 B τ (fun θ => st θ (shT b1' x') = st θ (shT b2' y')) r → UR ar pd m9 B τ (fun θ => st θ (shT b1 x) = st θ (shT b2 y)) r := fun τ r h => by
    rcases h with ⟨k1, B', k2, k3, k4, k5⟩ | ⟨k1, k2⟩
    · refine Or.inl ⟨k1, B', k2, k3, k4, fun θ hn => ?_⟩
      rw [← k5 θ hn]
      exact ⟨fun w => ⟨w.1, (hq θ w.1).mp w.2⟩, fun w => ⟨w.1, (hq θ w.1).mpr w.2⟩⟩
    · exact Or.inr ⟨k1, fun θ hn hc w => k2 θ hn hc ((hq θ hc).mp w)⟩
  obtain ⟨hd1, D1⟩ := hX.d hB q1
  obtain ⟨hd2, D2⟩ := hY.d hB q2
  obtain ⟨P1, wx, hb1, hx100⟩ := id a1
  obtain ⟨P2, wy, hb2, hy100⟩ := id a2
  have c1 := P1.1.2.1
  have c2 := P2.1.2.1
  have t10 := P1.1.1
  have t11 := P1.2
  have t20 := P2.1.1
  have t21 := P2.2
  obtain ⟨β', rfl⟩ : ∃ β', β = β' + 2 := ⟨β - 2, by omega⟩
  -- a VARIABLE gets a value
  have bnd : ∀ (v t b : Int) (z : Tm), 0 ≤ v → v < 12 → B v = none → AT ar m9 σ t b z → (cl z.1 < 0 → B (-1 - cl z.1 + b) = none ∧ -1 - cl z.1 + b ≠ v) → DB B β' (shT b z) → (∀ θ, (θ v = st θ (shT b z) ↔ st θ (shT b1' x') = st θ (shT b2' y'))) → ∃ (τ : zS) (r : Int), zbd (zE tM_bind1 (β' + 1) σ [v, t, b]) (fun σ1 r1 => if r1 = 0 ∨ r1 = 1 then some (σ1, r1) else none) = some (τ, r) ∧ VB σ τ ∧ UR ar pd m9 B τ (fun θ => st θ (shT b1 x) = st θ (shT b2 y)) r := fun v t b z v0 v1 hn hz hne hD heq => by
    obtain ⟨τ, f, k⟩ := bd_ok hp hB v0 v1 hn hz hne hD
    rcases k with ⟨k1, k2⟩ | ⟨k1, k2⟩
    · refine ⟨τ, 1, by rw [zbd_of k1, if_pos (Or.inr rfl)], f, UR' τ 1 (Or.inl ⟨rfl, upB B v (shT b z), k2, fun w X e => ?_, Or.inr (un_up v0 v1 hn), fun θ hnp => ?_⟩)⟩
      · rw [upB_o (fun q => by subst q; rw [hn] at e; cases e)]; exact e
      · rw [cm_up hn, heq θ]
    · refine ⟨τ, 0, by rw [zbd_of k1, if_pos (Or.inl rfl)], f, UR' τ 0 (Or.inr ⟨rfl, fun θ hnp hc w => k2 θ hnp hc ((heq θ).mpr w)⟩)⟩
  have e189 : zE tM_unify_189 (β' + 2) σ [t1, b1, t2, b2, t1', b1', t2', b2'] = if 0 ≤ cl x'.1 then (if 0 ≤ cl y'.1 then (if cl x'.1 = cl y'.1 then zE tM_unify_288 (β' + 2) σ [t1, b1, t2, b2, t1', b1', t2', b2', σ.2.1 44 t2', σ.2.1 44 t1'] else some (σ, 0)) else (if zr (-1 - cl y'.1) then (if zr (-1 - cl y'.1 + b2') then zbd (zE tM_bind1 (β' + 1) σ [-1 - cl y'.1 + b2', t1', b1']) (fun σ1 r1 => if r1 = 0 ∨ r1 = 1 then some (σ1, r1) else none) else none) else none)) else (if zr (-1 - cl x'.1) then (if zr (-1 - cl x'.1 + b1') then zbd (zE tM_bind1 (β' + 1) σ [-1 - cl x'.1 + b1', t2', b2']) (fun σ1 r1 => if r1 = 0 ∨ r1 = 1 then some (σ1, r1) else none) else none) else none) := by
    have z1 : zb t1' 420000 := ⟨by omega, by omega⟩
    have z2 : zb t2' 420000 := ⟨by omega, by omega⟩
    have z3 : 1 ≤ β' + 2 := by omega
    rw [zq_unify_189, kZ_unify_189, if_pos z1, c1, c2, if_pos z2, if_pos z3, if_pos z3]
    rfl
  by_cases v1 : cl x'.1 < 0
  · have x6 := wx.2.1.1
    have sx : cl (shT b1' x').1 = cl x'.1 - b1' := shT_v (by omega) v1
    have nx : B (-1 - cl x'.1 + b1') = none := by
      have := f1 (by omega)
      rw [show -1 - cl (shT b1' x').1 = -1 - cl x'.1 + b1' by omega] at this; exact this
    have ex : ∀ θ, st θ (shT b1' x') = θ (-1 - cl x'.1 + b1') := fun θ => by rw [st_v θ (x := shT b1' x') (by omega)]; congr 1; omega
    by_cases v2 : cl y'.1 < 0
    · have y6 := wy.2.1.1
      have sy : cl (shT b2' y').1 = cl y'.1 - b2' := shT_v (by omega) v2
      have ny : B (-1 - cl y'.1 + b2') = none := by
        have := f2 (by omega)
        rw [show -1 - cl (shT b2' y').1 = -1 - cl y'.1 + b2' by omega] at this; exact this
      have ey : ∀ θ, st θ (shT b2' y') = θ (-1 - cl y'.1 + b2') := fun θ => by rw [st_v θ (x := shT b2' y') (by omega)]; congr 1; omega
      by_cases same : cl x'.1 = cl y'.1 ∧ b1' = b2'
      · refine ⟨σ, 1, ?_, FrC.refl, UR' σ 1 (Or.inl ⟨rfl, B, hB, Su.refl, Or.inl rfl, fun θ _ => ⟨fun w => w.1, fun w => ⟨w, ?_⟩⟩⟩)⟩
        · rw [zq_unify_143, kZ_unify_143, if_pos (by omega), c1, if_neg (by omega), if_pos (by omega), c2, if_neg (by omega), if_pos same.1, if_pos same.2]
        · show st θ (shT b1' x') = st θ (shT b2' y')
          rw [ex θ, ey θ, same.1, same.2]
      · have to189 : zE tM_unify_143 (β' + 2) σ [t1, b1, t2, b2, t1', b1', t2', b2'] = zE tM_unify_189 (β' + 2) σ [t1, b1, t2, b2, t1', b1', t2', b2'] := by
          rw [zq_unify_143, kZ_unify_143, if_pos (by omega), c1, if_neg (by omega), if_pos (by omega), c2, if_neg (by omega)]
          by_cases h : cl x'.1 = cl y'.1
          · rw [if_pos h, if_neg (fun w => same ⟨h, w⟩)]
          · rw [if_neg h]
        rw [to189, e189, if_neg (by omega), if_pos (by omega), if_pos (by omega)]
        exact bnd _ t2' b2' y' (by omega) (by omega) nx a2 (fun _ => ⟨ny, by omega⟩) (DB_m D2 (by omega)) (fun θ => by rw [ex θ])
    · have to189 : zE tM_unify_143 (β' + 2) σ [t1, b1, t2, b2, t1', b1', t2', b2'] = zE tM_unify_189 (β' + 2) σ [t1, b1, t2, b2, t1', b1', t2', b2'] := by
        rw [zq_unify_143, kZ_unify_143, if_pos (by omega), c1, if_neg (by omega), if_pos (by omega), c2, if_pos (by omega)]
      rw [to189, e189, if_neg (by omega), if_pos (by omega), if_pos (by omega)]
      exact bnd _ t2' b2' y' (by omega) (by omega) nx a2 (fun w => absurd w v2) (DB_m D2 (by omega)) (fun θ => by rw [ex θ])
  · have to189 : zE tM_unify_143 (β' + 2) σ [t1, b1, t2, b2, t1', b1', t2', b2'] = zE tM_unify_189 (β' + 2) σ [t1, b1, t2, b2, t1', b1', t2', b2'] := by
      rw [zq_unify_143, kZ_unify_143, if_pos (by omega), c1, if_pos (by omega)]
    rw [to189, e189, if_pos (by omega)]
    have nvx : ¬ cl (shT b1' x').1 < 0 := by rw [shT_neg (by omega)]; exact v1
    have ex1 : (shT b1' x').1 = x'.1 := shT_f v1
    by_cases v2 : cl y'.1 < 0
    · have y6 := wy.2.1.1
      have sy : cl (shT b2' y').1 = cl y'.1 - b2' := shT_v (by omega) v2
      have ny : B (-1 - cl y'.1 + b2') = none := by
        have := f2 (by omega)
        rw [show -1 - cl (shT b2' y').1 = -1 - cl y'.1 + b2' by omega] at this; exact this
      have ey : ∀ θ, st θ (shT b2' y') = θ (-1 - cl y'.1 + b2') := fun θ => by rw [st_v θ (x := shT b2' y') (by omega)]; congr 1; omega
      rw [if_neg (by omega), if_pos (by omega), if_pos (by omega)]
      exact bnd _ t1' b1' x' (by omega) (by omega) ny a1 (fun w => absurd w v1) (DB_m D1 (by omega)) (fun θ => by rw [ey θ]; exact ⟨fun w => w.symm, fun w => w.symm⟩)
    · rw [if_pos (by omega)]
      have nvy : ¬ cl (shT b2' y').1 < 0 := by rw [shT_neg (by omega)]; exact v2
      have ey1 : (shT b2' y').1 = y'.1 := shT_f v2
      by_cases hl : cl x'.1 = cl y'.1
      · rw [if_pos hl]
        have hl' : x'.1 = y'.1 := cl_inj hl
        have kb1 := Pt_kid P1.1 P1.2 (by omega)
        have kb2 := Pt_kid P2.1 P2.2 (by omega)
        have ew : tw x' = 1 + wt x'.2 := rfl
        have ew2 : tw y' = 1 + wt y'.2 := rfl
        have lenEq : len x'.2 = len y'.2 := by
          have w1 := wx.1
          have w2 := wy.1
          rw [if_neg v1] at w1
          rw [if_neg v2] at w2
          rw [w1, w2, hl]
        have hsz : wt (su (rs B) (sh b1' x'.2)) + 1 ≤ s := by
          have e := g1 (rs B) hB.cm
          have e3 : tw (st (rs B) (shT b1' x')) = 1 + wt (su (rs B) (sh b1' x'.2)) := by rw [st_f _ nvx]; rfl
          rw [e, e3] at hs
          omega
        obtain ⟨τ, r', k1, k2, k3⟩ := ih (wt (su (rs B) (sh b1' x'.2))) (by omega) x'.2 y'.2 σ B (σ.2.1 44 t1') b1' (σ.2.1 44 t2') b2' t1 b1 t2 b2 t1' t2' (d1' + 1) (d2' + 1) (β' + 2) hp hB hu P1.1.2.2.2.1 (by omega) wx.2.2.1 (by omega) hb1 P2.1.2.2.2.1 (by omega) wy.2.2.1 (by omega) hb2 lenEq (Nat.le_refl _) hX hY (fun z hz => q1.k nvx (sh_kd hz)) (fun z hz => q2.k nvy (sh_kd hz)) (by omega) (by omega)
        refine ⟨τ, r', k1, k2, UR' τ r' ?_⟩
        have eqv : ∀ θ, (su θ (sh b1' x'.2) = su θ (sh b2' y'.2) ↔ st θ (shT b1' x') = st θ (shT b2' y')) := fun θ => by
          rw [st_f θ nvx, st_f θ nvy, ex1, ey1, hl']
          constructor
          · intro w
            show (y'.1, su θ (sh b1' x'.2)) = (y'.1, su θ (sh b2' y'.2))
            rw [w]
          · intro w
            exact congrArg Prod.snd w
        rcases k3 with ⟨m1, B', m2, m3, m4, m5⟩ | ⟨m1, m2⟩
        · exact Or.inl ⟨m1, B', m2, m3, m4, fun θ hn => by rw [← m5 θ hn]; dsimp only; rw [← eqv θ]⟩
        · exact Or.inr ⟨m1, fun θ hn hc w => m2 θ hn hc ((eqv θ).mpr w)⟩
      · rw [if_neg hl]
        refine ⟨σ, 0, rfl, FrC.refl, UR' σ 0 (Or.inr ⟨rfl, fun θ _ _ w => ?_⟩)⟩
        dsimp only at w
        rw [st_f θ nvx, st_f θ nvy] at w
        have := congrArg Prod.fst w
        dsimp only at this
        rw [ex1, ey1] at this
        exact hl (by rw [this])
theorem un_for {ar : Int → Nat} {pd : Int → Prop} {m9 : Int} {X0 Y0 : Tm} {u s : Nat} (hN : UNs ar pd m9 X0 Y0 u s) (ih : ∀ s', s' < s → UFs ar pd m9 X0 Y0 u s') (iu : ∀ u', u' < u → ∀ s', UFs ar pd m9 X0 Y0 u' s') : UFs ar pd m9 X0 Y0 u s := by
  intro F G σ B u1 b1 u2 b2 x0 x1 x2 x3 x4 x6 d1 d2 β hp hB hu hF bF wF tF hb1 hG bG wG tG hb2 hlen hs hX hY p1 p2 h1 h2
  match F, G, hF, bF, wF, tF, hG, bG, wG, tG, hlen, hs, p1, p2 with
  | .leaf (), G, hF, bF, wF, tF, hG, bG, wG, tG, hlen, hs, p1, p2 =>
    have hg : G = nl := len0 hlen.symm
    subst hg
    have hu1 : u1 < 0 := hF
    exact ⟨σ, 1, by rw [zq_unify_288, kZ_unify_288, if_pos hu1], FrC.refl, Or.inl ⟨rfl, B, hB, Su.refl, Or.inl rfl, fun θ _ => ⟨fun w => w.1, fun w => ⟨w, rfl⟩⟩⟩⟩
  | .branch n k s1, .leaf (), hF, bF, wF, tF, hG, bG, wG, tG, hlen, hs, p1, p2 => simp only [len] at hlen; omega
  | .branch n k s1, .branch n2 k2 s2, hF, bF, wF, tF, hG, bG, wG, tG, hlen, hs, p1, p2 =>
    have sb1 := Pc_bes hF bF (by omega)
    have sb2 := Pc_bes hG bG (by omega)
    have hPt1 := (Pc_nd.mp hF).1
    have hPt2 := (Pc_nd.mp hG).1
    have hF6 := hF.2.2.2.2.2.1
    have hG6 := hG.2.2.2.2.2.1
    simp only [wt] at bF tF bG tG
    simp only [len] at hlen
    have u10 := hPt1.1
    have u20 := hPt2.1
    have A1 : AT ar m9 σ u1 b1 (n, k) := ⟨⟨hPt1, by show u1 + 1 + (wt k : Int) ≤ 205000; omega⟩, ⟨wF.1, wF.2.1, wF.2.2.1, trivial⟩, hb1, by show 1 + wt k ≤ 100; omega⟩
    have A2 : AT ar m9 σ u2 b2 (n2, k2) := ⟨⟨hPt2, by show u2 + 1 + (wt k2 : Int) ≤ 205000; omega⟩, ⟨wG.1, wG.2.1, wG.2.2.1, trivial⟩, hb2, by show 1 + wt k2 ≤ 100; omega⟩
    have esu : ∀ θ : Vs, su θ (sh b1 (.branch n k s1)) = nd (st θ (shT b1 (n, k))).1 (st θ (shT b1 (n, k))).2 (su θ (sh b1 s1)) := fun θ => rfl
    have esu2 : ∀ θ : Vs, su θ (sh b2 (.branch n2 k2 s2)) = nd (st θ (shT b2 (n2, k2))).1 (st θ (shT b2 (n2, k2))).2 (su θ (sh b2 s2)) := fun θ => rfl
    have hs' : tw (st (rs B) (shT b1 (n, k))) + wt (su (rs B) (sh b1 s1)) ≤ s := by
      rw [esu] at hs
      simp only [wt] at hs
      show 1 + wt (st (rs B) (shT b1 (n, k))).2 + wt (su (rs B) (sh b1 s1)) ≤ s
      omega
    have twp := tw_pos (st (rs B) (shT b1 (n, k)))
    have eqn : ∀ θ : Vs, (su θ (sh b1 (.branch n k s1)) = su θ (sh b2 (.branch n2 k2 s2)) ↔ st θ (shT b1 (n, k)) = st θ (shT b2 (n2, k2)) ∧ su θ (sh b1 s1) = su θ (sh b2 s2)) := fun θ => by
      rw [esu, esu2]
      constructor
      · intro w
        injection w with w1 w2 w3
        exact ⟨Prod.ext w1 w2, w3⟩
      · rintro ⟨w1, w2⟩
        rw [w1, w2]
    obtain ⟨σ1, r1, t1, t2, t3⟩ := hN σ B u1 b1 (n, k) u2 b2 (n2, k2) d1 d2 (β - 1) hp hB hu A1 A2 (by omega) hX hY (p1 _ (Or.inl rfl)) (p2 _ (Or.inl rfl)) (by omega) (by omega)
    have hd1 := (hX.d hB (p1 _ (Or.inl rfl))).1
    rw [zq_unify_288, kZ_unify_288, if_neg (by omega), if_pos (by omega), zbd_of t1]
    rcases t3 with ⟨k1, B1, k2', k3, k4, k5⟩ | ⟨k1, k2'⟩
    · rw [k1, if_neg (by decide), if_pos (by omega), if_pos (by omega)]
      have e45 : σ1.2.1 45 u1 = σ.2.1 45 u1 := t2.a 45 u1
      have e45' : σ1.2.1 45 u2 = σ.2.1 45 u2 := t2.a 45 u2
      rw [e45, e45']
      have rest : ∃ (τ : zS) (r : Int), zE tM_unify_288 β σ1 [x0, x1, x2, x3, x4, b1, x6, b2, σ.2.1 45 u2, σ.2.1 45 u1] = some (τ, r) ∧ VB σ1 τ ∧ UR ar pd m9 B1 τ (fun θ => su θ (sh b1 s1) = su θ (sh b2 s2)) r := by
        have args : ∀ u' s', UFs ar pd m9 X0 Y0 u' s' → un B1 ≤ u' → wt (su (rs B1) (sh b1 s1)) ≤ s' → ∃ (τ : zS) (r : Int), zE tM_unify_288 β σ1 [x0, x1, x2, x3, x4, b1, x6, b2, σ.2.1 45 u2, σ.2.1 45 u1] = some (τ, r) ∧ VB σ1 τ ∧ UR ar pd m9 B1 τ (fun θ => su θ (sh b1 s1) = su θ (sh b2 s2)) r := fun u' s' hU hu' hs'' =>
          hU s1 s2 σ1 B1 (σ.2.1 45 u1) b1 (σ.2.1 45 u2) b2 x0 x1 x2 x3 x4 x6 d1 d2 β (hp.f t2) k2' hu' (Pc_q t2.pq hF6) (by omega) wF.2.2.2 (by omega) hb1 (Pc_q t2.pq hG6) (by omega) wG.2.2.2 (by omega) hb2 (by omega) hs'' (hX.f t2) (hY.f t2) (fun z hz => (p1 z (Or.inr hz)).m k3) (fun z hz => (p2 z (Or.inr hz)).m k3) h1 h2
        rcases k4 with e | e
        · subst e
          exact args u (wt (su (rs B1) (sh b1 s1))) (ih _ (by omega)) hu (Nat.le_refl _)
        · exact args (un B1) (wt (su (rs B1) (sh b1 s1))) (iu _ (by omega) _) (Nat.le_refl _) (Nat.le_refl _)
      obtain ⟨τ, r, v1, v2, v3⟩ := rest
      refine ⟨τ, r, v1, t2.trans v2, ?_⟩
      rcases v3 with ⟨m1, B2, m2, m3, m4, m5⟩ | ⟨m1, m2⟩
      · refine Or.inl ⟨m1, B2, m2, k3.trans m3, ?_, fun θ hn => ?_⟩
        · rcases k4 with e | e
          · subst e; exact m4
          · right
            rcases m4 with e' | e'
            · rw [e']; exact e
            · omega
        · rw [← m5 θ hn, ← k5 θ hn]
          dsimp only
          rw [eqn θ, and_assoc]
      · refine Or.inr ⟨m1, fun θ hn hc w => ?_⟩
        dsimp only at w
        rw [eqn θ] at w
        exact m2 θ hn ((k5 θ hn).mp ⟨hc, w.1⟩) w.2
    · rw [k1, if_pos rfl]
      refine ⟨σ1, 0, rfl, t2, Or.inr ⟨rfl, fun θ hn hc w => ?_⟩⟩
      dsimp only at w
      rw [eqn θ] at w
      exact k2' θ hn hc w.1
theorem un_all {ar : Int → Nat} {pd : Int → Prop} {m9 : Int} {X0 Y0 : Tm} (u : Nat) : ∀ s, UNs ar pd m9 X0 Y0 u s ∧ UFs ar pd m9 X0 Y0 u s := by
  induction u using Nat.strongRecOn with
  | ind u iu =>
    intro s
    induction s using Nat.strongRecOn with
    | ind s is' =>
      have hN : UNs ar pd m9 X0 Y0 u s := un_term (fun s' h => (is' s' h).2)
      exact ⟨hN, un_for hN (fun s' h => (is' s' h).2) (fun u' h s' => (iu u' h s').2)⟩
