/-- two roots are made one in the row of roots -/
theorem join_90 {β : Nat} {x0 x1 x2 g s : Int} (g0 : 0 ≤ g) (g1 : g < 12) (s0 : 0 ≤ s) (s1 : s < 12) : ∀ (m : Nat) (σ : zS) (i : Int), 0 ≤ i → i + (m : Int) = 12 → ∃ τ, yE tG_Uni_join_p90 β σ [x0, x1, x2, g, s, i] = yE tG_Uni_join_p90 β τ [x0, x1, x2, g, s, 12] ∧ FrC [] [60] σ τ ∧ ∀ v, τ.2.1 60 v = if i ≤ v ∧ v < 12 ∧ σ.2.1 60 v = g then s else σ.2.1 60 v
  | 0, σ, i, h0, hm => by
    have : i = 12 := by omega
    subst this
    exact ⟨σ, rfl, FrC.refl, fun v => by rw [if_neg (by omega)]⟩
  | m + 1, σ, i, h0, hm => by
    have key : ∀ z, z = (if σ.2.1 60 i = g then s else σ.2.1 60 i) → ∃ τ, yE tG_Uni_join_p127 β σ [x0, x1, x2, g, s, i, z, i] = yE tG_Uni_join_p90 β τ [x0, x1, x2, g, s, 12] ∧ FrC [] [60] σ τ ∧ ∀ v, τ.2.1 60 v = if i ≤ v ∧ v < 12 ∧ σ.2.1 60 v = g then s else σ.2.1 60 v := fun z hz => by
      obtain ⟨τ, t1, t2, t3⟩ := join_90 (β := β) (x0 := x0) (x1 := x1) (x2 := x2) g0 g1 s0 s1 m (zA σ 60 i z) (i + 1) (by omega) (by omega)
      have a1 : FrC [] [60] σ (zA σ 60 i z) := FrC_A
      refine ⟨τ, ?_, a1.trans t2, fun v => ?_⟩
      · rw [yq_Uni_join_p127, kY_Uni_join_p127, if_pos (by omega)]
        show (if zr (i + 1) then yE tG_Uni_join_p90 β (zA σ 60 i z) [x0, x1, x2, g, s, i + 1] else none) = _
        rw [if_pos (by omega), t1]
      · rw [t3]
        by_cases e : v = i
        · subst e
          rw [zA_s, if_neg (by omega), hz]
          by_cases q : σ.2.1 60 v = g
          · rw [if_pos q, if_pos ⟨by omega, by omega, q⟩]
          · rw [if_neg q, if_neg (fun w => q w.2.2)]
        · rw [zA_i e]
          by_cases q : i ≤ v ∧ v < 12 ∧ σ.2.1 60 v = g
          · rw [if_pos q, if_pos ⟨by omega, q.2⟩]
          · rw [if_neg q, if_neg (fun w => q ⟨by omega, w.2⟩)]
    rw [yq_Uni_join_p90, kY_Uni_join_p90, if_neg (by omega), if_pos (by omega)]
    by_cases q : σ.2.1 60 i = g
    · rw [if_pos q]; exact key s (by rw [if_pos q])
    · rw [if_neg q]; exact key _ (by rw [if_neg q])
theorem US.join {ar : Int → Nat} {m9 : Int} {σ τ : zS} {rt : Int → Int} {vl : Int → Option Tm} {V : Int → Tm → Prop} (hU : US ar m9 σ rt vl V) {g s : Int} (hgs : g ≠ s) (g0 : 0 ≤ g) (g1 : g < 12) (hg : rt g = g) (hs : rt s = s) (f1 : UF σ τ) (e60 : ∀ v, 0 ≤ v → v < 12 → τ.2.1 60 v = if rt v = g then s else rt v) (e61 : ∀ w, τ.2.1 61 w = σ.2.1 61 w) (e62 : ∀ w, τ.2.1 62 w = σ.2.1 62 w) (e63 : ∀ w, τ.2.1 63 w = σ.2.1 63 w) (ev : τ.1 5905 = zand (σ.1 5905) (-1 - zshl 1 g)) : US ar m9 τ (fun v => if rt v = g then s else rt v) (fun w => if w = g then none else vl w) (fun w x => V w x ∨ (w = s ∧ V g x)) := by
  obtain ⟨v0, v1, v2⟩ := hU.2.2.1
  have hr : ∀ r, (if rt r = g then s else rt r) = r ↔ r ≠ g ∧ rt r = r := fun r => by
    by_cases q : rt r = g
    · rw [if_pos q]
      constructor
      · intro w; subst w; rw [hs] at q; exact absurd q.symm hgs
      · rintro ⟨a, b⟩; rw [b] at q; exact absurd q a
    · rw [if_neg q]
      constructor
      · intro w; exact ⟨fun e => by subst e; exact q hg, w⟩
      · intro w; exact w.2
  refine ⟨e60, fun r a c hrr => ?_, ⟨?_, ?_, fun r a c => ?_⟩, fun x' b' q' y' a c d' e' g' => ?_⟩
  · obtain ⟨h1, h2⟩ := (hr r).mp hrr
    rw [e61, e62]
    simp only [h1, if_false]
    obtain ⟨k1, k2⟩ := hU.2.1 r a c h2
    refine ⟨k1, fun z hz => ?_⟩
    obtain ⟨y2, y3, y4⟩ := k2 z hz
    exact ⟨y2, y3, y4.f f1⟩
  · rw [ev]; exact (zand_n v0 v1).1
  · rw [ev]; exact (zand_n v0 v1).2
  · rw [ev, bt_and, bt_not (by omega), bt_shl g0 g1 a (by omega), v2 r a c, hr r]
    by_cases e : r = g
    · subst e; simp
    · simp [e]
  · rw [ix_f f1, e63] at g'
    have := hU.2.2.2 x' b' q' y' a c (d'.bk f1) e' g'
    by_cases q : rt x' = g
    · rw [q] at this; exact Or.inr ⟨by simp only [q, if_true], this⟩
    · simp only [q, if_false]; exact Or.inl this
theorem join_ok {ar : Int → Nat} {pd : Int → Prop} {m9 : Int} {Sol : Vs → Prop} {dep : Int} (d0 : 0 ≤ dep) (d1 : dep ≤ 48) (ih : UnOk ar pd m9 Sol (dep + 1)) {β : Nat} {σ : zS} {P : Tm → Tm → Prop} {rt : Int → Int} {vl : Int → Option Tm} {V : Int → Tm → Prop} {L : Tm → Tm → Prop} {x y : Int} (hβ : 3 * (49 - dep) + 4 ≤ (β : Int)) (hB : UB ar pd m9 Sol P σ rt vl V L) (x0 : 0 ≤ x) (x1 : x < 12) (hx : rt x = x) (y0 : 0 ≤ y) (y1 : y < 12) (hy : rt y = y) (hxy : x ≠ y) (hs : ∀ τ, Sol τ → τ x = τ y) (hd : ∀ τ, Sol τ → dep + 1 + (n12 (fun v => tw (τ v) < tw (τ x)) : Int) ≤ 12) :
    Ok (yE tG_Uni_join β σ [x, y, dep]) (UP ar pd m9 Sol P σ rt V L (fun rt2 V2 => rt2 x = rt2 y)) := by
  have hB' := hB
  obtain ⟨hC, hM, hR, hm, hU, hG⟩ := hB
  have vn : ∀ r, 0 ≤ r → r < 12 → rt r = r → ((σ.2.1 61 r = -1) ↔ vl r = none) := fun r a c e => by
    constructor
    · intro w
      cases hv : vl r with
      | none => rfl
      | some z =>
        obtain ⟨_, _, _, _, q⟩ := hU.at a c e hv (hG.g2 r z hv).2.2.2
        omega
    · exact (hU.2.1 r a c e).1
  -- g goes, s stays
  have go : ∀ g s : Int, (g = x ∧ s = y ∨ g = y ∧ s = x) → (vl g ≠ none → vl s ≠ none) → (∀ z, vl g = some z → ∀ v, vi v (tt z) → ¬ RZ rt vl (fun w => w = s) (rt v)) → (∀ z, vl s = some z → ∀ v, vi v (tt z) → ¬ RZ rt vl (fun w => w = g) (rt v)) → Ok (yE tG_Uni_join_p90 β σ [x, y, dep, g, s, 0]) (UP ar pd m9 Sol P σ rt V L (fun rt2 V2 => rt2 x = rt2 y)) := fun g s hgs hvv og os => by
    have g0 : 0 ≤ g := by omega
    have g1 : g < 12 := by omega
    have s0 : 0 ≤ s := by omega
    have s1 : s < 12 := by omega
    have hne : g ≠ s := by omega
    have hg : rt g = g := by rcases hgs with ⟨rfl, rfl⟩ | ⟨rfl, rfl⟩ <;> assumption
    have hst : rt s = s := by rcases hgs with ⟨rfl, rfl⟩ | ⟨rfl, rfl⟩ <;> assumption
    have hss : ∀ τ, Sol τ → τ g = τ s := fun τ hτ => by
      rcases hgs with ⟨rfl, rfl⟩ | ⟨rfl, rfl⟩
      · exact hs τ hτ
      · exact (hs τ hτ).symm
    obtain ⟨τ1, t1, t2, t3⟩ := join_90 (β := β) (x0 := x) (x1 := y) (x2 := dep) g0 g1 s0 s1 12 σ 0 (by omega) (by omega)
    have f1 : UF σ (zI τ1 5905 (zand (τ1.1 5905) (-1 - zshl 1 g))) := by
      have a1 : UF τ1 (zI τ1 5905 (zand (τ1.1 5905) (-1 - zshl 1 g))) := FrC_I
      exact t2.w.trans a1
    have f0 : FrC [5905] [60] σ (zI τ1 5905 (zand (τ1.1 5905) (-1 - zshl 1 g))) := by
      have a1 : FrC [5905] [60] τ1 (zI τ1 5905 (zand (τ1.1 5905) (-1 - zshl 1 g))) := FrC_I
      exact t2.w.trans a1
    have U1 := hU.join hne g0 g1 hg hst f1 (fun v a c => by
      rw [zI_2, t3, hU.1 v a c]
      by_cases q : rt v = g
      · rw [if_pos ⟨a, c, q⟩, if_pos q]
      · rw [if_neg (fun w => q w.2.2), if_neg q]) (fun w => f0.a 61 w) (fun w => f0.a 62 w) (fun w => f0.a 63 w) (by rw [zI_1, t2.i 5905])
    obtain ⟨G1, M1⟩ := hG.join (Q := fun a b => vl g = some a ∧ vl s = some b) hne g0 g1 s0 s1 hg hst og os hss (fun a b h1 h2 => ⟨h1, h2⟩) (fun a b h => h) hvv
    have m1 := hm.f f0
    have hK : (if rt x = g then s else rt x) = (if rt y = g then s else rt y) := by
      rw [hx, hy]
      rcases hgs with ⟨rfl, rfl⟩ | ⟨rfl, rfl⟩
      · rw [if_pos rfl, if_neg (Ne.symm hxy)]
      · rw [if_pos rfl, if_neg hxy]
    refine Ok.q t1 (Ok.q yq_Uni_join_p90 ?_)
    unfold kY_Uni_join_p90
    refine Ok.g (by omega) ?_
    have B1 := hB'.n f1 m1 U1 G1
    have e61 : ∀ w, (zI τ1 5905 (zand (τ1.1 5905) (-1 - zshl 1 g))).2.1 61 w = σ.2.1 61 w := fun w => f0.a 61 w
    have e62 : ∀ w, (zI τ1 5905 (zand (τ1.1 5905) (-1 - zshl 1 g))).2.1 62 w = σ.2.1 62 w := fun w => f0.a 62 w
    generalize zI τ1 5905 (zand (τ1.1 5905) (-1 - zshl 1 g)) = σ1 at f1 f0 U1 m1 B1 e61 e62 ⊢
    show Ok (if zb g 12 then _ else _) _
    refine Ok.g (by omega) ?_
    have e203 : ∀ (ρ : zS) (a r : Int), r = 0 ∨ r = 1 → yE tG_Uni_join_p203 β ρ [x, y, dep, g, s, a, r] = some (ρ, r) := fun ρ a r h => by rw [yq_Uni_join_p203, kY_Uni_join_p203, if_pos h]
    have e198 : ∀ (ρ : zS) (a : Int), yE tG_Uni_join_p198 β ρ [x, y, dep, g, s, a] = some (ρ, 1) := fun ρ a => by rw [yq_Uni_join_p198, kY_Uni_join_p198, e203 _ _ _ (Or.inr rfl)]
    cases hvg : vl g with
    | none =>
      have := (vn g g0 g1 hg).mpr hvg
      refine Ok.g (by rw [e61]; exact this) (Ok.of (e198 _ _) ⟨f1, m1, Or.inl ⟨rfl, _, _, _, _, U1, G1.p (fun a b h => ?_), M1, hK⟩⟩)
      rcases h with h | h
      · exact h
      · rw [hvg] at h; exact absurd h.1 (by simp)
    | some z =>
      obtain ⟨zs, hvs⟩ : ∃ zs, vl s = some zs := by
        cases h : vl s with
        | none => exact absurd h (hvv (by rw [hvg]; simp))
        | some zs => exact ⟨zs, rfl⟩
      obtain ⟨yg, a1, a2, a3, a4⟩ := hU.at g0 g1 hg hvg (hG.g2 g z hvg).2.2.2
      obtain ⟨ys, b1, b2, b3, b4⟩ := hU.at s0 s1 hst hvs (hG.g2 s zs hvs).2.2.2
      refine Ok.n (by rw [e61]; omega) (Ok.g (by omega) (Ok.g (by omega) (Ok.g (by omega) ?_)))
      rw [e61, e61, e62, e62]
      have := ih (β - 1) σ1 _ _ _ _ _ (σ.2.1 61 g) (σ.2.1 62 g) (σ.2.1 61 s) (σ.2.1 62 s) yg ys (by omega) B1 (a2.f f1) (b2.f f1) (fun τ hτ => by rw [← a1, ← b1, ← (hG.gd hτ).2 g z hvg, ← (hG.gd hτ).2 s zs hvs]; exact hss τ hτ) (Or.inr ⟨a3, b3, fun τ hτ => by
        rw [← a1, ← (hG.gd hτ).2 g z hvg]
        have := hd τ hτ
        have e : τ g = τ x := by
          rcases hgs with ⟨rfl, rfl⟩ | ⟨rfl, rfl⟩
          · rfl
          · exact (hs τ hτ).symm
        rw [e]; exact this⟩)
      refine Ok.c this (fun τ r hp => ?_)
      obtain ⟨p1, p2, p3⟩ := hp
      rcases p3 with ⟨e, rt2, vl2, V2, L2, w1, w2, w3, w4⟩ | ⟨e, w⟩
      · subst e
        refine Ok.n (by omega) (Ok.of (e198 _ _) ⟨f1.trans p1, p2, Or.inl ⟨rfl, rt2, vl2, V2, L2, w1, ?_, M1.trans w3, w3.1 x y hK⟩⟩)
        rw [← a1, ← b1] at w4
        refine GI.done (a := z) (b := zs) (w2.p (fun a b h => ?_)) w4
        rcases h with h | ⟨h1, h2⟩
        · exact Or.inl h
        · rw [hvg] at h1; rw [hvs] at h2
          exact Or.inr ⟨(Option.some.inj h1).symm, (Option.some.inj h2).symm⟩
      · subst e
        exact Ok.g rfl (Ok.of (e203 _ _ _ (Or.inl rfl)) ⟨f1.trans p1, p2, Or.inr ⟨rfl, w⟩⟩)
  -- no value comes to the other
  have ocx : ∀ a c : Int, 0 ≤ a → a < 12 → 0 ≤ c → c < 12 → rt a = a → rt c = c → (∀ τ, Sol τ → τ a = τ c) → ∀ z, vl c = some z → ∃ r, (r = 0 ∨ r = 1) ∧ yE tC_Uni_occurs (β - 1) σ [a, σ.2.1 61 c, σ.2.1 62 c] = some (σ, r) ∧ (r = 1 → ∀ θ, ¬ Sol θ) ∧ (r = 0 → ∀ v, vi v (tt z) → ¬ RZ rt vl (fun w => w = a) (rt v)) := fun a c a0 a1 c0 c1 ha hc he z hz => by
    obtain ⟨yc, b1, b2, b3, b4⟩ := hU.at c0 c1 hc hz (hG.g2 c z hz).2.2.2
    obtain ⟨r, r1, r2, r3, r4⟩ := occ_ok hC hU hG.1 hG.g2 (β := β - 1) (by omega) (x := a) a0 a1 b2 b3
    refine ⟨r, r1, r2, fun e θ hθ => ?_, fun e => by rw [b1]; exact r4 e⟩
    have := r3 e θ (hG.gd hθ)
    rw [← b1, ← (hG.gd hθ).2 c z hz, he θ hθ] at this
    exact Nat.lt_irrefl _ this
  have e60 : yE tG_Uni_join_p60 β σ [x, y, dep] = some (σ, 0) := by rw [yq_Uni_join_p60, kY_Uni_join_p60]
  -- then
  have p62 : (∀ z, vl y = some z → ∀ v, vi v (tt z) → ¬ RZ rt vl (fun w => w = x) (rt v)) → (∀ z, vl x = some z → ∀ v, vi v (tt z) → ¬ RZ rt vl (fun w => w = y) (rt v)) → Ok (yE tG_Uni_join_p62 β σ [x, y, dep]) (UP ar pd m9 Sol P σ rt V L (fun rt2 V2 => rt2 x = rt2 y)) := fun oy ox => by
    refine Ok.q yq_Uni_join_p62 ?_
    unfold kY_Uni_join_p62
    refine Ok.g (by omega) ?_
    cases hvx : vl x with
    | none =>
      refine Ok.g ((vn x x0 x1 hx).mpr hvx) (Ok.q yq_Uni_join_p77 ?_)
      unfold kY_Uni_join_p77
      refine Ok.g (by omega) (Ok.g (by omega) ?_)
      rw [show x + y - x = y by omega]
      exact go x y (Or.inl ⟨rfl, rfl⟩) (fun h => absurd hvx h) (fun z hz => by rw [hvx] at hz; cases hz) oy
    | some zx =>
      refine Ok.n (fun w => by rw [(vn x x0 x1 hx).mp w] at hvx; cases hvx) (Ok.q yq_Uni_join_p77 ?_)
      unfold kY_Uni_join_p77
      refine Ok.g (by omega) (Ok.g (by omega) ?_)
      rw [show x + y - y = x by omega]
      exact go y x (Or.inr ⟨rfl, rfl⟩) (fun _ => by rw [hvx]; simp) oy ox
  have p30 : (∀ z, vl y = some z → ∀ v, vi v (tt z) → ¬ RZ rt vl (fun w => w = x) (rt v)) → Ok (yE tG_Uni_join_p30 β σ [x, y, dep]) (UP ar pd m9 Sol P σ rt V L (fun rt2 V2 => rt2 x = rt2 y)) := fun oy => by
    refine Ok.q yq_Uni_join_p30 ?_
    unfold kY_Uni_join_p30
    refine Ok.g (by omega) ?_
    cases hvx : vl x with
    | none => exact Ok.g ((vn x x0 x1 hx).mpr hvx) (p62 oy (fun z hz => by rw [hvx] at hz; cases hz))
    | some zx =>
      obtain ⟨r, r1, r2, r3, r4⟩ := ocx y x y0 y1 x0 x1 hy hx (fun τ hτ => (hs τ hτ).symm) zx hvx
      refine Ok.n (fun w => by rw [(vn x x0 x1 hx).mp w] at hvx; cases hvx) (Ok.g (by omega) (Ok.c1 r2 ?_))
      rcases r1 with rfl | rfl
      · exact Ok.g rfl (p62 oy (fun z hz => by rw [hvx] at hz; obtain rfl := Option.some.inj hz; exact r4 rfl))
      · exact Ok.n (by omega) (Ok.of e60 ⟨FrC.refl, hm, Or.inr ⟨rfl, r3 rfl⟩⟩)
  refine Ok.q yq_Uni_join ?_
  unfold kY_Uni_join
  refine Ok.g (by omega) ?_
  cases hvy : vl y with
  | none => exact Ok.g ((vn y y0 y1 hy).mpr hvy) (p30 (fun z hz => by rw [hvy] at hz; cases hz))
  | some zy =>
    obtain ⟨r, r1, r2, r3, r4⟩ := ocx x y x0 x1 y0 y1 hx hy hs zy hvy
    refine Ok.n (fun w => by rw [(vn y y0 y1 hy).mp w] at hvy; cases hvy) (Ok.g (by omega) (Ok.c1 r2 ?_))
    rcases r1 with rfl | rfl
    · exact Ok.g rfl (p30 (fun z hz => by rw [hvy] at hz; obtain rfl := Option.some.inj hz; exact r4 rfl))
    · exact Ok.n (by omega) (Ok.of e60 ⟨FrC.refl, hm, Or.inr ⟨rfl, r3 rfl⟩⟩)
/-- two TERMS, one of which is a VARIABLE -/
theorem uvar_ok {ar : Int → Nat} {pd : Int → Prop} {m9 : Int} {Sol : Vs → Prop} (hSol : ∀ τ, Sol τ → ∀ v, 0 ≤ v → ¬ (0 ≤ cl (τ v).1 ∧ pd (cl (τ v).1))) {dep : Int} (d0 : 0 ≤ dep) (d1 : dep ≤ 48) (ih : UnOk ar pd m9 Sol (dep + 1)) {β : Nat} {σ : zS} {P : Tm → Tm → Prop} {rt : Int → Int} {vl : Int → Option Tm} {V : Int → Tm → Prop} {L : Tm → Tm → Prop} {p b q c : Int} {x y : Tm} (hβ : 3 * (49 - dep) + 5 ≤ (β : Int)) (hB : UB ar pd m9 Sol P σ rt vl V L) (hx : TA ar m9 σ p b x) (hy : TA ar m9 σ q c y) (hv : cl x.1 < 0 ∨ cl y.1 < 0) (hs : ∀ τ, Sol τ → st τ (shT b x) = st τ (shT c y)) (hd : ∀ τ, Sol τ → dep + 1 + (n12 (fun v => tw (τ v) < tw (st τ (shT b x))) : Int) ≤ 12) :
    Ok (yE tG_Uni_uniteVariable β σ [p, b, q, c, dep]) (UP ar pd m9 Sol P σ rt V L (fun rt2 V2 => JF rt2 V2 (tt (shT b x)) (tt (shT c y)))) := by
  obtain ⟨hC, hM, hR, hm, hU, hG⟩ := id hB
  have hb0 : 0 ≤ b := by have := hx.1; omega
  have hc0 : 0 ≤ c := by have := hy.1; omega
  have cx : σ.2.1 48 p = cl x.1 := hx.2.1.1
  have cy : σ.2.1 48 q = cl y.1 := hy.2.1.1
  have t1 : 1 ≤ wt (tt x) := by simp only [tt, wt]; omega
  have t2 : 1 ≤ wt (tt y) := by simp only [tt, wt]; omega
  have lx := hx.2.2.1.2.1.1
  have ly := hy.2.2.1.2.1.1
  obtain ⟨u1, u2, u3, u4, u5⟩ := hx.2.2.2
  obtain ⟨w1, w2, w3, w4, w5⟩ := hy.2.2.2
  obtain ⟨c1, c2, c3⟩ := hC.2.2.2
  have bb := hx.1
  have cc := hy.1
  refine Ok.q yq_Uni_uniteVariable ?_
  unfold kY_Uni_uniteVariable
  refine Ok.g (by omega) ?_
  rw [cx]
  -- the root of a VARIABLE
  have slot : ∀ {t : Tm} {k : Int}, cl t.1 < 0 → 0 ≤ k → ∀ τ, st τ (shT k t) = τ (-1 - cl t.1 + k) := fun {t k} ht hk τ => by
    rw [st_v τ (x := shT k t) ((shT_neg hk).mpr ht), shT_v hk ht]
    congr 1; omega
  have slc : ∀ {t : Tm} {k : Int}, cl t.1 < 0 → 0 ≤ k → -1 - cl (shT k t).1 = -1 - cl t.1 + k := fun {t k} ht hk => by rw [shT_v hk ht]; omega
  have jf : ∀ (rt2 : Int → Int) (V2 : Int → Tm → Prop), ((if cl (shT b x).1 < 0 then (if cl (shT c y).1 < 0 then rt2 (-1 - cl (shT b x).1) = rt2 (-1 - cl (shT c y).1) else V2 (rt2 (-1 - cl (shT b x).1)) (shT c y)) else (if cl (shT c y).1 < 0 then V2 (rt2 (-1 - cl (shT c y).1)) (shT b x) else (shT b x).1 = (shT c y).1 ∧ JF rt2 V2 (shT b x).2 (shT c y).2))) → JF rt2 V2 (tt (shT b x)) (tt (shT c y)) := fun rt2 V2 h => ⟨h, trivial⟩
  by_cases hvx : cl x.1 < 0
  · have nx : cl (shT b x).1 < 0 := (shT_neg hb0).mpr hvx
    obtain ⟨q1, q2, q3⟩ := hG.1 (-1 - cl x.1 + b) (by omega) (by omega)
    have eU := hU.1 (-1 - cl x.1 + b) (by omega) (by omega)
    refine Ok.n (by omega) (Ok.g (by omega) (Ok.g (by omega) ?_))
    rw [eU]
    refine Ok.q yq_Uni_uniteVariable_p34 ?_
    unfold kY_Uni_uniteVariable_p34
    refine Ok.g (by omega) ?_
    rw [cy]
    by_cases hvy : cl y.1 < 0
    · have ny : cl (shT c y).1 < 0 := (shT_neg hc0).mpr hvy
      obtain ⟨r1, r2, r3⟩ := hG.1 (-1 - cl y.1 + c) (by omega) (by omega)
      have eV := hU.1 (-1 - cl y.1 + c) (by omega) (by omega)
      refine Ok.n (by omega) (Ok.g (by omega) (Ok.g (by omega) ?_))
      rw [eV]
      refine Ok.q yq_Uni_uniteVariable_p71 ?_
      unfold kY_Uni_uniteVariable_p71
      by_cases he : rt (-1 - cl x.1 + b) = rt (-1 - cl y.1 + c)
      · refine Ok.g he (Ok.ret ⟨FrC.refl, hm, Or.inl ⟨rfl, rt, vl, V, L, hU, hG, Mo.refl, jf _ _ ?_⟩⟩)
        rw [if_pos nx, if_pos ny, slc hvx hb0, slc hvy hc0]; exact he
      · refine Ok.n he (Ok.n (by omega) (Ok.n (by omega) (Ok.g (by omega) ?_)))
        have := join_ok d0 d1 ih (β := β - 1) (x := rt (-1 - cl x.1 + b)) (y := rt (-1 - cl y.1 + c)) (by omega) hB q1 q2 q3 r1 r2 r3 he (fun τ hτ => by
          have := hs τ hτ
          rw [slot hvx hb0, slot hvy hc0] at this
          rw [← (hG.gd hτ).1, ← (hG.gd hτ).1]; exact this) (fun τ hτ => by
          have := hd τ hτ
          rw [slot hvx hb0] at this
          rw [← (hG.gd hτ).1]; exact this)
        refine Ok.c this (fun τ r hp => Ok.g hp.r (Ok.ret ?_))
        obtain ⟨p1, p2, p3⟩ := hp
        refine ⟨p1, p2, ?_⟩
        rcases p3 with ⟨e, rt2, vl2, V2, L2, z1, z2, z3, z4⟩ | p3
        · refine Or.inl ⟨e, rt2, vl2, V2, L2, z1, z2, z3, jf _ _ ?_⟩
          rw [if_pos nx, if_pos ny, slc hvx hb0, slc hvy hc0]
          have a1 := z3.1 (-1 - cl x.1 + b) (rt (-1 - cl x.1 + b)) q3.symm
          have a2 := z3.1 (-1 - cl y.1 + c) (rt (-1 - cl y.1 + c)) r3.symm
          rw [a1, a2]; exact z4
        · exact Or.inr p3
    · have ny : ¬ cl (shT c y).1 < 0 := fun w => hvy ((shT_neg hc0).mp w)
      refine Ok.g (by omega) (Ok.q yq_Uni_uniteVariable_p71 ?_)
      unfold kY_Uni_uniteVariable_p71
      refine Ok.n (by omega) (Ok.n (by omega) (Ok.g rfl (Ok.g (by omega) ?_)))
      have := meet_ok hSol d0 d1 ih (β := β - 1) (r := rt (-1 - cl x.1 + b)) (by omega) hB q1 q2 q3 hy hvy (fun τ hτ => by
        have := hs τ hτ
        rw [slot hvx hb0] at this
        rw [← (hG.gd hτ).1]; exact this) (fun τ hτ => by
        have := hd τ hτ
        rw [slot hvx hb0] at this
        rw [← (hG.gd hτ).1]; exact this)
      refine Ok.c this (fun τ r hp => Ok.g hp.r (Ok.ret ?_))
      obtain ⟨p1, p2, p3⟩ := hp
      refine ⟨p1, p2, ?_⟩
      rcases p3 with ⟨e, rt2, vl2, V2, L2, z1, z2, z3, z4⟩ | p3
      · refine Or.inl ⟨e, rt2, vl2, V2, L2, z1, z2, z3, jf _ _ ?_⟩
        rw [if_pos nx, if_neg ny, slc hvx hb0]
        have a1 := z3.1 (-1 - cl x.1 + b) (rt (-1 - cl x.1 + b)) q3.symm
        rw [a1]; exact z4
      · exact Or.inr p3
  · have nx : ¬ cl (shT b x).1 < 0 := fun w => hvx ((shT_neg hb0).mp w)
    have hvy : cl y.1 < 0 := by omega
    have ny : cl (shT c y).1 < 0 := (shT_neg hc0).mpr hvy
    obtain ⟨r1, r2, r3⟩ := hG.1 (-1 - cl y.1 + c) (by omega) (by omega)
    have eV := hU.1 (-1 - cl y.1 + c) (by omega) (by omega)
    refine Ok.g (by omega) (Ok.q yq_Uni_uniteVariable_p34 ?_)
    unfold kY_Uni_uniteVariable_p34
    refine Ok.g (by omega) ?_
    rw [cy]
    refine Ok.n (by omega) (Ok.g (by omega) (Ok.g (by omega) ?_))
    rw [eV]
    refine Ok.q yq_Uni_uniteVariable_p71 ?_
    unfold kY_Uni_uniteVariable_p71
    refine Ok.n (by omega) (Ok.g rfl (Ok.g (by omega) ?_))
    have := meet_ok hSol d0 d1 ih (β := β - 1) (r := rt (-1 - cl y.1 + c)) (by omega) hB r1 r2 r3 hx hvx (fun τ hτ => by
      have := hs τ hτ
      rw [slot hvy hc0] at this
      rw [← (hG.gd hτ).1]; exact this.symm) (fun τ hτ => by
      have := hd τ hτ
      rw [hs τ hτ, slot hvy hc0] at this
      rw [← (hG.gd hτ).1]; exact this)
    refine Ok.c this (fun τ r hp => Ok.g hp.r (Ok.ret ?_))
    obtain ⟨p1, p2, p3⟩ := hp
    refine ⟨p1, p2, ?_⟩
    rcases p3 with ⟨e, rt2, vl2, V2, L2, z1, z2, z3, z4⟩ | p3
    · refine Or.inl ⟨e, rt2, vl2, V2, L2, z1, z2, z3, jf _ _ ?_⟩
      rw [if_neg nx, if_pos ny, slc hvy hc0]
      have a1 := z3.1 (-1 - cl y.1 + c) (rt (-1 - cl y.1 + c)) r3.symm
      rw [a1]; exact z4
    · exact Or.inr p3
