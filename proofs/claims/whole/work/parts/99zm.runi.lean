/-! the reference: a VARIABLE gets a value -/
def upB (B : Ev) (v : Int) (X : Tm) : Ev := fun w => if w = v then some X else B w
theorem upB_s {B : Ev} {v : Int} {X : Tm} : upB B v X v = some X := by simp [upB]
theorem upB_o {B : Ev} {v w : Int} {X : Tm} (h : w ≠ v) : upB B v X w = B w := by simp [upB, h]
/-- more values than before -/
def Su (B B' : Ev) : Prop := ∀ v X, B v = some X → B' v = some X
theorem Su.refl {B : Ev} : Su B B := fun _ _ h => h
theorem Su.trans {A B C : Ev} (h : Su A B) (g : Su B C) : Su A C := fun v X e => g v X (h v X e)
theorem Su.cm {B B' : Ev} (h : Su B B') {τ : Vs} (c : cm τ B') : cm τ B := fun v X e => c v X (h v X e)
theorem cm_up {B : Ev} {v : Int} {X : Tm} (hn : B v = none) {τ : Vs} : cm τ (upB B v X) ↔ cm τ B ∧ τ v = st τ X := by
  constructor
  · intro h
    refine ⟨fun w Y e => ?_, h v X upB_s⟩
    refine h w Y ?_
    rw [upB_o (fun q => by subst q; rw [hn] at e; cases e)]; exact e
  · rintro ⟨h, g⟩ w Y e
    by_cases q : w = v
    · subst q
      rw [upB_s] at e
      obtain rfl := Option.some.inj e
      exact g
    · rw [upB_o q] at e; exact h w Y e
/-- how many have no value -/
noncomputable def un (B : Ev) : Nat := n12 (fun v => B v = none)
theorem un_up {B : Ev} {v : Int} {X : Tm} (h0 : 0 ≤ v) (h1 : v < 12) (hn : B v = none) : un (upB B v X) < un B := by
  refine n12_lt (fun i hi => ?_) h0 h1 hn (by rw [upB_s]; simp)
  by_cases q : i = v
  · subst q; exact hn
  · rw [upB_o q] at hi; exact hi
abbrev VB (σ τ : zS) : Prop := FrC [] [106, 107] σ τ
theorem AT.f {ar : Int → Nat} {m9 : Int} {σ τ : zS} {t b : Int} {x : Tm} (h : AT ar m9 σ t b x) (f : VB σ τ) : AT ar m9 τ t b x := ⟨⟨(Px_q h.1.x f.pq).1, h.1.2⟩, h.2⟩
theorem oc_no {pd : Int → Prop} {B : Ev} {v : Int} {X : Tm} (hX : ¬ cl X.1 < 0) (h : oc B v X) {τ : Vs} (hc : cm τ B) : τ v ≠ st τ X := fun e => by
  obtain ⟨w, h1, h2⟩ := h
  have h3 : tw (τ v) ≤ tw (τ w) := h2 (fun u => tw (τ v) ≤ tw (τ u)) (fun u hu => by rw [hu]; exact Nat.le_refl _) (fun u Y z hY hz hS => by
    rw [hc u Y hY]
    have := su_wt (θ := τ) hz
    rw [tw_st] at this
    have hS' : tw (τ v) ≤ tw (τ z) := hS
    omega)
  have h4 := st_lt (τ := τ) hX h1
  rw [← e] at h4
  omega
theorem bd_ok {ar : Int → Nat} {pd : Int → Prop} {m9 : Int} {β : Nat} {σ : zS} {B : Ev} (hp : Pd σ m9 pd) (hB : EB ar pd m9 σ B) {v t b : Int} {x : Tm} (v0 : 0 ≤ v) (v1 : v < 12) (hn : B v = none) (hx : AT ar m9 σ t b x) (hne : cl x.1 < 0 → B (-1 - cl x.1 + b) = none ∧ -1 - cl x.1 + b ≠ v) (hd : DB B β (shT b x)) : ∃ (τ : zS), VB σ τ ∧ ((zE tM_bind1 (β + 1) σ [v, t, b] = some (τ, 1) ∧ EB ar pd m9 τ (upB B v (shT b x))) ∨ (zE tM_bind1 (β + 1) σ [v, t, b] = some (τ, 0) ∧ ∀ θ, np pd θ → cm θ B → θ v ≠ st θ (shT b x))) := by
  obtain ⟨hP, hw, hb, h100⟩ := id hx
  have e18 : zE tM_bind1_18 (β + 1) σ [v, t, b] = some (σ, 0) := by rw [zq_bind1_18, kZ_bind1_18]
  have ip := isPredicate_ok (β := β) hp hP.1 (by have := hP.2; omega) hw.2.1
  have ocx := oc_ok hB (v := v) β t b x hx hd
  rw [zq_bind1, kZ_bind1, if_pos (by omega), Nat.add_sub_cancel, zbd_of ip]
  by_cases h1 : 0 ≤ cl x.1 ∧ pd (cl x.1)
  · rw [b2_t h1, if_neg (by decide), e18]
    refine ⟨σ, FrC.refl, Or.inr ⟨rfl, fun θ hnp hc e => ?_⟩⟩
    have hs : (shT b x).1 = x.1 := shT_f (by omega)
    have := hnp v v0
    rw [e, st_f θ (x := shT b x) (by rw [hs]; omega)] at this
    exact this (by show 0 ≤ cl (shT b x).1 ∧ pd (cl (shT b x).1); rw [hs]; exact h1)
  · rw [b2_f h1, if_pos rfl, if_pos (by omega), zbd_of ocx]
    by_cases h2 : oc B v (shT b x)
    · rw [b2_t h2, if_neg (by decide), e18]
      refine ⟨σ, FrC.refl, Or.inr ⟨rfl, fun θ hnp hc => ?_⟩⟩
      by_cases hc' : cl x.1 < 0
      · obtain ⟨w, g1, g2⟩ := h2
        obtain ⟨n1, n2⟩ := hne hc'
        have hcs : cl (shT b x).1 = cl x.1 - b := shT_v (by omega) hc'
        have : w = -1 - cl x.1 + b := by
          rcases g1 with g | g
          · rw [if_pos (by omega)] at g; omega
          · exact g.elim
        rw [this] at g2
        rcases g2.inv with g | ⟨y, u, g, _⟩
        · exact absurd g n2
        · rw [n1] at g; cases g
      · exact oc_no (pd := pd) (by rw [shT_neg (by omega)]; exact hc') h2 hc
    · rw [b2_f h2, if_pos rfl, if_pos (by omega), lt_e, lt_e]
      obtain ⟨τ, hτ⟩ : ∃ z, z = zA (zA σ 106 v t) 107 v b := ⟨_, rfl⟩
      rw [← hτ]
      have f : VB σ τ := by
        have c : VB σ (zA σ 106 v t) := FrC_A
        rw [hτ]; exact c.trans FrC_A
      have e6 : τ.2.1 106 v = t := by rw [hτ, zA_j, zA_s]
      have e7 : τ.2.1 107 v = b := by rw [hτ, zA_s]
      have o6 : ∀ w, w ≠ v → τ.2.1 106 w = σ.2.1 106 w := fun w h => by rw [hτ, zA_j, zA_i h]
      have o7 : ∀ w, w ≠ v → τ.2.1 107 w = σ.2.1 107 w := fun w h => by rw [hτ, zA_i h, zA_j]
      refine ⟨τ, f, Or.inl ⟨rfl, fun w w0 w1 hw' => ?_, fun w X hX => ?_, ?_⟩⟩
      · have : w ≠ v := fun e => by subst e; rw [upB_s] at hw'; cases hw'
        rw [o6 w this]
        rw [upB_o this] at hw'
        exact hB.1 w w0 w1 hw'
      · by_cases e : w = v
        · subst e
          rw [upB_s] at hX
          obtain rfl := Option.some.inj hX
          rw [e6, e7]
          exact ⟨v0, v1, x, rfl, hx.f f, h1⟩
        · rw [upB_o e] at hX
          obtain ⟨q1, q2, y, q3, q4, q5⟩ := hB.2.1 w X hX
          rw [o6 w e, o7 w e]
          exact ⟨q1, q2, y, q3, q4.f f, q5⟩
      · obtain ⟨r, hr, hr2⟩ := hB.2.2
        have hA : Ac id B r := hr
        obtain ⟨rk, B2, k1, k2⟩ := Ac_shift (rt := id) (rt2 := id) (vl := B) (vl2 := upB B v (shT b x)) (B := 12) hr2 hA (Z := fun u => u = v) (b := v) rfl (fun y hy u hu => by
          rw [upB_s] at hy
          obtain rfl := Option.some.inj hy
          exact ⟨rfl, fun h => h2 ⟨u, hu, h⟩⟩) (fun u y hu hy => by rw [upB_o hu] at hy; exact hy) (fun u => Or.inl rfl)
        refine ⟨fun u => n12 (fun w => rk w < rk u), ?_, fun u => n12_le _⟩
        have := Ac_12 (rt := id) (vl := upB B v (shT b x)) k2 (fun u y w hy hw' => by
          by_cases e : u = v
          · subst e
            rw [upB_s] at hy
            obtain rfl := Option.some.inj hy
            exact hx.v hw'
          · rw [upB_o e] at hy
            obtain ⟨_, _, y', q3, q4, _⟩ := hB.2.1 u y hy
            rw [q3] at hw'
            exact q4.v hw')
        exact this
/-- what stands within, or behind values -/
def Pth (B : Ev) (X0 : Tm) (d : Nat) (x : Tm) : Prop := ∀ S : Nat → Tm → Prop, S 0 X0 → (∀ d y Z, S d y → cl y.1 < 0 → B (-1 - cl y.1) = some Z → S (d + 1) Z) → (∀ d y z, S d y → ¬ cl y.1 < 0 → kd z y.2 → S (d + 1) z) → S d x
theorem Pth.z {B : Ev} {X : Tm} : Pth B X 0 X := fun _ h _ _ => h
theorem Pth.v {B : Ev} {X0 y Z : Tm} {d : Nat} (h : Pth B X0 d y) (hc : cl y.1 < 0) (hB : B (-1 - cl y.1) = some Z) : Pth B X0 (d + 1) Z := fun S a b c => b d y Z (h S a b c) hc hB
theorem Pth.k {B : Ev} {X0 y z : Tm} {d : Nat} (h : Pth B X0 d y) (hc : ¬ cl y.1 < 0) (hk : kd z y.2) : Pth B X0 (d + 1) z := fun S a b c => c d y z (h S a b c) hc hk
theorem Pth.m {B B' : Ev} (hs : Su B B') {X0 x : Tm} {d : Nat} (h : Pth B X0 d x) : Pth B' X0 d x := fun S a b c => h S a (fun d y Z q1 q2 q3 => b d y Z q1 q2 (hs _ _ q3)) c
theorem Pth.d {B : Ev} {X0 x : Tm} {d N : Nat} (h : Pth B X0 d x) (hN : DB B N X0) : d < N ∧ DB B (N - d) x := by
  refine h (fun d x => d < N ∧ DB B (N - d) x) ⟨?_, hN⟩ (fun d y Z q1 q2 q3 => ?_) (fun d y z q1 q2 q3 => ?_)
  · cases N with
    | zero => exact hN.elim
    | succ N => omega
  · obtain ⟨q, hD⟩ := q1
    obtain ⟨k, hk⟩ : ∃ k, N - d = k + 1 := ⟨N - d - 1, by omega⟩
    rw [hk] at hD
    unfold DB at hD
    rw [if_pos q2] at hD
    have := hD Z q3
    rw [show N - (d + 1) = k by omega]
    refine ⟨?_, this⟩
    cases k with
    | zero => exact this.elim
    | succ k => omega
  · obtain ⟨q, hD⟩ := q1
    obtain ⟨k, hk⟩ : ∃ k, N - d = k + 1 := ⟨N - d - 1, by omega⟩
    rw [hk] at hD
    unfold DB at hD
    rw [if_neg q2] at hD
    have := hD z q3
    rw [show N - (d + 1) = k by omega]
    refine ⟨?_, this⟩
    cases k with
    | zero => exact this.elim
    | succ k => omega
/-- a chain of VARIABLES is followed -/
def drf (B : Ev) (X : Tm) : Prop := cl X.1 < 0 → B (-1 - cl X.1) = none
theorem dr_6 {ar : Int → Nat} {pd : Int → Prop} {m9 : Int} {β : Nat} {σ : zS} {B : Ev} (hB : EB ar pd m9 σ B) {r : Int → Nat} (hr : ac B r) {x0 x1 x2 x3 : Int} {X0 : Tm} : ∀ (n : Nat) (t b : Int) (x : Tm) (d : Nat), AT ar m9 σ t b x → Pth B X0 d (shT b x) → (cl x.1 < 0 → r (-1 - cl x.1 + b) < n) → ∃ (t' b' : Int) (x' : Tm) (d' : Nat), zE tM_unify_6 β σ [x0, x1, x2, x3, t, b] = zE tM_unify_71 β σ [x0, x1, x2, x3, t', b'] ∧ AT ar m9 σ t' b' x' ∧ Pth B X0 d' (shT b' x') ∧ d ≤ d' ∧ drf B (shT b' x') ∧ ∀ θ, cm θ B → st θ (shT b x) = st θ (shT b' x')
  | n, t, b, x, d, hx, hP, hn => by
    obtain ⟨p1, hw, hb, h100⟩ := id hx
    have c43 := p1.1.2.1
    have t0 := p1.1.1
    have t1 := p1.2
    have h71 : zE tM_unify_6 β σ [x0, x1, x2, x3, t, b] = if 0 ≤ cl x.1 then zE tM_unify_71 β σ [x0, x1, x2, x3, t, b] else (if zr (-1 - cl x.1) then (if zr (-1 - cl x.1 + b) then (if zb (-1 - cl x.1 + b) 12 then (if σ.2.1 106 (-1 - cl x.1 + b) < 0 then zE tM_unify_71 β σ [x0, x1, x2, x3, t, b] else zE tM_unify_6 β σ [x0, x1, x2, x3, σ.2.1 106 (-1 - cl x.1 + b), σ.2.1 107 (-1 - cl x.1 + b)]) else none) else none) else none) := by
      rw [zq_unify_6, kZ_unify_6, if_pos (by omega), c43]
    by_cases hc : cl x.1 < 0
    · have b6 := hw.2.1.1
      have hcs : cl (shT b x).1 = cl x.1 - b := shT_v (by omega) hc
      obtain ⟨w, hw0⟩ : ∃ w, w = -1 - cl x.1 + b := ⟨_, rfl⟩
      have ew : -1 - cl (shT b x).1 = w := by omega
      rw [h71, if_neg (by omega), if_pos (by omega), show (-1 : Int) - cl x.1 + b = w from hw0.symm, if_pos (by omega), if_pos (by omega)]
      cases hBw : B w with
      | none =>
        rw [if_pos (hB.1 w (by omega) (by omega) hBw)]
        exact ⟨t, b, x, d, rfl, hx, hP, Nat.le_refl _, fun _ => by rw [ew]; exact hBw, fun _ _ => rfl⟩
      | some Y =>
        obtain ⟨_, _, y, hY, hA, _⟩ := hB.2.1 w Y hBw
        have a0 := hA.1.1.1
        have hnw := hn hc
        rw [← hw0] at hnw
        obtain ⟨n', rfl⟩ : ∃ n', n = n' + 1 := ⟨n - 1, by omega⟩
        have P2 : Pth B X0 (d + 1) (shT (σ.2.1 107 w) y) := by
          rw [← hY]; exact hP.v (by omega) (by rw [ew]; exact hBw)
        obtain ⟨t', b', x', d', g1, g2, g3, g4, g5, g6⟩ := dr_6 hB hr (x0 := x0) (x1 := x1) (x2 := x2) (x3 := x3) n' (σ.2.1 106 w) (σ.2.1 107 w) y (d + 1) hA P2 (fun hcy => by
          have hvy : vi (-1 - cl y.1 + σ.2.1 107 w) (tt Y) := by
            rw [hY]
            have hbb := hA.2.2.1
            have e1 : cl (shT (σ.2.1 107 w) y).1 = cl y.1 - σ.2.1 107 w := shT_v (by omega) hcy
            left
            rw [if_pos (by omega)]; omega
          have := hr w Y hBw _ hvy
          omega)
        rw [if_neg (by omega)]
        refine ⟨t', b', x', d', g1, g2, g3, by omega, g5, fun θ hθ => ?_⟩
        rw [← g6 θ hθ, ← hY, st_v θ (x := shT b x) (by omega), ew]
        exact hθ w Y hBw
    · rw [h71, if_pos (by omega)]
      exact ⟨t, b, x, d, rfl, hx, hP, Nat.le_refl _, fun h => absurd ((shT_neg (by omega)).mp h) hc, fun _ _ => rfl⟩
theorem dr_78 {ar : Int → Nat} {pd : Int → Prop} {m9 : Int} {β : Nat} {σ : zS} {B : Ev} (hB : EB ar pd m9 σ B) {r : Int → Nat} (hr : ac B r) {x0 x1 x2 x3 x4 x5 : Int} {X0 : Tm} : ∀ (n : Nat) (t b : Int) (x : Tm) (d : Nat), AT ar m9 σ t b x → Pth B X0 d (shT b x) → (cl x.1 < 0 → r (-1 - cl x.1 + b) < n) → ∃ (t' b' : Int) (x' : Tm) (d' : Nat), zE tM_unify_78 β σ [x0, x1, x2, x3, x4, x5, t, b] = zE tM_unify_143 β σ [x0, x1, x2, x3, x4, x5, t', b'] ∧ AT ar m9 σ t' b' x' ∧ Pth B X0 d' (shT b' x') ∧ d ≤ d' ∧ drf B (shT b' x') ∧ ∀ θ, cm θ B → st θ (shT b x) = st θ (shT b' x')
  | n, t, b, x, d, hx, hP, hn => by
    obtain ⟨p1, hw, hb, h100⟩ := id hx
    have c43 := p1.1.2.1
    have t0 := p1.1.1
    have t1 := p1.2
    have h71 : zE tM_unify_78 β σ [x0, x1, x2, x3, x4, x5, t, b] = if 0 ≤ cl x.1 then zE tM_unify_143 β σ [x0, x1, x2, x3, x4, x5, t, b] else (if zr (-1 - cl x.1) then (if zr (-1 - cl x.1 + b) then (if zb (-1 - cl x.1 + b) 12 then (if σ.2.1 106 (-1 - cl x.1 + b) < 0 then zE tM_unify_143 β σ [x0, x1, x2, x3, x4, x5, t, b] else zE tM_unify_78 β σ [x0, x1, x2, x3, x4, x5, σ.2.1 106 (-1 - cl x.1 + b), σ.2.1 107 (-1 - cl x.1 + b)]) else none) else none) else none) := by
      rw [zq_unify_78, kZ_unify_78, if_pos (by omega), c43]
    by_cases hc : cl x.1 < 0
    · have b6 := hw.2.1.1
      have hcs : cl (shT b x).1 = cl x.1 - b := shT_v (by omega) hc
      obtain ⟨w, hw0⟩ : ∃ w, w = -1 - cl x.1 + b := ⟨_, rfl⟩
      have ew : -1 - cl (shT b x).1 = w := by omega
      rw [h71, if_neg (by omega), if_pos (by omega), show (-1 : Int) - cl x.1 + b = w from hw0.symm, if_pos (by omega), if_pos (by omega)]
      cases hBw : B w with
      | none =>
        rw [if_pos (hB.1 w (by omega) (by omega) hBw)]
        exact ⟨t, b, x, d, rfl, hx, hP, Nat.le_refl _, fun _ => by rw [ew]; exact hBw, fun _ _ => rfl⟩
      | some Y =>
        obtain ⟨_, _, y, hY, hA, _⟩ := hB.2.1 w Y hBw
        have a0 := hA.1.1.1
        have hnw := hn hc
        rw [← hw0] at hnw
        obtain ⟨n', rfl⟩ : ∃ n', n = n' + 1 := ⟨n - 1, by omega⟩
        have P2 : Pth B X0 (d + 1) (shT (σ.2.1 107 w) y) := by
          rw [← hY]; exact hP.v (by omega) (by rw [ew]; exact hBw)
        obtain ⟨t', b', x', d', g1, g2, g3, g4, g5, g6⟩ := dr_78 hB hr (x0 := x0) (x1 := x1) (x2 := x2) (x3 := x3) (x4 := x4) (x5 := x5) n' (σ.2.1 106 w) (σ.2.1 107 w) y (d + 1) hA P2 (fun hcy => by
          have hvy : vi (-1 - cl y.1 + σ.2.1 107 w) (tt Y) := by
            rw [hY]
            have hbb := hA.2.2.1
            have e1 : cl (shT (σ.2.1 107 w) y).1 = cl y.1 - σ.2.1 107 w := shT_v (by omega) hcy
            left
            rw [if_pos (by omega)]; omega
          have := hr w Y hBw _ hvy
          omega)
        rw [if_neg (by omega)]
        refine ⟨t', b', x', d', g1, g2, g3, by omega, g5, fun θ hθ => ?_⟩
        rw [← g6 θ hθ, ← hY, st_v θ (x := shT b x) (by omega), ew]
        exact hθ w Y hBw
    · rw [h71, if_pos (by omega)]
      exact ⟨t, b, x, d, rfl, hx, hP, Nat.le_refl _, fun h => absurd ((shT_neg (by omega)).mp h) hc, fun _ _ => rfl⟩
