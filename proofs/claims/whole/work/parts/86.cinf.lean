/-! before two TERMS are to become the same: no value yet -/
def Fre (σ : zS) (a b : Int) : Prop := σ.1 5905 = 0 ∧ σ.1 5906 = a ∧ σ.1 5907 = b ∧ (∀ v, 0 ≤ v → v < 12 → σ.2.1 60 v = v ∧ σ.2.1 61 v = -1) ∧ ∀ i, 0 ≤ i → i < 3360 → σ.2.1 63 i = 0
theorem GI0 {pd : Int → Prop} {Sol : Vs → Prop} : GI pd Sol (fun _ _ => False) (fun v => v) (fun _ => none) (fun _ _ => False) (fun _ _ => False) :=
  ⟨fun v a b => ⟨a, b, rfl⟩, fun r x h => (by cases h), fun _ _ h => h.elim, fun _ _ h => h.elim, ⟨fun _ => 0, 0, fun _ => Nat.le_refl _, fun r x h => (by cases h)⟩, fun τ _ => ⟨fun _ => rfl, fun _ _ h => h.elim⟩, fun _ _ => rfl⟩
theorem US0 {ar : Int → Nat} {m9 : Int} {σ : zS} {a b : Int} (h : Fre σ a b) : US ar m9 σ (fun v => v) (fun _ => none) (fun _ _ => False) := by
  obtain ⟨h1, h2, h3, h4, h5⟩ := h
  refine ⟨fun v v0 v1 => (h4 v v0 v1).1, fun r r0 r1 _ => ⟨fun _ => (h4 r r0 r1).2, fun x hx => (by cases hx)⟩, ⟨by omega, by omega, fun r r0 r1 => ?_⟩, fun x b q y x0 x1 hT hy hn => ?_⟩
  · rw [h1]
    exact ⟨fun h => absurd h bt_0, fun h => absurd rfl h.2⟩
  · apply hn
    obtain ⟨_, _, _, t1, t2, t3, _⟩ := hT
    have t4 : 1 ≤ wt (tt y) := by simp only [tt, wt]; omega
    apply h5
    · unfold ix; split <;> omega
    · unfold ix; split <;> omega
theorem su_wf {ar : Int → Nat} {p q : Int → Prop} (hpq : ∀ c, 0 ≤ c → p c → q c) {θ : Vs} : ∀ {F : T}, wf ar p F → (∀ v, vi v F → wf ar q (tt (θ v))) → wf ar q (su θ F)
  | .leaf _, _, _ => trivial
  | .branch n k s, w, h => by
    rw [su_nd]
    have ws : wf ar q (su θ s) := su_wf hpq w.2.2.2 (fun v hv => h v (Or.inr hv))
    by_cases hc : cl n < 0
    · rw [st_v θ (x := (n, k)) hc]
      have := h (-1 - cl n) (Or.inl (by rw [if_pos hc]))
      exact ⟨this.1, this.2.1, this.2.2.1, ws⟩
    · rw [st_f θ (x := (n, k)) hc]
      refine ⟨?_, hpq (cl n) (by omega) w.2.1, su_wf hpq w.2.2.1 (fun v hv => h v (Or.inl (by rw [if_neg hc]; exact hv))), ws⟩
      have := w.1
      rw [if_neg hc] at this ⊢
      rw [su_len]; exact this
/-- what a value is made of -/
theorem th_wf {ar : Int → Nat} {pd : Int → Prop} {m9 : Int} (h0 : 0 ≤ m9) {σ : zS} {rt : Int → Int} {vl : Int → Option Tm} {th : Vs} {rh : Int → Nat} (hW : WC ar pd m9 σ rt vl th rh) : ∀ (n : Nat) (v : Int), (vl (rt v) ≠ none → rh (rt v) < n) → 0 ≤ v → v < 12 → wf ar (fun c => c < m9) (tt (th v)) := fun n => by
  obtain ⟨hC, w1, w2, w3, w4⟩ := id hW
  induction n with
  | zero =>
    intro v hn v0 v1
    obtain ⟨q1, q2, q3, q4⟩ := w1 v v0 v1
    rw [(w3 v v0 v1).1 (Classical.byContradiction fun h => by have := hn h; omega)]
    exact vwf q2
  | succ n ih =>
    intro v hn v0 v1
    obtain ⟨q1, q2, q3, q4⟩ := w1 v v0 v1
    cases hv : vl (rt v) with
    | none => rw [(w3 v v0 v1).1 hv]; exact vwf q2
    | some x =>
      rw [(w3 v v0 v1).2 x hv]
      obtain ⟨y, y1, y2⟩ := (w2 (rt v) q2 q3 q4).2 x hv
      have hr := hn (by rw [hv]; exact fun h => (by cases h))
      obtain ⟨b1, _, wy, _⟩ := id y2
      have wx : wf ar (lw (6 + σ.2.1 62 (rt v)) m9) (tt x) := by
        rw [y1, ← sh_tt]
        exact sh_wf (by omega) wy
      show wf ar _ (su th (tt x))
      refine su_wf (fun c _ hc => hc.2) wx (fun u hu => ?_)
      have hu2 : vi u (sh (σ.2.1 62 (rt v)) (tt y)) := by rw [sh_tt, ← y1]; exact hu
      obtain ⟨u0, u1⟩ := y2.v hu2
      exact ih u (fun hn2 => by have := (w4 _ x hv).2 u hu hn2; omega) u0 u1
where
  vwf : ∀ {u : Int}, 0 ≤ u → wf ar (fun c => c < m9) (tt (vt u)) := fun {u} hu => by
    refine ⟨?_, ?_, trivial, trivial⟩
    · rw [show cl (vt u).1 = -1 - u from cl_vt u, if_pos (by omega)]; rfl
    · show cl (vt u).1 < m9
      rw [cl_vt]; omega
theorem th_wf' {ar : Int → Nat} {pd : Int → Prop} {m9 : Int} (h0 : 0 ≤ m9) {σ : zS} {rt : Int → Int} {vl : Int → Option Tm} {th : Vs} {rh : Int → Nat} (hW : WC ar pd m9 σ rt vl th rh) {v : Int} (v0 : 0 ≤ v) (v1 : v < 12) : wf ar (fun c => c < m9) (tt (th v)) := th_wf h0 hW (rh (rt v) + 1) v (fun _ => Nat.lt_succ_self _) v0 v1
/-- with the values put in -/
theorem WL_th {ar : Int → Nat} {pd : Int → Prop} {m9 : Int} (h0 : 0 ≤ m9) {σ : zS} {rt : Int → Int} {vl : Int → Option Tm} {th : Vs} {rh : Int → Nat} (hW : WC ar pd m9 σ rt vl th rh) {C : List Lt} (w : WL ar (lw 12 m9) C) : WL ar (fun c => c < m9) (mpL (st th) C) := fun a ha => by
  obtain ⟨c, hc, rfl⟩ := List.mem_map.mp ha
  obtain ⟨w1, w2, w3⟩ := w c hc
  refine ⟨w1, ?_, ?_⟩
  · refine su_wf (p := lw 12 m9) (fun c _ hc => hc.2) w2 (fun u hu => ?_)
    obtain ⟨a1, a2⟩ := vi_12 w2 hu
    exact th_wf' h0 hW a1 a2
  · refine su_wf (p := lw 12 m9) (fun c _ hc => hc.2) w3 (fun u hu => ?_)
    obtain ⟨a1, a2⟩ := vi_12 w3 hu
    exact th_wf' h0 hW a1 a2
where
  vi_12 : ∀ {v : Int} {F : T}, wf ar (lw 12 m9) F → vi v F → 0 ≤ v ∧ v < 12 := fun {v F} wF hv => by
    have h1 := vi_nn hv
    have h2 := wf_fl wF _ (vi_mem hv)
    unfold lw at h2
    omega
/-- begin anew -/
theorem cl_ok {ar : Int → Nat} {pd : Int → Prop} {m9 : Int} {β : Nat} {σ : zS} {A : PA} (hI : CI ar pd m9 σ A) {a b : Int} : ∃ τ, yE tC_Uni_clear β σ [a, b] = some (τ, 0) ∧ CI ar pd m9 τ A ∧ FrC [5905, 5906, 5907, 6401] [60, 61, 63] σ τ ∧ Fre τ a b := by
  obtain ⟨c1, c2, c3, c4, c5, c6, c7, c8, c9, c10, c11, c12⟩ := id hI
  obtain ⟨τ, t1, t2, t3, t4, t5, t6, t7, t8⟩ := clear_ok (β := β) (a := a) (b := b) c7
  refine ⟨τ, t1, hI.f t2 ?_ t3 (c6.f t2) (by rw [t2.i 3905]; exact c9), t2, t4, t5, t6, t7, t8⟩
  obtain ⟨N, hN⟩ := c8; exact ⟨N, hN.f t2⟩
theorem un_ok {ar : Int → Nat} {pd : Int → Prop} {m9 : Int} {β : Nat} (hβ : 153 ≤ β) {σ : zS} {A : PA} (hI : CI ar pd m9 σ A) {a1 a2 : Int} (hF : Fre σ a1 a2) {p b q c : Int} {x y : Tm} (hx : TA ar m9 σ p b x) (hy : TA ar m9 σ q c y) : ∃ τ r, yE tG_Uni_unite β σ [p, b, q, c, 0] = some (τ, r) ∧ CI ar pd m9 τ A ∧ UF σ τ ∧ ((r = 0 ∧ ∀ θ, ¬ Sl pd (shT b x) (shT c y) θ) ∨ (r = 1 ∧ ∃ rt vl th rh, WC ar pd m9 τ rt vl th rh ∧ Mgu (Sl pd (shT b x) (shT c y)) th)) := by
  obtain ⟨c1, c2, c3, c4, c5, c6, c7, c8, c9, c10, c11, c12⟩ := id hI
  obtain ⟨τ, r, e, f, m, h⟩ := unite_ok (ar := ar) (pd := pd) (m9 := m9) (Sol := Sl pd (shT b x) (shT c y)) (fun τ h => h.1) β σ (fun _ _ => False) (fun v => v) (fun _ => none) (fun _ _ => False) (fun _ _ => False) p b q c x y (by omega) ⟨c1, c5, c6, c7, US0 hF, GI0⟩ hx hy (fun τ h => h.2) (Or.inl rfl)
  have hI2 : CI ar pd m9 τ A := by
    refine hI.f f ?_ m (f.rl c6 m) (by rw [f.i 3905]; exact c9)
    obtain ⟨N, hN⟩ := c8; exact ⟨N, hN.f f⟩
  refine ⟨τ, r, e, hI2, f, ?_⟩
  rcases h with ⟨hr, rt2, vl2, V2, L2, u, g, mo, j⟩ | h
  · right
    obtain ⟨g1, g2⟩ := cE_mgu g j
    obtain ⟨rh, hW⟩ := WC_of hI2.1 u g g2
    exact ⟨hr, rt2, vl2, _, rh, hW, g1⟩
  · left; exact h
