/-! the reference: a TERM with its values put in -/
def Lo (σ τ : zS) : Prop := Pq σ τ 0 205000 ∧ ∀ v, τ.2.1 106 v = σ.2.1 106 v ∧ τ.2.1 107 v = σ.2.1 107 v
theorem Lo.refl (σ : zS) : Lo σ σ := ⟨fun _ _ _ _ _ => rfl, fun _ => ⟨rfl, rfl⟩⟩
theorem Lo.trans {σ τ ρ : zS} (h : Lo σ τ) (g : Lo τ ρ) : Lo σ ρ := ⟨fun j i a b c => by rw [g.1 j i a b c, h.1 j i a b c], fun v => ⟨by rw [(g.2 v).1, (h.2 v).1], by rw [(g.2 v).2, (h.2 v).2]⟩⟩
theorem Grow.lo {σ τ : zS} {m : Nat} (h : Grow σ τ m) (h47 : 205000 ≤ σ.1 47) : Lo σ τ := ⟨h.pq h47, fun v => ⟨h.2.2.2 106 v (Or.inr (by omega)), h.2.2.2 107 v (Or.inr (by omega))⟩⟩
theorem hng_lo {σ τ1 : zS} {m : Nat} {x1 x2 : Int} (G1 : Grow σ τ1 m) (hh : 205000 ≤ σ.1 47) (h1 : 205000 ≤ x1) (h2 : x2 < 0 ∨ 205000 ≤ x2) : Lo σ (hng τ1 x1 x2 (σ.1 47)) := by
  refine ⟨hng_pq G1 hh h1 h2, fun v => ⟨?_, ?_⟩⟩
  · rw [hng_o _ _ _ _ 106 v (by omega) (by omega) (by omega)]; exact G1.2.2.2 106 v (Or.inr (by omega))
  · rw [hng_o _ _ _ _ 107 v (by omega) (by omega) (by omega)]; exact G1.2.2.2 107 v (Or.inr (by omega))
theorem AT.lo {ar : Int → Nat} {m9 : Int} {σ τ : zS} {t b : Int} {x : Tm} (h : AT ar m9 σ t b x) (f : Lo σ τ) : AT ar m9 τ t b x := ⟨⟨Pt_hi f.1 h.1.1 h.1.2, h.1.2⟩, h.2⟩
theorem EB.lo {ar : Int → Nat} {pd : Int → Prop} {m9 : Int} {σ τ : zS} {B : Ev} (h : EB ar pd m9 σ B) (f : Lo σ τ) : EB ar pd m9 τ B := by
  refine ⟨fun v a b c => by rw [(f.2 v).1]; exact h.1 v a b c, fun v X hX => ?_, h.2.2⟩
  obtain ⟨a, b, x, h1, h2, h3⟩ := h.2.1 v X hX
  rw [(f.2 v).1, (f.2 v).2]
  exact ⟨a, b, x, h1, h2.lo f, h3⟩
/-- y was made -/
def Wd (β : Nat) (σ : zS) (l : List Int) (y : Tm) : Prop := ∃ τ, zE tM_with β σ l = some (τ, σ.1 47) ∧ Grow σ τ (1 + wt y.2) ∧ Pt τ y.1 y.2 (σ.1 47) ∧ τ.2.1 45 (σ.1 47) = -1
/-- S is made behind x2 in x1 -/
def Wl (β : Nat) (t b P I u : Int) (S : T) (σ : zS) (x1 x2 : Int) : Prop := 205000 ≤ σ.1 47 → 205000 ≤ x1 → x1 < σ.1 47 → (x2 < 0 ∨ 205000 ≤ x2) → x2 < σ.1 47 → σ.1 47 + (wt S : Int) ≤ 420000 → 0 ≤ σ.2.1 46 x1 → σ.2.1 46 x1 + (wt S : Int) ≤ 2000000 → ∃ τ, zE tM_with_104 β σ [t, b, P, I, 0, x1, x2, u] = some (τ, x1) ∧ Lp σ τ x1 x2 S
theorem wt_104 {β : Nat} {σ : zS} {t b P I u x1 x2 : Int} {y : Tm} {S : T} (u0 : 0 ≤ u) (u1 : u < 205000) (hy : σ.1 47 + 1 + (wt y.2 : Int) ≤ 420000 → 205000 ≤ σ.1 47 → Wd β σ [u, b, P, I, 0] y) (ih : ∀ ρ, Lo σ ρ → ∀ x2', Wl (β + 1) t b P I (σ.2.1 45 u) S ρ x1 x2') : Wl (β + 1) t b P I u (nd y.1 y.2 S) σ x1 x2 := by
  intro hh g1 g3 g4 g5 g6 g7 g8
  simp only [wt] at g6 g8
  obtain ⟨τ1, e1, G1, P1, b1⟩ := hy (by omega) hh
  have t1 : τ1.1 47 = σ.1 47 + 1 + (wt y.2 : Int) := by rw [G1.1]; omega
  have q3 := hng_lo (x1 := x1) (x2 := x2) G1 hh g1 g4
  have w1 : τ1.2.1 46 x1 = σ.2.1 46 x1 := G1.2.2.2 46 x1 (Or.inl (by omega))
  have wy : τ1.2.1 46 (σ.1 47) = 1 + (wt y.2 : Int) := P1.2.2.1
  have t3 : (hng τ1 x1 x2 (σ.1 47)).1 47 = σ.1 47 + 1 + (wt y.2 : Int) := by rw [hng_i]; exact t1
  obtain ⟨τ4, e4, L4⟩ := ih (hng τ1 x1 x2 (σ.1 47)) q3 (σ.1 47) (by omega) g1 (by omega) (by omega) (by omega) (by omega) (by rw [hng_w, w1, wy]; omega) (by rw [hng_w, w1, wy]; omega)
  refine ⟨τ4, ?_, Lp_cons G1 P1 b1 (by omega) g3 g5 L4⟩
  have eb : (hng τ1 x1 x2 (σ.1 47)).2.1 45 u = σ.2.1 45 u := q3.1 45 u u0 u1 (by simp)
  have e84 : ∀ τ2 : zS, zA τ2 46 x1 (τ2.2.1 46 x1 + τ2.2.1 46 (σ.1 47)) = hng τ1 x1 x2 (σ.1 47) → zr (τ2.2.1 46 x1 + τ2.2.1 46 (σ.1 47)) → zE tM_with_149 (β + 1) τ2 [t, b, P, I, 0, x1, x2, u, σ.1 47] = zE tM_with_104 (β + 1) (hng τ1 x1 x2 (σ.1 47)) [t, b, P, I, 0, x1, σ.1 47, σ.2.1 45 u] := fun τ2 h9 hz' => by
    rw [zq_with_149, kZ_with_149, if_pos (by omega), if_pos (by omega), if_pos hz']
    show (if zb u 420000 then (zE tM_with_104 (β + 1) (zA τ2 46 x1 (τ2.2.1 46 x1 + τ2.2.1 46 (σ.1 47))) [t, b, P, I, 0, x1, σ.1 47, (zA τ2 46 x1 (τ2.2.1 46 x1 + τ2.2.1 46 (σ.1 47))).2.1 45 u]) else none) = _
    rw [if_pos (by omega), h9, eb]
  rw [← e4, zq_with_104, kZ_with_104, if_neg (by omega), if_pos (by omega), Nat.add_sub_cancel, zbd_of e1]
  by_cases hx : 0 ≤ x2
  · rw [if_pos hx, if_pos (by omega)]
    have c5 : ∀ q, (zA τ1 45 x2 (σ.1 47)).2.1 46 q = τ1.2.1 46 q := fun q => by simp [zA]
    refine e84 (zA τ1 45 x2 (σ.1 47)) ?_ (by rw [c5, c5, w1, wy]; omega)
    rw [c5, c5]; unfold hng; rw [if_pos hx]
  · rw [if_neg hx, if_pos (by omega)]
    have c5 : ∀ q, (zA τ1 44 x1 (σ.1 47)).2.1 46 q = τ1.2.1 46 q := fun q => by simp [zA]
    refine e84 (zA τ1 44 x1 (σ.1 47)) ?_ (by rw [c5, c5, w1, wy]; omega)
    rw [c5, c5]; unfold hng; rw [if_neg hx]
theorem Wl_nil {β : Nat} {σ : zS} {t b P I u x1 x2 : Int} (h : u < 0) : Wl β t b P I u nl σ x1 x2 := fun _ _ _ _ _ _ _ _ => ⟨σ, by rw [zq_with_104, kZ_with_104, if_pos h], Lp_nil⟩
/-- one with a FUNCTION at its head -/
theorem wd_f {β : Nat} {σ : zS} {t b P I : Int} {n : Nat} {S : T} (t0 : 0 ≤ t) (t1 : t < 205000) (hP : t ≠ P) (hc : σ.2.1 43 t = cl n) (c0 : 0 ≤ cl n) (hh : 205000 ≤ σ.1 47) (h9 : σ.1 47 + 1 + (wt S : Int) ≤ 420000) (hS : ∀ ρ, Lo σ ρ → ∀ x1 x2, Wl (β + 1) t b P I (σ.2.1 44 t) S ρ x1 x2) : Wd (β + 1) σ [t, b, P, I, 0] (n, S) := by
  obtain ⟨τ1, e1, G1, f1, f2, f3, f4⟩ := fresh_ok (σ := σ) (β := β) (c := cl n) (by omega) (by omega)
  have t47 : τ1.1 47 = σ.1 47 + 1 := G1.1
  have q1 := G1.lo hh
  have kk : τ1.2.1 44 t = σ.2.1 44 t := q1.1 44 t t0 t1 (by simp)
  obtain ⟨τ2, e2, L2⟩ := hS τ1 q1 (σ.1 47) (-1) (by omega) hh (by omega) (by omega) (by omega) (by omega) (by omega) (by omega)
  obtain ⟨G, P', b'⟩ := Lp_root (n := n) (by omega) G1 f1 f2 f3 f4 L2
  refine ⟨τ2, ?_, G, P', b'⟩
  rw [zq_with, kZ_with, if_neg hP, if_pos (by omega), hc, if_pos c0, if_pos (by omega), Nat.add_sub_cancel, zbd_of e1, kk]
  exact e2
/-- one whose VARIABLE has no value -/
theorem wd_n {β : Nat} {σ : zS} {t b P I : Int} {n : Nat} (t0 : 0 ≤ t) (t1 : t < 205000) (hP : t ≠ P) (hc : σ.2.1 43 t = cl n) (c0 : cl n < 0) (c6 : -6 ≤ cl n) (hb : b = 0 ∨ b = 6) (hh : 205000 ≤ σ.1 47) (h9 : σ.1 47 + 1 ≤ 420000) (hv : σ.2.1 106 (-1 - cl n + b) < 0) : Wd (β + 1) σ [t, b, P, I, 0] (vt (-1 - cl n + b)) := by
  obtain ⟨w, hw⟩ : ∃ w, w = -1 - cl n + b := ⟨_, rfl⟩
  obtain ⟨τ1, e1, G1, f1, f2, f3, f4⟩ := fresh_ok (σ := σ) (β := β) (c := -1 - w) (by omega) (by omega)
  rw [← hw] at hv ⊢
  have cv := cl_vt w
  refine ⟨τ1, ?_, G1, ⟨by omega, ?_, f4, ?_, fun h => ?_⟩, f3⟩
  · rw [zq_with, kZ_with, if_neg hP, if_pos (by omega), hc, if_neg (by omega), if_pos (by omega), ← hw, if_pos (by omega), if_pos (by omega), if_neg (by omega), if_pos (by omega), if_pos (by omega), Nat.add_sub_cancel, zbd_of e1, zq_with_80, kZ_with_80]
  · rw [f1, cv]
  · show τ1.2.1 44 (σ.1 47) < 0
    omega
  · exact absurd h (by show ¬ (0 < wt (vt w).2); exact Nat.lt_irrefl 0)
/-- one whose VARIABLE has a value -/
theorem wd_s {β : Nat} {σ : zS} {t b P I : Int} {n : Nat} {y : Tm} (t0 : 0 ≤ t) (t1 : t < 205000) (hP : t ≠ P) (hc : σ.2.1 43 t = cl n) (c0 : cl n < 0) (c6 : -6 ≤ cl n) (hb : b = 0 ∨ b = 6) (hv : 0 ≤ σ.2.1 106 (-1 - cl n + b)) (h : Wd β σ [σ.2.1 106 (-1 - cl n + b), σ.2.1 107 (-1 - cl n + b), -1, -1, 0] y) : Wd (β + 1) σ [t, b, P, I, 0] y := by
  obtain ⟨w, hw⟩ : ∃ w, w = -1 - cl n + b := ⟨_, rfl⟩
  rw [← hw] at hv h
  obtain ⟨τ, e, G, P', b'⟩ := h
  refine ⟨τ, ?_, G, P', b'⟩
  rw [zq_with, kZ_with, if_neg hP, if_pos (by omega), hc, if_neg (by omega), if_pos (by omega), ← hw, if_pos (by omega), if_pos (by omega), if_pos (by omega), if_pos (by omega), Nat.add_sub_cancel, zbd_of e, zq_with_80, kZ_with_80]
section wt
variable {ar : Int → Nat} {pd : Int → Prop} {m9 : Int} {B : Ev}
theorem wtA : ∀ (β : Nat) (σ : zS) (t b : Int) (x : Tm), EB ar pd m9 σ B → AT ar m9 σ t b x → DB B β (shT b x) → 205000 ≤ σ.1 47 → σ.1 47 + (tw (st (rs B) (shT b x)) : Int) ≤ 420000 → Wd β σ [t, b, -1, -1, 0] (st (rs B) (shT b x))
  | 0, σ, t, b, x, _, hx, hd, _, _ => hd.elim
  | β + 1, σ, t, b, x, hB, hx, hd, hh, h9 => by
    obtain ⟨hP, hw, hb, h100⟩ := id hx
    have kb := Pt_kid hP.1 hP.2 (by omega)
    have hP4 := hP.1.2.2.2.1
    have c43 := hP.1.2.1
    have t0 := hP.1.1
    have t1 := hP.2
    by_cases hc : cl x.1 < 0
    · have b6 := hw.2.1.1
      have hcs : cl (shT b x).1 = cl x.1 - b := shT_v (by omega) hc
      obtain ⟨w, hw0⟩ : ∃ w, w = -1 - cl x.1 + b := ⟨_, rfl⟩
      have est : st (rs B) (shT b x) = rs B w := by rw [st_v (rs B) (x := shT b x) (by omega)]; congr 1; omega
      rw [est] at h9 ⊢
      have q1 : 1 ≤ tw (rs B w) := by show 1 ≤ 1 + _; omega
      cases hBw : B w with
      | none =>
        have := hB.1 w (by omega) (by omega) hBw
        rw [rs_none hBw, hw0]
        exact wd_n t0 (by omega) (by omega) c43 hc (by omega) hb hh (by omega) (by rw [← hw0]; exact this)
      | some Y =>
        obtain ⟨_, _, y, hY, hA, _⟩ := hB.2.1 w Y hBw
        have a0 := hA.1.1.1
        have hdY : DB B β Y := by
          unfold DB at hd
          rw [if_pos (by omega)] at hd
          exact hd Y (by rw [show -1 - cl (shT b x).1 = w by omega]; exact hBw)
        rw [hY] at hdY
        have eY : rs B w = st (rs B) (shT (σ.2.1 107 w) y) := by rw [← hY]; exact hB.cm w Y hBw
        have ih := wtA β σ _ _ y hB hA hdY hh (by rw [← eY]; exact h9)
        rw [← eY] at ih
        rw [hw0] at a0 ih ⊢
        exact wd_s t0 (by omega) (by omega) c43 hc (by omega) hb a0 ih
    · have hcs' : ¬ cl (shT b x).1 < 0 := by rw [shT_neg (by omega)]; exact hc
      have hdk : ∀ z, kd z (sh b x.2) → DB B β z := by
        unfold DB at hd
        rw [if_neg hcs'] at hd
        exact hd
      have sib : ∀ (F : T) (σ : zS) (u x1 x2 : Int), EB ar pd m9 σ B → Pc σ F u → u + (wt F : Int) ≤ 205000 → wf ar (lb m9) F → wt F ≤ 100 → (∀ z, kd z (sh b F) → DB B β z) → Wl (β + 1) t b (-1) (-1) u (su (rs B) (sh b F)) σ x1 x2 := fun F => by
        induction F using T.ind with
        | h0 =>
          intro σ u x1 x2 _ hF _ _ _ _
          exact Wl_nil hF
        | h1 n k s _ ihs =>
          intro σ u x1 x2 hB hF hb2 hwF hwt hDB
          have sb' := Pc_bes hF hb2 (by omega)
          have hPt := (Pc_nd.mp hF).1
          have hF6 := hF.2.2.2.2.2.1
          simp only [wt] at hb2 hwt
          have u0 := hPt.1
          refine wt_104 (y := st (rs B) (shT b (n, k))) u0 (by omega) (fun a1 a2 => ?_) (fun ρ hρ x2' => ?_)
          · exact wtA β σ u b (n, k) hB ⟨⟨hPt, by show u + 1 + (wt k : Int) ≤ 205000; omega⟩, ⟨hwF.1, hwF.2.1, hwF.2.2.1, trivial⟩, hb, by show 1 + wt k ≤ 100; omega⟩ (hDB _ (Or.inl rfl)) a2 (by rw [show tw (st (rs B) (shT b (n, k))) = 1 + wt (st (rs B) (shT b (n, k))).2 from rfl]; omega)
          · exact ihs ρ (σ.2.1 45 u) x1 x2' (hB.lo hρ) (Pc_hi hρ.1 hF6 sb') sb' hwF.2.2.2 (by omega) (fun z hz => hDB z (Or.inr hz))
      have ek : tw x = 1 + wt x.2 := rfl
      rw [st_f (rs B) hcs'] at h9 ⊢
      rw [shT_f hc] at h9 ⊢
      have h9' : σ.1 47 + ((1 + wt (su (rs B) (sh b x.2)) : Nat) : Int) ≤ 420000 := h9
      exact wd_f t0 (by omega) (by omega) c43 (by omega) hh (by show σ.1 47 + 1 + (wt (su (rs B) (sh b x.2)) : Int) ≤ 420000; omega) (fun ρ hρ x1 x2 => sib x.2 ρ _ x1 x2 (hB.lo hρ) (Pc_hi hρ.1 hP4 kb) kb hw.2.2.1 (by omega) hdk)
end wt
