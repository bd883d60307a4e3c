/-! the reference: a TERM with its values put in, and another TERM in one place -/
section wx
variable {ar : Int → Nat} {pd : Int → Prop} {m9 : Int} {B : Ev}
theorem rpX_nd {σ : zS} {r : Tm} {P u b : Int} {n : Nat} {k s : T} (hF : Pc σ (.branch n k s) u) : su (rs B) (rpA r P u (sh b (.branch n k s))) = nd (st (rs B) (rpX r P u (shT b (n, k)))).1 (st (rs B) (rpX r P u (shT b (n, k)))).2 (su (rs B) (rpA r P (σ.2.1 45 u) (sh b s))) := by
  have hF7 := hF.2.2.2.2.2.2
  have eS : rpA r P (u + 1 + (wt k : Int)) (sh b s) = rpA r P (σ.2.1 45 u) (sh b s) := rpA_0 (fun h => by rw [sh_wt] at h; exact (hF7 h).symm)
  have eN : rpA r P u (sh b (.branch n k s)) = if P = u then nd r.1 r.2 (sh b s) else nd (shT b (n, k)).1 (rpA r P (u + 1) (sh b k)) (rpA r P (σ.2.1 45 u) (sh b s)) := by
    have := rpA_nd (z := r) (P := P) (x := u) (n := (shT b (n, k)).1) (k := sh b k) (s := sh b s)
    rw [sh_wt, eS] at this
    exact this
  unfold rpX
  by_cases hp : P = u
  · have eS2 : rpA r P (σ.2.1 45 u) (sh b s) = sh b s := by
      rw [← eS]; unfold rpA
      rw [if_neg (by omega)]
    rw [eN, if_pos hp, if_pos hp, eS2, su_nd]
  · rw [eN, if_neg hp, if_neg hp, su_nd]; rfl
theorem rpX_v {b : Int} (hb : b = 0 ∨ b = 6) {x r : Tm} {P u : Int} (hp : ¬ P = u) (hw : wf ar (lb m9) (tt x)) (hc : cl x.1 < 0) : st (rs B) (rpX r P u (shT b x)) = rs B (-1 - cl x.1 + b) := by
  have hcs : cl (shT b x).1 = cl x.1 - b := shT_v (by omega) hc
  unfold rpX
  rw [if_neg hp, st_v (rs B) (x := ((shT b x).1, rpA r P (u + 1) (shT b x).2)) (by show cl (shT b x).1 < 0; omega)]
  congr 1
  show -1 - cl (shT b x).1 = _
  omega
theorem rpX_f {b : Int} (hb : b = 0 ∨ b = 6) {σ : zS} {x r : Tm} {P u : Int} (hp : ¬ P = u) (hP : Pt σ x.1 x.2 u) (hc : ¬ cl x.1 < 0) : st (rs B) (rpX r P u (shT b x)) = (x.1, su (rs B) (rpA r P (σ.2.1 44 u) (sh b x.2))) := by
  have hcs' : ¬ cl (shT b x).1 < 0 := by rw [shT_neg (by omega)]; exact hc
  have eK : rpA r P (u + 1) (sh b x.2) = rpA r P (σ.2.1 44 u) (sh b x.2) := rpA_0 (fun h => by rw [sh_wt] at h; exact (hP.2.2.2.2 h).symm)
  unfold rpX
  rw [if_neg hp, st_f (rs B) (x := ((shT b x).1, rpA r P (u + 1) (shT b x).2)) hcs', shT_f hc, ← eK]
  rfl
/-- one TERM of a row, what is within it being given -/
theorem wdX {β : Nat} (hβ : 1430 ≤ β) {σ : zS} {P I b u : Int} {x r : Tm} (hB : EB ar pd m9 σ B) (hI : 0 ≤ P → AT ar m9 σ I 0 r) (hA : AT ar m9 σ u b x) (kids : ¬ cl x.1 < 0 → ∀ ρ, Lo σ ρ → ∀ x1 x2, Wl (β + 1) u b P I (σ.2.1 44 u) (su (rs B) (rpA r P (σ.2.1 44 u) (sh b x.2))) ρ x1 x2) (hh : 205000 ≤ σ.1 47) (h9 : σ.1 47 + (tw (st (rs B) (rpX r P u (shT b x))) : Int) ≤ 420000) : Wd (β + 1) σ [u, b, P, I, 0] (st (rs B) (rpX r P u (shT b x))) := by
  obtain ⟨hP, hw, hb, h100⟩ := id hA
  have c43 := hP.1.2.1
  have t0 := hP.1.1
  have t1 := hP.2
  by_cases hp : P = u
  · have hA2 := hI (by omega)
    have e1 : rpX r P u (shT b x) = r := by unfold rpX; rw [if_pos hp]
    rw [e1] at h9 ⊢
    have h0 : shT 0 r = r := shT_0 r
    have := wtA (B := B) β σ I 0 r hB hA2 (DB_m (DB_1430 hB hA2) (by omega)) hh (by rw [h0]; exact h9)
    rw [h0] at this
    obtain ⟨τ, e, G, P', b'⟩ := this
    refine ⟨τ, ?_, G, P', b'⟩
    rw [zq_with, kZ_with, if_pos hp.symm, if_pos (by omega), Nat.add_sub_cancel, zbd_of e]
  · by_cases hc : cl x.1 < 0
    · have b6 := hw.2.1.1
      obtain ⟨w, hw0⟩ : ∃ w, w = -1 - cl x.1 + b := ⟨_, rfl⟩
      have est := rpX_v (B := B) (r := r) hb hp hw hc
      rw [est, ← hw0] at h9 ⊢
      have q1 : 1 ≤ tw (rs B w) := by show 1 ≤ 1 + _; omega
      cases hBw : B w with
      | none =>
        have := hB.1 w (by omega) (by omega) hBw
        rw [rs_none hBw, hw0]
        exact wd_n t0 (by omega) (fun e => hp e.symm) c43 hc (by omega) hb hh (by omega) (by rw [← hw0]; exact this)
      | some Y =>
        obtain ⟨_, _, y, hY, hAy, _⟩ := hB.2.1 w Y hBw
        have a0 := hAy.1.1.1
        have eY : rs B w = st (rs B) (shT (σ.2.1 107 w) y) := by rw [← hY]; exact hB.cm w Y hBw
        have ih := wtA (B := B) β σ _ _ y hB hAy (DB_m (DB_1430 hB hAy) (by omega)) hh (by rw [← eY]; exact h9)
        rw [← eY] at ih
        rw [hw0] at a0 ih ⊢
        exact wd_s t0 (by omega) (fun e => hp e.symm) c43 hc (by omega) hb a0 ih
    · have est := rpX_f (B := B) (r := r) hb hp hP.1 hc
      rw [est] at h9 ⊢
      have h9' : σ.1 47 + ((1 + wt (su (rs B) (rpA r P (σ.2.1 44 u) (sh b x.2))) : Nat) : Int) ≤ 420000 := h9
      exact wd_f t0 (by omega) (fun e => hp e.symm) c43 (by omega) hh (by omega) (kids hc)
theorem wtB {P I b : Int} {r : Tm} (hb : b = 0 ∨ b = 6) : ∀ (F : T) (β : Nat) (σ : zS) (t u x1 x2 : Int), EB ar pd m9 σ B → (0 ≤ P → AT ar m9 σ I 0 r) → Pc σ F u → u + (wt F : Int) ≤ 205000 → wf ar (lb m9) F → wt F ≤ 100 → ht F + 1431 ≤ β → Wl (β + 1) t b P I u (su (rs B) (rpA r P u (sh b F))) σ x1 x2
  | .leaf (), β, σ, t, u, x1, x2, hB, hI, hF, _, _, _, _ => by
    rw [show sh b (.leaf ()) = nl from rfl, rpA_nl]
    exact Wl_nil hF
  | .branch n k s, β, σ, t, u, x1, x2, hB, hI, hF, hb2, hwF, hwt, hd => by
    have kb := Pc_kid hF hb2 (by omega)
    have sb' := Pc_bes hF hb2 (by omega)
    have hPt := (Pc_nd.mp hF).1
    have hF6 := hF.2.2.2.2.2.1
    have hF4 := hPt.2.2.2.1
    have u0 := hPt.1
    simp only [wt] at hb2 hwt
    simp only [ht] at hd
    have A1 : AT ar m9 σ u b (n, k) := ⟨⟨hPt, by show u + 1 + (wt k : Int) ≤ 205000; omega⟩, ⟨hwF.1, hwF.2.1, hwF.2.2.1, trivial⟩, hb, by show 1 + wt k ≤ 100; omega⟩
    rw [rpX_nd hF]
    obtain ⟨β', rfl⟩ : ∃ β', β = β' + 1 := ⟨β - 1, by omega⟩
    refine wt_104 u0 (by omega) (fun a1 a2 => ?_) (fun ρ hρ x2' => ?_)
    · refine wdX (by omega) hB hI A1 (fun _ ρ hρ y1 y2 => ?_) a2 (by rw [show tw (st (rs B) (rpX r P u (shT b (n, k)))) = 1 + wt (st (rs B) (rpX r P u (shT b (n, k)))).2 from rfl]; omega)
      exact wtB hb k β' ρ u _ y1 y2 (hB.lo hρ) (fun h => (hI h).lo hρ) (Pc_hi hρ.1 hF4 kb) kb hwF.2.2.1 (by omega) (by omega)
    · exact wtB hb s (β' + 1) ρ t _ x1 x2' (hB.lo hρ) (fun h => (hI h).lo hρ) (Pc_hi hρ.1 hF6 sb') sb' hwF.2.2.2 (by omega) (by omega)
/-- the whole TERM -/
theorem wtX {β : Nat} (hβ : 1540 ≤ β) {σ : zS} {P I b t : Int} {x r : Tm} (hB : EB ar pd m9 σ B) (hI : 0 ≤ P → AT ar m9 σ I 0 r) (hA : AT ar m9 σ t b x) (hh : 205000 ≤ σ.1 47) (h9 : σ.1 47 + (tw (st (rs B) (rpX r P t (shT b x))) : Int) ≤ 420000) : Wd β σ [t, b, P, I, 0] (st (rs B) (rpX r P t (shT b x))) := by
  obtain ⟨β', rfl⟩ : ∃ β', β = β' + 1 := ⟨β - 1, by omega⟩
  obtain ⟨hP, hw, hb, h100⟩ := id hA
  have kb := Pt_kid hP.1 hP.2 (by omega)
  have ek : tw x = 1 + wt x.2 := rfl
  have h1 := ht_le_wt x.2
  exact wdX (by omega) hB hI hA (fun _ ρ hρ y1 y2 => wtB hb x.2 β' ρ t _ y1 y2 (hB.lo hρ) (fun h => (hI h).lo hρ) (Pc_hi hρ.1 hP.1.2.2.2.1 kb) kb hw.2.2.1 (by omega) (by omega)) hh h9
/-- how heavy the whole TERM will be -/
theorem wgX {β : Nat} (hβ : 1540 ≤ β) {σ : zS} {P I b t : Int} {x r : Tm} (hB : EB ar pd m9 σ B) (hI : 0 ≤ P → AT ar m9 σ I 0 r) (hA : AT ar m9 σ t b x) : zE tM_weigh β σ [t, b, P, I, 0] = some (σ, (mn (tw (st (rs B) (rpX r P t (shT b x)))) : Int)) := by
  obtain ⟨β', rfl⟩ : ∃ β', β = β' + 1 := ⟨β - 1, by omega⟩
  obtain ⟨hP, hw, hb, h100⟩ := id hA
  have kb := Pt_kid hP.1 hP.2 (by omega)
  have ek : tw x = 1 + wt x.2 := rfl
  have h1 := ht_le_wt x.2
  have c43 := hP.1.2.1
  have t0 := hP.1.1
  have t1 := hP.2
  have e73 : ∀ x5 x6 : Int, zE tM_weigh_73 (β' + 1) σ [t, b, P, I, 0, x5, x6] = some (σ, x6) := fun x5 x6 => by rw [zq_weigh_73, kZ_weigh_73]
  by_cases hp : P = t
  · have hA2 := hI (by omega)
    have e1 : rpX r P t (shT b x) = r := by unfold rpX; rw [if_pos hp]
    have h0 : shT 0 r = r := shT_0 r
    have wA := wgA hB β' I 0 r hA2 (DB_m (DB_1430 hB hA2) (by omega))
    rw [h0] at wA
    rw [e1, zq_weigh, kZ_weigh, if_pos hp.symm, if_pos (by omega), Nat.add_sub_cancel, zbd_of wA]
  · by_cases hc : cl x.1 < 0
    · have b6 := hw.2.1.1
      obtain ⟨w, hw0⟩ : ∃ w, w = -1 - cl x.1 + b := ⟨_, rfl⟩
      have est := rpX_v (B := B) (r := r) hb hp hw hc
      rw [est, ← hw0, zq_weigh, kZ_weigh, if_neg (fun e => hp e.symm), if_pos (by omega), c43, if_neg (by omega), if_pos (by omega), ← hw0, if_pos (by omega), if_pos (by omega)]
      cases hBw : B w with
      | none =>
        have := hB.1 w (by omega) (by omega) hBw
        rw [if_neg (by omega), e73, rs_none hBw]
        rfl
      | some Y =>
        obtain ⟨_, _, y, hY, hAy, _⟩ := hB.2.1 w Y hBw
        have a0 := hAy.1.1.1
        have ih := wgA hB β' _ _ y hAy (DB_m (DB_1430 hB hAy) (by omega))
        rw [← hY, ← hB.cm w Y hBw] at ih
        rw [if_pos (by omega), if_pos (by omega), Nat.add_sub_cancel, zbd_of ih, e73]
    · have est := rpX_f (B := B) (r := r) hb hp hP.1 hc
      have ih := wgB hB hI hb x.2 β' t (σ.2.1 44 t) 1 hP.1.2.2.2.1 kb hw.2.2.1 (by omega) (by omega) (by omega)
      have ih' : zE tM_weigh_85 (β' + 1) σ [t, b, P, I, 0, 1, σ.2.1 44 t] = _ := ih
      rw [est, zq_weigh, kZ_weigh, if_neg (fun e => hp e.symm), if_pos (by omega), c43, if_pos (by omega), ih']
end wx
