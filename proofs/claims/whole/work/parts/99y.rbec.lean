/-! the reference: what a TERM becomes by a side of a single = -/
abbrev BL : List Nat := [43, 44, 45, 46, 102, 115]
theorem Grow.f {σ τ : zS} {m : Nat} (h : Grow σ τ m) : FrC [47] [43, 44, 45, 46] σ τ := by
  obtain ⟨h1, h2, h3, h4⟩ := h
  refine ⟨fun j hj => h2 j (fun e => by subst e; cases hj), fun j q hj => h4 j q (Or.inr (fun w => ?_)), fun j _ _ _ => by rw [h3], Mg.of h3⟩
  rcases w with rfl | rfl | rfl | rfl <;> cases hj
theorem zFl_f {I A : List Nat} {σ : zS} {k n : Nat} {x : Int} (hk : A.elem k = true := by decide) : FrC I A σ (zFl σ k x n) := by
  refine ⟨fun _ _ => rfl, fun j q hj => ?_, fun _ _ _ _ => rfl, Mg.of rfl⟩
  have : j ≠ k := fun e => by subst e; rw [hk] at hj; cases hj
  show (if j = k ∧ _ ∧ _ then _ else _) = _
  rw [if_neg (fun w => this w.1)]
theorem bec_ok {ar : Int → Nat} {pd : Int → Prop} {m9 : Int} {β : Nat} (hβ : 210 ≤ β) {σ : zS} {Cs : List CL} (hR : RC σ Cs) (hp : Pd σ m9 pd) (m0 : 0 ≤ m9) {k : Nat} {c : CL} {a : Lt} (hc : Cs[k]? = some c) (ha : c.1 = [a]) (wc : Wc ar m9 c.1) {s : Int} (hs : s = 0 ∨ s = 1) {y : Tm} {t : Int} (hy : Px σ y t) (wy : wf ar (lb m9) (tt y)) (ty : tw y ≤ 100) (h47 : t + (tw y : Int) ≤ σ.1 47) (h47a : 205000 ≤ σ.1 47) (h47b : σ.1 47 + 100 ≤ 420000) :
    ∃ τ, FrC [47] BL σ τ ∧ Pq σ τ 0 (σ.1 47) ∧ ((rwI pd (sdT a s) (sdT a (1 - s)) y = none ∧ zE tM_becomes β σ [(k : Int), s, t] = some (τ, -1)) ∨ (∃ z, rwI pd (sdT a s) (sdT a (1 - s)) y = some z ∧ zE tM_becomes β σ [(k : Int), s, t] = some (τ, σ.1 47) ∧ Px τ z (σ.1 47) ∧ τ.1 47 = σ.1 47 + (tw z : Int) ∧ wf ar (lb m9) (tt z) ∧ tw z ≤ tw y)) := by
  obtain ⟨hk, k1, k2, k3, k4, k5⟩ := hR.k hc
  have hlen : c.1.length = 1 := by rw [ha]; rfl
  obtain ⟨r4', r4''⟩ := hR.2.2.2.1
  have h20 := hR.2.1
  have lA := hR.l hc (i := 0) (a := a) (by rw [ha]; rfl)
  rw [show lpos Cs k + ((0 : Nat) : Int) = lpos Cs k by omega] at lA
  obtain ⟨wa0, wa1, wa2⟩ := wc.2.2.2.2 a (by rw [ha]; exact List.mem_cons_self)
  have w100 := wc.2.1
  have la : lwt a ≤ wtL c.1 := wtL_mm (by rw [ha]; exact List.mem_cons_self)
  have ea : lwt a = (1 + wt a.2.1.2) + (1 + wt a.2.2.2) := rfl
  have h1 := ht_le_wt a.2.1.2
  have h2 := ht_le_wt a.2.2.2
  have h3 := ht_le_wt y.2
  have ey : tw y = 1 + wt y.2 := rfl
  have t00 := hy.1.1
  obtain ⟨J, hJ⟩ : ∃ z, z = lpos Cs k := ⟨_, rfl⟩
  rw [← hJ] at lA
  obtain ⟨l1, l2, l3, l4, _, _⟩ := lA
  -- the two sides
  have sides : ∀ ρ : zS, (∀ q, ρ.2.1 66 q = σ.2.1 66 q) → (∀ q, ρ.2.1 67 q = σ.2.1 67 q) → ∀ γ, zE tM_side2 γ ρ [J, s, 0] = some (ρ, if s = 0 then σ.2.1 66 J else σ.2.1 67 J) ∧ zE tM_side2 γ ρ [J, s, 1] = some (ρ, if s = 1 then σ.2.1 66 J else σ.2.1 67 J) := fun ρ a6 a7 γ => by
    refine ⟨?_, ?_⟩
    · rw [rside_ok (by omega) (by omega) hs (Or.inl rfl), a6, a7]
    · rw [rside_ok (by omega) (by omega) hs (Or.inr rfl), a6, a7]
  obtain ⟨u, hu, pu, wu, tu, bu⟩ : ∃ u, u = (if s = 0 then σ.2.1 66 J else σ.2.1 67 J) ∧ Px σ (sdT a s) u ∧ wf ar (lb m9) (tt (sdT a s)) ∧ tw (sdT a s) ≤ 100 ∧ u + (tw (sdT a s) : Int) ≤ 200000 := by
    rcases hs with rfl | rfl
    · exact ⟨_, rfl, by rw [if_pos rfl]; exact l1, wa1, by show 1 + wt a.2.1.2 ≤ 100; omega, by rw [if_pos rfl]; show σ.2.1 66 J + (tw a.2.1 : Int) ≤ 200000; omega⟩
    · exact ⟨_, rfl, by rw [if_neg (by decide)]; exact l2, wa2, by show 1 + wt a.2.2.2 ≤ 100; omega, by rw [if_neg (by decide)]; show σ.2.1 67 J + (tw a.2.2 : Int) ≤ 200000; omega⟩
  obtain ⟨w, hw', pw, ww, tww, bw⟩ : ∃ w, w = (if s = 1 then σ.2.1 66 J else σ.2.1 67 J) ∧ Px σ (sdT a (1 - s)) w ∧ wf ar (lb m9) (tt (sdT a (1 - s))) ∧ tw (sdT a (1 - s)) ≤ 100 ∧ w + (tw (sdT a (1 - s)) : Int) ≤ 200000 := by
    rcases hs with rfl | rfl
    · exact ⟨_, rfl, by rw [if_neg (by decide)]; exact l2, wa2, by show 1 + wt a.2.2.2 ≤ 100; omega, by rw [if_neg (by decide)]; show σ.2.1 67 J + (tw a.2.2 : Int) ≤ 200000; omega⟩
    · exact ⟨_, rfl, by rw [if_pos rfl]; exact l1, wa1, by show 1 + wt a.2.1.2 ≤ 100; omega, by rw [if_pos rfl]; show σ.2.1 66 J + (tw a.2.1 : Int) ≤ 200000; omega⟩
  obtain ⟨l, hl⟩ : ∃ z, z = sdT a s := ⟨_, rfl⟩
  obtain ⟨r, hr⟩ : ∃ z, z = sdT a (1 - s) := ⟨_, rfl⟩
  rw [← hl] at pu wu tu bu
  rw [← hr] at pw ww tww bw
  rw [← hl, ← hr]
  have el : tw l = 1 + wt l.2 := rfl
  have er : tw r = 1 + wt r.2 := rfl
  have hl2 := ht_le_wt l.2
  have hr2 := ht_le_wt r.2
  obtain ⟨σ1, hσ1⟩ : ∃ z, z = zFl σ 115 (-1) 6 := ⟨_, rfl⟩
  have f1 : FrC [47] BL σ σ1 := by rw [hσ1]; exact zFl_f
  have o1 : ∀ j q, j ≠ 115 → σ1.2.1 j q = σ.2.1 j q := fun j q hj => by
    rw [hσ1]
    show (if j = 115 ∧ _ ∧ _ then _ else _) = _
    rw [if_neg (fun w => hj w.1)]
  have p1 : ∀ {lo hi : Int}, Pq σ σ1 lo hi := fun {lo hi} k i _ _ h => o1 k i (by omega)
  have i1 : σ1.1 47 = σ.1 47 := by rw [hσ1]; rfl
  have M0 : Mh ar m9 100 (σ.1 47) σ1 (fun _ => none) := fun v v0 v1 => ⟨fun _ => by
    rw [hσ1]
    show (if 115 = 115 ∧ 0 ≤ v ∧ v < ((6 : Nat) : Int) then (-1 : Int) else _) < 0
    rw [if_pos ⟨rfl, v0, by omega⟩]; decide, fun x hx => by cases hx⟩
  obtain ⟨s1, s2⟩ := sides σ1 (fun q => o1 66 q (by decide)) (fun q => o1 67 q (by decide)) (β - 1)
  rw [← hu] at s1
  obtain ⟨σ2, t1, t2, t3⟩ := matchh_ok (β := β - 1) (hp.f f1) (Px_q pu p1) (Px_q hy p1) (by omega) (by omega) (by omega) wu wy M0 (by omega) (by omega)
  rw [← mt_tt] at t1 t3
  have f2 : FrC [47] BL σ1 σ2 := FrC_Sa t2
  have f12 := f1.trans f2
  have o2 : ∀ j q, j ≠ 115 → σ2.2.1 j q = σ.2.1 j q := fun j q hj => by rw [t2.2.2 j q hj, o1 j q hj]
  have p2 : ∀ {lo hi : Int}, Pq σ σ2 lo hi := fun {lo hi} k i _ _ h => o2 k i (by omega)
  have i2 : σ2.1 47 = σ.1 47 := by rw [t2.1, i1]
  have e73 : ∀ ρ : zS, (∀ q, ρ.2.1 73 q = σ.2.1 73 q) → ρ.2.1 73 (k : Int) = J := fun ρ h => by rw [h, hk.1, hJ]
  rw [zq_becomes, kZ_becomes, lt_e, ← hσ1, if_pos (by omega), if_pos (by omega), e73 σ1 (fun q => o1 73 q (by decide)), zbd_of s1, if_pos (by omega), zbd_of t1]
  obtain ⟨RW, hRW⟩ : ∃ z, z = rwI pd l r y := ⟨_, rfl⟩
  rw [← hRW]
  cases hm : mtF pd (fun _ => none) (tt l) (tt y) with
  | none =>
    refine ⟨σ2, f12, p2, Or.inl ⟨by rw [hRW]; unfold rwI; rw [hm], ?_⟩⟩
    rw [b2_f (by simp), if_pos rfl]
  | some M =>
    have hM := t3 M hm
    have eRW : RW = @ite _ ((∀ c ∈ fl (tt r), c < 0 → M (-1 - c) ≠ none) ∧ gTm y (st (thM M) r)) (Classical.propDecidable _) (some (st (thM M) r)) none := by rw [hRW]; unfold rwI; rw [hm]
    obtain ⟨_, s3⟩ := sides σ2 (fun q => o2 66 q (by decide)) (fun q => o2 67 q (by decide)) (β - 1)
    rw [← hw'] at s3
    have ha2 := hasAll_t (β := β - 1) (Px_q pw p2) ww hM.t (by omega)
    rw [b2_t (by simp), if_neg (by decide), if_pos (by omega), e73 σ2 (fun q => o2 73 q (by decide)), zbd_of s3, if_pos (by omega), zbd_of ha2]
    have e68 : ∀ ρ : zS, zE tM_becomes_68 β ρ [(k : Int), s, t, w] = some (ρ, -1) := fun ρ => by rw [zq_becomes_68, kZ_becomes_68]
    have e94 : ∀ (ρ : zS) (x y : Int), zE tM_becomes_94 β ρ [(k : Int), s, t, w, x, y] = some (ρ, y) := fun ρ x y => by rw [zq_becomes_94, kZ_becomes_94]
    have hvf := hv_fl (M := M) ww
    by_cases hH : hv M (tt r)
    · have wm := wm_t (β := β - 1) (Px_q pw p2) ww hM.t hH (by omega) (by omega)
      rw [b2_t hH, if_neg (by decide), if_pos (by omega), zbd_of wm, if_pos (by omega)]
      have e46 : σ2.2.1 46 t = (tw y : Int) := by rw [o2 46 t (by decide), hy.1.2.2.1]; omega
      rw [e46]
      obtain ⟨z, hz⟩ : ∃ z, z = st (thM M) r := ⟨_, rfl⟩
      rw [← hz]
      by_cases hwt : (tw z : Int) ≤ (tw y : Int)
      · rw [if_pos hwt, if_pos (by omega)]
        obtain ⟨σ3, v1, v2, v3, v4⟩ := wmt_t (β := β - 1) (B := σ.1 47) (Px_q pw p2) ww hM hH (by omega) (by omega) (by omega) (by rw [← hz]; omega) (by rw [← hz]; omega)
        rw [← hz] at v2 v3
        rw [i2] at v1 v3 v4
        have f3 : FrC [47] BL σ2 σ3 := v2.f.w
        have ez : tw z = 1 + wt z.2 := rfl
        have q3 : Pq σ2 σ3 0 (σ.1 47) := v2.pq (by omega)
        have i3 : σ3.1 47 = σ.1 47 + (tw z : Int) := by rw [v2.1, i2]
        -- it is well formed
        have wz : wf ar (lb m9) (tt z) := by
          rw [hz]
          have : tt (st (thM M) r) = su (thM M) (tt r) := rfl
          rw [this]
          exact rw_wf hM.t hH ww
        have hz2 := ht_le_wt z.2
        have yP : Px σ3 y t := ⟨Pt_hi q3 (Px_q hy p2).1 (by omega), hy.2⟩
        obtain ⟨σ4, x1, x2⟩ := greater_ok (β := β - 1) yP.1 yP.2 v3 (by omega) (wf_mono (fun c h => lb8 h) wy) (wf_mono (fun c h => lb8 h) wz) (by omega) (by omega) (by omega) (by omega)
        have f4 : FrC [47] BL σ3 σ4 := FrC_Sa x2
        have p4 : ∀ {lo hi : Int}, Pq σ3 σ4 lo hi := fun {lo hi} => x2.pq (by omega)
        have fT := (f12.trans f3).trans f4
        have pT : Pq σ σ4 0 (σ.1 47) := fun j i b1 b2 h => by rw [p4 (lo := 0) (hi := σ.1 47) j i b1 b2 h, q3 j i b1 b2 h, p2 (lo := 0) (hi := σ.1 47) j i b1 b2 h]
        refine ⟨σ4, fT, pT, ?_⟩
        rw [zbd_of v1, if_pos (by omega), zbd_of x1]
        by_cases hg : gT y.1 y.2 z.1 z.2
        · right
          refine ⟨z, ?_, ?_, ⟨Pt_q p4 v3, by omega⟩, by rw [x2.1]; exact i3, wz, by omega⟩
          · rw [eRW, ← hz, if_pos ⟨hvf.mp hH, hg⟩]
          · rw [b2_t hg, if_neg (by decide), e94]
        · left
          refine ⟨?_, ?_⟩
          · rw [eRW, ← hz, if_neg (fun w => hg w.2)]
          · rw [b2_f hg, if_pos rfl, e94]
      · rw [if_neg hwt, e68]
        refine ⟨σ2, f12, p2, Or.inl ⟨?_, rfl⟩⟩
        rw [eRW, ← hz, if_neg]
        rintro ⟨_, hg⟩
        have := gTm_tw hg
        omega
    · rw [b2_f hH, if_pos rfl, e68]
      refine ⟨σ2, f12, p2, Or.inl ⟨?_, rfl⟩⟩
      rw [eRW, if_neg (fun w => hH (hvf.mpr w.1))]
where
  rw_wf : ∀ {ar : Int → Nat} {m9 : Int} {H : Nat} {σ : zS} {M : Mv} {F : T}, Mt ar m9 H σ M → hv M F → wf ar (lb m9) F → wf ar (lb m9) (su (thM M) F)
    | ar, m9, H, σ, M, .leaf _, _, _, _ => trivial
    | ar, m9, H, σ, M, .branch n k s, hM, hH, w => by
      have hs := rw_wf hM hH.2 w.2.2.2
      have h1 := hH.1
      by_cases hc : cl n < 0
      · simp only [hc, if_true] at h1
        cases hm : M (-1 - cl n) with
        | none => exact absurd hm h1
        | some x =>
          obtain ⟨_, wx, _⟩ := (hM (-1 - cl n) (by omega) (by have := w.2.1.1; omega)).2 x hm
          have e : sbT (thM M) n (su (thM M) k) = x := by unfold sbT; rw [if_pos hc]; unfold thM; rw [hm]
          simp only [su, e]
          exact ⟨wx.1, wx.2.1, wx.2.2.1, hs⟩
      · simp only [hc, if_false] at h1
        have hk := rw_wf hM h1 w.2.2.1
        have e : sbT (thM M) n (su (thM M) k) = (n, su (thM M) k) := by unfold sbT; rw [if_neg hc]
        simp only [su, e]
        exact ⟨by rw [su_len]; exact w.1, w.2.1, hk, hs⟩
