/-! values, and where they lie -/
def Mh (ar : Int → Nat) (m9 : Int) (H : Nat) (B : Int) (σ : zS) (M : Mv) : Prop := ∀ v, 0 ≤ v → v < 6 → (M v = none → σ.2.1 115 v < 0) ∧ ∀ x, M v = some x → Px σ x (σ.2.1 115 v) ∧ wf ar (lb m9) (tt x) ∧ ht x.2 ≤ H ∧ σ.2.1 115 v + 1 + (wt x.2 : Int) ≤ B
theorem Mh.t {ar : Int → Nat} {m9 : Int} {H : Nat} {B : Int} {σ : zS} {M : Mv} (h : Mh ar m9 H B σ M) : Mt ar m9 H σ M := fun v a b => ⟨(h v a b).1, fun x hx => by obtain ⟨c, d, e, _⟩ := (h v a b).2 x hx; exact ⟨c, d, e⟩⟩
theorem Mh_up {m9 : Int} {ar : Int → Nat} {H : Nat} {B : Int} {σ : zS} {M : Mv} (hM : Mh ar m9 H B σ M) {v t : Int} {x : Tm} (hx : Px σ x t) (wx : wf ar (lb m9) (tt x)) (hh : ht x.2 ≤ H) (hb : t + 1 + (wt x.2 : Int) ≤ B) : Mh ar m9 H B (zA σ 115 v t) (mup M v x) := fun w h1 h2 => by
  have S : Sa 115 σ (zA σ 115 v t) := Sa_A
  by_cases e : w = v
  · subst e
    have e1 : (zA σ 115 w t).2.1 115 w = t := by simp [zA]
    refine ⟨fun q => by simp [mup] at q, fun y hy => ?_⟩
    simp only [mup, if_true, Option.some.injEq] at hy
    subst hy
    rw [e1]
    exact ⟨Px_Sa S (by omega) hx, wx, hh, hb⟩
  · have e1 : (zA σ 115 v t).2.1 115 w = σ.2.1 115 w := by simp [zA, e]
    have e2 : mup M v x w = M w := by simp [mup, e]
    rw [e1, e2]
    obtain ⟨a, b⟩ := hM w h1 h2
    exact ⟨a, fun y hy => by obtain ⟨c, d, f, g⟩ := b y hy; exact ⟨Px_Sa S (by omega) c, d, f, g⟩⟩
theorem matchh_of {m9 : Int} {ar : Int → Nat} {H : Nat} {B : Int} {pd : Int → Prop} {σ : zS} {β : Nat} {M : Mv} {n n2 : Nat} {k k2 : T} {t u : Int} (hp : Pd σ m9 pd) (hP : Pt σ n k t) (hi : t + 1 + (wt k : Int) ≤ 420000) (hQ : Pt σ n2 k2 u) (hi2 : u + 1 + (wt k2 : Int) ≤ B) (hB : B ≤ 420000) (hw : wf ar (lb m9) (nd n k nl)) (hw2 : wf ar (lb m9) (nd n2 k2 nl)) (hM : Mh ar m9 H B σ M) (hd : H + 1 ≤ β) (hh : ht k2 ≤ H)
    (go : n = n2 → ∃ τ, zE tM_match_90 β σ [t, u, σ.2.1 44 u, σ.2.1 44 t] = some (τ, b2 (mtF pd M k k2 ≠ none)) ∧ Sa 115 σ τ ∧ ∀ M1, mtF pd M k k2 = some M1 → Mh ar m9 H B τ M1) :
    ∃ τ, zE tM_match β σ [t, u] = some (τ, b2 (mt1 pd M n n2 k2 (mtF pd M k k2) ≠ none)) ∧ Sa 115 σ τ ∧ ∀ M1, mt1 pd M n n2 k2 (mtF pd M k k2) = some M1 → Mh ar m9 H B τ M1 := by
  have hQ' := hQ
  obtain ⟨a1, a2, a3, a4, a5⟩ := hP
  obtain ⟨c1, c2, c3, c4, c5⟩ := hQ
  have hl := hw.2.1
  by_cases hc : cl n < 0
  · have hv := hM (-1 - cl n) (by omega) (by have := hl.1; omega)
    have E : zE tM_match β σ [t, u] = (if σ.2.1 115 (-1 - cl n) < 0 then (if 1 ≤ β then (zbd (zE tM_isPredicate (β - 1) σ [u]) (fun σ1 r1 => if r1 = 0 then (lt_ (zA σ1 115 (-1 - cl n) u) (fun σ2 => some (σ2, 1))) else (some (σ1, 0)))) else none) else (if 1 ≤ β then (zbd (zE tM_same (β - 1) σ [σ.2.1 115 (-1 - cl n), u]) (fun σ3 r3 => if r3 = 0 ∨ r3 = 1 then (some (σ3, r3)) else none)) else none)) := by
      rw [zq_match, kZ_match, if_pos (by omega), a2, if_neg (by omega), if_pos (by have := hl.1; omega), if_pos (by have := hl.1; omega)]
    cases hm : M (-1 - cl n) with
    | none =>
      have e1 : mt1 pd M n n2 k2 (mtF pd M k k2) = @ite _ (0 ≤ cl n2 ∧ pd (cl n2)) (Classical.propDecidable _) none (some (mup M (-1 - cl n) (n2, k2))) := by simp only [mt1, hc, if_true, hm]
      have s1 := isPredicate_ok (β := β - 1) hp hQ' (by omega) hw2.2.1
      rw [E, if_pos (hv.1 hm), if_pos (by omega), zbd_of s1, e1]
      by_cases hq : 0 ≤ cl n2 ∧ pd (cl n2)
      · rw [if_pos hq, b2_t hq, if_neg (by omega)]
        exact ⟨σ, by rw [b2_f (by simp)], Sa.refl, fun M1 w => by cases w⟩
      · rw [if_neg hq, b2_f hq, if_pos rfl]
        refine ⟨zA σ 115 (-1 - cl n) u, by rw [b2_t (by simp)]; rfl, Sa_A, fun M1 w => ?_⟩
        obtain rfl := Option.some.inj w
        exact Mh_up hM ⟨hQ', (by show u + 1 + (wt k2 : Int) ≤ 420000; omega)⟩ hw2 hh hi2
    | some x =>
      have e1 : mt1 pd M n n2 k2 (mtF pd M k k2) = @ite _ (x = (n2, k2)) (Classical.propDecidable _) (some M) none := by simp only [mt1, hc, if_true, hm]
      obtain ⟨q1, q2, q3, q4⟩ := hv.2 x hm
      have s1 := same_x (β := β - 1) q1 (y := (n2, k2)) ⟨hQ', (by show u + 1 + (wt k2 : Int) ≤ 420000; omega)⟩ q2 hw2 (by omega)
      rw [E, if_neg (by have := q1.1.1; omega), if_pos (by omega), zbd_of s1, if_pos (b2_01 _), e1]
      by_cases hq : x = (n2, k2)
      · rw [if_pos hq, b2_t hq]
        exact ⟨σ, by rw [b2_t (by simp)], Sa.refl, fun M1 w => by obtain rfl := Option.some.inj w; exact hM⟩
      · rw [if_neg hq, b2_f hq]
        exact ⟨σ, by rw [b2_f (by simp)], Sa.refl, fun M1 w => by cases w⟩
  · have e1 : mt1 pd M n n2 k2 (mtF pd M k k2) = if n = n2 then mtF pd M k k2 else none := by simp only [mt1, hc, if_false]
    rw [e1]
    by_cases hn : n = n2
    · rw [if_pos hn]
      obtain ⟨τ, e, S, q⟩ := go hn
      refine ⟨τ, ?_, S, q⟩
      rw [zq_match, kZ_match, if_pos (by omega), a2, if_pos (by omega), if_pos (by omega), c2, if_pos (by rw [hn])]
      exact e
    · rw [if_neg hn]
      refine ⟨σ, ?_, Sa.refl, fun M1 w => by cases w⟩
      rw [zq_match, kZ_match, if_pos (by omega), a2, if_pos (by omega), if_pos (by omega), c2, if_neg (fun w => hn (cl_inj w)), b2_f (by simp)]
theorem matchh_loop {m9 : Int} {ar : Int → Nat} {H : Nat} {B : Int} {pd : Int → Prop} (hB0 : 0 ≤ B) (hB : B ≤ 420000) : ∀ (F G : T) (σ : zS) (β : Nat) (M : Mv) (x0 x1 t u : Int), Pd σ m9 pd → Pc σ F t → t + (wt F : Int) ≤ 420000 → Pc σ G u → u + (wt G : Int) ≤ B → wf ar (lb m9) F → wf ar (lb m9) G → len F = len G → Mh ar m9 H B σ M → H + 1 + ht F ≤ β → ht G ≤ H →
    ∃ τ, zE tM_match_90 β σ [x0, x1, u, t] = some (τ, b2 (mtF pd M F G ≠ none)) ∧ Sa 115 σ τ ∧ ∀ M1, mtF pd M F G = some M1 → Mh ar m9 H B τ M1
  | .leaf (), G, σ, β, M, x0, x1, t, u, hp, hF, _, hG, _, wF, wG, hl, hM, hd, hh => by
    have h1 : t < 0 := hF
    refine ⟨σ, ?_, Sa.refl, fun M1 w => ?_⟩
    · rw [zq_match_90, kZ_match_90, if_pos h1, b2_t (by simp [mtF])]
    · simp only [mtF, Option.some.injEq] at w; subst w; exact hM
  | .branch n k s, .leaf (), σ, β, M, x0, x1, t, u, hp, hF, _, hG, _, wF, wG, hl, hM, hd, hh => by simp only [len] at hl; omega
  | .branch n k s, .branch n2 k2 s2, σ, β, M, x0, x1, t, u, hp, hF, i1, hG, i2, wF, wG, hl, hM, hd, hh => by
    have k1 := Pc_kid hF i1 (by omega)
    have k2' := Pc_kid hG i2 (by omega)
    have s1 := Pc_bes hF i1 (by omega)
    have s2' := Pc_bes hG i2 (by omega)
    have hF' := Pc_nd.mp hF
    have hG' := Pc_nd.mp hG
    obtain ⟨a1, a3, a4, a5, a7, a6, a8⟩ := hF
    obtain ⟨b1, b3, b4, b5, b7, b6, b8⟩ := hG
    simp only [ht] at hd hh
    simp only [len] at hl
    simp only [wt] at i1 i2
    have w1 : wf ar (lb m9) (nd n k nl) := ⟨wF.1, wF.2.1, wF.2.2.1, trivial⟩
    have w2 : wf ar (lb m9) (nd n2 k2 nl) := ⟨wG.1, wG.2.1, wG.2.2.1, trivial⟩
    obtain ⟨τ1, e1, S1, Q1⟩ := matchh_of (β := β - 1) hp hF'.1 (by omega) hG'.1 (by omega) hB w1 w2 hM (by omega) (by omega) (fun hn => matchh_loop hB0 hB k k2 σ (β - 1) M t u _ _ hp a5 k1 b5 k2' wF.2.2.1 wG.2.2.1 (by rw [wF.1, wG.1, hn]) hM (by omega) (by omega))
    cases hm : mt1 pd M n n2 k2 (mtF pd M k k2) with
    | none =>
      have e2 : mtF pd M (.branch n k s) (.branch n2 k2 s2) = none := by simp only [mtF, hm]
      rw [hm] at e1
      refine ⟨τ1, ?_, S1, fun M1 w => by rw [e2] at w; cases w⟩
      rw [zq_match_90, kZ_match_90, if_neg (by omega), if_pos (by omega), zbd_of e1, b2_f (by simp), if_pos rfl, e2, b2_f (by simp)]
    | some M1 =>
      have e2 : mtF pd M (.branch n k s) (.branch n2 k2 s2) = mtF pd M1 s s2 := by simp only [mtF, hm]
      rw [hm] at e1
      obtain ⟨τ2, e3, S2, Q2⟩ := matchh_loop hB0 hB s s2 τ1 β M1 x0 x1 (σ.2.1 45 t) (σ.2.1 45 u) (S1.pd (by omega) hp) (Pc_q (S1.pq (by omega)) a6) s1 (Pc_q (S1.pq (by omega)) b6) s2' wF.2.2.2 wG.2.2.2 (by omega) (Q1 M1 hm) (by omega) (by omega)
      refine ⟨τ2, ?_, S1.trans S2, fun M2 w => Q2 M2 (by rw [← e2]; exact w)⟩
      rw [zq_match_90, kZ_match_90, if_neg (by omega), if_pos (by omega), zbd_of e1, b2_t (by simp), if_neg (by omega), if_pos (by omega), if_pos (by omega), S1.2.2 45 u (by omega), S1.2.2 45 t (by omega), e3, e2]
theorem matchh_ok {m9 : Int} {ar : Int → Nat} {H : Nat} {B : Int} {pd : Int → Prop} {σ : zS} {β : Nat} {M : Mv} {x y : Tm} {t u : Int} (hp : Pd σ m9 pd) (hx : Px σ x t) (hy : Px σ y u) (hyB : u + 1 + (wt y.2 : Int) ≤ B) (hB0 : 0 ≤ B) (hB : B ≤ 420000) (wx : wf ar (lb m9) (tt x)) (wy : wf ar (lb m9) (tt y)) (hM : Mh ar m9 H B σ M) (hd : H + 1 + ht x.2 ≤ β) (hh : ht y.2 ≤ H) :
    ∃ τ, zE tM_match β σ [t, u] = some (τ, b2 (mt1 pd M x.1 y.1 y.2 (mtF pd M x.2 y.2) ≠ none)) ∧ Sa 115 σ τ ∧ ∀ M1, mt1 pd M x.1 y.1 y.2 (mtF pd M x.2 y.2) = some M1 → Mh ar m9 H B τ M1 :=
  matchh_of hp hx.1 hx.2 hy.1 hyB hB wx wy hM (by omega) hh (fun hn => matchh_loop hB0 hB x.2 y.2 σ β M t u _ _ hp hx.1.2.2.2.1 (Pt_kid hx.1 hx.2 (by omega)) hy.1.2.2.2.1 (Pt_kid hy.1 hyB hB0) wx.2.2.1 wy.2.2.1 (by rw [wx.1, wy.1, hn]) hM hd hh)

theorem hv_fl {M : Mv} {ar : Int → Nat} {p : Int → Prop} : ∀ {F : T}, wf ar p F → (hv M F ↔ ∀ c ∈ fl F, c < 0 → M (-1 - c) ≠ none)
  | .leaf _, _ => ⟨fun _ c h => (by cases h), fun _ => trivial⟩
  | .branch n k s, w => by
    have ik := hv_fl (M := M) w.2.2.1
    have is' := hv_fl (M := M) w.2.2.2
    simp only [hv, fl, List.mem_cons, List.mem_append]
    by_cases hc : cl n < 0
    · have k0 : k = nl := len0 (by have := w.1; rw [if_pos hc] at this; exact this)
      subst k0
      simp only [hc, if_true]
      constructor
      · rintro ⟨h1, h2⟩ c (rfl | h | h) h0
        · exact h1
        · cases h
        · exact is'.mp h2 c h h0
      · intro h
        exact ⟨h _ (Or.inl rfl) hc, is'.mpr (fun c hcs h0 => h c (Or.inr (Or.inr hcs)) h0)⟩
    · simp only [hc, if_false]
      constructor
      · rintro ⟨h1, h2⟩ c (rfl | h | h) h0
        · exact absurd h0 hc
        · exact ik.mp h1 c h h0
        · exact is'.mp h2 c h h0
      · intro h
        exact ⟨ik.mpr (fun c hcs h0 => h c (Or.inr (Or.inl hcs)) h0), is'.mpr (fun c hcs h0 => h c (Or.inr (Or.inr hcs)) h0)⟩
theorem sb_su {M : Mv} : ∀ {F : T}, hv M F → sb M F = su (thM M) F
  | .leaf _, _ => rfl
  | .branch n k s, h => by
    have hs := sb_su h.2
    by_cases hc : cl n < 0
    · have h1 := h.1
      simp only [hc, if_true] at h1
      cases hm : M (-1 - cl n) with
      | none => exact absurd hm h1
      | some x =>
        have e : sbT (thM M) n (su (thM M) k) = x := by unfold sbT; rw [if_pos hc]; unfold thM; rw [hm]
        simp only [sb, su, hc, if_true, hm, e, hs]
    · have h1 := h.1
      simp only [hc, if_false] at h1
      have hk := sb_su h1
      have e : sbT (thM M) n (su (thM M) k) = (n, su (thM M) k) := by unfold sbT; rw [if_neg hc]
      simp only [sb, su, hc, if_false, e, hs, hk]
theorem sb_wt {ar : Int → Nat} {m9 : Int} {H : Nat} {σ : zS} {M : Mv} (hM : Mt ar m9 H σ M) : ∀ {F : T}, wf ar (lb m9) F → wt (sb M F) ≤ 420001 * wt F
  | .leaf _, _ => by simp [sb, wt]
  | .branch n k s, w => by
    have ik := sb_wt hM w.2.2.1
    have is' := sb_wt hM w.2.2.2
    by_cases hc : cl n < 0
    · have b6 := w.2.1.1
      cases hm : M (-1 - cl n) with
      | none => simp only [sb, hc, if_true, hm, wt]; omega
      | some x =>
        obtain ⟨p, _⟩ := (hM (-1 - cl n) (by omega) (by omega)).2 x hm
        have p1 := p.1.1
        have p2 := p.2
        simp only [sb, hc, if_true, hm, wt]; omega
    · simp only [sb, hc, if_false, wt]; omega
theorem hasAll_t {m9 : Int} {ar : Int → Nat} {H : Nat} {M : Mv} {σ : zS} {β : Nat} {x : Tm} {t : Int} (hx : Px σ x t) (hw : wf ar (lb m9) (tt x)) (hM : Mt ar m9 H σ M) (hd : ht x.2 ≤ β) : zE tM_hasAll β σ [t] = some (σ, b2 (hv M (tt x))) := by
  have kb := Pt_kid hx.1 hx.2 (by omega)
  obtain ⟨⟨a1, a2, a3, a4, a5⟩, hi⟩ := hx
  have hl := hw.2.1
  have e : hv M (tt x) ↔ (if cl x.1 < 0 then M (-1 - cl x.1) ≠ none else hv M x.2) := ⟨fun h => h.1, fun h => ⟨h, trivial⟩⟩
  rw [b2_c e, zq_hasAll, kZ_hasAll, if_pos (by omega), a2]
  by_cases hc : cl x.1 < 0
  · have hm := hM (-1 - cl x.1) (by omega) (by have := hl.1; omega)
    rw [if_neg (by omega), if_pos (by have := hl.1; omega), if_pos (by have := hl.1; omega)]
    simp only [hc, if_true]
    cases hq : M (-1 - cl x.1) with
    | none => rw [if_pos (hm.1 hq), zq_hasAll_30, kZ_hasAll_30, if_pos (by omega), b2_f (by simp)]
    | some y => rw [if_neg (by have := (hm.2 y hq).1.1.1; omega), zq_hasAll_30, kZ_hasAll_30, if_pos (by omega), b2_t (by simp)]
  · rw [if_pos (by omega), hasAll_loop x.2 σ β t _ a4 kb hw.2.2.1 hM hd]
    simp only [hc, if_false]
theorem wm_t {m9 : Int} {ar : Int → Nat} {H : Nat} {M : Mv} {σ : zS} {β : Nat} {x : Tm} {t : Int} (hx : Px σ x t) (hw : wf ar (lb m9) (tt x)) (hM : Mt ar m9 H σ M) (hH : hv M (tt x)) (hd : ht x.2 ≤ β) (hb : wt x.2 ≤ 1000) : zE tM_weighMatched β σ [t] = some (σ, (tw (st (thM M) x) : Int)) := by
  have kb := Pt_kid hx.1 hx.2 (by omega)
  obtain ⟨⟨a1, a2, a3, a4, a5⟩, hi⟩ := hx
  have hl := hw.2.1
  have hq := hH.1
  rw [zq_weighMatched, kZ_weighMatched, if_pos (by omega), a2]
  by_cases hc : cl x.1 < 0
  · have hm := hM (-1 - cl x.1) (by omega) (by have := hl.1; omega)
    simp only [hc, if_true] at hq
    cases hv' : M (-1 - cl x.1) with
    | none => exact absurd hv' hq
    | some y =>
      obtain ⟨p1, p2, p3⟩ := hm.2 y hv'
      have e : st (thM M) x = y := by rw [st_v _ hc]; unfold thM; rw [hv']
      rw [e, if_neg (by omega), if_pos (by have := hl.1; omega), if_pos (by have := hl.1; omega), if_pos (by have := p1.1.1; have := p1.2; omega), p1.1.2.2.1]
      congr 2
  · simp only [hc, if_false] at hq
    have e : st (thM M) x = (x.1, sb M x.2) := by rw [st_f _ hc, sb_su hq]
    have sw := sb_wt hM hw.2.2.1
    rw [e, if_pos (by omega), wm_loop x.2 σ β t 1 _ a4 kb hw.2.2.1 hM hq hd (by omega) (by omega)]
    congr 2
theorem wmt_t {m9 : Int} {ar : Int → Nat} {H : Nat} {M : Mv} {σ : zS} {β : Nat} {x : Tm} {t B : Int} (hx : Px σ x t) (hw : wf ar (lb m9) (tt x)) (hM : Mh ar m9 H B σ M) (hH : hv M (tt x)) (hB : B ≤ σ.1 47) (hB2 : t + (tw x : Int) ≤ B) (hd : ht x.2 + H + 3 ≤ β) (hs : σ.1 47 + (tw (st (thM M) x) : Int) ≤ 420000) (hz : tw (st (thM M) x) ≤ 1000) : ∃ τ, zE tM_withMatched β σ [t] = some (τ, σ.1 47) ∧ Grow σ τ (tw (st (thM M) x)) ∧ Pt τ (st (thM M) x).1 (st (thM M) x).2 (σ.1 47) ∧ τ.2.1 45 (σ.1 47) = -1 := by
  have hb0 : t + 1 + (wt x.2 : Int) ≤ B := by have : tw x = 1 + wt x.2 := rfl; omega
  obtain ⟨⟨a1, a2, a3, a4, a5⟩, hi⟩ := hx
  have kb := Pt_kid (b := B) ⟨a1, a2, a3, a4, a5⟩ hb0 (by omega)
  have hl := hw.2.1
  have hq := hH.1
  by_cases hc : cl x.1 < 0
  · have hm := hM (-1 - cl x.1) (by omega) (by have := hl.1; omega)
    simp only [hc, if_true] at hq
    cases hv' : M (-1 - cl x.1) with
    | none => exact absurd hv' hq
    | some y =>
      obtain ⟨p1, p2, p3, p4⟩ := hm.2 y hv'
      have e : st (thM M) x = y := by rw [st_v _ hc]; unfold thM; rw [hv']
      rw [e] at hs hz ⊢
      have ety : tw y = 1 + wt y.2 := rfl
      obtain ⟨τ, c1, G, P, b⟩ := copy_ok (β := β - 1) p1.1 (by omega) (by omega) (by omega)
      refine ⟨τ, ?_, G, P, b⟩
      rw [zq_withMatched, kZ_withMatched, if_pos (by omega), a2, if_neg (by omega), if_pos (by have := hl.1; omega), if_pos (by have := hl.1; omega), if_pos (by omega), zbd_of c1]
  · simp only [hc, if_false] at hq
    have e : st (thM M) x = (x.1, sb M x.2) := by rw [st_f _ hc, sb_su hq]
    rw [e] at hs hz ⊢
    have ety : tw ((x.1, sb M x.2) : Tm) = 1 + wt (sb M x.2) := rfl
    obtain ⟨τ1, e1, G1, f1, f2, f3, f4⟩ := fresh_ok (σ := σ) (β := β - 1) (c := σ.2.1 43 t) (by omega) (by omega)
    have t1 : τ1.1 47 = σ.1 47 + 1 := G1.1
    have q1 := G1.pq (lo := 0) (hi := B) hB
    have kk : τ1.2.1 44 t = σ.2.1 44 t := q1 44 t a1 (by omega) (by simp)
    have M1 : Mt ar m9 H τ1 M := fun v u1 u2 => by
      obtain ⟨z1, z2⟩ := hM v u1 u2
      have e9 : τ1.2.1 115 v = σ.2.1 115 v := G1.2.2.2 115 v (Or.inr (by omega))
      rw [e9]
      exact ⟨z1, fun y hy => by obtain ⟨p1, p2, p3, p4⟩ := z2 y hy; exact ⟨⟨Pt_hi q1 p1.1 p4, p1.2⟩, p2, p3⟩⟩
    obtain ⟨τ2, e2, L2⟩ := wmt_loop x.2 τ1 β B t (σ.1 47) (-1) (σ.2.1 44 t) kb (by omega) (Pc_hi q1 a4 kb) (by omega) (by omega) (by omega) (by omega) (by omega) (by omega) (by omega) (by omega) hw.2.2.1 M1 (fun v y u1 u2 hy => by rw [G1.2.2.2 115 v (Or.inr (by omega))]; exact ((hM v u1 u2).2 y hy).2.2.2) hq (by omega)
    obtain ⟨G, P, b⟩ := Lp_root (n := x.1) (by omega) G1 (by rw [f1, a2]) f2 f3 f4 L2
    refine ⟨τ2, ?_, G, P, b⟩
    rw [zq_withMatched, kZ_withMatched, if_pos (by omega), a2, if_pos (by omega), if_pos (by omega)]
    rw [a2] at e1
    rw [zbd_of e1, kk]; exact e2
