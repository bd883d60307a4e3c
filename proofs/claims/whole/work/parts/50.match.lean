/-! values for the VARIABLES of one CLAUSE: matched 115; which SYMBOLS are PREDICATES: 49 -/
abbrev Mv : Type := Int → Option Tm
noncomputable def mup (M : Mv) (v : Int) (x : Tm) : Mv := fun w => if w = v then some x else M w
/-- what a pattern's own TERM asks, if those within it are done by go -/
noncomputable def mt1 (pd : Int → Prop) (M : Mv) (n : Nat) (n2 : Nat) (k2 : T) (go : Option Mv) : Option Mv :=
  if cl n < 0 then (match M (-1 - cl n) with
    | some x => @ite _ (x = (n2, k2)) (Classical.propDecidable _) (some M) none
    | none => @ite _ (0 ≤ cl n2 ∧ pd (cl n2)) (Classical.propDecidable _) none (some (mup M (-1 - cl n) (n2, k2))))
  else if n = n2 then go else none
noncomputable def mtF (pd : Int → Prop) : Mv → T → T → Option Mv
  | M, .leaf _, _ => some M
  | M, .branch n k s, .branch n2 k2 s2 => match mt1 pd M n n2 k2 (mtF pd M k k2) with
    | none => none
    | some M1 => mtF pd M1 s s2
  | _, .branch _ _ _, .leaf _ => none
theorem lb8 {m9 c : Int} (h : lb m9 c) : vb 8 c := by have := h.1; show -8 ≤ c; omega
def Pd (σ : zS) (m9 : Int) (pd : Int → Prop) : Prop := m9 ≤ 551 ∧ ∀ c, 0 ≤ c → c < m9 → (σ.2.1 49 c = 0 ↔ ¬ pd c)
/-- the values as they stand in the row: their TERMS in the pool, well formed, not deeper than H -/
def Mt (ar : Int → Nat) (m9 : Int) (H : Nat) (σ : zS) (M : Mv) : Prop := ∀ v, 0 ≤ v → v < 6 → (M v = none → σ.2.1 115 v < 0) ∧ ∀ x, M v = some x → Px σ x (σ.2.1 115 v) ∧ wf ar (lb m9) (tt x) ∧ ht x.2 ≤ H
theorem isPredicate_ok {m9 : Int} {σ : zS} {β : Nat} {t : Int} {n : Nat} {k : T} {pd : Int → Prop} (hp : Pd σ m9 pd) (hP : Pt σ n k t) (hi : t < 420000) (hl : lb m9 (cl n)) : zE tM_isPredicate β σ [t] = some (σ, b2 (0 ≤ cl n ∧ pd (cl n))) := by
  obtain ⟨a1, a2, a3, a4, a5⟩ := hP
  have e27 : zE tM_isPredicate_27 β σ [t] = some (σ, 0) := by rw [zq_isPredicate_27, kZ_isPredicate_27, zq_isPredicate_28, kZ_isPredicate_28, if_pos (by omega)]
  rw [zq_isPredicate, kZ_isPredicate, if_pos (by omega), a2]
  by_cases hc : cl n < 0
  · rw [if_pos hc, e27, b2_f (fun w => by have := w.1; omega)]
  · have := hl.2
    have := hp.1
    rw [if_neg hc, if_pos (by omega)]
    by_cases h : pd (cl n)
    · rw [if_neg (fun w => (hp.2 (cl n) (by omega) (by omega)).mp w h), zq_isPredicate_28, kZ_isPredicate_28, if_pos (by omega), b2_t ⟨by omega, h⟩]
    · rw [if_pos ((hp.2 (cl n) (by omega) (by omega)).mpr h), e27, b2_f (fun w => h w.2)]
theorem Sa.pd {m9 : Int} {j0 : Nat} {σ τ : zS} (h : Sa j0 σ τ) (hj : j0 ≠ 49) {pd : Int → Prop} (hp : Pd σ m9 pd) : Pd τ m9 pd := ⟨hp.1, fun c a b => by rw [h.2.2 49 c (Ne.symm hj)]; exact hp.2 c a b⟩
theorem Px_Sa {j0 : Nat} {σ τ : zS} (h : Sa j0 σ τ) (hj : 46 < j0) {x : Tm} {t : Int} (q : Px σ x t) : Px τ x t := Px_q q (h.pq hj)
theorem Mt_up {m9 : Int} {ar : Int → Nat} {H : Nat} {σ : zS} {M : Mv} (hM : Mt ar m9 H σ M) {v t : Int} {x : Tm} (hx : Px σ x t) (wx : wf ar (lb m9) (tt x)) (hh : ht x.2 ≤ H) : Mt ar m9 H (zA σ 115 v t) (mup M v x) := fun w h1 h2 => by
  have S : Sa 115 σ (zA σ 115 v t) := Sa_A
  by_cases e : w = v
  · subst e
    have e1 : (zA σ 115 w t).2.1 115 w = t := by simp [zA]
    refine ⟨fun q => by simp [mup] at q, fun y hy => ?_⟩
    simp only [mup, if_true, Option.some.injEq] at hy
    subst hy
    rw [e1]
    exact ⟨Px_Sa S (by omega) hx, wx, hh⟩
  · have e1 : (zA σ 115 v t).2.1 115 w = σ.2.1 115 w := by simp [zA, e]
    have e2 : mup M v x w = M w := by simp [mup, e]
    rw [e1, e2]
    obtain ⟨a, b⟩ := hM w h1 h2
    exact ⟨a, fun y hy => by obtain ⟨c, d, f⟩ := b y hy; exact ⟨Px_Sa S (by omega) c, d, f⟩⟩
theorem match_of {m9 : Int} {ar : Int → Nat} {H : Nat} {pd : Int → Prop} {σ : zS} {β : Nat} {M : Mv} {n n2 : Nat} {k k2 : T} {t u : Int} (hp : Pd σ m9 pd) (hP : Pt σ n k t) (hi : t + 1 + (wt k : Int) ≤ 420000) (hQ : Pt σ n2 k2 u) (hi2 : u + 1 + (wt k2 : Int) ≤ 420000) (hw : wf ar (lb m9) (nd n k nl)) (hw2 : wf ar (lb m9) (nd n2 k2 nl)) (hM : Mt ar m9 H σ M) (hd : H + 1 ≤ β) (hh : ht k2 ≤ H)
    (go : n = n2 → ∃ τ, zE tM_match_90 β σ [t, u, σ.2.1 44 u, σ.2.1 44 t] = some (τ, b2 (mtF pd M k k2 ≠ none)) ∧ Sa 115 σ τ ∧ ∀ M1, mtF pd M k k2 = some M1 → Mt ar m9 H τ M1) :
    ∃ τ, zE tM_match β σ [t, u] = some (τ, b2 (mt1 pd M n n2 k2 (mtF pd M k k2) ≠ none)) ∧ Sa 115 σ τ ∧ ∀ M1, mt1 pd M n n2 k2 (mtF pd M k k2) = some M1 → Mt ar m9 H τ M1 := by
  have hQ' := hQ
  obtain ⟨a1, a2, a3, a4, a5⟩ := hP
  obtain ⟨c1, c2, c3, c4, c5⟩ := hQ
  have hl := hw.2.1
  by_cases hc : cl n < 0
  · have hv := hM (-1 - cl n) (by omega) (by have := hl.1; omega)
    have E : zE tM_match β σ [t, u] = (if σ.2.1 115 (-1 - cl n) < 0 then (if 1 ≤ β then (zbd (zE tM_isPredicate (β - 1) σ [u]) (fun σ1 r1 => if r1 = 0 then (lt_ (zA σ1 115 (-1 - cl n) u) (fun σ2 => some (σ2, 1))) else (some (σ1, 0)))) else none) else (if 1 ≤ β then (zbd (zE tM_same (β - 1) σ [σ.2.1 115 (-1 - cl n), u]) (fun σ3 r3 => if r3 = 0 ∨ r3 = 1 then (some (σ3, r3)) else none)) else none)) := by
      rw [zq_match, kZ_match, if_pos (by omega), a2, if_neg (by omega), if_pos (by have := hl.1; omega), if_pos (by have := hl.1; omega)]
    cases hm : M (-1 - cl n) with
    | none =>
      have e1 : mt1 pd M n n2 k2 (mtF pd M k k2) = @ite _ (0 ≤ cl n2 ∧ pd (cl n2)) (Classical.propDecidable _) none (some (mup M (-1 - cl n) (n2, k2))) := by simp only [mt1, hc, if_true, hm]
      have s1 := isPredicate_ok (β := β - 1) hp hQ' (by omega) hw2.2.1
      rw [E, if_pos (hv.1 hm), if_pos (by omega), zbd_of s1, e1]
      by_cases hq : 0 ≤ cl n2 ∧ pd (cl n2)
      · rw [if_pos hq, b2_t hq, if_neg (by omega)]
        exact ⟨σ, by rw [b2_f (by simp)], Sa.refl, fun M1 w => by cases w⟩
      · rw [if_neg hq, b2_f hq, if_pos rfl]
        refine ⟨zA σ 115 (-1 - cl n) u, by rw [b2_t (by simp)]; rfl, Sa_A, fun M1 w => ?_⟩
        obtain rfl := Option.some.inj w
        exact Mt_up hM ⟨hQ', hi2⟩ hw2 hh
    | some x =>
      have e1 : mt1 pd M n n2 k2 (mtF pd M k k2) = @ite _ (x = (n2, k2)) (Classical.propDecidable _) (some M) none := by simp only [mt1, hc, if_true, hm]
      obtain ⟨q1, q2, q3⟩ := hv.2 x hm
      have s1 := same_x (β := β - 1) q1 (y := (n2, k2)) ⟨hQ', hi2⟩ q2 hw2 (by omega)
      rw [E, if_neg (by have := q1.1.1; omega), if_pos (by omega), zbd_of s1, if_pos (b2_01 _), e1]
      by_cases hq : x = (n2, k2)
      · rw [if_pos hq, b2_t hq]
        exact ⟨σ, by rw [b2_t (by simp)], Sa.refl, fun M1 w => by obtain rfl := Option.some.inj w; exact hM⟩
      · rw [if_neg hq, b2_f hq]
        exact ⟨σ, by rw [b2_f (by simp)], Sa.refl, fun M1 w => by cases w⟩
  · have e1 : mt1 pd M n n2 k2 (mtF pd M k k2) = if n = n2 then mtF pd M k k2 else none := by simp only [mt1, hc, if_false]
    rw [e1]
    by_cases hn : n = n2
    · rw [if_pos hn]
      obtain ⟨τ, e, S, q⟩ := go hn
      refine ⟨τ, ?_, S, q⟩
      rw [zq_match, kZ_match, if_pos (by omega), a2, if_pos (by omega), if_pos (by omega), c2, if_pos (by rw [hn])]
      exact e
    · rw [if_neg hn]
      refine ⟨σ, ?_, Sa.refl, fun M1 w => by cases w⟩
      rw [zq_match, kZ_match, if_pos (by omega), a2, if_pos (by omega), if_pos (by omega), c2, if_neg (fun w => hn (cl_inj w)), b2_f (by simp)]
theorem match_loop {m9 : Int} {ar : Int → Nat} {H : Nat} {pd : Int → Prop} : ∀ (F G : T) (σ : zS) (β : Nat) (M : Mv) (x0 x1 t u : Int), Pd σ m9 pd → Pc σ F t → t + (wt F : Int) ≤ 420000 → Pc σ G u → u + (wt G : Int) ≤ 420000 → wf ar (lb m9) F → wf ar (lb m9) G → len F = len G → Mt ar m9 H σ M → H + 1 + ht F ≤ β → ht G ≤ H →
    ∃ τ, zE tM_match_90 β σ [x0, x1, u, t] = some (τ, b2 (mtF pd M F G ≠ none)) ∧ Sa 115 σ τ ∧ ∀ M1, mtF pd M F G = some M1 → Mt ar m9 H τ M1
  | .leaf (), G, σ, β, M, x0, x1, t, u, hp, hF, _, hG, _, wF, wG, hl, hM, hd, hh => by
    have h1 : t < 0 := hF
    refine ⟨σ, ?_, Sa.refl, fun M1 w => ?_⟩
    · rw [zq_match_90, kZ_match_90, if_pos h1, b2_t (by simp [mtF])]
    · simp only [mtF, Option.some.injEq] at w; subst w; exact hM
  | .branch n k s, .leaf (), σ, β, M, x0, x1, t, u, hp, hF, _, hG, _, wF, wG, hl, hM, hd, hh => by simp only [len] at hl; omega
  | .branch n k s, .branch n2 k2 s2, σ, β, M, x0, x1, t, u, hp, hF, i1, hG, i2, wF, wG, hl, hM, hd, hh => by
    have k1 := Pc_kid hF i1 (by omega)
    have k2' := Pc_kid hG i2 (by omega)
    have s1 := Pc_bes hF i1 (by omega)
    have s2' := Pc_bes hG i2 (by omega)
    have hF' := Pc_nd.mp hF
    have hG' := Pc_nd.mp hG
    obtain ⟨a1, a3, a4, a5, a7, a6, a8⟩ := hF
    obtain ⟨b1, b3, b4, b5, b7, b6, b8⟩ := hG
    simp only [ht] at hd hh
    simp only [len] at hl
    simp only [wt] at i1 i2
    have w1 : wf ar (lb m9) (nd n k nl) := ⟨wF.1, wF.2.1, wF.2.2.1, trivial⟩
    have w2 : wf ar (lb m9) (nd n2 k2 nl) := ⟨wG.1, wG.2.1, wG.2.2.1, trivial⟩
    obtain ⟨τ1, e1, S1, Q1⟩ := match_of (β := β - 1) hp hF'.1 (by omega) hG'.1 (by omega) w1 w2 hM (by omega) (by omega) (fun hn => match_loop k k2 σ (β - 1) M t u _ _ hp a5 k1 b5 k2' wF.2.2.1 wG.2.2.1 (by rw [wF.1, wG.1, hn]) hM (by omega) (by omega))
    cases hm : mt1 pd M n n2 k2 (mtF pd M k k2) with
    | none =>
      have e2 : mtF pd M (.branch n k s) (.branch n2 k2 s2) = none := by simp only [mtF, hm]
      rw [hm] at e1
      refine ⟨τ1, ?_, S1, fun M1 w => by rw [e2] at w; cases w⟩
      rw [zq_match_90, kZ_match_90, if_neg (by omega), if_pos (by omega), zbd_of e1, b2_f (by simp), if_pos rfl, e2, b2_f (by simp)]
    | some M1 =>
      have e2 : mtF pd M (.branch n k s) (.branch n2 k2 s2) = mtF pd M1 s s2 := by simp only [mtF, hm]
      rw [hm] at e1
      obtain ⟨τ2, e3, S2, Q2⟩ := match_loop s s2 τ1 β M1 x0 x1 (σ.2.1 45 t) (σ.2.1 45 u) (S1.pd (by omega) hp) (Pc_q (S1.pq (by omega)) a6) s1 (Pc_q (S1.pq (by omega)) b6) s2' wF.2.2.2 wG.2.2.2 (by omega) (Q1 M1 hm) (by omega) (by omega)
      refine ⟨τ2, ?_, S1.trans S2, fun M2 w => Q2 M2 (by rw [← e2]; exact w)⟩
      rw [zq_match_90, kZ_match_90, if_neg (by omega), if_pos (by omega), zbd_of e1, b2_t (by simp), if_neg (by omega), if_pos (by omega), if_pos (by omega), S1.2.2 45 u (by omega), S1.2.2 45 t (by omega), e3, e2]
theorem match_ok {m9 : Int} {ar : Int → Nat} {H : Nat} {pd : Int → Prop} {σ : zS} {β : Nat} {M : Mv} {x y : Tm} {t u : Int} (hp : Pd σ m9 pd) (hx : Px σ x t) (hy : Px σ y u) (wx : wf ar (lb m9) (tt x)) (wy : wf ar (lb m9) (tt y)) (hM : Mt ar m9 H σ M) (hd : H + 1 + ht x.2 ≤ β) (hh : ht y.2 ≤ H) :
    ∃ τ, zE tM_match β σ [t, u] = some (τ, b2 (mt1 pd M x.1 y.1 y.2 (mtF pd M x.2 y.2) ≠ none)) ∧ Sa 115 σ τ ∧ ∀ M1, mt1 pd M x.1 y.1 y.2 (mtF pd M x.2 y.2) = some M1 → Mt ar m9 H τ M1 :=
  match_of hp hx.1 hx.2 hy.1 hy.2 wx wy hM (by omega) hh (fun hn => match_loop x.2 y.2 σ β M t u _ _ hp hx.1.2.2.2.1 (Pt_kid hx.1 hx.2 (by omega)) hy.1.2.2.2.1 (Pt_kid hy.1 hy.2 (by omega)) wx.2.2.1 wy.2.2.1 (by rw [wx.1, wy.1, hn]) hM hd hh)
