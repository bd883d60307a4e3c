/-! matching in the class: the pattern in cells 48, its values 67 (where they begin), known 6603; what it is matched to in cells 40 or 48 -/
theorem mtF_cat {pd : Int → Prop} : ∀ {k k2 s s2 : T} {M : Mv}, len k = len k2 → mtF pd M (cat k s) (cat k2 s2) = (match mtF pd M k k2 with
    | none => none
    | some M1 => mtF pd M1 s s2)
  | .leaf _, .leaf _, s, s2, M, _ => by simp only [cat, mtF]
  | .leaf _, .branch _ _ _, s, s2, M, h => by simp only [len] at h; omega
  | .branch _ _ _, .leaf _, s, s2, M, h => by simp only [len] at h; omega
  | .branch n k t, .branch n2 k2 t2, s, s2, M, h => by
    simp only [len] at h
    have ih := fun M1 => mtF_cat (pd := pd) (k := t) (k2 := t2) (s := s) (s2 := s2) (M := M1) (by omega)
    simp only [cat, mtF]
    cases mt1 pd M n n2 k2 (mtF pd M k k2) with
    | none => rfl
    | some M1 => exact ih M1
def MtA (ar : Int → Nat) (m9 : Int) (g : Int → Int) (lim : Int) (σ : zS) (M : Mv) : Prop := (0 ≤ σ.1 6603 ∧ σ.1 6603 < 4096) ∧ ∀ v, 0 ≤ v → v < 6 → (bt (σ.1 6603) v ↔ M v ≠ none) ∧ ∀ x, M v = some x → Fl g (σ.2.1 67 v) (fl (tt x)) ∧ wf ar (lb m9) (tt x) ∧ 0 ≤ σ.2.1 67 v ∧ σ.2.1 67 v + (tw x : Int) ≤ lim
theorem kn_test {a v : Int} (h0 : 0 ≤ v) (h1 : v < 6) : zand (zshr a v) 1 = 0 ↔ ¬ bt a v := by
  rw [← bt_test h0 (by omega)]
  have := zand1 (zshr a v)
  constructor
  · intro h; omega
  · intro h; omega
theorem ispred_ok {ar : Int → Nat} {pd : Int → Prop} {m9 : Int} {σ : zS} (hC : Cx ar pd m9 σ) {β : Nat} {c : Int} (h0 : 0 ≤ c) (h1 : c < m9) : yE tC_Sym_isPredicate β σ [c] = some (σ, b2 (pd c)) := by
  have := hC.2.1
  have e := hC.2.2.1 c h0 h1
  rw [yq_Sym_isPredicate, kY_Sym_isPredicate, if_pos ⟨h0, by omega⟩]
  by_cases h : pd c
  · rw [if_pos (e.mpr h), yq_Sym_isPredicate_p15, kY_Sym_isPredicate_p15, if_pos (Or.inr rfl), b2_t h]
  · rw [if_neg (fun z => h (e.mp z)), yq_Sym_isPredicate_p15, kY_Sym_isPredicate_p15, if_pos (Or.inl rfl), b2_f h]
theorem MtA.up {ar : Int → Nat} {m9 : Int} {g : Int → Int} {lim : Int} {σ : zS} {M : Mv} (h : MtA ar m9 g lim σ M) {v t : Int} (v0 : 0 ≤ v) (v1 : v < 6) {x : Tm} (hx : Fl g t (fl (tt x))) (wx : wf ar (lb m9) (tt x)) (t0 : 0 ≤ t) (t1 : t + (tw x : Int) ≤ lim) : MtA ar m9 g lim (zI (zA σ 67 v t) 6603 (zor (σ.1 6603) (zshl 1 v))) (mup M v x) := by
  obtain ⟨⟨k0, k1⟩, h2⟩ := h
  obtain ⟨s0, s1⟩ := zshl_n v0 (by omega)
  have e6 : (zI (zA σ 67 v t) 6603 (zor (σ.1 6603) (zshl 1 v))).1 6603 = zor (σ.1 6603) (zshl 1 v) := zI_1
  refine ⟨by rw [e6]; exact zor_n k0 k1 s0 s1, fun w w0 w1 => ?_⟩
  rw [e6, bt_or, bt_shl v0 (by omega) w0 (by omega)]
  obtain ⟨q1, q2⟩ := h2 w w0 w1
  have e7 : (zI (zA σ 67 v t) 6603 (zor (σ.1 6603) (zshl 1 v))).2.1 67 w = if w = v then t else σ.2.1 67 w := by
    show (zA σ 67 v t).2.1 67 w = _
    by_cases e : w = v
    · rw [if_pos e, e]; exact zA_s
    · rw [if_neg e]; exact zA_i e
  rw [e7]
  unfold mup
  by_cases e : w = v
  · rw [if_pos e, if_pos e]
    exact ⟨⟨fun _ h => (by cases h), fun _ => Or.inr e⟩, fun y hy => (by cases hy; exact ⟨hx, wx, t0, t1⟩)⟩
  · rw [if_neg e, if_neg e]
    exact ⟨⟨fun h => h.elim q1.mp (fun h => absurd h e), fun h => Or.inl (q1.mpr h)⟩, q2⟩
theorem mat40_loop {ar : Int → Nat} {pd : Int → Prop} {m9 : Int} {β : Nat} (hβ : 2 ≤ β) {x0 x1 x2 : Int} : ∀ (m : Nat) (F G : T) (σ : zS) (M : Mv) (i u : Int), wt F ≤ m → Cx ar pd m9 σ → Fl (σ.2.1 48) i (fl F) → wf ar (lb m9) F → 0 ≤ i → i + (wt F : Int) = x0 + x1 → x0 + x1 ≤ σ.1 4701 → Fl (σ.2.1 40) u (fl G) → wf ar (lb m9) G → len F = len G → 0 ≤ u → u + (wt G : Int) ≤ (100 : Int) → MtA ar m9 (σ.2.1 40) (100 : Int) σ M →
    ∃ τ r, yE tC_Mat_matches_40_p19 β σ [x0, x1, x2, u, i] = some (τ, r) ∧ FrC [6603] [67] σ τ ∧ (0 ≤ τ.1 6603 ∧ τ.1 6603 < 4096) ∧ (∀ v, 0 ≤ v → v < 6 → M v ≠ none → τ.2.1 67 v = σ.2.1 67 v) ∧ ((r = 1 ∧ ∃ M2, mtF pd M F G = some M2 ∧ MtA ar m9 (τ.2.1 40) (100 : Int) τ M2) ∨ (r = 0 ∧ mtF pd M F G = none))
  | m, .leaf _, G, σ, M, i, u, hm, hC, hF, wF, i0, i1, i2, hG, wG, hl, u0, u1, hM => by
    obtain ⟨c1, c2, c3, c4, c5, c6⟩ := id hC
    simp only [wt] at i1
    refine ⟨σ, 1, ?_, FrC.refl, hM.1, fun _ _ _ _ => rfl, Or.inl ⟨rfl, M, by simp only [mtF], hM⟩⟩
    rw [yq_Mat_matches_40_p19, kY_Mat_matches_40_p19, if_pos (by omega), if_pos (by omega)]
  | m, .branch n k s, .leaf _, σ, M, i, u, hm, hC, hF, wF, i0, i1, i2, hG, wG, hl, u0, u1, hM => by simp only [len] at hl; omega
  | 0, .branch n k s, .branch n2 k2 s2, σ, M, i, u, hm, hC, hF, wF, i0, i1, i2, hG, wG, hl, u0, u1, hM => by simp only [wt] at hm; omega
  | m + 1, .branch n k s, .branch n2 k2 s2, σ, M, i, u, hm, hC, hF, wF, i0, i1, i2, hG, wG, hl, u0, u1, hM => by
    obtain ⟨c1, c2, c3, c4, c5, c6⟩ := id hC
    simp only [wt] at i1 u1 hm
    simp only [len] at hl
    have e1 : σ.2.1 48 i = cl n := hF.1
    have e2 : σ.2.1 40 u = cl n2 := hG.1
    obtain ⟨f1, f2⟩ := Fl_app.mp hF.2
    obtain ⟨g1, g2⟩ := Fl_app.mp hG.2
    rw [fl_length] at f2 g2
    have hy : Fl (σ.2.1 40) u (fl (tt (n2, k2))) := by
      show Fl _ _ (cl n2 :: (fl k2 ++ fl nl))
      refine ⟨e2, ?_⟩
      rw [show fl nl = ([] : List Int) from rfl, List.append_nil]; exact g1
    have wy : wf ar (lb m9) (tt (n2, k2)) := ⟨wG.1, wG.2.1, wG.2.2.1, trivial⟩
    have ty : (tw (n2, k2) : Int) = 1 + (wt k2 : Int) := by simp only [tw]; omega
    have lb1 := wF.2.1
    have lb2 := wG.2.1
    rw [yq_Mat_matches_40_p19, kY_Mat_matches_40_p19, if_pos (by omega), if_neg (by omega), if_pos ⟨i0, by omega⟩, e1]
    by_cases hn : cl n < 0
    · have k0 : k = nl := len0 (by have := wF.1; rw [if_pos hn] at this; exact this)
      subst k0
      rw [if_pos hn]
      simp only [wt] at i1 hm f2
      have v0 : 0 ≤ -1 - cl n := by omega
      have v1 : -1 - cl n < 6 := by have := lb1.1; omega
      obtain ⟨v, hv⟩ : ∃ v, v = -1 - cl n := ⟨_, rfl⟩
      rw [← hv] at v0 v1 ⊢
      obtain ⟨q1, q2⟩ := hM.2 v v0 v1
      -- go on behind it
      have next : ∀ (ρ : zS) (M1 : Mv), FrC [6603] [67] σ ρ → MtA ar m9 (ρ.2.1 40) (100 : Int) ρ M1 → (∀ w, 0 ≤ w → w < 6 → M w ≠ none → ρ.2.1 67 w = σ.2.1 67 w ∧ M1 w ≠ none) → mt1 pd M n n2 k2 (mtF pd M nl k2) = some M1 → ∃ τ r, yE tC_Mat_matches_40_p147 β ρ [x0, x1, x2, u, i, v] = some (τ, r) ∧ FrC [6603] [67] σ τ ∧ (0 ≤ τ.1 6603 ∧ τ.1 6603 < 4096) ∧ (∀ w, 0 ≤ w → w < 6 → M w ≠ none → τ.2.1 67 w = σ.2.1 67 w) ∧ ((r = 1 ∧ ∃ M2, mtF pd M (nd n nl s) (nd n2 k2 s2) = some M2 ∧ MtA ar m9 (τ.2.1 40) (100 : Int) τ M2) ∨ (r = 0 ∧ mtF pd M (nd n nl s) (nd n2 k2 s2) = none)) := fun ρ M1 fρ hρ hw hmt => by
        have hCρ := hC.f fρ
        have eT : ∀ q, ρ.2.1 40 q = σ.2.1 40 q := fun q => fρ.a 40 q
        have e48 : ∀ q, ρ.2.1 48 q = σ.2.1 48 q := fun q => fρ.a 48 q
        have l48 : ρ.2.2 48 = σ.2.2 48 := fρ.2.2.1 48 (by decide) (by decide) (by decide)
        have e47 : ρ.1 4701 = σ.1 4701 := fρ.i 4701
        have ea := aft40 (β := β - 1) hCρ.1 (by decide) (x := (n2, k2)) (q := u) (Fl_q (fun j _ _ => eT j) hy) wy u0 (by rw [ty]; omega)
        obtain ⟨τ, r, t1, t2, t3, t4, t5⟩ := mat40_loop (pd := pd) hβ (x0 := x0) (x1 := x1) (x2 := x2) m s s2 ρ M1 (i + 1) (u + (tw (n2, k2) : Int)) (by omega) hCρ (Fl_q (fun j _ _ => e48 j) (by simpa using f2)) wF.2.2.2 (by omega) (by omega) (by omega) (Fl_q (fun j _ _ => eT j) (by rw [ty]; rw [show u + (1 + (wt k2 : Int)) = u + 1 + (wt k2 : Int) by omega]; exact g2)) wG.2.2.2 (by omega) (by omega) (by rw [ty]; omega) hρ
        have em : mtF pd M (nd n nl s) (nd n2 k2 s2) = mtF pd M1 s s2 := by simp only [mtF] at hmt ⊢; rw [hmt]
        refine ⟨τ, r, ?_, fρ.trans t2, t3, fun w w0 w1 hn => by rw [t4 w w0 w1 (hw w w0 w1 hn).2, (hw w w0 w1 hn).1], by rw [em]; exact t5⟩
        rw [yq_Mat_matches_40_p147, kY_Mat_matches_40_p147, if_pos (by omega), zbd_of ea, yq_Mat_matches_40_p159, kY_Mat_matches_40_p159, if_pos (by omega)]
        exact t1
      cases hMv : M v with
      | none =>
        have nb : ¬ bt (σ.1 6603) v := fun h => q1.mp h hMv
        rw [if_pos ((kn_test v0 v1).mpr nb), if_pos ⟨u0, by omega⟩, e2]
        have go : ¬ (0 ≤ cl n2 ∧ pd (cl n2)) → ∃ τ r, yE tC_Mat_matches_40_p99 β σ [x0, x1, x2, u, i, v] = some (τ, r) ∧ FrC [6603] [67] σ τ ∧ (0 ≤ τ.1 6603 ∧ τ.1 6603 < 4096) ∧ (∀ w, 0 ≤ w → w < 6 → M w ≠ none → τ.2.1 67 w = σ.2.1 67 w) ∧ ((r = 1 ∧ ∃ M2, mtF pd M (nd n nl s) (nd n2 k2 s2) = some M2 ∧ MtA ar m9 (τ.2.1 40) (100 : Int) τ M2) ∨ (r = 0 ∧ mtF pd M (nd n nl s) (nd n2 k2 s2) = none)) := fun hp => by
          rw [yq_Mat_matches_40_p99, kY_Mat_matches_40_p99, if_pos ⟨v0, by omega⟩, lt_e, lt_e]
          have a1 : FrC [6603] [67] σ (zA σ 67 v u) := FrC_A
          have a2 : FrC [6603] [67] (zA σ 67 v u) (zI (zA σ 67 v u) 6603 (zor (σ.1 6603) (zshl 1 v))) := FrC_I
          refine next _ (mup M v (n2, k2)) (a1.trans a2) (hM.up v0 v1 hy wy u0 (by rw [ty]; omega)) (fun w w0 w1 hw => ?_) ?_
          · have wv : w ≠ v := fun e => hw (by rw [e]; exact hMv)
            exact ⟨zA_i wv, by unfold mup; rw [if_neg wv]; exact hw⟩
          · unfold mt1
            rw [if_pos hn, ← hv, hMv]
            dsimp only
            rw [if_neg hp]
        by_cases h2 : cl n2 < 0
        · rw [if_pos h2]
          exact go (by omega)
        · rw [if_neg h2, if_pos (by omega), zbd_of (ispred_ok (β := β - 1) hC (by omega) lb2.2)]
          by_cases hp : pd (cl n2)
          · rw [b2_t hp, if_neg (by decide)]
            refine ⟨σ, 0, rfl, FrC.refl, hM.1, fun _ _ _ _ => rfl, Or.inr ⟨rfl, ?_⟩⟩
            have : mt1 pd M n n2 k2 (mtF pd M nl k2) = none := by
              unfold mt1
              rw [if_pos hn, ← hv, hMv]
              dsimp only
              rw [if_pos ⟨by omega, hp⟩]
            simp only [mtF] at this ⊢
            rw [this]
          · rw [b2_f hp, if_pos rfl]
            exact go (fun z => hp z.2)
      | some x =>
        obtain ⟨p1, p2, p3, p4⟩ := q2 x hMv
        have yb : bt (σ.1 6603) v := q1.mpr (by rw [hMv]; exact fun h => by cases h)
        have es := same40_40 (β := β - 1) hC.1 (by decide) (by omega) p1 hy p2 wy p3 p4 u0 (by rw [ty]; omega)
        rw [if_neg (fun h => (kn_test v0 v1).mp h yb), if_pos ⟨v0, by omega⟩, if_pos (by omega), zbd_of es]
        by_cases e : x = (n2, k2)
        · rw [b2_t e, if_neg (by decide)]
          refine next σ M FrC.refl hM (fun w _ _ hw => ⟨rfl, hw⟩) ?_
          unfold mt1
          rw [if_pos hn, ← hv, hMv]
          dsimp only
          rw [if_pos e]
        · rw [b2_f e, if_pos rfl]
          refine ⟨σ, 0, rfl, FrC.refl, hM.1, fun _ _ _ _ => rfl, Or.inr ⟨rfl, ?_⟩⟩
          have : mt1 pd M n n2 k2 (mtF pd M nl k2) = none := by
            unfold mt1
            rw [if_pos hn, ← hv, hMv]
            dsimp only
            rw [if_neg e]
          simp only [mtF] at this ⊢
          rw [this]
    · rw [if_neg hn, if_pos ⟨u0, by omega⟩, e2]
      by_cases e : cl n = cl n2
      · have en : n = n2 := cl_inj e
        subst en
        rw [if_pos e, if_pos (by omega), yq_Mat_matches_40_p159, kY_Mat_matches_40_p159, if_pos (by omega)]
        have hk : len k = len k2 := by rw [wF.1, wG.1]
        obtain ⟨τ, r, t1, t2, t3, t4, t5⟩ := mat40_loop (pd := pd) hβ (x0 := x0) (x1 := x1) (x2 := x2) m (cat k s) (cat k2 s2) σ M (i + 1) (u + 1) (by rw [wt_cat]; omega) hC (by rw [fl_cat]; exact hF.2) (wf_cat wF.2.2.1 wF.2.2.2) (by omega) (by rw [wt_cat]; omega) i2 (by rw [fl_cat]; exact hG.2) (wf_cat wG.2.2.1 wG.2.2.2) (by rw [len_cat, len_cat]; omega) (by omega) (by rw [wt_cat]; omega) hM
        have em : mtF pd M (nd n k s) (nd n k2 s2) = mtF pd M (cat k s) (cat k2 s2) := by
          rw [mtF_cat hk]
          show (match mt1 pd M n n k2 (mtF pd M k k2) with | none => none | some M1 => mtF pd M1 s s2) = _
          unfold mt1
          rw [if_neg hn, if_pos rfl]
        exact ⟨τ, r, t1, t2, t3, t4, by rw [em]; exact t5⟩
      · rw [if_neg e]
        refine ⟨σ, 0, rfl, FrC.refl, hM.1, fun _ _ _ _ => rfl, Or.inr ⟨rfl, ?_⟩⟩
        show (match mt1 pd M n n2 k2 (mtF pd M k k2) with | none => none | some M1 => mtF pd M1 s s2) = _
        unfold mt1
        rw [if_neg hn, if_neg (fun z => e (by rw [z]))]
theorem mat48_loop {ar : Int → Nat} {pd : Int → Prop} {m9 : Int} {β : Nat} (hβ : 2 ≤ β) {x0 x1 x2 : Int} : ∀ (m : Nat) (F G : T) (σ : zS) (M : Mv) (i u : Int), wt F ≤ m → Cx ar pd m9 σ → Fl (σ.2.1 48) i (fl F) → wf ar (lb m9) F → 0 ≤ i → i + (wt F : Int) = x0 + x1 → x0 + x1 ≤ σ.1 4701 → Fl (σ.2.1 48) u (fl G) → wf ar (lb m9) G → len F = len G → 0 ≤ u → u + (wt G : Int) ≤ ((σ.2.2 48 : Nat) : Int) → MtA ar m9 (σ.2.1 48) ((σ.2.2 48 : Nat) : Int) σ M →
    ∃ τ r, yE tC_Mat_matches_48_p19 β σ [x0, x1, x2, u, i] = some (τ, r) ∧ FrC [6603] [67] σ τ ∧ (0 ≤ τ.1 6603 ∧ τ.1 6603 < 4096) ∧ (∀ v, 0 ≤ v → v < 6 → M v ≠ none → τ.2.1 67 v = σ.2.1 67 v) ∧ ((r = 1 ∧ ∃ M2, mtF pd M F G = some M2 ∧ MtA ar m9 (τ.2.1 48) ((τ.2.2 48 : Nat) : Int) τ M2) ∨ (r = 0 ∧ mtF pd M F G = none))
  | m, .leaf _, G, σ, M, i, u, hm, hC, hF, wF, i0, i1, i2, hG, wG, hl, u0, u1, hM => by
    obtain ⟨c1, c2, c3, c4, c5, c6⟩ := id hC
    simp only [wt] at i1
    refine ⟨σ, 1, ?_, FrC.refl, hM.1, fun _ _ _ _ => rfl, Or.inl ⟨rfl, M, by simp only [mtF], hM⟩⟩
    rw [yq_Mat_matches_48_p19, kY_Mat_matches_48_p19, if_pos (by omega), if_pos (by omega)]
  | m, .branch n k s, .leaf _, σ, M, i, u, hm, hC, hF, wF, i0, i1, i2, hG, wG, hl, u0, u1, hM => by simp only [len] at hl; omega
  | 0, .branch n k s, .branch n2 k2 s2, σ, M, i, u, hm, hC, hF, wF, i0, i1, i2, hG, wG, hl, u0, u1, hM => by simp only [wt] at hm; omega
  | m + 1, .branch n k s, .branch n2 k2 s2, σ, M, i, u, hm, hC, hF, wF, i0, i1, i2, hG, wG, hl, u0, u1, hM => by
    obtain ⟨c1, c2, c3, c4, c5, c6⟩ := id hC
    simp only [wt] at i1 u1 hm
    simp only [len] at hl
    have e1 : σ.2.1 48 i = cl n := hF.1
    have e2 : σ.2.1 48 u = cl n2 := hG.1
    obtain ⟨f1, f2⟩ := Fl_app.mp hF.2
    obtain ⟨g1, g2⟩ := Fl_app.mp hG.2
    rw [fl_length] at f2 g2
    have hy : Fl (σ.2.1 48) u (fl (tt (n2, k2))) := by
      show Fl _ _ (cl n2 :: (fl k2 ++ fl nl))
      refine ⟨e2, ?_⟩
      rw [show fl nl = ([] : List Int) from rfl, List.append_nil]; exact g1
    have wy : wf ar (lb m9) (tt (n2, k2)) := ⟨wG.1, wG.2.1, wG.2.2.1, trivial⟩
    have ty : (tw (n2, k2) : Int) = 1 + (wt k2 : Int) := by simp only [tw]; omega
    have lb1 := wF.2.1
    have lb2 := wG.2.1
    rw [yq_Mat_matches_48_p19, kY_Mat_matches_48_p19, if_pos (by omega), if_neg (by omega), if_pos ⟨i0, by omega⟩, e1]
    by_cases hn : cl n < 0
    · have k0 : k = nl := len0 (by have := wF.1; rw [if_pos hn] at this; exact this)
      subst k0
      rw [if_pos hn]
      simp only [wt] at i1 hm f2
      have v0 : 0 ≤ -1 - cl n := by omega
      have v1 : -1 - cl n < 6 := by have := lb1.1; omega
      obtain ⟨v, hv⟩ : ∃ v, v = -1 - cl n := ⟨_, rfl⟩
      rw [← hv] at v0 v1 ⊢
      obtain ⟨q1, q2⟩ := hM.2 v v0 v1
      -- go on behind it
      have next : ∀ (ρ : zS) (M1 : Mv), FrC [6603] [67] σ ρ → MtA ar m9 (ρ.2.1 48) ((ρ.2.2 48 : Nat) : Int) ρ M1 → (∀ w, 0 ≤ w → w < 6 → M w ≠ none → ρ.2.1 67 w = σ.2.1 67 w ∧ M1 w ≠ none) → mt1 pd M n n2 k2 (mtF pd M nl k2) = some M1 → ∃ τ r, yE tC_Mat_matches_48_p147 β ρ [x0, x1, x2, u, i, v] = some (τ, r) ∧ FrC [6603] [67] σ τ ∧ (0 ≤ τ.1 6603 ∧ τ.1 6603 < 4096) ∧ (∀ w, 0 ≤ w → w < 6 → M w ≠ none → τ.2.1 67 w = σ.2.1 67 w) ∧ ((r = 1 ∧ ∃ M2, mtF pd M (nd n nl s) (nd n2 k2 s2) = some M2 ∧ MtA ar m9 (τ.2.1 48) ((τ.2.2 48 : Nat) : Int) τ M2) ∨ (r = 0 ∧ mtF pd M (nd n nl s) (nd n2 k2 s2) = none)) := fun ρ M1 fρ hρ hw hmt => by
        have hCρ := hC.f fρ
        have eT : ∀ q, ρ.2.1 48 q = σ.2.1 48 q := fun q => fρ.a 48 q
        have e48 : ∀ q, ρ.2.1 48 q = σ.2.1 48 q := fun q => fρ.a 48 q
        have l48 : ρ.2.2 48 = σ.2.2 48 := fρ.2.2.1 48 (by decide) (by decide) (by decide)
        have e47 : ρ.1 4701 = σ.1 4701 := fρ.i 4701
        have ea := aft48 (β := β - 1) hCρ.1 (by omega) (x := (n2, k2)) (q := u) (Fl_q (fun j _ _ => eT j) hy) wy u0 (by rw [ty]; rw [l48]; omega)
        obtain ⟨τ, r, t1, t2, t3, t4, t5⟩ := mat48_loop (pd := pd) hβ (x0 := x0) (x1 := x1) (x2 := x2) m s s2 ρ M1 (i + 1) (u + (tw (n2, k2) : Int)) (by omega) hCρ (Fl_q (fun j _ _ => e48 j) (by simpa using f2)) wF.2.2.2 (by omega) (by omega) (by omega) (Fl_q (fun j _ _ => eT j) (by rw [ty]; rw [show u + (1 + (wt k2 : Int)) = u + 1 + (wt k2 : Int) by omega]; exact g2)) wG.2.2.2 (by omega) (by omega) (by rw [ty]; rw [l48]; omega) hρ
        have em : mtF pd M (nd n nl s) (nd n2 k2 s2) = mtF pd M1 s s2 := by simp only [mtF] at hmt ⊢; rw [hmt]
        refine ⟨τ, r, ?_, fρ.trans t2, t3, fun w w0 w1 hn => by rw [t4 w w0 w1 (hw w w0 w1 hn).2, (hw w w0 w1 hn).1], by rw [em]; exact t5⟩
        rw [yq_Mat_matches_48_p147, kY_Mat_matches_48_p147, if_pos (by omega), zbd_of ea, yq_Mat_matches_48_p159, kY_Mat_matches_48_p159, if_pos (by omega)]
        exact t1
      cases hMv : M v with
      | none =>
        have nb : ¬ bt (σ.1 6603) v := fun h => q1.mp h hMv
        rw [if_pos ((kn_test v0 v1).mpr nb), if_pos ⟨u0, by omega⟩, e2]
        have go : ¬ (0 ≤ cl n2 ∧ pd (cl n2)) → ∃ τ r, yE tC_Mat_matches_48_p99 β σ [x0, x1, x2, u, i, v] = some (τ, r) ∧ FrC [6603] [67] σ τ ∧ (0 ≤ τ.1 6603 ∧ τ.1 6603 < 4096) ∧ (∀ w, 0 ≤ w → w < 6 → M w ≠ none → τ.2.1 67 w = σ.2.1 67 w) ∧ ((r = 1 ∧ ∃ M2, mtF pd M (nd n nl s) (nd n2 k2 s2) = some M2 ∧ MtA ar m9 (τ.2.1 48) ((τ.2.2 48 : Nat) : Int) τ M2) ∨ (r = 0 ∧ mtF pd M (nd n nl s) (nd n2 k2 s2) = none)) := fun hp => by
          rw [yq_Mat_matches_48_p99, kY_Mat_matches_48_p99, if_pos ⟨v0, by omega⟩, lt_e, lt_e]
          have a1 : FrC [6603] [67] σ (zA σ 67 v u) := FrC_A
          have a2 : FrC [6603] [67] (zA σ 67 v u) (zI (zA σ 67 v u) 6603 (zor (σ.1 6603) (zshl 1 v))) := FrC_I
          refine next _ (mup M v (n2, k2)) (a1.trans a2) (hM.up v0 v1 hy wy u0 (by rw [ty]; omega)) (fun w w0 w1 hw => ?_) ?_
          · have wv : w ≠ v := fun e => hw (by rw [e]; exact hMv)
            exact ⟨zA_i wv, by unfold mup; rw [if_neg wv]; exact hw⟩
          · unfold mt1
            rw [if_pos hn, ← hv, hMv]
            dsimp only
            rw [if_neg hp]
        by_cases h2 : cl n2 < 0
        · rw [if_pos h2]
          exact go (by omega)
        · rw [if_neg h2, if_pos (by omega), zbd_of (ispred_ok (β := β - 1) hC (by omega) lb2.2)]
          by_cases hp : pd (cl n2)
          · rw [b2_t hp, if_neg (by decide)]
            refine ⟨σ, 0, rfl, FrC.refl, hM.1, fun _ _ _ _ => rfl, Or.inr ⟨rfl, ?_⟩⟩
            have : mt1 pd M n n2 k2 (mtF pd M nl k2) = none := by
              unfold mt1
              rw [if_pos hn, ← hv, hMv]
              dsimp only
              rw [if_pos ⟨by omega, hp⟩]
            simp only [mtF] at this ⊢
            rw [this]
          · rw [b2_f hp, if_pos rfl]
            exact go (fun z => hp z.2)
      | some x =>
        obtain ⟨p1, p2, p3, p4⟩ := q2 x hMv
        have yb : bt (σ.1 6603) v := q1.mpr (by rw [hMv]; exact fun h => by cases h)
        have es := same48_48 (β := β - 1) hC.1 (by omega) (by omega) p1 hy p2 wy p3 p4 u0 (by rw [ty]; omega)
        rw [if_neg (fun h => (kn_test v0 v1).mp h yb), if_pos ⟨v0, by omega⟩, if_pos (by omega), zbd_of es]
        by_cases e : x = (n2, k2)
        · rw [b2_t e, if_neg (by decide)]
          refine next σ M FrC.refl hM (fun w _ _ hw => ⟨rfl, hw⟩) ?_
          unfold mt1
          rw [if_pos hn, ← hv, hMv]
          dsimp only
          rw [if_pos e]
        · rw [b2_f e, if_pos rfl]
          refine ⟨σ, 0, rfl, FrC.refl, hM.1, fun _ _ _ _ => rfl, Or.inr ⟨rfl, ?_⟩⟩
          have : mt1 pd M n n2 k2 (mtF pd M nl k2) = none := by
            unfold mt1
            rw [if_pos hn, ← hv, hMv]
            dsimp only
            rw [if_neg e]
          simp only [mtF] at this ⊢
          rw [this]
    · rw [if_neg hn, if_pos ⟨u0, by omega⟩, e2]
      by_cases e : cl n = cl n2
      · have en : n = n2 := cl_inj e
        subst en
        rw [if_pos e, if_pos (by omega), yq_Mat_matches_48_p159, kY_Mat_matches_48_p159, if_pos (by omega)]
        have hk : len k = len k2 := by rw [wF.1, wG.1]
        obtain ⟨τ, r, t1, t2, t3, t4, t5⟩ := mat48_loop (pd := pd) hβ (x0 := x0) (x1 := x1) (x2 := x2) m (cat k s) (cat k2 s2) σ M (i + 1) (u + 1) (by rw [wt_cat]; omega) hC (by rw [fl_cat]; exact hF.2) (wf_cat wF.2.2.1 wF.2.2.2) (by omega) (by rw [wt_cat]; omega) i2 (by rw [fl_cat]; exact hG.2) (wf_cat wG.2.2.1 wG.2.2.2) (by rw [len_cat, len_cat]; omega) (by omega) (by rw [wt_cat]; omega) hM
        have em : mtF pd M (nd n k s) (nd n k2 s2) = mtF pd M (cat k s) (cat k2 s2) := by
          rw [mtF_cat hk]
          show (match mt1 pd M n n k2 (mtF pd M k k2) with | none => none | some M1 => mtF pd M1 s s2) = _
          unfold mt1
          rw [if_neg hn, if_pos rfl]
        exact ⟨τ, r, t1, t2, t3, t4, by rw [em]; exact t5⟩
      · rw [if_neg e]
        refine ⟨σ, 0, rfl, FrC.refl, hM.1, fun _ _ _ _ => rfl, Or.inr ⟨rfl, ?_⟩⟩
        show (match mt1 pd M n n2 k2 (mtF pd M k k2) with | none => none | some M1 => mtF pd M1 s s2) = _
        unfold mt1
        rw [if_neg hn, if_neg (fun z => e (by rw [z]))]
