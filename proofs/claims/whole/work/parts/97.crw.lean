/-! REWRITING a TERM by a side of a single = -/
noncomputable def rwI (pd : Int → Prop) (l r y : Tm) : Option Tm := match mtF pd (fun _ => none) (tt l) (tt y) with
  | none => none
  | some M => @ite _ ((∀ c ∈ fl (tt r), c < 0 → M (-1 - c) ≠ none) ∧ gTm y (st (thM M) r)) (Classical.propDecidable _) (some (st (thM M) r)) none
theorem gTm_tw {x y : Tm} (h : gTm x y) : tw y ≤ tw x := by
  obtain ⟨_, _, h⟩ := h
  simp only [tw]
  omega
theorem rw40_ok {ar : Int → Nat} {pd : Int → Prop} {m9 : Int} {β : Nat} (hβ : 4 ≤ β) {σ : zS} {Cs : List CL} (hC : Cx ar pd m9 σ) (hS : SC σ Cs) {k : Nat} {c : CL} (hc : Cs[k]? = some c) (wc : Wc ar m9 c.1) {a : Lt} (ha : c.1[0]? = some a) {s : Int} (hs : s = 0 ∨ s = 1) {y : Tm} {t : Int} (hy : Fl (σ.2.1 40) t (fl (tt y))) (wy : wf ar (lb m9) (tt y)) (t0 : 0 ≤ t) (t1 : t + (tw y : Int) ≤ (100 : Int)) (ty : tw y ≤ 100) : ∃ τ, yE tC_Mat_rewrites_40 β σ [(k : Int), s, t] = some (τ, b2 (rwI pd (sdT a s) (sdT a (1 - s)) y ≠ none)) ∧ FrC [6603, 6605] [13, 67, 68] σ τ ∧ ∀ z, rwI pd (sdT a s) (sdT a (1 - s)) y = some z → τ.1 6605 = (tw z : Int) ∧ Fl (τ.2.1 68) 0 (fl (tt z)) ∧ wf ar (lb m9) (tt z) ∧ tw z ≤ tw y := by
  obtain ⟨c1, c2, c3, c4, c5, c6⟩ := id hC
  obtain ⟨_, wa1, wa2⟩ := wc.2.2.2.2 a (List.mem_of_getElem? ha)
  have hl := hS.hl hc ha
  rw [hp_0] at hl
  obtain ⟨P, hP⟩ : ∃ P, P = pos Cs k := ⟨_, rfl⟩
  rw [← hP] at hl
  obtain ⟨l1, l2, l3⟩ := hl.sd (s := s)
  obtain ⟨r1, r2, r3⟩ := hl.sd (s := 1 - s)
  have wl := (sd_wf wa1 wa2 s).1
  have wr := (sd_wf wa1 wa2 (1 - s)).1
  obtain ⟨v1, v2, v3, v4⟩ := hl.c (s := s) (o := 0) (y := sdT a s) rfl
  rw [show ∀ z : Int, z + ((0 : Nat) : Int) = z by intro z; simp] at v1 v2 v3
  have eT : σ.2.1 40 t = cl y.1 := hy.1
  have tyy := tw_pos y
  have ew : ∀ x : Tm, wt (tt x) = tw x := fun x => by simp only [tt, wt, tw]; omega
  have s1 : 1 - s = 0 ∨ 1 - s = 1 := by omega
  obtain ⟨l, el⟩ : ∃ l, l = sdT a s := ⟨_, rfl⟩
  obtain ⟨rr, er⟩ : ∃ rr, rr = sdT a (1 - s) := ⟨_, rfl⟩
  rw [← el] at l1 l3 wl v1
  rw [← er] at r1 r3 wr
  rw [← el, ← er]
  have main : ∀ x5, ∃ τ, yE tC_Mat_rewrites_40_p55 β σ [(k : Int), s, t, P, sdp P a s, x5] = some (τ, b2 (rwI pd l rr y ≠ none)) ∧ FrC [6603, 6605] [13, 67, 68] σ τ ∧ ∀ z, rwI pd l rr y = some z → τ.1 6605 = (tw z : Int) ∧ Fl (τ.2.1 68) 0 (fl (tt z)) ∧ wf ar (lb m9) (tt z) ∧ tw z ≤ tw y := fun x5 => by
    obtain ⟨σ1, hσ1⟩ : ∃ z, z = zI σ 6603 0 := ⟨_, rfl⟩
    have f1 : FrC [6603] [] σ σ1 := by rw [hσ1]; exact FrC_I
    have hl1 := hl.f f1
    have e47 : σ1.1 4701 = σ.1 4701 := f1.i 4701
    have l48 : σ1.2.2 48 = σ.2.2 48 := f1.2.2.1 48 (by decide) (by decide) (by decide)
    have e6 : σ1.1 6603 = 0 := by rw [hσ1]; exact zI_1
    have hM1 : MtA ar m9 (σ1.2.1 40) (100 : Int) σ1 (fun _ => none) := ⟨by omega, fun v _ _ => ⟨by rw [e6]; exact ⟨fun h => absurd h bt_0, fun h => absurd rfl h⟩, fun x hx => (by cases hx)⟩⟩
    obtain ⟨σ2, r, m1, m2, m3, m4, m5⟩ := mat40_loop (pd := pd) (β := β - 1) (by omega) (x0 := sdp P a s) (x1 := (tw l : Int)) (x2 := t) (wt (tt l)) (tt l) (tt y) σ1 (fun _ => none) (sdp P a s) t (Nat.le_refl _) (hC.f f1) (Fl_q (fun j _ _ => f1.a 48 j) l1) wl l2 (by rw [ew]) (by omega) (Fl_q (fun j _ _ => f1.a 40 j) hy) wy rfl t0 (by rw [ew]; exact t1) hM1
    have em : yE tC_Mat_matches_40 (β - 1) σ1 [sdp P a s, (tw l : Int), t] = some (σ2, r) := by rw [yq_Mat_matches_40, kY_Mat_matches_40]; exact m1
    have sz := size_ok (β := β - 1) hl1 hs
    rw [← el] at sz
    rw [yq_Mat_rewrites_40_p55, kY_Mat_rewrites_40_p55, lt_e, ← hσ1, if_pos (by omega), zbd_of sz, if_pos (by omega), zbd_of em]
    have f2 : FrC [6603] [67] σ σ2 := f1.w.trans m2
    have hl2 := hl.f f2
    rcases m5 with ⟨rfl, M, hM, hMA⟩ | ⟨rfl, hM⟩
    · rw [if_neg (by decide), if_pos (by omega), if_pos (by omega), zbd_of (side_ok hl2 s1), if_pos (by omega)]
      have l482 : σ2.2.2 48 = σ.2.2 48 := f2.2.2.1 48 (by decide) (by decide) (by decide)
      have ea := aft40 (β := β - 1) (hC.f f2).1 (by decide) (x := y) (q := t) (Fl_q (fun j _ _ => f2.a 40 j) hy) wy t0 t1
      have sz2 := size_ok (β := β - 1) hl2 s1
      rw [← er] at sz2
      rw [zbd_of ea, if_pos (by omega), zbd_of sz2, show t + (tw y : Int) - t = (tw y : Int) by omega, if_pos (by omega), if_pos (by omega)]
      obtain ⟨σ3, hσ3⟩ : ∃ z, z = zI σ2 6605 0 := ⟨_, rfl⟩
      have g3 : FrC [6605] [] σ2 σ3 := by rw [hσ3]; exact FrC_I
      have f3 : FrC [6603, 6605] [67] σ σ3 := f2.w.trans g3.w
      have hM3 : MtA ar m9 (σ3.2.1 40) (100 : Int) σ3 M := by
        unfold MtA at hMA ⊢
        rw [hσ3, zI_2, zI_o (j := 6603)]; exact hMA
      have e473 : σ3.1 4701 = σ.1 4701 := f3.i 4701
      have lr : (fl (tt rr)).length = tw rr := by rw [fl_length, ew]
      obtain ⟨σ4, r4, i1, i2, i3⟩ := img40_loop (pd := pd) (β := β - 1) (by omega) (x0 := sdp P a (1 - s)) (x1 := (tw rr : Int)) (room := (tw y : Int)) (by omega) (fl (tt rr)) σ3 M [] (sdp P a (1 - s)) (hC.f f3) (Fl_q (fun j _ _ => f3.a 48 j) r1) (fun d hd => wf_fl wr d hd) r2 (by rw [lr]) (by omega) hM3 (by rw [hσ3]; exact zI_1) trivial (by simp only [List.length_nil]; omega)
      have ei : yE tC_Mat_makeImage_40 (β - 1) σ2 [sdp P a (1 - s), (tw rr : Int), (tw y : Int)] = some (σ4, r4) := by rw [yq_Mat_makeImage_40, kY_Mat_makeImage_40, lt_e, ← hσ3]; exact i1
      have f4 : FrC [6603, 6605] [13, 67, 68] σ σ4 := f3.w.trans i2.w
      have ez : fl (tt (st (thM M) rr)) = exL (thM M) 0 (fl (tt rr)) := su_sh0 (F := tt rr) wr
      have lz : (exL (thM M) 0 (fl (tt rr))).length = tw (st (thM M) rr) := by rw [← ez, fl_length, ew]
      have eR : rwI pd l rr y = @ite _ ((∀ c ∈ fl (tt rr), c < 0 → M (-1 - c) ≠ none) ∧ gTm y (st (thM M) rr)) (Classical.propDecidable _) (some (st (thM M) rr)) none := by unfold rwI; rw [hM]
      have e159 : ∀ (ρ : zS) (q0 q1 q2 q3 q4 q5 q6 q7 : Int), yE tC_Mat_rewrites_40_p159 β ρ [q0, q1, q2, q3, q4, q5, q6, q7] = some (ρ, 0) := fun ρ q0 q1 q2 q3 q4 q5 q6 q7 => by rw [yq_Mat_rewrites_40_p159, kY_Mat_rewrites_40_p159, yq_Mat_rewrites_40_p160, kY_Mat_rewrites_40_p160, if_pos (Or.inl rfl)]
      rw [zbd_of ei]
      rcases i3 with ⟨rfl, j1, j2, j3, j4⟩ | ⟨rfl, j⟩
      · have wz : wf ar (lb m9) (tt (st (thM M) rr)) := by
          refine su_wf (p := lb m9) (fun c _ h => h) wr (fun v hv => ?_)
          obtain ⟨u0, u1⟩ := vi_lb wr hv
          have hne := j1 _ (vi_mem hv) (by omega)
          rw [show -1 - (-1 - v) = v by omega] at hne
          cases hMv : M v with
          | none => exact absurd hMv hne
          | some x =>
            have : thM M v = x := by unfold thM; rw [hMv]
            rw [this]
            exact ((hMA.2 v u0 u1).2 x hMv).2.1
        rw [lz] at j2 j3
        simp only [List.length_nil, Nat.zero_add, List.nil_append] at j2 j3 j4
        rw [← ez] at j4
        have l484 : σ4.2.2 48 = σ.2.2 48 := f4.2.2.1 48 (by decide) (by decide) (by decide)
        obtain ⟨σ5, g1, g2⟩ := gre40_68 (β := β - 1) c2 (hC.f f4).1 (by decide) (by decide) (by omega) (by omega) (Fl_q (fun j _ _ => f4.a 40 j) hy) j4 wy wz t0 t1 (by omega) (by omega)
        have f5 : FrC [6603, 6605] [13, 67, 68] σ σ5 := f4.trans (FrC_Sa g2)
        rw [if_neg (by decide), if_pos (by omega), zbd_of g1]
        by_cases hg : gTm y (st (thM M) rr)
        · have eS : rwI pd l rr y = some (st (thM M) rr) := by rw [eR, if_pos ⟨j1, hg⟩]
          have b1 : b2 (gT y.1 y.2 (st (thM M) rr).1 (st (thM M) rr).2) = 1 := b2_t hg
          refine ⟨σ5, ?_, f5, fun z hz => ?_⟩
          · rw [b1, if_neg (by decide), yq_Mat_rewrites_40_p160, kY_Mat_rewrites_40_p160, if_pos (Or.inr rfl), b2_t (by rw [eS]; exact fun h => (by cases h))]
          · rw [eS] at hz
            cases hz
            refine ⟨by rw [g2.1]; exact j3, Fl_q (fun q _ _ => g2.2.2 68 q (by decide)) j4, wz, gTm_tw hg⟩
        · have eS : rwI pd l rr y = none := by rw [eR, if_neg (fun h => hg h.2)]
          have b1 : b2 (gT y.1 y.2 (st (thM M) rr).1 (st (thM M) rr).2) = 0 := b2_f hg
          refine ⟨σ5, ?_, f5, fun z hz => (by rw [eS] at hz; cases hz)⟩
          rw [b1, if_pos rfl, e159, b2_f (fun h => h eS)]
      · have eS : rwI pd l rr y = none := by
          rw [eR, if_neg]
          rintro ⟨h1, h2⟩
          refine j ⟨h1, ?_⟩
          have := gTm_tw h2
          rw [lz]; simp only [List.length_nil]; omega
        refine ⟨σ4, ?_, f4, fun z hz => (by rw [eS] at hz; cases hz)⟩
        rw [if_pos rfl, e159, b2_f (fun h => h eS)]
    · have eS : rwI pd l rr y = none := by unfold rwI; rw [hM]
      refine ⟨σ2, ?_, f2.w, fun z hz => (by rw [eS] at hz; cases hz)⟩
      rw [if_pos rfl, b2_f (fun h => h eS)]
  have f8 := (hS.f3 (β := β - 1) hc).2.1
  rw [← hP] at f8
  rw [yq_Mat_rewrites_40, kY_Mat_rewrites_40, if_pos (by omega), zbd_of f8, if_pos (by omega), zbd_of (side_ok hl hs), if_pos ⟨v2, v3⟩, v1]
  by_cases n1 : cl l.1 < 0
  · rw [if_pos n1]; exact main _
  · rw [if_neg n1, if_pos ⟨t0, by omega⟩, eT]
    by_cases n2 : cl l.1 = cl y.1
    · rw [if_pos n2]; exact main _
    · rw [if_neg n2]
      have eS : rwI pd l rr y = none := by
        unfold rwI
        have : mtF pd (fun _ => none) (tt l) (tt y) = none := by
          show (match mt1 pd (fun _ => none) l.1 y.1 y.2 (mtF pd (fun _ => none) l.2 y.2) with | none => none | some M1 => mtF pd M1 nl nl) = _
          unfold mt1
          rw [if_neg n1, if_neg (fun z => n2 (by rw [z]))]
        rw [this]
      exact ⟨σ, by rw [b2_f (fun h => h eS)], FrC.refl, fun z hz => (by rw [eS] at hz; cases hz)⟩
theorem rw48_ok {ar : Int → Nat} {pd : Int → Prop} {m9 : Int} {β : Nat} (hβ : 4 ≤ β) {σ : zS} {Cs : List CL} (hC : Cx ar pd m9 σ) (hS : SC σ Cs) {k : Nat} {c : CL} (hc : Cs[k]? = some c) (wc : Wc ar m9 c.1) {a : Lt} (ha : c.1[0]? = some a) {s : Int} (hs : s = 0 ∨ s = 1) {y : Tm} {t : Int} (hy : Fl (σ.2.1 48) t (fl (tt y))) (wy : wf ar (lb m9) (tt y)) (t0 : 0 ≤ t) (t1 : t + (tw y : Int) ≤ ((σ.2.2 48 : Nat) : Int)) (ty : tw y ≤ 100) : ∃ τ, yE tC_Mat_rewrites_48 β σ [(k : Int), s, t] = some (τ, b2 (rwI pd (sdT a s) (sdT a (1 - s)) y ≠ none)) ∧ FrC [6603, 6605] [13, 67, 68] σ τ ∧ ∀ z, rwI pd (sdT a s) (sdT a (1 - s)) y = some z → τ.1 6605 = (tw z : Int) ∧ Fl (τ.2.1 68) 0 (fl (tt z)) ∧ wf ar (lb m9) (tt z) ∧ tw z ≤ tw y := by
  obtain ⟨c1, c2, c3, c4, c5, c6⟩ := id hC
  obtain ⟨_, wa1, wa2⟩ := wc.2.2.2.2 a (List.mem_of_getElem? ha)
  have hl := hS.hl hc ha
  rw [hp_0] at hl
  obtain ⟨P, hP⟩ : ∃ P, P = pos Cs k := ⟨_, rfl⟩
  rw [← hP] at hl
  obtain ⟨l1, l2, l3⟩ := hl.sd (s := s)
  obtain ⟨r1, r2, r3⟩ := hl.sd (s := 1 - s)
  have wl := (sd_wf wa1 wa2 s).1
  have wr := (sd_wf wa1 wa2 (1 - s)).1
  obtain ⟨v1, v2, v3, v4⟩ := hl.c (s := s) (o := 0) (y := sdT a s) rfl
  rw [show ∀ z : Int, z + ((0 : Nat) : Int) = z by intro z; simp] at v1 v2 v3
  have eT : σ.2.1 48 t = cl y.1 := hy.1
  have tyy := tw_pos y
  have ew : ∀ x : Tm, wt (tt x) = tw x := fun x => by simp only [tt, wt, tw]; omega
  have s1 : 1 - s = 0 ∨ 1 - s = 1 := by omega
  obtain ⟨l, el⟩ : ∃ l, l = sdT a s := ⟨_, rfl⟩
  obtain ⟨rr, er⟩ : ∃ rr, rr = sdT a (1 - s) := ⟨_, rfl⟩
  rw [← el] at l1 l3 wl v1
  rw [← er] at r1 r3 wr
  rw [← el, ← er]
  have main : ∀ x5, ∃ τ, yE tC_Mat_rewrites_48_p55 β σ [(k : Int), s, t, P, sdp P a s, x5] = some (τ, b2 (rwI pd l rr y ≠ none)) ∧ FrC [6603, 6605] [13, 67, 68] σ τ ∧ ∀ z, rwI pd l rr y = some z → τ.1 6605 = (tw z : Int) ∧ Fl (τ.2.1 68) 0 (fl (tt z)) ∧ wf ar (lb m9) (tt z) ∧ tw z ≤ tw y := fun x5 => by
    obtain ⟨σ1, hσ1⟩ : ∃ z, z = zI σ 6603 0 := ⟨_, rfl⟩
    have f1 : FrC [6603] [] σ σ1 := by rw [hσ1]; exact FrC_I
    have hl1 := hl.f f1
    have e47 : σ1.1 4701 = σ.1 4701 := f1.i 4701
    have l48 : σ1.2.2 48 = σ.2.2 48 := f1.2.2.1 48 (by decide) (by decide) (by decide)
    have e6 : σ1.1 6603 = 0 := by rw [hσ1]; exact zI_1
    have hM1 : MtA ar m9 (σ1.2.1 48) ((σ1.2.2 48 : Nat) : Int) σ1 (fun _ => none) := ⟨by omega, fun v _ _ => ⟨by rw [e6]; exact ⟨fun h => absurd h bt_0, fun h => absurd rfl h⟩, fun x hx => (by cases hx)⟩⟩
    obtain ⟨σ2, r, m1, m2, m3, m4, m5⟩ := mat48_loop (pd := pd) (β := β - 1) (by omega) (x0 := sdp P a s) (x1 := (tw l : Int)) (x2 := t) (wt (tt l)) (tt l) (tt y) σ1 (fun _ => none) (sdp P a s) t (Nat.le_refl _) (hC.f f1) (Fl_q (fun j _ _ => f1.a 48 j) l1) wl l2 (by rw [ew]) (by omega) (Fl_q (fun j _ _ => f1.a 48 j) hy) wy rfl t0 (by rw [ew]; rw [l48]; exact t1) hM1
    have em : yE tC_Mat_matches_48 (β - 1) σ1 [sdp P a s, (tw l : Int), t] = some (σ2, r) := by rw [yq_Mat_matches_48, kY_Mat_matches_48]; exact m1
    have sz := size_ok (β := β - 1) hl1 hs
    rw [← el] at sz
    rw [yq_Mat_rewrites_48_p55, kY_Mat_rewrites_48_p55, lt_e, ← hσ1, if_pos (by omega), zbd_of sz, if_pos (by omega), zbd_of em]
    have f2 : FrC [6603] [67] σ σ2 := f1.w.trans m2
    have hl2 := hl.f f2
    rcases m5 with ⟨rfl, M, hM, hMA⟩ | ⟨rfl, hM⟩
    · rw [if_neg (by decide), if_pos (by omega), if_pos (by omega), zbd_of (side_ok hl2 s1), if_pos (by omega)]
      have l482 : σ2.2.2 48 = σ.2.2 48 := f2.2.2.1 48 (by decide) (by decide) (by decide)
      have ea := aft48 (β := β - 1) (hC.f f2).1 (by omega) (x := y) (q := t) (Fl_q (fun j _ _ => f2.a 48 j) hy) wy t0 (by rw [l482]; exact t1)
      have sz2 := size_ok (β := β - 1) hl2 s1
      rw [← er] at sz2
      rw [zbd_of ea, if_pos (by omega), zbd_of sz2, show t + (tw y : Int) - t = (tw y : Int) by omega, if_pos (by omega), if_pos (by omega)]
      obtain ⟨σ3, hσ3⟩ : ∃ z, z = zI σ2 6605 0 := ⟨_, rfl⟩
      have g3 : FrC [6605] [] σ2 σ3 := by rw [hσ3]; exact FrC_I
      have f3 : FrC [6603, 6605] [67] σ σ3 := f2.w.trans g3.w
      have hM3 : MtA ar m9 (σ3.2.1 48) ((σ3.2.2 48 : Nat) : Int) σ3 M := by
        unfold MtA at hMA ⊢
        rw [hσ3, zI_2, zI_o (j := 6603)]; exact hMA
      have e473 : σ3.1 4701 = σ.1 4701 := f3.i 4701
      have lr : (fl (tt rr)).length = tw rr := by rw [fl_length, ew]
      obtain ⟨σ4, r4, i1, i2, i3⟩ := img48_loop (pd := pd) (β := β - 1) (by omega) (x0 := sdp P a (1 - s)) (x1 := (tw rr : Int)) (room := (tw y : Int)) (by omega) (fl (tt rr)) σ3 M [] (sdp P a (1 - s)) (hC.f f3) (Fl_q (fun j _ _ => f3.a 48 j) r1) (fun d hd => wf_fl wr d hd) r2 (by rw [lr]) (by omega) hM3 (by rw [hσ3]; exact zI_1) trivial (by simp only [List.length_nil]; omega)
      have ei : yE tC_Mat_makeImage_48 (β - 1) σ2 [sdp P a (1 - s), (tw rr : Int), (tw y : Int)] = some (σ4, r4) := by rw [yq_Mat_makeImage_48, kY_Mat_makeImage_48, lt_e, ← hσ3]; exact i1
      have f4 : FrC [6603, 6605] [13, 67, 68] σ σ4 := f3.w.trans i2.w
      have ez : fl (tt (st (thM M) rr)) = exL (thM M) 0 (fl (tt rr)) := su_sh0 (F := tt rr) wr
      have lz : (exL (thM M) 0 (fl (tt rr))).length = tw (st (thM M) rr) := by rw [← ez, fl_length, ew]
      have eR : rwI pd l rr y = @ite _ ((∀ c ∈ fl (tt rr), c < 0 → M (-1 - c) ≠ none) ∧ gTm y (st (thM M) rr)) (Classical.propDecidable _) (some (st (thM M) rr)) none := by unfold rwI; rw [hM]
      have e159 : ∀ (ρ : zS) (q0 q1 q2 q3 q4 q5 q6 q7 : Int), yE tC_Mat_rewrites_48_p159 β ρ [q0, q1, q2, q3, q4, q5, q6, q7] = some (ρ, 0) := fun ρ q0 q1 q2 q3 q4 q5 q6 q7 => by rw [yq_Mat_rewrites_48_p159, kY_Mat_rewrites_48_p159, yq_Mat_rewrites_48_p160, kY_Mat_rewrites_48_p160, if_pos (Or.inl rfl)]
      rw [zbd_of ei]
      rcases i3 with ⟨rfl, j1, j2, j3, j4⟩ | ⟨rfl, j⟩
      · have wz : wf ar (lb m9) (tt (st (thM M) rr)) := by
          refine su_wf (p := lb m9) (fun c _ h => h) wr (fun v hv => ?_)
          obtain ⟨u0, u1⟩ := vi_lb wr hv
          have hne := j1 _ (vi_mem hv) (by omega)
          rw [show -1 - (-1 - v) = v by omega] at hne
          cases hMv : M v with
          | none => exact absurd hMv hne
          | some x =>
            have : thM M v = x := by unfold thM; rw [hMv]
            rw [this]
            exact ((hMA.2 v u0 u1).2 x hMv).2.1
        rw [lz] at j2 j3
        simp only [List.length_nil, Nat.zero_add, List.nil_append] at j2 j3 j4
        rw [← ez] at j4
        have l484 : σ4.2.2 48 = σ.2.2 48 := f4.2.2.1 48 (by decide) (by decide) (by decide)
        obtain ⟨σ5, g1, g2⟩ := gre48_68 (β := β - 1) c2 (hC.f f4).1 (by omega) (by decide) (by omega) (by omega) (Fl_q (fun j _ _ => f4.a 48 j) hy) j4 wy wz t0 (by rw [l484]; exact t1) (by omega) (by omega)
        have f5 : FrC [6603, 6605] [13, 67, 68] σ σ5 := f4.trans (FrC_Sa g2)
        rw [if_neg (by decide), if_pos (by omega), zbd_of g1]
        by_cases hg : gTm y (st (thM M) rr)
        · have eS : rwI pd l rr y = some (st (thM M) rr) := by rw [eR, if_pos ⟨j1, hg⟩]
          have b1 : b2 (gT y.1 y.2 (st (thM M) rr).1 (st (thM M) rr).2) = 1 := b2_t hg
          refine ⟨σ5, ?_, f5, fun z hz => ?_⟩
          · rw [b1, if_neg (by decide), yq_Mat_rewrites_48_p160, kY_Mat_rewrites_48_p160, if_pos (Or.inr rfl), b2_t (by rw [eS]; exact fun h => (by cases h))]
          · rw [eS] at hz
            cases hz
            refine ⟨by rw [g2.1]; exact j3, Fl_q (fun q _ _ => g2.2.2 68 q (by decide)) j4, wz, gTm_tw hg⟩
        · have eS : rwI pd l rr y = none := by rw [eR, if_neg (fun h => hg h.2)]
          have b1 : b2 (gT y.1 y.2 (st (thM M) rr).1 (st (thM M) rr).2) = 0 := b2_f hg
          refine ⟨σ5, ?_, f5, fun z hz => (by rw [eS] at hz; cases hz)⟩
          rw [b1, if_pos rfl, e159, b2_f (fun h => h eS)]
      · have eS : rwI pd l rr y = none := by
          rw [eR, if_neg]
          rintro ⟨h1, h2⟩
          refine j ⟨h1, ?_⟩
          have := gTm_tw h2
          rw [lz]; simp only [List.length_nil]; omega
        refine ⟨σ4, ?_, f4, fun z hz => (by rw [eS] at hz; cases hz)⟩
        rw [if_pos rfl, e159, b2_f (fun h => h eS)]
    · have eS : rwI pd l rr y = none := by unfold rwI; rw [hM]
      refine ⟨σ2, ?_, f2.w, fun z hz => (by rw [eS] at hz; cases hz)⟩
      rw [if_pos rfl, b2_f (fun h => h eS)]
  have f8 := (hS.f3 (β := β - 1) hc).2.1
  rw [← hP] at f8
  rw [yq_Mat_rewrites_48, kY_Mat_rewrites_48, if_pos (by omega), zbd_of f8, if_pos (by omega), zbd_of (side_ok hl hs), if_pos ⟨v2, v3⟩, v1]
  by_cases n1 : cl l.1 < 0
  · rw [if_pos n1]; exact main _
  · rw [if_neg n1, if_pos ⟨t0, by omega⟩, eT]
    by_cases n2 : cl l.1 = cl y.1
    · rw [if_pos n2]; exact main _
    · rw [if_neg n2]
      have eS : rwI pd l rr y = none := by
        unfold rwI
        have : mtF pd (fun _ => none) (tt l) (tt y) = none := by
          show (match mt1 pd (fun _ => none) l.1 y.1 y.2 (mtF pd (fun _ => none) l.2 y.2) with | none => none | some M1 => mtF pd M1 nl nl) = _
          unfold mt1
          rw [if_neg n1, if_neg (fun z => n2 (by rw [z]))]
        rw [this]
      exact ⟨σ, by rw [b2_f (fun h => h eS)], FrC.refl, fun z hz => (by rw [eS] at hz; cases hz)⟩
