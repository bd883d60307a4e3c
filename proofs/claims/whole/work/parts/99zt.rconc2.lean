/-! the reference: a CONCLUSION, whole -/
abbrev FCo (σ τ : zS) : Prop := FrC [47, 72, 84, 87, 90, 91, 94, 98, 101, 105] [43, 44, 45, 46, 66, 67, 68, 69, 70, 71, 73, 74, 75, 76, 77, 78, 79, 80, 81, 82, 95, 96, 97, 100, 102, 103, 104] σ τ
section conc2
variable {ar : Int → Nat} {pd : Int → Prop} {m9 : Int} {B : Ev} {r : Tm}
theorem keepA_no {x0 x1 x2 : Int} {C : List Lt} {A : PA} (h : ¬ inB C) : keepA x0 x1 x2 C A = (A.1, fu (fu A.2 90 (zwa (A.2 90) 1)) 91 (zwa (A.2 91) 1)) := by
  unfold keepA; rw [if_neg h]
theorem keepA_t {x0 x1 x2 : Int} {C : List Lt} {A : PA} (h : inB C) (t : tautL (rnL [] (ddL [] C))) : keepA x0 x1 x2 C A = (A.1, fu (fu A.2 90 (zwa (A.2 90) 1)) 94 (zwa (A.2 94) 1)) := by
  unfold keepA; rw [if_pos h, if_pos t]
theorem keepA_f {x0 x1 x2 : Int} {C : List Lt} {A : PA} (h : inB C) (t : ¬ tautL (rnL [] (ddL [] C))) (l : A.1.length = 2000) : keepA x0 x1 x2 C A = (A.1, fu (fu A.2 90 (zwa (A.2 90) 1)) 87 3) := by
  unfold keepA; rw [if_pos h, if_neg t, if_pos l]
theorem keepA_n {x0 x1 x2 : Int} {C : List Lt} {A : PA} (h : inB C) (t : ¬ tautL (rnL [] (ddL [] C))) (l : A.1.length ≠ 2000) : keepA x0 x1 x2 C A = (A.1 ++ [(rnL [] (ddL [] C), x0, x1, x2, 0, [])], fu A.2 90 (zwa (A.2 90) 1)) := by
  unfold keepA; rw [if_pos h, if_neg t, if_neg l]
theorem rc_ok {β : Nat} (hβ : 1541 ≤ β) {σ : zS} {A : PA} {L : List Pe} (hI : RI ar pd m9 σ A) (hB : EB ar pd m9 σ B) (hL : PL ar m9 σ L) (hr : 0 ≤ σ.1 113 → AT ar m9 σ (σ.1 114) 0 r) (wR : WL ar (lw 12 m9) (cR r (σ.1 113) L)) {x0 x1 x2 : Int} : ∃ τ, zE tM_conclude β σ [x0, x1, x2] = some (τ, 0) ∧ RI ar pd m9 τ (keepA x0 x1 x2 (mpL (st (rs B)) (cR r (σ.1 113) L)) A) ∧ FCo σ τ := by
  have m0 : 0 ≤ m9 := hI.2.2.2.2.1
  have wM : WL ar (fun c => c < m9) (mpL (st (rs B)) (cR r (σ.1 113) L)) := WL_mp (hB.np m0).2 wR
  have ml : (mpL (st (rs B)) (cR r (σ.1 113) L)).length = L.length := by simp [mpL, cR]
  obtain ⟨M, hM⟩ : ∃ M, M = mpL (st (rs B)) (cR r (σ.1 113) L) := ⟨_, rfl⟩
  obtain ⟨_, _, k90, k91, _, _, k94⟩ := hI.2.2.2.1
  obtain ⟨σ1, hσ1⟩ : ∃ z, z = zI σ 90 (zwa (σ.1 90) 1) := ⟨_, rfl⟩
  have f1 : FrC [90] [] σ σ1 := by rw [hσ1]; exact FrC_I
  have I1 : RI ar pd m9 σ1 (A.1, fu A.2 90 (zwa (A.2 90) 1)) := by rw [hσ1, k90]; exact hI.u
  have e1 : zE tM_conclude β σ [x0, x1, x2] = if σ1.1 112 ≤ 8 then zE tM_conclude_36 β σ1 [x0, x1, x2, 0, 0] else some (zI σ1 91 (zwa (σ1.1 91) 1), 0) := by
    rw [zq_conclude, kZ_conclude, lt_e, ← hσ1]; rfl
  have n112 : σ1.1 112 = (L.length : Int) := by rw [f1.i 112]; exact hL.1
  -- it is dropped
  have drop : ∀ ρ : zS, RI ar pd m9 ρ (A.1, fu A.2 90 (zwa (A.2 90) 1)) → ¬ inB M → RI ar pd m9 (zI ρ 91 (zwa (ρ.1 91) 1)) (keepA x0 x1 x2 M A) := fun ρ h hb => by
    rw [keepA_no hb]
    have e : ρ.1 91 = A.2 91 := by
      have := h.2.2.2.1.2.2.2.1
      rw [this]; simp [fu]
    rw [e]
    exact h.u
  rw [← hM] at wM ml ⊢
  by_cases l8 : ¬ L.length ≤ 8
  · refine ⟨zI σ1 91 (zwa (σ1.1 91) 1), by rw [e1, if_neg (by omega)], drop σ1 I1 (fun w => l8 (by rw [← ml]; exact w.1)), ?_⟩
    have g : FCo σ σ1 := f1.w
    exact g.trans FrC_I
  have l8 := Classical.not_not.mp l8
  have hB1 : EB ar pd m9 σ1 B := hB.lo ⟨f1.pq, fun v => ⟨f1.a 106 v, f1.a 107 v⟩⟩
  have hL1 : PL ar m9 σ1 L := hL.f f1 f1.pq
  have i113 : σ1.1 113 = σ.1 113 := f1.i 113
  have hr1 : 0 ≤ σ1.1 113 → AT ar m9 σ1 (σ1.1 114) 0 r := fun h => by
    rw [i113] at h
    rw [f1.i 114]; exact (hr h).p f1.pq
  have s36 := cw_36 hβ hB1 hL1 hr1 (x0 := x0) (x1 := x1) (x2 := x2) L [] 0 rfl (Nat.le_refl _)
  rw [Nat.zero_add] at s36
  obtain ⟨c1', c2', c3'⟩ := cSm_le (θ := rs B) (r := r) (P := σ1.1 113) L
  obtain ⟨S, hS⟩ : ∃ S, S = cSm (rs B) r (σ1.1 113) L := ⟨_, rfl⟩
  have hM1 : M = mpL (st (rs B)) (cR r (σ1.1 113) L) := by rw [i113]; exact hM
  rw [← hS] at s36 c1' c2' c3'
  rw [← hM1] at c1' c2'
  have s36' : zE tM_conclude_36 β σ1 [x0, x1, x2, 0, 0] = zE tM_conclude_36 β σ1 [x0, x1, x2, (S : Int), (L.length : Int)] := s36
  have e2 : zE tM_conclude β σ [x0, x1, x2] = if S ≤ 100 then zE tM_conclude_148 β (zI (zI σ1 47 205000) 98 0) [x0, x1, x2, (S : Int), 0] else some (zI σ1 91 (zwa (σ1.1 91) 1), 0) := by
    rw [e1, if_pos (by omega), s36', zq_conclude_36, kZ_conclude_36, n112, if_pos (Int.le_refl _)]
    by_cases q : S ≤ 100
    · rw [if_pos (by omega), if_pos q, lt_e, lt_e]
    · rw [if_neg (by omega), if_neg q, lt_e]
  by_cases w100 : ¬ S ≤ 100
  · refine ⟨zI σ1 91 (zwa (σ1.1 91) 1), by rw [e2, if_neg w100], drop σ1 I1 (fun w => w100 (by have := w.2.1; omega)), ?_⟩
    have g : FCo σ σ1 := f1.w
    exact g.trans FrC_I
  have w100 := Classical.not_not.mp w100
  have wt100 : wtL M ≤ 100 := by have := c2' w100; omega
  obtain ⟨σ3, hσ3⟩ : ∃ z, z = zI (zI σ1 47 205000) 98 0 := ⟨_, rfl⟩
  have f3 : FrC [47, 98] [] σ1 σ3 := by
    have b : FrC [47, 98] [] σ1 (zI σ1 47 205000) := FrC_I
    rw [hσ3]; exact b.trans FrC_I
  have i113b : σ3.1 113 = σ.1 113 := by rw [f3.i 113, i113]
  have hB3 : EB ar pd m9 σ3 B := hB1.lo ⟨f3.pq, fun v => ⟨f3.a 106 v, f3.a 107 v⟩⟩
  have hL3 : PL ar m9 σ3 L := hL1.f f3 f3.pq
  have hr3 : 0 ≤ σ3.1 113 → AT ar m9 σ3 (σ3.1 114) 0 r := fun h => by
    rw [f3.i 113] at h
    rw [f3.i 114]; exact (hr1 h).p f3.pq
  have hM3 : M = mpL (st (rs B)) (cR r (σ3.1 113) L) := by rw [i113b]; exact hM
  have C0 : CB ar m9 σ3 σ3 [] := by
    refine ⟨FrC.refl, PB.refl, ⟨by rw [hσ3, zI_1]; rfl, by simp, fun i e h => by simp at h, trivial, by simp [wtL]⟩, ?_, fun f h => by cases h⟩
    rw [hσ3, zI_o, zI_1]; simp [wtL]
  obtain ⟨σ4, E, t1, t2, t3⟩ := cb_148 hβ hB3 hL3 hr3 l8 (by rw [← hM3]; exact wM) (by rw [← hM3]; exact wt100) (x0 := x0) (x1 := x1) (x2 := x2) (x3 := (S : Int)) L [] [] σ3 rfl rfl C0
  rw [← hM3] at t2
  obtain ⟨f4, p4, hQ, h47, hends⟩ := t3
  have I4 : RI ar pd m9 σ4 (A.1, fu A.2 90 (zwa (A.2 90) 1)) := (I1.f f3 f3.pq).f f4 p4
  have gF : FCo σ σ4 := (f1.w.trans f3.w).trans f4.w
  have t1' : zE tM_conclude_148 β σ3 [x0, x1, x2, (S : Int), 0] = zE tM_conclude_148 β σ4 [x0, x1, x2, (S : Int), (L.length : Int)] := t1
  obtain ⟨σ5, d1, d2⟩ := dis_ok (β := β - 1) (by omega) hQ
  have I5 : RI ar pd m9 σ5 (A.1, fu A.2 90 (zwa (A.2 90) 1)) := I4.f d2 d2.pq
  have Q5 : RQ ar (fun c => c < m9) σ5 E := hQ.f d2 (fun e _ => ⟨d2.pq, d2.pq⟩)
  have g5 : FCo σ σ5 := gF.trans d2.w
  rw [t2] at d1
  have n4 : σ4.1 112 = (L.length : Int) := by rw [f4.i 112, f3.i 112]; exact n112
  by_cases h6 : ¬ (ntL [] M).length ≤ 6
  · refine ⟨zI σ5 91 (zwa (σ5.1 91) 1), ?_, drop σ5 I5 (fun w => h6 w.2.2), g5.trans FrC_I⟩
    rw [e2, if_pos w100, ← hσ3, t1', zq_conclude_148, kZ_conclude_148, n4, if_pos (Int.le_refl _), if_pos (by omega), zbd_of d1, if_neg (by omega), lt_e]
  have h6 := Classical.not_not.mp h6
  have hin : inB M := ⟨by rw [ml]; exact l8, wt100, h6⟩
  obtain ⟨σ6, E2, r1, r2, r3, r4, r5, r6, r7, r8⟩ := rq_red (β := β - 1) (fun c h => h) (by omega) I5 Q5 (by rw [t2]; exact h6)
  rw [t2] at r2 r4 r5 r6
  have g6 : FCo σ σ6 := g5.trans r8.w
  have e284 : ∀ ρ : zS, zE tM_conclude_284 β ρ [x0, x1, x2, (S : Int), (L.length : Int)] = some (ρ, 0) := fun ρ => by rw [zq_conclude_284, kZ_conclude_284]
  have e3 : zE tM_conclude β σ [x0, x1, x2] = if b2 (tautL (rnL [] (ddL [] M))) = 0 then zbd (zE tM_keep (β - 1) σ6 [x0, x1, x2]) (fun σ4 _ => zE tM_conclude_284 β σ4 [x0, x1, x2, (S : Int), (L.length : Int)]) else zE tM_conclude_284 β (zI σ6 94 (zwa (σ6.1 94) 1)) [x0, x1, x2, (S : Int), (L.length : Int)] := by
    rw [e2, if_pos w100, ← hσ3, t1', zq_conclude_148, kZ_conclude_148, n4, if_pos (Int.le_refl _), if_pos (by omega), zbd_of d1, if_pos (by omega), if_pos (by omega), zbd_of r1, if_pos (by omega), zbd_of r2]
    rw [if_pos (show 1 ≤ β by omega)]
    rfl
  by_cases ht : tautL (rnL [] (ddL [] M))
  · refine ⟨zI σ6 94 (zwa (σ6.1 94) 1), by rw [e3, b2_t ht, if_neg (by omega), e284], ?_, g6.trans FrC_I⟩
    rw [keepA_t hin ht]
    have e : σ6.1 94 = A.2 94 := by
      have := r7.2.2.2.1.2.2.2.2.2.2
      rw [this]; simp [fu]
    rw [e]; exact r7.u
  · by_cases hn : A.1.length = 2000
    · obtain ⟨τ, k1, k2, k3⟩ := rk_full (β := β - 1) (x0 := x0) (x1 := x1) (x2 := x2) r7 hn
      refine ⟨τ, by rw [e3, b2_f ht, if_pos rfl, zbd_of k1, e284], ?_, g6.trans k3.w⟩
      rw [keepA_f hin ht hn]; exact k2
    · obtain ⟨τ, k1, k2, k3⟩ := rk_ok (β := β - 1) (x0 := x0) (x1 := x1) (x2 := x2) (by omega) r7 r3 (by rw [r4]; exact r5) (by rw [r4]; exact r6) hn
      refine ⟨τ, by rw [e3, b2_f ht, if_pos rfl, zbd_of k1, e284], ?_, g6.trans k3.w⟩
      rw [keepA_n hin ht hn, ← r4]; exact k2
end conc2
