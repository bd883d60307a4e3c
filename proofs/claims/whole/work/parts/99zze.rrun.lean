/-! the reference: a STEP, whole, and a run of them -/
section step3
variable {ar : Int → Nat} {pd : Int → Prop} {m9 : Int}
theorem gvA_n {A : PA} (h : chQ (if Int.tmod (zwa (A.2 89) 1) 5 = 0 then 1 else 0) A.1 0 none = none) : gvA pd A = ((A.1, fu A.2 87 2), none, []) := by unfold gvA; rw [h]
theorem gvA_s {A : PA} {g : Nat} {c : CL} (h : chQ (if Int.tmod (zwa (A.2 89) 1) 5 = 0 then 1 else 0) A.1 0 none = some g) (hg : A.1[g]? = some c) : gvA pd A = if c.1.length = 0 then gvB pd ((stA A.1 g 2, fu A.2 89 (zwa (A.2 89) 1)), some g) else gvB pd (rwA pd g c.1 (stA A.1 g 2, fu A.2 89 (zwa (A.2 89) 1))) := by
  unfold gvA
  rw [h]
  dsimp only
  rw [hg]
theorem stG_n {A : PA} {P : List Int} : stG ar pd m9 (A, none, P) = (A, P) := rfl
theorem rstep_ok {β : Nat} (hβ : 1645 ≤ β) {σ : zS} {A : PA} {P : List Int} (hS : RSt ar pd m9 σ A P) (h0 : A.2 87 = 0) : ∃ τ, zE tM_step1 β σ [] = some (τ, 0) ∧ RSt ar pd m9 τ (stepA ar pd m9 A).1 (stepA ar pd m9 A).2 ∧ FSt σ τ := by
  obtain ⟨hI, hS1, hS2⟩ := id hS
  have h88 := (hS1 (by rw [h0]; decide)).1
  have h20 := hI.1.2.1
  have k89 : σ.1 89 = A.2 89 := hI.2.2.2.1.2.1
  have gv := rg_ok (β := β - 1) hI.1
  rw [k89] at gv
  have h1 : 1 ≤ β := by omega
  have start : zE tM_step1 β σ [] = kZ_step1 zE β σ := zq_step1
  rw [stG_s]
  cases hq : chQ (if Int.tmod (zwa (A.2 89) 1) 5 = 0 then 1 else 0) A.1 0 none with
  | none =>
    rw [hq] at gv
    have e0 : no1 none = -1 := rfl
    rw [e0] at gv
    rw [gvA_n hq, stG_n]
    refine ⟨zI σ 87 2, ?_, ⟨hI.u, fun _ => ⟨by rw [zI_o]; exact h88, rfl⟩, fun w => ?_⟩, FrC_I⟩
    · rw [start, kZ_step1, if_pos h1, zbd_of gv, if_neg (by decide), lt_e]
    · have w' : fu A.2 87 2 87 = 1 := w
      rw [fu_s] at w'; omega
  | some g =>
    rw [hq] at gv
    have e0 : no1 (some g) = (g : Int) := rfl
    rw [e0] at gv
    obtain ⟨c, hg⟩ : ∃ c, A.1[g]? = some c := by
      rcases chQ_get hq with ⟨z, w, _⟩ | ⟨c, _, w, _⟩
      · cases w
      · exact ⟨c, by rw [Nat.sub_zero] at w; exact w⟩
    have gl := (List.getElem?_eq_some_iff.mp hg).1
    obtain ⟨σ3, hσ3⟩ : ∃ z, z = zA (zI σ 89 (zwa (A.2 89) 1)) 80 (g : Int) 2 := ⟨_, rfl⟩
    obtain ⟨A1, hA1⟩ : ∃ B : PA, B = (stA A.1 g 2, fu A.2 89 (zwa (A.2 89) 1)) := ⟨_, rfl⟩
    have I3 : RI ar pd m9 σ3 A1 := by
      rw [hσ3, hA1]
      exact (hI.u (j := 89) (x := zwa (A.2 89) 1)).st (k := g) (x := 2) gl
    have g1 : A1.1[g]? = some (cS c 2) := by rw [hA1]; exact stA_s hg
    have ec : (cS c 2).1 = c.1 := rfl
    have f3 : FSt σ σ3 := by
      have z : FSt σ (zI σ 89 (zwa (A.2 89) 1)) := FrC_I
      rw [hσ3]; exact z.trans FrC_A
    have h80 : A1.2 87 = 0 := by rw [hA1]; show fu A.2 89 (zwa (A.2 89) 1) 87 = 0; rw [fu_o]; exact h0
    have h883 : σ3.1 88 < 0 := by rw [hσ3, zA_1, zI_o]; exact h88
    have k74 : σ3.2.1 74 (g : Int) = (c.1.length : Int) := (I3.1.k g1).1.2.1
    have s1 : zE tM_step1 β σ [] = if (c.1.length : Int) = 0 then zbd (zE tM_refuted (β - 1) σ3 [(g : Int)]) (fun σ13 _ => some (σ13, 0)) else zbd (zE tM_rewrite (β - 1) σ3 [(g : Int)]) (fun σ4 r4 => if r4 ≤ 0 then zE tM_step1_192 β σ4 [(g : Int), r4] else zbd (zE tM_reduce (β - 1) (zI σ4 93 (zwa (σ4.1 93) r4)) []) (fun σ6 _ => zbd (zE tM_tautology (β - 1) σ6 []) (fun σ7 r7 => if r7 = 0 then zbd (zE tM_keep (β - 1) σ7 [4, (g : Int), -1]) (fun σ8 r8 => if r8 = 0 then some (σ8, 0) else (if zr ((σ8.1 84) - 1) then (if zb ((σ8.1 84) - 1) 2001 then zE tM_step1_139 β (zA (zA (zA σ8 80 ((σ8.1 84) - 1) 2) 81 ((σ8.1 84) - 1) (σ8.1 86)) 82 ((σ8.1 84) - 1) (σ8.1 120)) [((σ8.1 84) - 1), r4, (g : Int), 0] else none) else none)) else some (zI σ7 94 (zwa (σ7.1 94) 1), 0)))) := by
      rw [start, kZ_step1, if_pos h1, zbd_of gv, if_pos (by omega), lt_e, if_pos (by omega), lt_e, k89, ← hσ3, k74]
      by_cases q : (c.1.length : Int) = 0
      · rw [if_pos q, if_pos q, if_pos h1]
      · rw [if_neg q, if_neg q, if_pos h1]
        simp only [h1, if_true, lt_e]
        rfl
    rw [gvA_s hq hg, ← hA1]
    by_cases q : c.1.length = 0
    · obtain ⟨τ, t1, t2, t3⟩ := (ste_ok (x1 := 0) hβ g1 I3 h80 h883).1 q
      rw [if_pos q, stG_e g1]
      exact ⟨τ, by rw [s1, if_pos (by omega), zbd_of t1], t2, f3.trans t3⟩
    · rw [if_neg q]
      obtain ⟨σ4, E', U', n', r1, r2, r3, r4, r5, r6, r7⟩ := rrw_ok (β := β - 1) (by omega) I3.2.2.2.2.1 I3.2.2.2.2.2 I3.1 I3.2.2.1 g1
      rw [ec] at r1
      have I4 : RI ar pd m9 σ4 A1 := I3.f r7.1 r7.2
      have f4 : FSt σ σ4 := f3.trans r7.1.w
      have h884 : σ4.1 88 < 0 := by rw [r7.1.i 88]; exact h883
      by_cases hn : n' = 0
      · have e : rwA pd g c.1 A1 = (A1, some g) := by unfold rwA; rw [r1]; dsimp only; rw [if_pos hn]
        obtain ⟨τ, t1, t2, t3⟩ := (ste_ok (x1 := (n' : Int)) hβ g1 I4 h80 h884).2 q
        rw [e, stG_e g1]
        exact ⟨τ, by rw [s1, if_neg (by omega), zbd_of r2, if_pos (by omega), t1], t2, f4.trans t3⟩
      · have k93 : σ4.1 93 = A1.2 93 := I4.2.2.2.1.2.2.2.2.2.1
        obtain ⟨σ5, hσ5⟩ : ∃ z, z = zI σ4 93 (zwa (A1.2 93) (n' : Int)) := ⟨_, rfl⟩
        obtain ⟨A5, hA5⟩ : ∃ B : PA, B = (A1.1, fu A1.2 93 (zwa (A1.2 93) (n' : Int))) := ⟨_, rfl⟩
        have I5 : RI ar pd m9 σ5 A5 := by rw [hσ5, hA5]; exact I4.u
        have f45 : FrC [93] [] σ4 σ5 := by rw [hσ5]; exact FrC_I
        have E5 := r3.f f45 f45.pq (Int.le_of_eq (f45.i 47).symm)
        have n6 := nt6 E5.w
        obtain ⟨σ6, E2, v1, v2, v3, v4, v5, v6, v7, v8⟩ := rq_red (β := β - 1) (p := lb m9) (fun c hc => hc.2) (by omega) I5 E5.rq n6
        have f6 : FSt σ σ6 := (f4.trans f45.w).trans v8.w
        have h886 : σ6.1 88 < 0 := by rw [v8.i 88, f45.i 88]; exact h884
        have L6 : LU σ6 U' := ⟨by rw [v8.i 120, f45.i 120]; exact r4.1, Fl_q (fun x _ _ => by rw [v8.a 119, f45.a 119]) r4.2⟩
        have h870 : A5.2 87 = 0 := by rw [hA5]; show fu A1.2 93 (zwa (A1.2 93) (n' : Int)) 87 = 0; rw [fu_o]; exact h80
        obtain ⟨M, hM⟩ : ∃ M, M = rnL [] (ddL [] (lts E')) := ⟨_, rfl⟩
        rw [← hM] at v2 v4 v5 v6
        have s2 : zE tM_step1 β σ [] = if b2 (tautL M) = 0 then zbd (zE tM_keep (β - 1) σ6 [4, (g : Int), -1]) (fun σ8 r8 => if r8 = 0 then some (σ8, 0) else (if zr ((σ8.1 84) - 1) then (if zb ((σ8.1 84) - 1) 2001 then zE tM_step1_139 β (zA (zA (zA σ8 80 ((σ8.1 84) - 1) 2) 81 ((σ8.1 84) - 1) (σ8.1 86)) 82 ((σ8.1 84) - 1) (σ8.1 120)) [((σ8.1 84) - 1), (n' : Int), (g : Int), 0] else none) else none)) else some (zI σ6 94 (zwa (σ6.1 94) 1), 0) := by
          rw [s1, if_neg (by omega), zbd_of r2, if_neg (by omega), k93, ← hσ5, zbd_of v1, zbd_of v2]
        have l5 : A5.1 = A1.1 := by rw [hA5]
        by_cases ht : tautL M
        · have e : rwA pd g c.1 A1 = ((A5.1, fu A5.2 94 (zwa (A5.2 94) 1)), none) := by
            unfold rwA
            rw [r1]
            dsimp only
            rw [if_neg hn, ← hM, if_pos ht, hA5]
            dsimp only
            rw [show fu A1.2 93 (zwa (A1.2 93) (n' : Int)) 94 = A1.2 94 from fu_o]
          have k94 : σ6.1 94 = A5.2 94 := v7.2.2.2.1.2.2.2.2.2.2
          have e' : stG ar pd m9 (gvB pd (rwA pd g c.1 A1)) = ((A5.1, fu A5.2 94 (zwa (A5.2 94) 1)), []) := by rw [e]; rfl
          rw [e']
          refine ⟨zI σ6 94 (zwa (σ6.1 94) 1), by rw [s2, b2_t ht, if_neg (by decide)], ⟨by rw [k94]; exact v7.u, fun _ => ⟨by rw [zI_o]; exact h886, rfl⟩, fun w => ?_⟩, f6.trans FrC_I⟩
          have w' : fu A5.2 94 (zwa (A5.2 94) 1) 87 = 1 := w
          rw [fu_o, h870] at w'; omega
        · by_cases hl : A5.1.length = 2000
          · obtain ⟨τ, t1, t2, t3⟩ := rk_full (β := β - 1) (x0 := 4) (x1 := (g : Int)) (x2 := -1) v7 hl
            have e : rwA pd g c.1 A1 = ((A5.1, fu A5.2 87 3), none) := by
              unfold rwA
              rw [r1]
              dsimp only
              rw [if_neg hn, ← hM, if_neg ht, if_pos (by rw [← l5]; exact hl), hA5]
            have e' : stG ar pd m9 (gvB pd (rwA pd g c.1 A1)) = ((A5.1, fu A5.2 87 3), []) := by rw [e]; rfl
            rw [e']
            refine ⟨τ, by rw [s2, b2_f ht, if_pos rfl, zbd_of t1, if_pos rfl], ⟨t2, fun _ => ⟨by rw [t3.i 88]; exact h886, rfl⟩, fun w => ?_⟩, f6.trans t3.w⟩
            have w' : fu A5.2 87 3 87 = 1 := w
            rw [fu_s] at w'; omega
          · obtain ⟨σ8, t1, t2, t3⟩ := rk_ok (β := β - 1) (x0 := 4) (x1 := (g : Int)) (x2 := -1) (by omega) v7 v3 (by rw [v4]; exact v5) (by rw [v4]; exact v6) hl
            rw [v4] at t2
            have l20 := v7.1.2.1
            have h84 : σ8.1 84 = (A5.1.length : Int) + 1 := by
              have := t2.1.1
              rw [this]; simp
            have n84 : σ8.1 84 - 1 = (A5.1.length : Int) := by omega
            have h86 : 0 ≤ σ8.1 86 ∧ σ8.1 86 ≤ 60 * (A5.1.length : Int) := by rw [t3.i 86]; exact v7.1.2.2.2.2.1
            have L8 : LU σ8 U' := ⟨by rw [t3.i 120]; exact L6.1, Fl_q (fun x _ _ => t3.a 119 x) L6.2⟩
            obtain ⟨N, hN⟩ : ∃ N : Int, N = (A5.1.length : Int) := ⟨_, rfl⟩
            obtain ⟨σ9, hσ9⟩ : ∃ z, z = zA (zA (zA σ8 80 N 2) 81 N (σ8.1 86)) 82 N (σ8.1 120) := ⟨_, rfl⟩
            have f89 : FrC [86] [80, 81, 82, 83] σ8 σ9 := by
              have z1 : FrC [86] [80, 81, 82, 83] σ8 (zA σ8 80 N 2) := FrC_A
              have z2 := z1.trans (FrC_A (k := 81) (i := N) (x := σ8.1 86))
              rw [hσ9]; exact z2.trans FrC_A
            have L9 : LU σ9 U' := ⟨by rw [f89.i 120]; exact L8.1, Fl_q (fun x _ _ => f89.a 119 x) L8.2⟩
            have i86 : σ9.1 86 = σ8.1 86 := by rw [hσ9]; rfl
            have U60 : U'.length ≤ 60 := by omega
            obtain ⟨σ10, w1, w2, w3, w4, w5⟩ := st_139 (β := β) (x0 := N) (x1 := (n' : Int)) (x2 := (g : Int)) (b := σ8.1 86) U60 h86.1 (by omega) U'.length 0 σ9 (by omega) L9 (by rw [i86]; omega) trivial
            have I10 : RI ar pd m9 σ10 (A5.1 ++ [(M, 4, (g : Int), -1, 2, U')], A5.2) := by
              refine t2.us h86 (f89.trans w2.w) (fun j x hj hx => ?_) ?_ ?_ ?_ (fun x hx => ?_) w5 w4 U60
              · rw [← hN] at hx
                have : σ10.2.1 j x = σ9.2.1 j x := by
                  rcases hj with rfl | rfl | rfl
                  · exact w2.a 80 x
                  · exact w2.a 81 x
                  · exact w2.a 82 x
                rw [this, hσ9, zA_i hx, zA_i hx, zA_i hx]
              · rw [← hN, w2.a 80, hσ9, zA_j, zA_j, zA_s]
              · rw [← hN, w2.a 81, hσ9, zA_j, zA_s]
              · rw [← hN, w2.a 82, hσ9, zA_s]; exact L8.1
              · rw [w3 x hx, hσ9, zA_j, zA_j, zA_j]
            obtain ⟨A9, hA9⟩ : ∃ B : PA, B = (A5.1 ++ [(M, 4, (g : Int), -1, 2, U')], A5.2) := ⟨_, rfl⟩
            obtain ⟨c9, hc9⟩ : ∃ d : CL, d = (M, 4, (g : Int), -1, 2, U') := ⟨_, rfl⟩
            rw [← hA9] at I10
            have g9 : A9.1[A5.1.length]? = some c9 := by rw [hA9, hc9, List.getElem?_append_right (Nat.le_refl _), Nat.sub_self]; rfl
            have e : rwA pd g c.1 A1 = (A9, some A5.1.length) := by
              unfold rwA
              rw [r1]
              dsimp only
              rw [if_neg hn, ← hM, if_neg ht, if_neg (by rw [← l5]; exact hl), hA9, hA5]
            rw [e, stG_e g9]
            have h870' : A9.2 87 = 0 := by rw [hA9]; exact h870
            have h8810 : σ10.1 88 < 0 := by rw [w2.i 88, f89.i 88, t3.i 88]; exact h886
            have f10 : FSt σ σ10 := ((f6.trans t3.w).trans f89.w).trans w2.w
            have k74' : σ10.2.1 74 N = (c9.1.length : Int) := by rw [hN]; exact (I10.1.k g9).1.2.1
            have h120 : σ10.1 120 = (U'.length : Int) := by rw [w2.i 120]; exact L9.1
            have w1' : zE tM_step1_139 β σ9 [N, (n' : Int), (g : Int), 0] = _ := w1
            have s3 : zE tM_step1 β σ [] = if (c9.1.length : Int) = 0 then zbd (zE tM_refuted (β - 1) σ10 [N]) (fun σ1 _ => some (σ1, 0)) else zE tM_step1_192 β σ10 [N, (n' : Int)] := by
              rw [s2, b2_f ht, if_pos rfl, zbd_of t1, if_neg (by decide), n84, if_pos (by omega), if_pos (by omega), ← hN, ← hσ9, w1', zq_step1_139, kZ_step1_139, h120, if_pos (Int.le_refl _), if_pos (by omega), k74']
              by_cases z : (c9.1.length : Int) = 0
              · rw [if_pos z, if_pos z, if_pos h1]
              · rw [if_neg z, if_neg z]
            obtain ⟨x1, x2⟩ := ste_ok (x1 := (n' : Int)) hβ g9 I10 h870' h8810
            rw [← hN] at x1 x2
            by_cases z : c9.1.length = 0
            · obtain ⟨τ, y1, y2, y3⟩ := x1 z
              exact ⟨τ, by rw [s3, if_pos (by omega), zbd_of y1], y2, f10.trans y3⟩
            · obtain ⟨τ, y1, y2, y3⟩ := x2 z
              exact ⟨τ, by rw [s3, if_neg (by omega), y1], y2, f10.trans y3⟩
theorem rrun_33 {β : Nat} (hβ : 1646 ≤ β) : ∀ (m n : Nat) (σ : zS) (A : PA) (P : List Int), RSt ar pd m9 σ A P → n + m ≤ 100 → ∃ τ, zE tM_run_33 β σ [((n + m : Nat) : Int), (n : Int)] = some (τ, (runA ar pd m9 m (A, P)).1.2 87) ∧ RSt ar pd m9 τ (runA ar pd m9 m (A, P)).1 (runA ar pd m9 m (A, P)).2 ∧ FSt σ τ
  | 0, n, σ, A, P, hS, hm => by
    refine ⟨σ, ?_, hS, FrC.refl⟩
    rw [zq_run_33, kZ_run_33, if_pos (by omega), zq_run_55, kZ_run_55, hS.1.2.2.2.1.1]; rfl
  | m + 1, n, σ, A, P, hS, hm => by
    have k87 : σ.1 87 = A.2 87 := hS.1.2.2.2.1.1
    by_cases h0 : A.2 87 = 0
    · obtain ⟨σ1, s1, s2, s3⟩ := rstep_ok (β := β - 1) (by omega) hS h0
      obtain ⟨τ, t1, t2, t3⟩ := rrun_33 hβ m (n + 1) σ1 _ _ s2 (by omega)
      have e : runA ar pd m9 (m + 1) (A, P) = runA ar pd m9 m (stepA ar pd m9 A) := by
        show (if A.2 87 = 0 then _ else _) = _
        rw [if_pos h0]
      rw [e]
      refine ⟨τ, ?_, t2, s3.trans t3⟩
      rw [show n + 1 + m = n + (m + 1) by omega] at t1
      rw [zq_run_33, kZ_run_33, if_neg (by omega), if_pos (by omega), if_pos (by omega), zbd_of s1, if_pos (by omega), show (n : Int) + 1 = ((n + 1 : Nat) : Int) by omega]
      exact t1
    · have e : runA ar pd m9 (m + 1) (A, P) = (A, P) := by
        show (if A.2 87 = 0 then _ else _) = _
        rw [if_neg h0]
      rw [e]
      refine ⟨σ, ?_, hS, FrC.refl⟩
      rw [zq_run_33, kZ_run_33, if_neg (by omega), if_neg (by omega), zq_run_55, kZ_run_55, k87]
end step3
