/-! the reference: what lies behind the CLAUSES stays -/
theorem rk_ok2 {ar : Int → Nat} {pd : Int → Prop} {m9 : Int} {β : Nat} (hβ : 213 ≤ β) {σ : zS} {A : PA} (hI : RI ar pd m9 σ A) {E : List En} (hD : RD σ E) (wR : Wc ar m9 (lts E)) (hv : σ.1 101 = ((ntL [] (lts E)).length : Int)) {x0 x1 x2 : Int} (hn : A.1.length ≠ 2000) : ∃ τ, zE tM_keep β σ [x0, x1, x2] = some (τ, 1) ∧ RI ar pd m9 τ (A.1 ++ [(lts E, x0, x1, x2, 0, [])], A.2) ∧ KP σ τ ∧ ∀ j q, (j = 43 ∨ j = 44 ∨ j = 45 ∨ j = 46) → 205000 ≤ q → τ.2.1 j q = σ.2.1 j q := by
  obtain ⟨hR, hJ, hp, hK, m0, wC⟩ := id hI
  obtain ⟨r1, r2, r3, ⟨r4, r4'⟩, ⟨r5, r5'⟩, r6, r7⟩ := id hR
  have l8 := lpF_8 r6
  have h8 := wR.1
  rw [List.length_map] at h8
  have w100 := wR.2.1
  obtain ⟨n, hn'⟩ : ∃ n : Int, n = (A.1.length : Int) := ⟨_, rfl⟩
  -- what is written first
  obtain ⟨σ0, hσ0⟩ : ∃ z, z = zI (zA (zA (zA (zA (zA (zA (zA (zA (zA (zA σ 73 n (σ.1 72)) 74 n (σ.1 98)) 77 n x0) 78 n x1) 79 n x2) 80 n 0) 81 n (σ.1 86)) 82 n 0) 76 n (σ.1 101)) 75 n 0) 47 (σ.1 105) := ⟨_, rfl⟩
  have f0 : FrC [47] [73, 74, 75, 76, 77, 78, 79, 80, 81, 82] σ σ0 := by
    rw [hσ0]
    have b1 : FrC [47] [73, 74, 75, 76, 77, 78, 79, 80, 81, 82] σ (zA σ 73 n (σ.1 72)) := FrC_A
    have b2 := b1.trans (FrC_A (σ := zA σ 73 n (σ.1 72)) (k := 74) (i := n) (x := σ.1 98))
    have b3 := b2.trans (FrC_A (k := 77) (i := n) (x := x0))
    have b4 := b3.trans (FrC_A (k := 78) (i := n) (x := x1))
    have b5 := b4.trans (FrC_A (k := 79) (i := n) (x := x2))
    have b6 := b5.trans (FrC_A (k := 80) (i := n) (x := 0))
    have b7 := b6.trans (FrC_A (k := 81) (i := n) (x := σ.1 86))
    have b8 := b7.trans (FrC_A (k := 82) (i := n) (x := 0))
    have b9 := b8.trans (FrC_A (k := 76) (i := n) (x := σ.1 101))
    have b10 := b9.trans (FrC_A (k := 75) (i := n) (x := 0))
    exact b10.trans FrC_I
  have o0 : ∀ j q, q ≠ n → σ0.2.1 j q = σ.2.1 j q := fun j q hq => by
    rw [hσ0, zI_2, zA_i hq, zA_i hq, zA_i hq, zA_i hq, zA_i hq, zA_i hq, zA_i hq, zA_i hq, zA_i hq, zA_i hq]
  have D0 : RD σ0 E := by
    refine ⟨by rw [f0.i 98]; exact hD.1, fun i e he => ?_⟩
    obtain ⟨⟨a1, a2, a3⟩, ⟨b1, b2⟩, c1, c2⟩ := hD.2 i e he
    exact ⟨⟨by rw [f0.a 95]; exact a1, by rw [f0.a 96]; exact a2, by rw [f0.a 97]; exact a3⟩, ⟨Px_q b1 f0.pq, Px_q b2 f0.pq⟩, c1, c2⟩
  have K0 : KI σ0 σ0 (lts E) n (lpF A.1 : Int) (σ.1 105) 0 := by
    refine ⟨FrC.refl, by rw [hσ0, zI_1]; simp [wtL], by rw [f0.i 72, r3]; omega, ?_, fun _ _ => rfl, fun _ _ _ _ => rfl, fun _ _ _ _ => rfl, fun t a h => by omega⟩
    rw [hσ0, zI_2, zA_s]; simp [wtL]
  obtain ⟨σ1, t1, g1, k47, k72, k75, o75, olit, opool, hlit⟩ := kp_126 (β := β) (x0 := x0) (x1 := x1) (x2 := x2) (by omega) D0 wR (n := n) (L0 := (lpF A.1 : Int)) (M0 := σ.1 105) (by omega) (by omega) (by omega) (by omega) r4 (by omega) E.length 0 σ0 K0 (by omega)
  have tl : (lts E).take E.length = lts E := by rw [← List.length_map (f := fun e : En => e.1), List.take_length]
  rw [tl] at k47 k75
  obtain ⟨σ2, hσ2⟩ : ∃ z, z = zI (zI σ1 105 (σ1.1 47)) 84 (n + 1) := ⟨_, rfl⟩
  have g2 : FrC [84, 105] [] σ1 σ2 := by
    have b : FrC [84, 105] [] σ1 (zI σ1 105 (σ1.1 47)) := FrC_I
    rw [hσ2]; exact b.trans FrC_I
  have e2 : σ2.2 = σ1.2 := by rw [hσ2]; rfl
  -- the CLAUSES
  obtain ⟨New, hNew⟩ : ∃ c : CL, c = (lts E, x0, x1, x2, 0, []) := ⟨_, rfl⟩
  have lc : (A.1 ++ [New]).length = A.1.length + 1 := by simp
  have b73 : ∀ j q, j ∈ [73, 74, 76, 77, 78, 79, 80, 81, 82, 83] → σ2.2.1 j q = σ0.2.1 j q := fun j q hj => by
    rw [e2]
    refine g1.2.1 j q ?_
    simp only [List.mem_cons, List.not_mem_nil, or_false] at hj
    rcases hj with rfl | rfl | rfl | rfl | rfl | rfl | rfl | rfl | rfl | rfl <;> decide
  have R2 : RC σ2 (A.1 ++ [New]) := by
    refine ⟨by rw [hσ2, zI_1, lc]; omega, by omega, ?_, ⟨?_, ?_⟩, ⟨?_, ?_⟩, fun c hc => ?_, fun k c hc => ?_⟩
    · rw [g2.i 72, k72, lpF_app]
      have : lpF [New] = E.length := by rw [hNew]; simp [lpF]
      rw [this]; omega
    · rw [hσ2, zI_o, zI_1, k47]; omega
    · rw [hσ2, zI_o, zI_1, k47, lc]; omega
    · rw [g2.i 86, g1.i 86, f0.i 86]; exact r5
    · rw [g2.i 86, g1.i 86, f0.i 86, lc]; omega
    · rcases List.mem_append.mp hc with z | z
      · exact r6 c z
      · simp at z; subst z; rw [hNew]; show (lts E).length ≤ 8; rw [List.length_map]; exact h8
    · by_cases hk : k < A.1.length
      · rw [List.getElem?_append_left hk] at hc
        rw [lpos_app (by omega)]
        obtain ⟨⟨c1, c2, c3, c4, c5, c6, c7, c8, c9, c10, c11, c12⟩, hl⟩ := r7 k c hc
        have lk := lpF_le hc
        have kn : (k : Int) ≠ n := by omega
        refine ⟨?_, fun i a ha => ?_⟩
        · have ek : ∀ j, j ∈ [73, 74, 76, 77, 78, 79, 80, 81, 82, 83] → σ2.2.1 j (k : Int) = σ.2.1 j (k : Int) := fun j hj => by rw [b73 j _ hj, o0 j _ kn]
          unfold RCk
          rw [ek 73 (by simp), ek 74 (by simp), ek 76 (by simp), ek 77 (by simp), ek 78 (by simp), ek 79 (by simp), ek 80 (by simp), ek 81 (by simp), ek 82 (by simp), e2, o75 _ kn, o0 75 _ kn, g2.i 86, g1.i 86, f0.i 86]
          refine ⟨c1, c2, c3, c4, c5, c6, c7, c8, c9, c10, c11, Fl_q (fun q q0 q1 => ?_) c12⟩
          rw [g1.a 83, f0.a 83]
        · obtain ⟨l1, l2, l3, l4, l5, l6⟩ := hl i a ha
          have il := (List.getElem?_eq_some_iff.mp ha).1
          have jl : lpos A.1 k + (i : Int) < (lpF A.1 : Int) := by unfold lpos; omega
          have lit : ∀ j, (j = 66 ∨ j = 67 ∨ j = 68 ∨ j = 70) → σ2.2.1 j (lpos A.1 k + (i : Int)) = σ.2.1 j (lpos A.1 k + (i : Int)) := fun j hj => by
            rw [e2, olit j _ hj jl]
            refine f0.2.1 j _ ?_
            rcases hj with rfl | rfl | rfl | rfl <;> decide
          have e1' : tw a.2.1 = 1 + wt a.2.1.2 := rfl
          have e2' : tw a.2.2 = 1 + wt a.2.2.2 := rfl
          have pq : Pq σ σ2 0 (σ.1 105) := fun j q b1 b2 b3 => by rw [e2, opool j q b3 (Or.inl b2), f0.pq (lo := 0) (hi := σ.1 105) (h3 := by decide) (h4 := by decide) (h5 := by decide) (h6 := by decide) j q b1 b2 b3]
          have z1 := l1.1.1
          have z2 := l2.1.1
          unfold RLi
          rw [lit 66 (by simp), lit 67 (by simp), lit 68 (by simp), lit 70 (by simp)]
          have i105 : σ2.1 105 = σ.1 105 + (wtL (lts E) : Int) := by rw [hσ2, zI_o, zI_1, k47]
          exact ⟨Px_q l1 (Pq.w pq z1 (by omega)), Px_q l2 (Pq.w pq z2 (by omega)), by omega, by omega, l5, l6⟩
      · have hk2 : k = A.1.length := by
          have := (List.getElem?_eq_some_iff.mp hc).1
          rw [lc] at this; omega
        subst hk2
        rw [List.getElem?_append_right (Nat.le_refl _), Nat.sub_self] at hc
        obtain rfl := Option.some.inj hc
        rw [lpos_len, hNew]
        have s0 : ∀ j, σ0.2.1 j n = (zA (zA (zA (zA (zA (zA (zA (zA (zA (zA σ 73 n (σ.1 72)) 74 n (σ.1 98)) 77 n x0) 78 n x1) 79 n x2) 80 n 0) 81 n (σ.1 86)) 82 n 0) 76 n (σ.1 101)) 75 n 0).2.1 j n := fun j => by rw [hσ0, zI_2]
        refine ⟨?_, fun i a ha => ?_⟩
        · unfold RCk
          rw [← hn', b73 73 _ (by simp), b73 74 _ (by simp), b73 76 _ (by simp), b73 77 _ (by simp), b73 78 _ (by simp), b73 79 _ (by simp), b73 80 _ (by simp), b73 81 _ (by simp), b73 82 _ (by simp), e2, k75, g2.i 86, g1.i 86, f0.i 86, s0 73, s0 74, s0 76, s0 77, s0 78, s0 79, s0 80, s0 81, s0 82]
          refine ⟨?_, ?_, rfl, ?_, ?_, ?_, ?_, ?_, ?_, ?_, ?_, trivial⟩
          · rw [zA_j, zA_j, zA_j, zA_j, zA_j, zA_j, zA_j, zA_j, zA_j, zA_s]; exact r3
          · rw [zA_j, zA_j, zA_j, zA_j, zA_j, zA_j, zA_j, zA_j, zA_s, hD.1]
            show (E.length : Int) = ((lts E).length : Int)
            rw [List.length_map]
          · rw [zA_j, zA_s]; exact hv
          · rw [zA_j, zA_j, zA_j, zA_j, zA_j, zA_j, zA_j, zA_s]
          · rw [zA_j, zA_j, zA_j, zA_j, zA_j, zA_j, zA_s]
          · rw [zA_j, zA_j, zA_j, zA_j, zA_j, zA_s]
          · rw [zA_j, zA_j, zA_j, zA_j, zA_s]
          · rw [zA_j, zA_j, zA_s]; rfl
          · rw [zA_j, zA_j, zA_j, zA_s]; exact r5
          · rw [zA_j, zA_j, zA_j, zA_s]
            show σ.1 86 + ((0 : Nat) : Int) ≤ σ.1 86
            omega
        · have il := (List.getElem?_eq_some_iff.mp ha).1
          have il' : i < E.length := by rw [← List.length_map (f := fun e : En => e.1)]; exact il
          obtain ⟨z1, z2, z3, z4, z5, z6, _⟩ := hlit i a il' ha
          have i105 : σ2.1 105 = σ1.1 47 := by rw [hσ2, zI_o, zI_1]
          unfold RLi
          rw [e2, i105]
          exact ⟨Px_q z1 (fun j q _ _ _ => by rw [e2]), Px_q z2 (fun j q _ _ _ => by rw [e2]), z3, z4, z5, z6⟩
  have hcN : (A.1 ++ [New])[A.1.length]? = some New := by rw [List.getElem?_append_right (Nat.le_refl _), Nat.sub_self]; rfl
  have wN : Wc ar m9 New.1 := by rw [hNew]; exact wR
  obtain ⟨τ, u1, u2, u3, u4⟩ := lk_ok (β := β - 1) hcN wN (by omega) R2
  rw [lpos_len] at u3 u4
  have nl : New.1.length = E.length := by rw [hNew]; show (lts E).length = _; rw [List.length_map]
  have fT : KP σ τ := ((f0.w.trans g1.w).trans g2.w).trans u2.w
  refine ⟨τ, ?_, ⟨?_, ?_, hp.f fT, hK.f fT, m0, fun c hc => ?_⟩, fT, fun j q hj hq => ?_⟩
  · have j98 : ∀ ρ : zS, ρ.1 = σ.1 → ρ.1 98 = σ.1 98 := fun ρ h => by rw [h]
    have n98 : σ1.1 98 = (E.length : Int) := by rw [g1.i 98, f0.i 98]; exact hD.1
    have n84 : σ1.1 84 = n := by rw [g1.i 84, f0.i 84, r1, hn']
    have go : zE tM_keep β σ [x0, x1, x2] = zE tM_keep_126 β σ0 [x0, x1, x2, n, 0] := by
      rw [zq_keep, kZ_keep, r1, ← hn', if_neg (by omega), if_pos (by omega), lt_e, lt_e, lt_e, lt_e, lt_e, lt_e, lt_e, lt_e, lt_e, lt_e, lt_e]
      rw [hσ0]
      rfl
    have t1' : zE tM_keep_126 β σ0 [x0, x1, x2, n, 0] = _ := t1
    have hn'' : n = ((A.1.length : Nat) : Int) := hn'
    rw [go, t1', zq_keep_126, kZ_keep_126, n98, if_pos (Int.le_refl _), lt_e, zI_o, n84, if_pos (by omega), lt_e, ← hσ2, if_pos (by omega), hn'', zbd_of u1]
  · rw [← hNew]; exact R2.f u2 u2.pq
  · rw [← hNew]
    refine ⟨?_, ?_⟩
    · have e105 := hJ.1
      have : τ.1 105 = σ.1 105 + (wtL (lts E) : Int) := by rw [u2.i 105, hσ2, zI_o, zI_1, k47]
      rw [this, e105]
      show _ = ((wpF (A.1 ++ [New]) : Nat) : Int)
      rw [wpF_app]
      have : wpF [New] = wtL (lts E) + 0 := by rw [hNew]; rfl
      rw [this]; omega
    intro k c hc i a ha
    by_cases hk : k < A.1.length
    · rw [List.getElem?_append_left hk] at hc
      rw [lpos_app (by omega)]
      have il := (List.getElem?_eq_some_iff.mp ha).1
      have lk := lpF_le hc
      have jl : lpos A.1 k + (i : Int) < (lpF A.1 : Int) := by unfold lpos; omega
      obtain ⟨v1, v2⟩ := u4 _ (Or.inl jl)
      rw [v1, v2, e2, g1.a 69, g1.a 71, f0.a 69, f0.a 71, u2.a 66, e2, olit 66 _ (by simp) jl, f0.a 66, u2.a 67, e2, olit 67 _ (by simp) jl, f0.a 67, wpos_app (by omega)]
      exact hJ.2 k c hc i a ha
    · have hk2 : k = A.1.length := by
        have hc' : (A.1 ++ [New])[k]? = some c := hc
        have := (List.getElem?_eq_some_iff.mp hc').1
        rw [lc] at this; omega
      subst hk2
      have hc' : (A.1 ++ [New])[A.1.length]? = some c := hc
      rw [hcN] at hc'
      obtain rfl := Option.some.inj hc'
      rw [lpos_len]
      have hs : ∀ (i : Nat) a, New.1[i]? = some a → τ.2.1 66 ((lpF A.1 : Int) + (i : Int)) = σ.1 105 + (wtL (New.1.take i) : Int) ∧ τ.2.1 67 ((lpF A.1 : Int) + (i : Int)) = σ.1 105 + (wtL (New.1.take i) : Int) + (tw a.2.1 : Int) := fun i a ha => by
        rw [hNew] at ha ⊢
        have il := (List.getElem?_eq_some_iff.mp ha).1
        have il' : i < E.length := by rw [← List.length_map (f := fun e : En => e.1)]; exact il
        obtain ⟨_, _, _, _, _, _, z7, z8⟩ := hlit i a il' ha
        rw [u2.a 66, u2.a 67, e2]
        exact ⟨z7, z8⟩
      obtain ⟨h1, h2⟩ := hs i a ha
      obtain ⟨u31, u32⟩ := u3 i a ha
      have e105 := hJ.1
      have et : wpF ((A.1 ++ [New]).take A.1.length) = wpF A.1 := by rw [wpos_app (Nat.le_refl _), List.take_length]
      rw [et, ← e105]
      exact ⟨u31, u32, h1, h2⟩
  · rcases List.mem_append.mp hc with z | z
    · exact wC c z
    · simp at z; subst z; exact wR
  · have p1 : Pq σ2 τ q (q + 1) := u2.pq
    have p2 : Pq σ σ0 q (q + 1) := f0.pq
    have h1 : τ.2.1 j q = σ2.2.1 j q := p1 j q (Int.le_refl _) (by omega) hj
    have h2 : σ0.2.1 j q = σ.2.1 j q := p2 j q (Int.le_refl _) (by omega) hj
    rw [h1, e2, opool j q hj (Or.inr hq), h2]
theorem rq_red2 {ar : Int → Nat} {pd : Int → Prop} {m9 : Int} {p : Int → Prop} (hp' : ∀ c, p c → c < m9) {β : Nat} (hβ : 110 ≤ β) {σ : zS} {A : PA} (hI : RI ar pd m9 σ A) {E : List En} (hQ : RQ ar p σ E) (h6 : (ntL [] (lts E)).length ≤ 6) {T : Int} (hT : ∀ e ∈ E, T ≤ e.2.1 ∧ T ≤ e.2.2) : ∃ (τ : zS) (E2 : List En), zE tM_reduce β σ [] = some (τ, 0) ∧ zE tM_tautology β τ [] = some (τ, b2 (tautL (rnL [] (ddL [] (lts E))))) ∧ RD τ E2 ∧ lts E2 = rnL [] (ddL [] (lts E)) ∧ Wc ar m9 (rnL [] (ddL [] (lts E))) ∧ τ.1 101 = ((ntL [] (rnL [] (ddL [] (lts E)))).length : Int) ∧ RI ar pd m9 τ A ∧ FrC [98, 101] [43, 95, 96, 97, 100] σ τ ∧ ∀ j q, (j = 43 ∨ j = 44 ∨ j = 45 ∨ j = 46) → q < T → τ.2.1 j q = σ.2.1 j q := by
  obtain ⟨τ, E2, t1, t2, t3, t4, t5, t6, t7, t8⟩ := rq_red hp' hβ hI hQ h6
  refine ⟨τ, E2, t1, t2, t3, t4, t5, t6, t7, t8, fun j q hj hq => ?_⟩
  obtain ⟨q1, q2, q3, q4, q5⟩ := id hQ
  have hgt : ∀ e ∈ E, ht e.1.2.1.2 ≤ 100 ∧ ht e.1.2.2.2 ≤ 100 := fun e he => by
    have l : lwt e.1 ≤ wtL (lts E) := wtL_mm (List.mem_map.mpr ⟨e, he, rfl⟩)
    have el : lwt e.1 = (1 + wt e.1.2.1.2) + (1 + wt e.1.2.2.2) := rfl
    have h1 := ht_le_wt e.1.2.1.2
    have h2 := ht_le_wt e.1.2.2.2
    exact ⟨by omega, by omega⟩
  have hN : Nw ar p 100 σ E := by
    refine ⟨q1, by omega, Nss_of (fun m e he => by rw [show (0 : Int) + (m : Int) = (m : Int) by omega]; exact (q3 m e he).1), fun f hf => ?_⟩
    obtain ⟨i, hi⟩ := List.getElem?_of_mem hf
    obtain ⟨_, n1, ⟨n2, n3, n4⟩, _⟩ := q3 i f hi
    obtain ⟨g1, g2⟩ := hgt f hf
    exact ⟨n1, n2, n3, n4, g1, g2⟩
  have hmem : ∀ f ∈ dd [] E, f ∈ E := fun f hf => (dd_mem hf).elim (fun w => by cases w) id
  have hdd := dd_L E []
  have dw := ddL_wt (lts E) []
  simp only [List.length_nil, wtL, Nat.zero_add] at dw
  have hw4 : wtE (dd [] E) ≤ 400 := by
    rw [wt_L]
    have : (dd [] E).map (fun e => e.1) = ddL [] (lts E) := hdd
    rw [this]; omega
  obtain ⟨τ', u1, _, _, _, _, _, _, u8⟩ := reduce_ok (β := β) (by omega) hN (Dj_dd E [] q4) hw4 hmem
  rw [t1] at u1
  have e : τ = τ' := congrArg Prod.fst (Option.some.inj u1)
  subst e
  refine u8 j q (by omega) (by omega) (by omega) (by omega) (fun w => ?_)
  obtain ⟨_, g, hg, hh⟩ := w
  obtain ⟨d1, d2⟩ := hT g (hmem g hg)
  rcases hh with ⟨x1, x2⟩ | ⟨x1, x2⟩ <;> omega
