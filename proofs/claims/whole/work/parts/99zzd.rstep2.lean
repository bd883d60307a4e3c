/-! the reference: a STEP, whole, and a run of them -/
section step2
variable {ar : Int → Nat} {pd : Int → Prop} {m9 : Int}
/-- the list of the CLAUSES that REWROTE the last one is written -/
theorem RI.us {σ τ : zS} {Cs : List CL} {f : Nat → Int} {R : List Lt} {a b c : Int} {U : List Int} (h : RI ar pd m9 σ (Cs ++ [(R, a, b, c, 0, [])], f)) (h86 : 0 ≤ σ.1 86 ∧ σ.1 86 ≤ 60 * (Cs.length : Int)) (fr : FrC [86] [80, 81, 82, 83] σ τ) (o : ∀ j (q : Int), (j = 80 ∨ j = 81 ∨ j = 82) → q ≠ (Cs.length : Int) → τ.2.1 j q = σ.2.1 j q) (t80 : τ.2.1 80 (Cs.length : Int) = 2) (t81 : τ.2.1 81 (Cs.length : Int) = σ.1 86) (t82 : τ.2.1 82 (Cs.length : Int) = (U.length : Int)) (t83 : ∀ q, q < σ.1 86 → τ.2.1 83 q = σ.2.1 83 q) (tU : Fl (τ.2.1 83) (σ.1 86) U) (t86 : τ.1 86 = σ.1 86 + (U.length : Int)) (hU : U.length ≤ 60) : RI ar pd m9 τ (Cs ++ [(R, a, b, c, 2, U)], f) := by
  obtain ⟨⟨r1, r2, r3, r4, r5, r6, r7⟩, hJ, hp, hK, m0, wC⟩ := h
  have len : ∀ X : CL, (Cs ++ [X]).length = Cs.length + 1 := fun X => by simp
  obtain ⟨O, hO⟩ : ∃ z : CL, z = (R, a, b, c, 0, []) := ⟨_, rfl⟩
  obtain ⟨N, hN⟩ : ∃ z : CL, z = (R, a, b, c, 2, U) := ⟨_, rfl⟩
  have e1 : N.1 = O.1 := by rw [hN, hO]
  have mp : (Cs ++ [N]).map (fun c : CL => c.1) = (Cs ++ [O]).map (fun c : CL => c.1) := by simp [e1]
  obtain ⟨m1, m2⟩ := lpF_map mp
  have tk : ∀ i, lpos (Cs ++ [N]) i = lpos (Cs ++ [O]) i ∧ wpF ((Cs ++ [N]).take i) = wpF ((Cs ++ [O]).take i) := fun i => by
    have h : ((Cs ++ [N]).take i).map (fun c : CL => c.1) = ((Cs ++ [O]).take i).map (fun c : CL => c.1) := by rw [List.map_take, List.map_take, mp]
    obtain ⟨h1, h2⟩ := lpF_map h
    exact ⟨by unfold lpos; rw [h1], h2⟩
  have get : ∀ (k : Nat) (d : CL), (Cs ++ [N])[k]? = some d → (k ≠ Cs.length ∧ (Cs ++ [O])[k]? = some d) ∨ (k = Cs.length ∧ d = N ∧ (Cs ++ [O])[k]? = some O) := fun k d hd => by
    by_cases hk : k < Cs.length
    · rw [List.getElem?_append_left hk] at hd
      exact Or.inl ⟨by omega, by rw [List.getElem?_append_left hk]; exact hd⟩
    · have hl := (List.getElem?_eq_some_iff.mp hd).1
      rw [len] at hl
      have hk2 : k = Cs.length := by omega
      subst hk2
      rw [List.getElem?_append_right (Nat.le_refl _), Nat.sub_self] at hd
      refine Or.inr ⟨rfl, (Option.some.inj hd).symm, ?_⟩
      rw [List.getElem?_append_right (Nat.le_refl _), Nat.sub_self]; rfl
  rw [← hO] at r1 r2 r3 r4 r5 r6 r7 hJ wC
  rw [← hN]
  rw [len] at r1 r2 r4 r5
  have lit : ∀ (j : Int) (a : Lt), RLi σ j a → RLi τ j a := fun j a ⟨l1, l2, l3, l4, l5, l6⟩ => by
    unfold RLi
    rw [fr.a 66, fr.a 67, fr.a 68, fr.a 70, fr.i 105]
    exact ⟨Px_q l1 fr.pq, Px_q l2 fr.pq, l3, l4, l5, l6⟩
  refine ⟨⟨by rw [fr.i 84, len]; exact r1, by rw [len]; exact r2, by rw [fr.i 72, m1]; exact r3, by rw [fr.i 105, len]; exact r4, by rw [t86, len]; omega, fun d hd => ?_, fun k d hd => ?_⟩, ⟨by rw [fr.i 105, m2]; exact hJ.1, fun k d hd i z hz => ?_⟩, hp.f fr, hK.f fr, m0, fun d hd => ?_⟩
  · rcases List.mem_append.mp hd with w | w
    · exact r6 d (List.mem_append.mpr (Or.inl w))
    · rw [List.mem_singleton] at w
      rw [w, e1]; exact r6 O (by simp)
  · rw [(tk k).1]
    rcases get k d hd with ⟨w1, w2⟩ | ⟨w1, w2, w3⟩
    · obtain ⟨⟨c1, c2, c3, c4, c5, c6, c7, c8, c9, c10, c11, c12⟩, hl⟩ := r7 k d w2
      have kn : (k : Int) ≠ (Cs.length : Int) := by omega
      refine ⟨⟨by rw [fr.a 73]; exact c1, by rw [fr.a 74]; exact c2, by rw [fr.a 75]; exact c3, by rw [fr.a 76]; exact c4, by rw [fr.a 77]; exact c5, by rw [fr.a 78]; exact c6, by rw [fr.a 79]; exact c7, by rw [o 80 _ (by simp) kn]; exact c8, by rw [o 82 _ (by simp) kn]; exact c9, by rw [o 81 _ (by simp) kn]; exact c10, by rw [o 81 _ (by simp) kn, t86]; omega, ?_⟩, fun i z hz => lit _ z (hl i z hz)⟩
      rw [o 81 _ (by simp) kn]
      exact Fl_q (fun q _ q1 => t83 q (by omega)) c12
    · obtain ⟨⟨c1, c2, c3, c4, c5, c6, c7, c8, c9, c10, c11, c12⟩, hl⟩ := r7 k O w3
      subst w1
      subst w2
      refine ⟨⟨by rw [fr.a 73]; exact c1, by rw [fr.a 74, e1]; exact c2, by rw [fr.a 75, e1]; exact c3, by rw [fr.a 76, e1]; exact c4, by rw [fr.a 77, c5, hO, hN], by rw [fr.a 78, c6, hO, hN], by rw [fr.a 79, c7, hO, hN], by rw [t80, hN], by rw [t82, hN], by rw [t81]; omega, by rw [t81, t86, hN]; exact Int.le_refl _, ?_⟩, fun i z hz => lit _ z (hl i z (by rw [← e1]; exact hz))⟩
      rw [t81, hN]; exact tU
  · rw [(tk k).1, (tk k).2, fr.a 69, fr.a 71, fr.a 66, fr.a 67]
    rcases get k d hd with ⟨w1, w2⟩ | ⟨w1, w2, w3⟩
    · exact hJ.2 k d w2 i z hz
    · rw [w2] at hz ⊢
      rw [e1] at hz ⊢
      exact hJ.2 k O w3 i z hz
  · rcases List.mem_append.mp hd with w | w
    · exact wC d (List.mem_append.mpr (Or.inl w))
    · rw [List.mem_singleton] at w
      rw [w, e1]; exact wC O (by simp)
/-- the list is copied -/
theorem st_139 {β : Nat} {x0 x1 x2 : Int} {U : List Int} (hU : U.length ≤ 60) {b : Int} (b0 : 0 ≤ b) (b1 : b + 60 ≤ 130000) : ∀ (m n : Nat) (σ : zS), n + m = U.length → LU σ U → σ.1 86 = b + (n : Int) → Fl (σ.2.1 83) b (U.take n) → ∃ τ, zE tM_step1_139 β σ [x0, x1, x2, (n : Int)] = zE tM_step1_139 β τ [x0, x1, x2, (U.length : Int)] ∧ FrC [86] [83] σ τ ∧ (∀ q, q < b → τ.2.1 83 q = σ.2.1 83 q) ∧ τ.1 86 = b + (U.length : Int) ∧ Fl (τ.2.1 83) b U
  | 0, n, σ, hm, hL, h86, hF => by
    have : n = U.length := by omega
    subst this
    rw [List.take_length] at hF
    exact ⟨σ, rfl, FrC.refl, fun _ _ => rfl, h86, hF⟩
  | m + 1, n, σ, hm, hL, h86, hF => by
    obtain ⟨u, hu⟩ : ∃ u, U[n]? = some u := ⟨_, List.getElem?_eq_getElem (by omega)⟩
    have e119 : σ.2.1 119 (n : Int) = u := by
      have := Fl_get hL.2 hu
      rw [show (0 : Int) + (n : Int) = (n : Int) by omega] at this
      exact this
    obtain ⟨ρ, hρ⟩ : ∃ z, z = zA (zI σ 86 (b + (n : Int) + 1)) 83 (b + (n : Int)) u := ⟨_, rfl⟩
    have f : FrC [86] [83] σ ρ := by
      have z : FrC [86] [83] σ (zI σ 86 (b + (n : Int) + 1)) := FrC_I
      rw [hρ]; exact z.trans FrC_A
    have ot : ∀ q, q ≠ b + (n : Int) → ρ.2.1 83 q = σ.2.1 83 q := fun q hq => by rw [hρ, zA_i hq]; rfl
    have LU' : LU ρ U := ⟨by rw [f.i 120]; exact hL.1, Fl_q (fun q _ _ => f.a 119 q) hL.2⟩
    have tkn : U.take (n + 1) = U.take n ++ [u] := by rw [List.take_add_one, hu]; rfl
    have ln : (U.take n).length = n := by rw [List.length_take]; omega
    have hF' : Fl (ρ.2.1 83) b (U.take (n + 1)) := by
      rw [tkn]
      refine Fl_app.mpr ⟨Fl_q (fun q _ q1 => ot q (by omega)) hF, ?_⟩
      rw [ln]
      refine ⟨?_, trivial⟩
      rw [hρ, zA_s]
    obtain ⟨τ, t1, t2, t3, t4, t5⟩ := st_139 (β := β) (x0 := x0) (x1 := x1) (x2 := x2) hU b0 b1 m (n + 1) ρ (by omega) LU' (by rw [hρ, zA_1, zI_1]; omega) hF'
    refine ⟨τ, ?_, f.trans t2, fun q hq => by rw [t3 q hq, ot q (by omega)], t4, t5⟩
    have h120 := hL.1
    rw [← t1, zq_step1_139, kZ_step1_139, if_neg (by omega), h86, if_pos (by omega), lt_e, if_pos (by omega), if_pos (by omega), zI_2, e119, lt_e, ← hρ, if_pos (by omega), show (n : Int) + 1 = ((n + 1 : Nat) : Int) by omega]
end step2
