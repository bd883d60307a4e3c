/-! STEPS -/
noncomputable def stepA (ar : Int → Nat) (pd : Int → Prop) (m9 : Int) (A : PA) : PA × List Int := match (gvA pd A).2.1 with
  | none => ((gvA pd A).1, (gvA pd A).2.2)
  | some g => match (gvA pd A).1.1[g]? with
    | none => ((gvA pd A).1, [])
    | some c => (ifA ar pd m9 g c.1 (gvA pd A).1, [])
noncomputable def runA (ar : Int → Nat) (pd : Int → Prop) (m9 : Int) : Nat → PA × List Int → PA × List Int
  | 0, Z => Z
  | n + 1, Z => if Z.1.2 87 = 0 then runA ar pd m9 n (stepA ar pd m9 Z.1) else Z
abbrev NF (σ τ : zS) : Prop := FrC [5701, 3904, 3905, 3906, 3907, 3911, 6603, 6605, 4901, 5300, 5301, 5302, 5303, 5304, 5305, 5306, 5101, 4701, 5402, 5501, 5905, 5906, 5907, 6401] [58, 46, 40, 41, 42, 43, 44, 45, 13, 67, 68, 50, 48, 52, 56, 60, 61, 62, 63, 65] σ τ
theorem step_ok {ar : Int → Nat} {pd : Int → Prop} {m9 : Int} {β : Nat} (hβ : 174 ≤ β) {σ : zS} {A : PA} {P : List Int} (hI : SI ar pd m9 σ A P) (h0 : A.2 87 = 0) {x0 x1 : Int} : ∃ (τ : zS) (x2 : Int), yE tP_CP_run_p23 β σ [x0, x1] = (if x0 ≤ x1 then yE tP_CP_run_p65 β σ [x0, x1] else yE tP_CP_run_p59 β τ [x0, x1, x2]) ∧ SI ar pd m9 τ (stepA ar pd m9 A).1 (stepA ar pd m9 A).2 ∧ NF σ τ := by
  obtain ⟨σ1, t1, t2, t3, t4⟩ := given_ok (β := β - 1) (by omega) hI h0
  have k0 : σ.1 5300 = 0 := by rw [hI.1.2.2.2.1.1]; exact h0
  have e : ∀ τ x2, (if (gvA pd A).2.1 = none then yE tP_CP_run_p59 β σ1 [x0, x1, -1] = yE tP_CP_run_p59 β τ [x0, x1, x2] else zbd (yE tG_Sat_inferFrom (β - 1) σ1 [no1 (gvA pd A).2.1]) (fun σ2 r2 => yE tP_CP_run_p59 β σ2 [x0, x1, no1 (gvA pd A).2.1]) = yE tP_CP_run_p59 β τ [x0, x1, x2]) → yE tP_CP_run_p23 β σ [x0, x1] = (if x0 ≤ x1 then yE tP_CP_run_p65 β σ [x0, x1] else yE tP_CP_run_p59 β τ [x0, x1, x2]) := fun τ x2 h => by
    rw [yq_CP_run_p23, kY_CP_run_p23]
    by_cases q : x0 ≤ x1
    · rw [if_pos q, if_pos q]
    · rw [if_neg q, if_neg q, if_pos k0, if_pos (by omega), zbd_of t1]
      cases hg : (gvA pd A).2.1 with
      | none =>
        rw [hg] at h
        rw [if_pos rfl] at h
        rw [if_pos (show no1 none = -1 from rfl)]; exact h
      | some g =>
        rw [hg] at h
        rw [if_neg (by simp)] at h
        have e0 : no1 (some g) = (g : Int) := rfl
        rw [e0] at h ⊢
        rw [if_neg (by omega), if_pos (by omega)]; exact h
  unfold stepA
  cases hg : (gvA pd A).2.1 with
  | none => exact ⟨σ1, -1, e σ1 (-1) (by rw [hg, if_pos rfl]), t2, t3.w⟩
  | some g =>
    obtain ⟨⟨c, hc, hs⟩, hC⟩ := t4 g hg
    obtain ⟨τ, u1, u2, u3⟩ := infer_ok (β := β - 1) (by omega) hC hc hs
    have e0 : no1 (some g) = (g : Int) := rfl
    dsimp only
    rw [hc]
    obtain ⟨s1, s2, s3, s4, s5, s6⟩ := t2
    have hP : (gvA pd A).2.2 = [] := gvA_p hg
    rw [hP] at s3
    refine ⟨τ, (g : Int), e τ (g : Int) (by rw [hg, if_neg (by simp), e0, zbd_of u1]), ⟨u2.j, fun _ => ⟨u2.2.2.2.2.2.2.2.2.2.2.2, rfl⟩, s3.f u3, by rw [u3.l 56]; exact s4, by rw [u3.l 58]; exact s5, by rw [u3.l 58]; exact s6⟩, t3.w.trans u3.w⟩
where
  gvB_p : ∀ {pd : Int → Prop} {R : PA × Option Nat} {g : Nat}, (gvB pd R).2.1 = some g → (gvB pd R).2.2 = [] := fun {pd R g} h => by
    unfold gvB at h ⊢
    split at h
    · cases h
    · split at h
      · cases h
      · split at h
        · cases h
        · rename_i h1 _ _ h2 h3
          split at h
          · cases h
          · rename_i h4
            simp only [h2, h3, h4, if_false]
  gvA_p : ∀ {pd : Int → Prop} {A : PA} {g : Nat}, (gvA pd A).2.1 = some g → (gvA pd A).2.2 = [] := fun {pd A g} h => by
    unfold gvA at h ⊢
    split at h
    · cases h
    · split at h
      · cases h
      · split at h
        · rename_i h1 h2 h3
          simp only [h2, h3, if_true]
          exact gvB_p h
        · rename_i h1 h2 h3
          simp only [h2, h3, if_false]
          exact gvB_p h
theorem run_p23 {ar : Int → Nat} {pd : Int → Prop} {m9 : Int} {β : Nat} (hβ : 174 ≤ β) : ∀ (m n : Nat) (σ : zS) (A : PA) (P : List Int), SI ar pd m9 σ A P → n + m ≤ 100 → ∃ τ, yE tP_CP_run_p23 β σ [((n + m : Nat) : Int), (n : Int)] = some (τ, (runA ar pd m9 m (A, P)).1.2 87) ∧ SI ar pd m9 τ (runA ar pd m9 m (A, P)).1 (runA ar pd m9 m (A, P)).2 ∧ NF σ τ
  | 0, n, σ, A, P, hI, hm => by
    refine ⟨σ, ?_, hI, FrC.refl⟩
    rw [yq_CP_run_p23, kY_CP_run_p23, if_pos (by omega), yq_CP_run_p65, kY_CP_run_p65, hI.1.2.2.2.1.1]; rfl
  | m + 1, n, σ, A, P, hI, hm => by
    have k0 := hI.1.2.2.2.1.1
    by_cases h0 : A.2 87 = 0
    · obtain ⟨σ1, x2, t1, t2, t3⟩ := step_ok hβ hI h0 (x0 := ((n + (m + 1) : Nat) : Int)) (x1 := (n : Int))
      rw [if_neg (by omega)] at t1
      obtain ⟨τ, u1, u2, u3⟩ := run_p23 hβ m (n + 1) σ1 _ _ t2 (by omega)
      have er : runA ar pd m9 (m + 1) (A, P) = runA ar pd m9 m ((stepA ar pd m9 A).1, (stepA ar pd m9 A).2) := by
        show (if A.2 87 = 0 then runA ar pd m9 m (stepA ar pd m9 A) else (A, P)) = _
        rw [if_pos h0]
      rw [er]
      refine ⟨τ, ?_, u2, t3.trans u3⟩
      rw [t1, yq_CP_run_p59, kY_CP_run_p59, if_pos (by omega), show (n : Int) + 1 = ((n + 1 : Nat) : Int) by omega, show ((n + (m + 1) : Nat) : Int) = ((n + 1 + m : Nat) : Int) by omega]
      exact u1
    · have er : runA ar pd m9 (m + 1) (A, P) = (A, P) := by
        show (if A.2 87 = 0 then runA ar pd m9 m (stepA ar pd m9 A) else (A, P)) = _
        rw [if_neg h0]
      rw [er]
      refine ⟨σ, ?_, hI, FrC.refl⟩
      rw [yq_CP_run_p23, kY_CP_run_p23, if_neg (by omega), if_neg (by rw [k0]; exact h0), yq_CP_run_p65, kY_CP_run_p65, k0]
theorem run_ok {ar : Int → Nat} {pd : Int → Prop} {m9 : Int} {β : Nat} (hβ : 174 ≤ β) {σ : zS} {A : PA} {P : List Int} (hI : SI ar pd m9 σ A P) {n : Nat} (n1 : 1 ≤ n) (n2 : n ≤ 100) : ∃ τ, yE tP_CP_run β σ [(n : Int)] = some (τ, (runA ar pd m9 n (A, P)).1.2 87) ∧ SI ar pd m9 τ (runA ar pd m9 n (A, P)).1 (runA ar pd m9 n (A, P)).2 ∧ NF σ τ := by
  obtain ⟨τ, t1, t2⟩ := run_p23 hβ n 0 σ A P hI (by omega)
  refine ⟨τ, ?_, t2⟩
  rw [Nat.zero_add] at t1
  have t1' : yE tP_CP_run_p23 β σ [(n : Int), 0] = _ := t1
  rw [yq_CP_run, kY_CP_run, if_neg (by omega), if_pos (by omega), t1']
