theorem sup_p28 {ar : Int → Nat} {pd : Int → Prop} {m9 : Int} {β : Nat} (hβ : 172 ≤ β) {k1 k2 : Nat} {c1 c2 : CL} (s1 : cst c1 = 1) (s2 : cst c2 = 1) (w7 : c1.1.length ≤ 8) (w8 : c2.1.length ≤ 8) {P1 P2 : Int} : ∀ (m n : Nat) (σ : zS) (A : PA), CI ar pd m9 σ A → A.1[k1]? = some c1 → A.1[k2]? = some c2 → pos A.1 k1 = P1 → pos A.1 k2 = P2 → n + m = 2 * c1.1.length →
    ∃ τ, yE tG_Sat_superpose_p28 β σ [(k1 : Int), (k2 : Int), 2 * (c1.1.length : Int), 2 * (c2.1.length : Int), (n : Int)] = some (τ, 0) ∧ CI ar pd m9 τ (fo (spA ar pd m9 k1 c1.1 k2 c2.1) m n A) ∧ IF σ τ
  | 0, n, σ, A, hI, h1, h2, p1, p2, hm => by
    refine ⟨σ, ?_, by unfold fo; exact hI, FrC.refl⟩
    rw [yq_Sat_superpose_p28, kY_Sat_superpose_p28, if_pos (by omega)]
  | m + 1, n, σ, A, hI, h1, h2, p1, p2, hm => by
    obtain ⟨d1, d2, d3, d4, d5, d6, d7, d8, d9, d10, d11, d12⟩ := id hI
    have hn2 : n / 2 < c1.1.length := by omega
    obtain ⟨a, ha⟩ : ∃ a, c1.1[n / 2]? = some a := ⟨_, List.getElem?_eq_getElem hn2⟩
    obtain ⟨z1, z2⟩ := half (n := n) (by omega)
    have hs : (((n % 2 : Nat) : Int) = 0 ∨ ((n % 2 : Nat) : Int) = 1) := by omega
    have J1 := d11 k1 c1 h1 s1
    have hl1 := d3.hl h1 ha
    have hh := headOf_ok (β := β - 1) (by omega) d3 h1 (i := n / 2) (by omega) w7
    have e0 := pos_ok (β := β - 1) hl1
    have e1 := el_ok (β := β - 1) J1 ha hl1
    have e2 := us_ok (β := β - 1) J1 ha hl1 hs
    have l1 := (List.getElem?_eq_some_iff.mp h1).1
    have l2 := (List.getElem?_eq_some_iff.mp h2).1
    obtain ⟨Z, hZ⟩ := spA_ext (ar := ar) (pd := pd) (m9 := m9) (k1 := k1) (C1 := c1.1) (k2 := k2) (C2 := c2.1) n A
    have next : ∀ (ρ : zS) (x5 x6 x7 : Int), CI ar pd m9 ρ (spA ar pd m9 k1 c1.1 k2 c2.1 n A) → IF σ ρ → ∃ τ, yE tG_Sat_superpose_p176 β ρ [(k1 : Int), (k2 : Int), 2 * (c1.1.length : Int), 2 * (c2.1.length : Int), (n : Int), x5, x6, x7] = some (τ, 0) ∧ CI ar pd m9 τ (fo (spA ar pd m9 k1 c1.1 k2 c2.1) (m + 1) n A) ∧ IF σ τ := fun ρ x5 x6 x7 hρ fρ => by
      obtain ⟨τ, t1, t2, t3⟩ := sup_p28 hβ s1 s2 w7 w8 (P1 := P1) (P2 := P2) m (n + 1) ρ _ hρ (by rw [hZ]; exact get_app h1) (by rw [hZ]; exact get_app h2) (by rw [hZ, pos_app l1]; exact p1) (by rw [hZ, pos_app l2]; exact p2) (by omega)
      refine ⟨τ, ?_, t2, fρ.trans t3⟩
      rw [yq_Sat_superpose_p176, kY_Sat_superpose_p176, if_pos (by omega), show (n : Int) + 1 = ((n + 1 : Nat) : Int) by omega]
      exact t1
    have no : ¬ (a.1 = 1 ∧ elI c1.1 (n / 2) ∧ usL a ((n % 2 : Nat) : Int)) → ∃ τ, yE tG_Sat_superpose_p92 β σ [(k1 : Int), (k2 : Int), 2 * (c1.1.length : Int), 2 * (c2.1.length : Int), (n : Int), hp (pos A.1 k1) c1.1 (n / 2)] = some (τ, 0) ∧ CI ar pd m9 τ (fo (spA ar pd m9 k1 c1.1 k2 c2.1) (m + 1) n A) ∧ IF σ τ := fun h => by
      rw [yq_Sat_superpose_p92, kY_Sat_superpose_p92, yq_Sat_superpose_p93, kY_Sat_superpose_p93, yq_Sat_superpose_p98, kY_Sat_superpose_p98]
      have hI2 : CI ar pd m9 σ (spA ar pd m9 k1 c1.1 k2 c2.1 n A) := by unfold spA; rw [ha]; dsimp only; rw [if_neg h]; exact hI
      by_cases q : 2 * (c2.1.length : Int) ≤ 0
      · rw [if_pos q]; exact next σ _ _ _ hI2 FrC.refl
      · rw [if_neg q, if_pos rfl]; exact next σ _ _ _ hI2 FrC.refl
    rw [yq_Sat_superpose_p28, kY_Sat_superpose_p28, if_neg (by omega), if_pos (by omega), z1, z2, zbd_of hh, if_pos (by omega), zbd_of e0]
    by_cases q0 : a.1 = 1
    · rw [b2_t q0, if_neg (by decide), if_pos (by omega), zbd_of e1]
      by_cases q1 : elI c1.1 (n / 2)
      · rw [b2_t q1, if_neg (by decide), if_pos (by omega), zbd_of e2]
        by_cases q2 : usL a ((n % 2 : Nat) : Int)
        · rw [b2_t q2, if_neg (by decide), yq_Sat_superpose_p93, kY_Sat_superpose_p93]
          obtain ⟨ρ, r1, r2, r3⟩ := sup_p98 (β := β) (by omega) ha (x4 := n) (by omega) s2 w8 (P1 := P1) (P2 := P2) (x2 := 2 * (c1.1.length : Int)) (2 * c2.1.length) 0 σ A hI h1 h2 p1 p2 (by omega)
          rw [p1]
          have r1' : yE tG_Sat_superpose_p98 β σ [(k1 : Int), (k2 : Int), 2 * (c1.1.length : Int), 2 * (c2.1.length : Int), (n : Int), hp P1 c1.1 (n / 2), 1, 0] = _ := r1
          rw [r1']
          refine next ρ _ _ _ ?_ r3
          unfold spA; rw [ha]; dsimp only; rw [if_pos ⟨q0, q1, q2⟩]; exact r2
        · rw [b2_f q2, if_pos rfl]
          exact no (fun z => q2 z.2.2)
      · rw [b2_f q1, if_pos rfl]
        exact no (fun z => q1 z.2.1)
    · rw [b2_f q0, if_pos rfl]
      exact no (fun z => q0 z.1)
theorem sup_ok {ar : Int → Nat} {pd : Int → Prop} {m9 : Int} {β : Nat} (hβ : 172 ≤ β) {σ : zS} {A : PA} (hI : CI ar pd m9 σ A) {k1 k2 : Nat} {c1 c2 : CL} (h1 : A.1[k1]? = some c1) (h2 : A.1[k2]? = some c2) (s1 : cst c1 = 1) (s2 : cst c2 = 1) : ∃ τ, yE tG_Sat_superpose β σ [(k1 : Int), (k2 : Int)] = some (τ, 0) ∧ CI ar pd m9 τ (supA ar pd m9 k1 c1.1 k2 c2.1 A) ∧ IF σ τ := by
  obtain ⟨d1, d2, d3, d4, d5, d6, d7, d8, d9, d10, d11, d12⟩ := id hI
  have w7 := (d10 c1 (List.mem_of_getElem? h1)).1
  have w8 := (d10 c2 (List.mem_of_getElem? h2)).1
  obtain ⟨τ, t1, t2, t3⟩ := sup_p28 hβ s1 s2 w7 w8 (P1 := pos A.1 k1) (P2 := pos A.1 k2) (2 * c1.1.length) 0 σ A hI h1 h2 rfl rfl (by omega)
  refine ⟨τ, ?_, t2, t3⟩
  rw [yq_Sat_superpose, kY_Sat_superpose, if_pos (by omega), zbd_of (d3.f3 h1).1, if_pos (by omega), zbd_of (d3.f3 h2).1, if_pos (by omega), if_pos (by omega)]
  exact t1
