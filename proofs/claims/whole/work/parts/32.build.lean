/-! what makes TERMS in the pool: m nodes more, from the old top on -/
def Grow (σ τ : zS) (m : Nat) : Prop := τ.1 47 = σ.1 47 + (m : Int) ∧ (∀ j, j ≠ 47 → τ.1 j = σ.1 j) ∧ τ.2.2 = σ.2.2 ∧ (∀ j q, (q < σ.1 47 ∨ ¬ (j = 43 ∨ j = 44 ∨ j = 45 ∨ j = 46)) → τ.2.1 j q = σ.2.1 j q)
/-- the same but for the places where a loop hangs in what it made -/
def GrowX (σ τ : zS) (m : Nat) (x1 x2 : Int) : Prop := τ.1 47 = σ.1 47 + (m : Int) ∧ (∀ j, j ≠ 47 → τ.1 j = σ.1 j) ∧ τ.2.2 = σ.2.2 ∧ (∀ j q, (q < σ.1 47 ∨ ¬ (j = 43 ∨ j = 44 ∨ j = 45 ∨ j = 46)) → ¬ (j = 46 ∧ q = x1) → ¬ (j = 45 ∧ q = x2 ∧ 0 ≤ x2) → ¬ (j = 44 ∧ q = x1 ∧ x2 < 0) → τ.2.1 j q = σ.2.1 j q)
theorem Grow.refl (σ : zS) : Grow σ σ 0 := ⟨by simp, fun _ _ => rfl, rfl, fun _ _ _ => rfl⟩
theorem Grow.trans {σ τ ρ : zS} {m n : Nat} (h : Grow σ τ m) (g : Grow τ ρ n) : Grow σ ρ (m + n) := by
  obtain ⟨a1, a2, a3, a4⟩ := h
  obtain ⟨b1, b2, b3, b4⟩ := g
  refine ⟨by omega, fun j hj => by rw [b2 j hj, a2 j hj], by rw [b3, a3], fun j q hq => ?_⟩
  rw [b4 j q (by omega), a4 j q hq]
theorem Grow.pq {σ τ : zS} {m : Nat} (h : Grow σ τ m) {lo hi : Int} (hh : hi ≤ σ.1 47) : Pq σ τ lo hi := fun k i h1 h2 h3 => h.2.2.2 k i (Or.inl (by omega))
theorem fresh_ok {σ : zS} {β : Nat} {c : Int} (h1 : 0 ≤ σ.1 47) (h2 : σ.1 47 < 420000) : ∃ τ, zE tM_fresh β σ [c] = some (τ, σ.1 47) ∧ Grow σ τ 1 ∧ τ.2.1 43 (σ.1 47) = c ∧ τ.2.1 44 (σ.1 47) = -1 ∧ τ.2.1 45 (σ.1 47) = -1 ∧ τ.2.1 46 (σ.1 47) = 1 := by
  have hz : zb (σ.1 47) 420000 := ⟨h1, by omega⟩
  have e : zE tM_fresh β σ [c] = some (zI (zA (zA (zA (zA σ 43 (σ.1 47) c) 44 (σ.1 47) (-1)) 45 (σ.1 47) (-1)) 46 (σ.1 47) 1) 47 (σ.1 47 + 1), σ.1 47) := by
    rw [zq_fresh, kZ_fresh, if_pos hz]
    show (if zb (σ.1 47) 420000 then _ else none) = _
    rw [if_pos hz]
    show (if zb (σ.1 47) 420000 then _ else none) = _
    rw [if_pos hz]
    show (if zb (σ.1 47) 420000 then _ else none) = _
    rw [if_pos hz]
    show (if zr (σ.1 47 + 1) then _ else none) = _
    rw [if_pos (by omega)]
    rfl
  refine ⟨_, e, ⟨by simp [zI], fun j hj => by simp [zI, zA, hj], rfl, fun j q hq => ?_⟩, by simp [zI, zA], by simp [zI, zA], by simp [zI, zA], by simp [zI, zA]⟩
  rcases hq with hq | hq
  · have : ¬ q = σ.1 47 := by omega
    simp [zI, zA, this]
  · have e1 : ¬ j = 43 := by omega
    have e2 : ¬ j = 44 := by omega
    have e3 : ¬ j = 45 := by omega
    have e4 : ¬ j = 46 := by omega
    simp [zI, zA, e1, e2, e3, e4]
theorem copy_loop : ∀ (S : T) (σ : zS) (β : Nat) (hi x0 x1 x2 x3 : Int), x3 + (wt S : Int) ≤ hi → hi ≤ σ.1 47 → Pc σ S x3 → hi ≤ x1 → 0 ≤ x1 → x1 < σ.1 47 → (x2 < 0 ∨ hi ≤ x2) → x2 < σ.1 47 → σ.1 47 + (wt S : Int) ≤ 420000 → 0 ≤ σ.2.1 46 x1 → σ.2.1 46 x1 + (wt S : Int) ≤ 2000000 → ht S + 1 ≤ β →
    ∃ τ, zE tM_copy_21 β σ [x0, x1, x2, x3] = some (τ, x1) ∧ GrowX σ τ (wt S) x1 x2 ∧ τ.2.1 46 x1 = σ.2.1 46 x1 + (wt S : Int) ∧ (S = nl → τ = σ) ∧ (0 < wt S → Pc τ S (σ.1 47) ∧ (0 ≤ x2 → τ.2.1 45 x2 = σ.1 47) ∧ (x2 < 0 → τ.2.1 44 x1 = σ.1 47))
  | .leaf (), σ, β, hi, x0, x1, x2, x3, hb, hh, hS, _, _, _, _, _, _, _, _, hd => by
    have h1 : x3 < 0 := hS
    refine ⟨σ, by rw [zq_copy_21, kZ_copy_21, if_pos h1], ⟨by simp [wt], fun _ _ => rfl, rfl, fun _ _ _ _ _ _ => rfl⟩, by simp [wt], fun _ => rfl, fun w => by simp [wt] at w⟩
  | .branch n k s, σ, β, hi, x0, x1, x2, x3, hb, hh, hS, g1, g2, g3, g4, g5, g6, g7, g8, hd => by
    have k1 := Pc_kid hS hb (by have := hS.1; simp only [wt] at hb; omega)
    have s1 := Pc_bes hS hb (by have := hS.1; simp only [wt] at hb; omega)
    obtain ⟨a1, a2, a3, a4, a5, a6, a7⟩ := hS
    simp only [ht] at hd
    simp only [wt] at hb g6 g8
    -- the TERM at x3
    have key : ∃ τ, zE tM_copy (β - 1) σ [x3] = some (τ, σ.1 47) ∧ Grow σ τ (1 + wt k) ∧ Pt τ n k (σ.1 47) ∧ τ.2.1 45 (σ.1 47) = -1 := by
      obtain ⟨τ1, e1, G1, f1, f2, f3, f4⟩ := fresh_ok (σ := σ) (β := β - 1 - 1) (c := σ.2.1 43 x3) (by omega) (by omega)
      have t1 : τ1.1 47 = σ.1 47 + 1 := G1.1
      have q1 := G1.pq (lo := 0) (hi := hi) hh
      have kk : τ1.2.1 44 x3 = σ.2.1 44 x3 := q1 44 x3 a1 (by omega) (by simp)
      have pk : Pc τ1 k (σ.2.1 44 x3) := by
        rcases Pc_bd a4 with ⟨w1, w2⟩ | ⟨w1, w2⟩
        · exact Pc_q (fun j i u1 u2 u3 => by omega) a4
        · exact Pc_q (q1.w (by omega) (by omega)) a4
      obtain ⟨τ2, e2, G2, w2, n2, m2⟩ := copy_loop k τ1 (β - 1) hi x3 (σ.1 47) (-1) (σ.2.1 44 x3) k1 (by omega) pk (by omega) (by omega) (by omega) (by omega) (by omega) (by omega) (by omega) (by omega) (by omega)
      refine ⟨τ2, ?_, ⟨?_, ?_, ?_, ?_⟩, ⟨?_, ?_, ?_, ?_, ?_⟩, ?_⟩
      · rw [zq_copy, kZ_copy, if_pos (by omega), if_pos (by omega), zbd_of e1, kk]; exact e2
      · rw [G2.1, t1]; omega
      · intro j hj; rw [G2.2.1 j hj, G1.2.1 j hj]
      · rw [G2.2.2.1, G1.2.2.1]
      · intro j q hq
        rw [G2.2.2.2 j q (by omega) (by omega) (by omega) (by omega), G1.2.2.2 j q hq]
      · omega
      · rw [G2.2.2.2 43 _ (by omega) (by omega) (by omega) (by omega), f1, a2]
      · rw [w2, f4]
      · rcases Pc_bd a4 with ⟨w1, w2⟩ | ⟨w1, w2⟩
        · have hk : k = nl := wt0 w1
          subst hk
          show τ2.2.1 44 (σ.1 47) < 0
          rw [n2 rfl, f2]; omega
        · obtain ⟨z1, z2, z3⟩ := m2 w1
          rw [z3 (by omega)]; exact z1
      · intro w1
        obtain ⟨z1, z2, z3⟩ := m2 w1
        rw [z3 (by omega), t1]
      · rw [G2.2.2.2 45 _ (by omega) (by omega) (by omega) (by omega), f3]
    obtain ⟨τ1, e1, G1, P1, b1⟩ := key
    have q1 := G1.pq (lo := 0) (hi := hi) hh
    have t1 : τ1.1 47 = σ.1 47 + 1 + (wt k : Int) := by rw [G1.1]; omega
    have w1 : τ1.2.1 46 x1 = σ.2.1 46 x1 := G1.2.2.2 46 x1 (Or.inl (by omega))
    have wy : τ1.2.1 46 (σ.1 47) = 1 + (wt k : Int) := P1.2.2.1
    -- hung in
    obtain ⟨τ2, e2, c1, c2, c3, c4, c5, c6⟩ : ∃ τ2, zE tM_copy_21 β σ [x0, x1, x2, x3] = zE tM_copy_57 β τ2 [x0, x1, x2, x3, σ.1 47] ∧ τ2.1 = τ1.1 ∧ τ2.2.2 = τ1.2.2 ∧ (0 ≤ x2 → τ2.2.1 45 x2 = σ.1 47) ∧ (x2 < 0 → τ2.2.1 44 x1 = σ.1 47) ∧ (∀ q, τ2.2.1 46 q = τ1.2.1 46 q) ∧ (∀ j q, ¬ (j = 45 ∧ q = x2 ∧ 0 ≤ x2) → ¬ (j = 44 ∧ q = x1 ∧ x2 < 0) → τ2.2.1 j q = τ1.2.1 j q) := by
      by_cases hx : 0 ≤ x2
      · refine ⟨zA τ1 45 x2 (σ.1 47), ?_, rfl, rfl, fun _ => by simp [zA], fun w => by omega, fun q => by simp [zA], fun j q w _ => ?_⟩
        · rw [zq_copy_21, kZ_copy_21, if_neg (by omega), if_pos (by omega), zbd_of e1, if_pos hx, if_pos (by omega)]; rfl
        · have : ¬ (j = 45 ∧ q = x2) := fun z => w ⟨z.1, z.2, hx⟩
          simp [zA, this]
      · refine ⟨zA τ1 44 x1 (σ.1 47), ?_, rfl, rfl, fun w => by omega, fun _ => by simp [zA], fun q => by simp [zA], fun j q _ w => ?_⟩
        · rw [zq_copy_21, kZ_copy_21, if_neg (by omega), if_pos (by omega), zbd_of e1, if_neg hx, if_pos (by omega)]; rfl
        · have : ¬ (j = 44 ∧ q = x1) := fun z => w ⟨z.1, z.2, by omega⟩
          simp [zA, this]
    -- the weight
    obtain ⟨τ3, e3, d1, d2, d3, d4⟩ : ∃ τ3, zE tM_copy_57 β τ2 [x0, x1, x2, x3, σ.1 47] = zE tM_copy_21 β τ3 [x0, x1, σ.1 47, σ.2.1 45 x3] ∧ τ3.1 = τ1.1 ∧ τ3.2.2 = τ1.2.2 ∧ τ3.2.1 46 x1 = σ.2.1 46 x1 + 1 + (wt k : Int) ∧ (∀ j q, ¬ (j = 46 ∧ q = x1) → τ3.2.1 j q = τ2.2.1 j q) := by
      refine ⟨zA τ2 46 x1 (τ2.2.1 46 x1 + τ2.2.1 46 (σ.1 47)), ?_, c1, c2, ?_, fun j q w => ?_⟩
      · have hb : (zA τ2 46 x1 (τ2.2.1 46 x1 + τ2.2.1 46 (σ.1 47))).2.1 45 x3 = σ.2.1 45 x3 := by
          have : (zA τ2 46 x1 (τ2.2.1 46 x1 + τ2.2.1 46 (σ.1 47))).2.1 45 x3 = τ2.2.1 45 x3 := by simp [zA]
          rw [this, c6 45 x3 (by omega) (by omega)]
          exact q1 45 x3 a1 (by omega) (by simp)
        rw [zq_copy_57, kZ_copy_57, if_pos (by omega), if_pos (by omega), if_pos (by rw [c5, c5, w1, wy]; omega)]
        simp only [lt_]
        rw [if_pos (by omega), hb]
      · have : (zA τ2 46 x1 (τ2.2.1 46 x1 + τ2.2.1 46 (σ.1 47))).2.1 46 x1 = τ2.2.1 46 x1 + τ2.2.1 46 (σ.1 47) := by simp [zA]
        rw [this, c5, c5, w1, wy]; omega
      · simp [zA, w]
    have t3 : τ3.1 47 = σ.1 47 + 1 + (wt k : Int) := by rw [d1]; exact t1
    have q3 : Pq σ τ3 0 hi := fun j i u1 u2 u3 => by
      rw [d4 j i (by omega), c6 j i (by omega) (by omega)]; exact q1 j i u1 u2 u3
    have ps : Pc τ3 s (σ.2.1 45 x3) := by
      rcases Pc_bd a6 with ⟨w1, w2⟩ | ⟨w1, w2⟩
      · exact Pc_q (fun j i u1 u2 u3 => by omega) a6
      · exact Pc_q (q3.w (by omega) (by omega)) a6
    obtain ⟨τ4, e4, G4, w4, n4, m4⟩ := copy_loop s τ3 β hi x0 x1 (σ.1 47) (σ.2.1 45 x3) s1 (by omega) ps g1 g2 (by omega) (by omega) (by omega) (by omega) (by omega) (by omega) (by omega)
    have Q4 : ∀ j q, q < σ.1 47 + 1 + (wt k : Int) → ¬ (j = 46 ∧ q = x1) → ¬ (j = 45 ∧ q = σ.1 47) → τ4.2.1 j q = τ3.2.1 j q := fun j q u1 u2 u3 => G4.2.2.2 j q (Or.inl (by omega)) u2 (by omega) (by omega)
    have R4 : ∀ j q, σ.1 47 ≤ q → q < σ.1 47 + 1 + (wt k : Int) → ¬ (j = 45 ∧ q = σ.1 47) → τ4.2.1 j q = τ1.2.1 j q := fun j q u0 u1 u2 => by
      rw [Q4 j q u1 (by omega) u2, d4 j q (by omega), c6 j q (by omega) (by omega)]
    refine ⟨τ4, by rw [e2, e3]; exact e4, ⟨?_, ?_, ?_, ?_⟩, ?_, fun w => (by cases w), fun _ => ⟨⟨?_, ?_, ?_, ?_, ?_, ?_, ?_⟩, fun hx => ?_, fun hx => ?_⟩⟩
    · rw [G4.1, t3]; simp only [wt]; omega
    · intro j hj; rw [G4.2.1 j hj, d1]; exact G1.2.1 j hj
    · rw [G4.2.2.1, d2]; exact G1.2.2.1
    · intro j q u1 u2 u3 u4
      by_cases hq : q < σ.1 47
      · rw [Q4 j q (by omega) u2 (by omega), d4 j q u2, c6 j q u3 u4, G1.2.2.2 j q (Or.inl hq)]
      · have u5 : ¬ (j = 43 ∨ j = 44 ∨ j = 45 ∨ j = 46) := by omega
        rw [G4.2.2.2 j q (Or.inr u5) u2 (by omega) (by omega), d4 j q u2, c6 j q u3 u4, G1.2.2.2 j q (Or.inr u5)]
    · rw [w4, d3]; simp only [wt]; omega
    · omega
    · rw [R4 43 _ (by omega) (by omega) (by omega)]; exact P1.2.1
    · rw [R4 46 _ (by omega) (by omega) (by omega)]; exact P1.2.2.1
    · rw [R4 44 _ (by omega) (by omega) (by omega)]
      have z := P1.2.2.2.1
      rcases Pc_bd z with ⟨w1, w2⟩ | ⟨w1, w2⟩
      · exact Pc_q (fun j i u1 u2 u3 => by omega) z
      · have z2 := P1.2.2.2.2 w1
        exact Pc_q (fun j i u1 u2 _ => R4 j i (by omega) (by omega) (by omega)) z
    · rw [R4 44 _ (by omega) (by omega) (by omega)]; exact P1.2.2.2.2
    · rcases Nat.eq_zero_or_pos (wt s) with hs | hs
      · have hs' := wt0 hs
        subst hs'
        show τ4.2.1 45 (σ.1 47) < 0
        rw [n4 rfl, d4 45 _ (by omega), c6 45 _ (by omega) (by omega), b1]; omega
      · obtain ⟨z1, z2, z3⟩ := m4 hs
        rw [z2 (by omega)]; exact z1
    · intro hs
      obtain ⟨z1, z2, z3⟩ := m4 hs
      rw [z2 (by omega), t3]
    · rw [Q4 45 x2 (by omega) (by omega) (by omega), d4 45 x2 (by omega)]; exact c3 hx
    · rw [Q4 44 x1 (by omega) (by omega) (by omega), d4 44 x1 (by omega)]; exact c4 hx
theorem copy_ok {σ : zS} {β : Nat} {n : Nat} {k : T} {t : Int} (hP : Pt σ n k t) (hb : t + 1 + (wt k : Int) ≤ σ.1 47) (hr : σ.1 47 + 1 + (wt k : Int) ≤ 420000) (hd : ht k + 1 ≤ β) : ∃ τ, zE tM_copy β σ [t] = some (τ, σ.1 47) ∧ Grow σ τ (1 + wt k) ∧ Pt τ n k (σ.1 47) ∧ τ.2.1 45 (σ.1 47) = -1 := by
  have k1 := Pt_kid hP hb (by have := hP.1; omega)
  obtain ⟨a1, a2, a3, a4, a5⟩ := hP
  obtain ⟨τ1, e1, G1, f1, f2, f3, f4⟩ := fresh_ok (σ := σ) (β := β - 1) (c := σ.2.1 43 t) (by omega) (by omega)
  have t1 : τ1.1 47 = σ.1 47 + 1 := G1.1
  have q1 := G1.pq (lo := 0) (hi := σ.1 47) (Int.le_refl _)
  have kk : τ1.2.1 44 t = σ.2.1 44 t := q1 44 t a1 (by omega) (by simp)
  have pk : Pc τ1 k (σ.2.1 44 t) := by
    rcases Pc_bd a4 with ⟨w1, w2⟩ | ⟨w1, w2⟩
    · exact Pc_q (fun j i u1 u2 u3 => by omega) a4
    · exact Pc_q (q1.w (by omega) (by omega)) a4
  obtain ⟨τ2, e2, G2, w2, n2, m2⟩ := copy_loop k τ1 β (σ.1 47) t (σ.1 47) (-1) (σ.2.1 44 t) k1 (by omega) pk (by omega) (by omega) (by omega) (by omega) (by omega) (by omega) (by omega) (by omega) (by omega)
  refine ⟨τ2, ?_, ⟨?_, ?_, ?_, ?_⟩, ⟨?_, ?_, ?_, ?_, ?_⟩, ?_⟩
  · rw [zq_copy, kZ_copy, if_pos (by omega), if_pos (by omega), zbd_of e1, kk]; exact e2
  · rw [G2.1, t1]; omega
  · intro j hj; rw [G2.2.1 j hj, G1.2.1 j hj]
  · rw [G2.2.2.1, G1.2.2.1]
  · intro j q hq
    rw [G2.2.2.2 j q (by omega) (by omega) (by omega) (by omega), G1.2.2.2 j q hq]
  · omega
  · rw [G2.2.2.2 43 _ (by omega) (by omega) (by omega) (by omega), f1, a2]
  · rw [w2, f4]
  · rcases Pc_bd a4 with ⟨w1, w2⟩ | ⟨w1, w2⟩
    · have hk : k = nl := wt0 w1
      subst hk
      show τ2.2.1 44 (σ.1 47) < 0
      rw [n2 rfl, f2]; omega
    · obtain ⟨z1, z2, z3⟩ := m2 w1
      rw [z3 (by omega)]; exact z1
  · intro w1
    obtain ⟨z1, z2, z3⟩ := m2 w1
    rw [z3 (by omega), t1]
  · rw [G2.2.2.2 45 _ (by omega) (by omega) (by omega) (by omega), f3]
