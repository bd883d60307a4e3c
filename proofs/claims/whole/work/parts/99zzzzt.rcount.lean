/-! the reference: how many CLAUSES a FORMULA makes -/
theorem FS_3 {g : Tm} (h : FS (tt (mk1 3 g))) : FS (tt g) := by
  have h1 : (if 3 ≤ 1 then _ else if 3 = 2 then _ else if 3 ≤ 3 then len (nd g.1 g.2 nl) = 1 ∧ FS (nd g.1 g.2 nl) else _) := h.1
  rw [if_neg (by omega), if_neg (by omega), if_pos (by omega)] at h1
  exact h1.2
theorem FS_2 {l : Nat} {g1 g2 : Tm} (h4 : 4 ≤ l) (l7 : l ≤ 7) (hf : FS (tt (mk2 l g1 g2))) : FS (tt g1) ∧ FS (tt g2) := by
  have hf1 : (if l ≤ 1 then _ else if l = 2 then _ else if l ≤ 3 then _ else if l ≤ 7 then len (nd g1.1 g1.2 (nd g2.1 g2.2 nl)) = 2 ∧ FS (nd g1.1 g1.2 (nd g2.1 g2.2 nl)) else _) := hf.1
  rw [if_neg (by omega), if_neg (by omega), if_neg (by omega), if_pos l7] at hf1
  exact ⟨⟨hf1.2.1, trivial⟩, hf1.2.2⟩
theorem cp1_b (a : Nat) : 0 ≤ cp1 a ∧ cp1 a ≤ 201 := by unfold cp1; split <;> omega
theorem cp1_p (a b : Nat) : 0 ≤ cp1 a * cp1 b ∧ cp1 a * cp1 b ≤ 40401 := by
  obtain ⟨a1, a2⟩ := cp1_b a
  obtain ⟨b1, b2⟩ := cp1_b b
  exact ⟨Int.mul_nonneg a1 b1, Int.le_trans (Int.mul_le_mul a2 b2 b1 (by omega)) (by decide)⟩
theorem cp1_hi {a : Nat} (h : 201 ≤ a) : cp1 a = 201 := by unfold cp1; split <;> omega
theorem cp1_g {a : Nat} (h : 200 < cp1 a) : 201 ≤ a := by
  unfold cp1 at h
  by_cases c : 201 < (a : Int)
  · omega
  · rw [if_neg c] at h; omega
theorem cap_e {β : Nat} {σ : zS} {x : Int} : zE tM_capped β σ [x] = some (σ, if 201 < x then 201 else x) := by
  rw [zq_capped, kZ_capped]
  by_cases h : x < 201
  · rw [if_pos h, if_neg (by omega)]
  · rw [if_neg h]
    by_cases h2 : 201 < x
    · rw [if_pos h2]
    · rw [if_neg h2]; exact congrArg (fun y => some (σ, y)) (by omega)
theorem cnt_ok {σ : zS} (h37 : σ.1 37 ≤ 20100) : ∀ (h : Nat) (f : Tm) (a : Int) (is : Bool) (β : Nat), RFm σ h f a → FS (tt f) → h + 1 ≤ β → zE tM_count2 β σ [a, bi is] = some (σ, cp1 (nF f is))
  | 0, f, a, is, β, hR, _, _ => hR.elim
  | h + 1, f, a, is, β, hR, hf, hβ => by
    obtain ⟨r0, r1, r2, rc⟩ := hR
    have z1 : cp1 1 = 1 := by decide
    rcases rc with ⟨l1, k1, l2, k2, c1, c2, c3, c4⟩ | ⟨l1, k1, l2, k2, b, c1, c2, c3, c4, c5, c6, c7, c8⟩ | ⟨l, k, p, c1, c2, c3, c4, c5, c6, c7, c8⟩ | ⟨g, c1, c2, c3⟩ | ⟨j, g1, g2, c1, c2, c3, c4, c5⟩ | ⟨kd, first, cnt, g, c1, c2, c3, c4, c5, c6, c7⟩
    · rw [c1, nF_at (by omega), z1, zq_count2, kZ_count2, if_pos ⟨by omega, by omega⟩, c2, if_neg (by omega), if_pos rfl]
    · rw [c1, nF_at (by omega), z1, zq_count2, kZ_count2, if_pos ⟨by omega, by omega⟩, c2, if_neg (by omega), if_neg (by omega), if_pos rfl, c3]
      have e62 : ∀ y, zE tM_count2_62 β σ [a, bi is, y, b] = some (σ, 1) := fun y => by
        have : zE tM_count2 (β - 1) σ [b, y] = some (σ, 1) := by rw [zq_count2, kZ_count2, if_pos ⟨by omega, by omega⟩, c6, if_neg (by omega), if_pos rfl]
        rw [zq_count2_62, kZ_count2_62, if_pos (by omega), zbd_of this]
      cases is
      · rw [if_pos (show bi false = 0 from rfl)]; exact e62 1
      · rw [if_neg (show ¬ bi true = 0 by decide)]; exact e62 0
    · rw [c1]
      have e : nF (mk1 2 (l, k)) is = 1 := nF_at (by omega)
      rw [e, z1, zq_count2, kZ_count2, if_pos ⟨by omega, by omega⟩, c2, if_neg (by omega), if_pos rfl]
    · subst c1
      rw [zq_count2, kZ_count2, if_pos ⟨by omega, by omega⟩, c2, if_neg (by omega), if_neg (by omega), if_pos rfl]
      have e62 : ∀ y, y = bi (!is) → zE tM_count2_62 β σ [a, bi is, y, σ.2.1 31 a] = some (σ, cp1 (nF (mk1 3 g) is)) := fun y hy => by
        have := cnt_ok h37 h g (σ.2.1 31 a) (!is) (β - 1) c3 (FS_3 hf) (by omega)
        rw [zq_count2_62, kZ_count2_62, if_pos (by omega), hy, zbd_of this, nF_not]
      cases is
      · rw [if_pos (show bi false = 0 from rfl)]; exact e62 1 rfl
      · rw [if_neg (show ¬ bi true = 0 by decide)]; exact e62 0 rfl
    · subst c2
      obtain ⟨f1, f2⟩ := FS_2 (by omega) (by omega) hf
      have i1 := fun s => cnt_ok h37 h g1 (σ.2.1 31 a) s (β - 1) c4 f1 (by omega)
      have i2 := fun s => cnt_ok h37 h g2 (σ.2.1 32 a) s (β - 1) c5 f2 (by omega)
      have n1 := nF_1 g1 f1
      have n2 := nF_1 g2 f2
      have b1 := fun s => cp1_b (nF g1 s)
      have b2' := fun s => cp1_b (nF g2 s)
      rw [nF_bin (by omega) (by omega)]
      have hj : j = 0 ∨ j = 1 ∨ j = 2 ∨ j = 3 := by omega
      have e81 : ∀ y : Int, zE tM_count2_81 β σ [a, bi is, y] = some (σ, if y = bi is then cp1 (nF g1 is + nF g2 is) else cp1 (nF g1 is * nF g2 is)) := fun y => by
        have x1 := b1 is
        have x2 := b2' is
        have x3 := cp1_p (nF g1 is) (nF g2 is)
        rw [zq_count2_81, kZ_count2_81]
        by_cases hy : y = bi is
        · rw [if_pos hy, if_pos hy, if_pos ⟨by omega, by omega⟩, if_pos (by omega), zbd_of (i1 is), if_pos (by omega), zbd_of (i2 is), if_pos ⟨by omega, by omega⟩, if_pos (by omega), zbd_of cap_e, zq_count2_140, kZ_count2_140, cp1_add]
        · rw [if_neg hy, if_neg hy, if_pos ⟨by omega, by omega⟩, if_pos (by omega), zbd_of (i1 is), if_pos (by omega), zbd_of (i2 is), if_pos ⟨by omega, by omega⟩, if_pos (by omega), zbd_of cap_e, zq_count2_140, kZ_count2_140, cp1_mul (n1 is) (n2 is)]
      rw [zq_count2, kZ_count2, if_pos ⟨by omega, by omega⟩, c3]
      rcases hj with e | e | e | e
      · subst e
        rw [if_neg (by decide), if_neg (by decide), if_neg (by decide), if_pos (by decide), if_pos (by decide), e81]
        cases is <;> rfl
      · subst e
        rw [if_neg (by decide), if_neg (by decide), if_neg (by decide), if_neg (by decide), if_pos (by decide), if_neg (by decide), e81]
        cases is <;> rfl
      · subst e
        rw [if_neg (by decide), if_neg (by decide), if_neg (by decide), if_neg (by decide), if_neg (by decide), if_pos (by decide)]
        have x1 := b1 true
        have x2 := b1 false
        have x3 := b2' true
        have x4 := b2' false
        have x5 := cp1_p (nF g1 false) (nF g2 true)
        cases is
        · rw [if_pos (show bi false = 0 from rfl), if_pos (by omega), show (1 : Int) = bi true from rfl, zbd_of (i1 true), if_pos (by omega), show (0 : Int) = bi false from rfl, zbd_of (i2 false), if_pos ⟨by omega, by omega⟩, if_pos (by omega), zbd_of cap_e, zq_count2_200, kZ_count2_200, cp1_add]
          rfl
        · rw [if_neg (show ¬ bi true = 0 by decide), if_pos (by omega), show (0 : Int) = bi false from rfl, zbd_of (i1 false), if_pos (by omega), show (1 : Int) = bi true from rfl, zbd_of (i2 true), if_pos ⟨by omega, by omega⟩, if_pos (by omega), zbd_of cap_e, zq_count2_200, kZ_count2_200, cp1_mul (n1 _) (n2 _)]
          rfl
      · subst e
        rw [if_neg (by decide), if_neg (by decide), if_neg (by decide), if_neg (by decide), if_neg (by decide), if_neg (by decide), if_pos (by omega), show (1 : Int) = bi true from rfl, zbd_of (i1 true), if_pos (by omega), zbd_of (i2 true)]
        have m1 := n1 false
        have m2 := n2 false
        have m3 := n1 true
        have m4 := n2 true
        have key : 201 ≤ nF g1 true ∨ 201 ≤ nF g2 true → 201 ≤ nbin (4 + 3) (nF g1) (nF g2) is := fun hk => by
          cases is
          · show 201 ≤ nF g1 true * nF g2 true + nF g1 false * nF g2 false
            rcases hk with hk | hk
            · have := Nat.le_mul_of_pos_right (nF g1 true) (show 0 < nF g2 true by omega); omega
            · have := Nat.le_mul_of_pos_left (nF g2 true) (show 0 < nF g1 true by omega); omega
          · show 201 ≤ nF g1 false * nF g2 true + nF g2 false * nF g1 true
            rcases hk with hk | hk
            · have := Nat.le_mul_of_pos_left (nF g1 true) (show 0 < nF g2 false by omega); omega
            · have := Nat.le_mul_of_pos_left (nF g2 true) (show 0 < nF g1 false by omega); omega
        by_cases q1 : 200 < cp1 (nF g1 true)
        · rw [if_pos q1, zq_count2_241, kZ_count2_241, cp1_hi (key (Or.inl (cp1_g q1)))]
        rw [if_neg q1]
        by_cases q2 : cp1 (nF g2 true) ≤ 200
        · rw [if_pos q2, if_pos (by omega), show (0 : Int) = bi false from rfl, zbd_of (i1 false), if_pos (by omega), zbd_of (i2 false)]
          have x1 := cp1_p (nF g1 true) (nF g2 true)
          have x2 := cp1_p (nF g1 false) (nF g2 false)
          have x3 := cp1_p (nF g1 false) (nF g2 true)
          have x4 := cp1_p (nF g2 false) (nF g1 true)
          cases is
          · rw [if_pos (show bi false = bi false from rfl), if_pos ⟨by omega, by omega⟩, if_pos ⟨by omega, by omega⟩, if_pos ⟨by omega, by omega⟩, if_pos (by omega), zbd_of cap_e, zq_count2_304, kZ_count2_304, cp1_mm2 m3 m4 m1 m2]
            rfl
          · rw [if_neg (show ¬ bi true = bi false by decide), if_pos ⟨by omega, by omega⟩, if_pos ⟨by omega, by omega⟩, if_pos ⟨by omega, by omega⟩, if_pos (by omega), zbd_of cap_e, zq_count2_304, kZ_count2_304, cp1_mm2 m1 m4 m2 m3]
            rfl
        · rw [if_neg q2, zq_count2_241, kZ_count2_241, cp1_hi (key (Or.inr (cp1_g (by omega))))]
    · subst c4
      have := cnt_ok h37 h g (σ.2.1 31 a) is (β - 1) c7 (FS_qn cnt hf) (by omega)
      rw [zq_count2, kZ_count2, if_pos ⟨by omega, by omega⟩, c5, if_pos (by omega), if_pos (by omega), zbd_of this, nF_qn]
