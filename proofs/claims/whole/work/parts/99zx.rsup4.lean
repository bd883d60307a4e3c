/-! the reference: SUPERPOSITION of one CLAUSE into another -/
theorem fo_no {f : Nat → PA → PA} (hf : ∀ o A, A.2 87 ≠ 0 → f o A = A) : ∀ (m o : Nat) (A : PA), A.2 87 ≠ 0 → fo f m o A = A
  | 0, o, A, _ => rfl
  | m + 1, o, A, h => by
    show fo f m (o + 1) (f o A) = A
    rw [hf o A h]; exact fo_no hf m (o + 1) A h
theorem fo_2 {f : Nat → PA → PA} {m o : Nat} {A : PA} : fo f (2 * (m + 1)) (2 * o) A = fo f (2 * m) (2 * (o + 1)) (f (2 * o + 1) (f (2 * o) A)) := by
  rw [show 2 * (m + 1) = 2 * m + 1 + 1 by omega, show 2 * (o + 1) = 2 * o + 1 + 1 by omega]; rfl
section sup4
variable {ar : Int → Nat} {pd : Int → Prop} {m9 : Int} {Cs : List CL} {k1 k2 : Nat} {d1 d2 : CL}
theorem ex_k {σ : zS} {A : PA} (hI : RI ar pd m9 σ A) (hA : Ext Cs A) {k : Nat} {d : CL} (hc : Cs[k]? = some d) : σ.2.1 73 (k : Int) = lpos Cs k ∧ σ.2.1 74 (k : Int) = (d.1.length : Int) ∧ 0 ≤ lpos Cs k ∧ lpos Cs k + (d.1.length : Int) ≤ 16000 ∧ k < 2000 ∧ d.1.length ≤ 8 ∧ A.1[k]? = some d ∧ lpos A.1 k = lpos Cs k ∧ Wc ar m9 d.1 := by
  obtain ⟨Z, hZ⟩ := id hA
  have h1 : A.1[k]? = some d := by rw [hZ]; exact get_ext hc
  have eL : lpos A.1 k = lpos Cs k := by rw [hZ]; exact lpos_ext hc
  obtain ⟨hk, g1, g2, g3, g4, g5⟩ := hI.1.k h1
  rw [eL] at g1 g2
  exact ⟨by rw [hk.1, eL], hk.2.1, g1, g2, by omega, g5, h1, eL, hI.2.2.2.2.2 d (List.mem_of_getElem? h1)⟩
theorem ex_l {σ : zS} {A : PA} (hI : RI ar pd m9 σ A) (hA : Ext Cs A) {k i : Nat} {d : CL} {a : Lt} (hc : Cs[k]? = some d) (ha : d.1[i]? = some a) : σ.2.1 68 (lpos Cs k + (i : Int)) = a.1 ∧ σ.2.1 69 (lpos Cs k + (i : Int)) = ordL a ∧ σ.2.1 71 (lpos Cs k + (i : Int)) = b2 (elI d.1 i) ∧ (∀ t : Int, (t = 0 ∨ t = 1) → (if t = 0 then σ.2.1 66 (lpos Cs k + (i : Int)) else σ.2.1 67 (lpos Cs k + (i : Int))) = adr Cs k d.1 i a t) ∧ (a.1 = 0 ∨ a.1 = 1) := by
  obtain ⟨_, _, _, _, _, _, h1, eL, wc⟩ := ex_k hI hA hc
  obtain ⟨Z, hZ⟩ := id hA
  have l5 := (hI.1.l h1 ha).2.2.2.2.1
  obtain ⟨z1, z2, _⟩ := hI.2.1.2 k d h1 i a ha
  rw [eL] at l5 z1 z2
  refine ⟨l5, z1, z2, fun t ht => ?_, (wc.2.2.2.2 a (List.mem_of_getElem? ha)).1⟩
  have := (sd_at hI h1 ha ht (x := 0) (Or.inl rfl)).2
  rw [eL] at this
  rw [this, hZ]; exact adr_ext hc
theorem ord_3 (a : Lt) : ordL a = 0 ∨ ordL a = 1 ∨ ordL a = 2 := by
  unfold ordL
  by_cases h : gTm a.2.1 a.2.2
  · rw [if_pos h]; simp
  · rw [if_neg h]
    by_cases g : gTm a.2.2 a.2.1
    · rw [if_pos g]; simp
    · rw [if_neg g]; simp
theorem us_r {β : Nat} {σ : zS} {q s : Int} {a : Lt} (q0 : 0 ≤ q) (q1 : q < 16100) (h : σ.2.1 69 q = ordL a) (hs : s = 0 ∨ s = 1) : zE tM_usable β σ [q, s] = some (σ, b2 (usL a s)) := by
  have o3 := ord_3 a
  rw [zq_usable, kZ_usable, if_pos (by omega), if_pos (by omega), h]
  by_cases g : usL a s
  · have g' : ordL a = 0 ∨ ordL a = s + 1 := g
    rw [if_neg (by omega), zq_usable_17, kZ_usable_17, if_pos (Or.inr rfl), b2_t g]
  · have g' : ¬ (ordL a = 0 ∨ ordL a = s + 1) := g
    rw [if_pos (by omega), zq_usable_17, kZ_usable_17, if_pos (Or.inl rfl), b2_f g]
theorem spB_e {C1 C2 : List Lt} {i j : Nat} {a b : Lt} {s : Int} (hb : C2[j]? = some b) {t : Nat} (ht : t < 2) {A : PA} : spB ar pd m9 k1 C1 i a s k2 C2 (2 * j + t) A = @ite _ (elI C2 j ∧ usL b (t : Int)) (Classical.propDecidable _) (wh (spS ar pd m9 k1 C1 i a s k2 C2 j b (t : Int)) (tw (sdT b (t : Int))) 0 A) A := by
  unfold spB
  rw [show (2 * j + t) / 2 = j by omega, show (2 * j + t) % 2 = t by omega, hb]
theorem spB_no {C1 C2 : List Lt} {i : Nat} {a : Lt} {s : Int} (n : Nat) (A : PA) (h : A.2 87 ≠ 0) : spB ar pd m9 k1 C1 i a s k2 C2 n A = A := by
  unfold spB
  split
  · split
    · exact wh_n0 h
    · rfl
  · rfl
theorem spA_e {C1 C2 : List Lt} {i : Nat} {a : Lt} (ha : C1[i]? = some a) {s : Nat} (hs : s < 2) {A : PA} : spA ar pd m9 k1 C1 k2 C2 (2 * i + s) A = @ite _ (a.1 = 1 ∧ elI C1 i ∧ usL a (s : Int)) (Classical.propDecidable _) (fo (spB ar pd m9 k1 C1 i a (s : Int) k2 C2) (2 * C2.length) 0 A) A := by
  unfold spA
  rw [show (2 * i + s) / 2 = i by omega, show (2 * i + s) % 2 = s by omega, ha]
theorem spA_no {C1 C2 : List Lt} (n : Nat) (A : PA) (h : A.2 87 ≠ 0) : spA ar pd m9 k1 C1 k2 C2 n A = A := by
  unfold spA
  split
  · split
    · exact fo_no spB_no _ _ _ h
    · rfl
  · rfl
theorem sp_1 (hc1 : Cs[k1]? = some d1) (hc2 : Cs[k2]? = some d2) {i j : Nat} {a b : Lt} (ha : d1.1[i]? = some a) (hb : d2.1[j]? = some b) {s : Int} (hs : s = 0 ∨ s = 1) {β : Nat} (hβ : 1643 ≤ β) (he : elI d2.1 j) {t : Nat} (ht : t < 2) {σ : zS} {A : PA} (hI : RI ar pd m9 σ A) (hA : Ext Cs A) :
    ∃ τ, (zE tM_superpose_109 β σ [(k1 : Int), (k2 : Int), lpos Cs k1 + (i : Int), s, lpos Cs k2 + (j : Int), (t : Int)] = zE tM_superpose_109 β τ [(k1 : Int), (k2 : Int), lpos Cs k1 + (i : Int), s, lpos Cs k2 + (j : Int), (t : Int) + 1] ∨ (A.2 87 ≠ 0 ∧ zE tM_superpose_109 β σ [(k1 : Int), (k2 : Int), lpos Cs k1 + (i : Int), s, lpos Cs k2 + (j : Int), (t : Int)] = zE tM_superpose_159 β σ [(k1 : Int), (k2 : Int), lpos Cs k1 + (i : Int), s, lpos Cs k2 + (j : Int)])) ∧ RI ar pd m9 τ (spB ar pd m9 k1 d1.1 i a s k2 d2.1 (2 * j + t) A) ∧ FIn σ τ := by
  obtain ⟨g1, g2, g3, g4, g5, g6, _⟩ := ex_k hI hA hc2
  obtain ⟨l1, l2, l3, l4, l5⟩ := ex_l hI hA hc2 hb
  have jl := (List.getElem?_eq_some_iff.mp hb).1
  have k87 : σ.1 87 = A.2 87 := hI.2.2.2.1.1
  have ht' : (t : Int) = 0 ∨ (t : Int) = 1 := by omega
  have e153 : ∀ ρ : zS, zE tM_superpose_153 β ρ [(k1 : Int), (k2 : Int), lpos Cs k1 + (i : Int), s, lpos Cs k2 + (j : Int), (t : Int)] = zE tM_superpose_109 β ρ [(k1 : Int), (k2 : Int), lpos Cs k1 + (i : Int), s, lpos Cs k2 + (j : Int), (t : Int) + 1] := fun ρ => by rw [zq_superpose_153, kZ_superpose_153, if_pos (by omega)]
  by_cases h0 : A.2 87 = 0
  · have u := us_r (β := β - 1) (q := lpos Cs k2 + (j : Int)) (by omega) (by omega) l2 ht'
    by_cases g : usL b (t : Int)
    · obtain ⟨τ, t1, t2, t3⟩ := in_ok (x4 := lpos Cs k2 + (j : Int)) (β := β - 1) hc1 hc2 ha hb hs ht' (by omega) hI hA
      refine ⟨τ, Or.inl ?_, ?_, t3⟩
      · have sd := rside_ok (β := β - 1) (σ := σ) (j := lpos Cs k2 + (j : Int)) (by omega) (by omega) (s := (t : Int)) (o := 0) ht' (Or.inl rfl)
        rw [l4 _ ht'] at sd
        rw [zq_superpose_109, kZ_superpose_109, if_neg (by omega), if_pos (by omega), if_pos (by omega), zbd_of u, b2_t g, if_neg (by decide), if_pos (by omega), zbd_of sd, if_pos (by omega), zbd_of t1, e153]
      · rw [spB_e hb ht, if_pos ⟨he, g⟩]; exact t2
    · refine ⟨σ, Or.inl ?_, ?_, FrC.refl⟩
      · rw [zq_superpose_109, kZ_superpose_109, if_neg (by omega), if_pos (by omega), if_pos (by omega), zbd_of u, b2_f g, if_pos rfl, e153]
      · rw [spB_e hb ht, if_neg (fun w => g w.2)]; exact hI
  · refine ⟨σ, Or.inr ⟨h0, ?_⟩, by rw [spB_no _ _ h0]; exact hI, FrC.refl⟩
    rw [zq_superpose_109, kZ_superpose_109, if_neg (by omega), if_neg (by omega)]
theorem sp_109 (hc1 : Cs[k1]? = some d1) (hc2 : Cs[k2]? = some d2) {i j : Nat} {a b : Lt} (ha : d1.1[i]? = some a) (hb : d2.1[j]? = some b) {s : Int} (hs : s = 0 ∨ s = 1) {β : Nat} (hβ : 1643 ≤ β) (he : elI d2.1 j) {σ : zS} {A : PA} (hI : RI ar pd m9 σ A) (hA : Ext Cs A) :
    ∃ τ, zE tM_superpose_109 β σ [(k1 : Int), (k2 : Int), lpos Cs k1 + (i : Int), s, lpos Cs k2 + (j : Int), 0] = zE tM_superpose_159 β τ [(k1 : Int), (k2 : Int), lpos Cs k1 + (i : Int), s, lpos Cs k2 + (j : Int)] ∧ RI ar pd m9 τ (spB ar pd m9 k1 d1.1 i a s k2 d2.1 (2 * j + 1) (spB ar pd m9 k1 d1.1 i a s k2 d2.1 (2 * j) A)) ∧ FIn σ τ := by
  obtain ⟨τ1, t1, t2, t3⟩ := sp_1 hc1 hc2 ha hb hs hβ he (t := 0) (by omega) hI hA
  rw [Nat.add_zero] at t2
  have fin : ∀ ρ : zS, zE tM_superpose_109 β ρ [(k1 : Int), (k2 : Int), lpos Cs k1 + (i : Int), s, lpos Cs k2 + (j : Int), 2] = zE tM_superpose_159 β ρ [(k1 : Int), (k2 : Int), lpos Cs k1 + (i : Int), s, lpos Cs k2 + (j : Int)] := fun ρ => by rw [zq_superpose_109, kZ_superpose_109, if_pos (by omega)]
  rcases t1 with t1 | ⟨t0, t1⟩
  · have t1' : zE tM_superpose_109 β σ [(k1 : Int), (k2 : Int), lpos Cs k1 + (i : Int), s, lpos Cs k2 + (j : Int), 0] = zE tM_superpose_109 β τ1 [(k1 : Int), (k2 : Int), lpos Cs k1 + (i : Int), s, lpos Cs k2 + (j : Int), 1] := t1
    obtain ⟨τ2, r1, r2, r3⟩ := sp_1 hc1 hc2 ha hb hs hβ he (t := 1) (by omega) t2 (hA.tr (spB_ext _ _))
    rcases r1 with r1 | ⟨r0, r1⟩
    · have r1' : zE tM_superpose_109 β τ1 [(k1 : Int), (k2 : Int), lpos Cs k1 + (i : Int), s, lpos Cs k2 + (j : Int), 1] = zE tM_superpose_109 β τ2 [(k1 : Int), (k2 : Int), lpos Cs k1 + (i : Int), s, lpos Cs k2 + (j : Int), 2] := r1
      exact ⟨τ2, by rw [t1', r1', fin], r2, t3.trans r3⟩
    · have r1' : zE tM_superpose_109 β τ1 [(k1 : Int), (k2 : Int), lpos Cs k1 + (i : Int), s, lpos Cs k2 + (j : Int), 1] = _ := r1
      exact ⟨τ1, by rw [t1', r1'], by rw [spB_no _ _ r0]; exact t2, t3⟩
  · have t1' : zE tM_superpose_109 β σ [(k1 : Int), (k2 : Int), lpos Cs k1 + (i : Int), s, lpos Cs k2 + (j : Int), 0] = _ := t1
    exact ⟨σ, t1', by rw [spB_no _ _ t0, spB_no _ _ t0]; exact hI, FrC.refl⟩
theorem sp_75 (hc1 : Cs[k1]? = some d1) (hc2 : Cs[k2]? = some d2) {i : Nat} {a : Lt} (ha : d1.1[i]? = some a) {s : Int} (hs : s = 0 ∨ s = 1) {β : Nat} (hβ : 1643 ≤ β) : ∀ (R D : List Lt) (σ : zS) (A : PA), d2.1 = D ++ R → RI ar pd m9 σ A → Ext Cs A → ∃ τ, zE tM_superpose_75 β σ [(k1 : Int), (k2 : Int), lpos Cs k1 + (i : Int), s, lpos Cs k2 + (D.length : Int)] = zE tM_superpose_165 β τ [(k1 : Int), (k2 : Int), lpos Cs k1 + (i : Int), s] ∧ RI ar pd m9 τ (fo (spB ar pd m9 k1 d1.1 i a s k2 d2.1) (2 * R.length) (2 * D.length) A) ∧ FIn σ τ
  | [], D, σ, A, hD, hI, hA => by
    rw [List.append_nil] at hD
    obtain ⟨g1, g2, g3, g4, g5, g6, _⟩ := ex_k hI hA hc2
    refine ⟨σ, ?_, hI, FrC.refl⟩
    rw [zq_superpose_75, kZ_superpose_75, if_pos (by omega), g1, g2, if_pos (by omega), if_pos (by rw [hD]; omega)]
  | b :: R, D, σ, A, hD, hI, hA => by
    have hl : d2.1.length = D.length + (R.length + 1) := by rw [hD]; simp
    have hb : d2.1[D.length]? = some b := by rw [hD, List.getElem?_append_right (Nat.le_refl _), Nat.sub_self]; rfl
    have hD' : d2.1 = (D ++ [b]) ++ R := by rw [hD]; simp
    have el : (D ++ [b]).length = D.length + 1 := by simp
    obtain ⟨g1, g2, g3, g4, g5, g6, _⟩ := ex_k hI hA hc2
    obtain ⟨l1, l2, l3, l4, l5⟩ := ex_l hI hA hc2 hb
    have go := sp_75 hc1 hc2 ha hs hβ R (D ++ [b])
    rw [el] at go
    have e159 : ∀ ρ : zS, zE tM_superpose_159 β ρ [(k1 : Int), (k2 : Int), lpos Cs k1 + (i : Int), s, lpos Cs k2 + (D.length : Int)] = zE tM_superpose_75 β ρ [(k1 : Int), (k2 : Int), lpos Cs k1 + (i : Int), s, lpos Cs k2 + ((D.length + 1 : Nat) : Int)] := fun ρ => by rw [zq_superpose_159, kZ_superpose_159, if_pos (by omega), show lpos Cs k2 + (D.length : Int) + 1 = lpos Cs k2 + ((D.length + 1 : Nat) : Int) by omega]
    have s75 : zE tM_superpose_75 β σ [(k1 : Int), (k2 : Int), lpos Cs k1 + (i : Int), s, lpos Cs k2 + (D.length : Int)] = if b2 (elI d2.1 D.length) = 0 then zE tM_superpose_159 β σ [(k1 : Int), (k2 : Int), lpos Cs k1 + (i : Int), s, lpos Cs k2 + (D.length : Int)] else zE tM_superpose_109 β σ [(k1 : Int), (k2 : Int), lpos Cs k1 + (i : Int), s, lpos Cs k2 + (D.length : Int), 0] := by
      rw [zq_superpose_75, kZ_superpose_75, if_pos (by omega), g1, g2, if_pos (by omega), if_neg (by omega), if_pos (by omega), l3]
    rw [List.length_cons, fo_2, s75]
    by_cases he : elI d2.1 D.length
    · obtain ⟨τ1, t1, t2, t3⟩ := sp_109 hc1 hc2 ha hb hs hβ he hI hA
      obtain ⟨τ, r1, r2, r3⟩ := go τ1 _ hD' t2 ((hA.tr (spB_ext _ _)).tr (spB_ext _ _))
      exact ⟨τ, by rw [b2_t he, if_neg (by decide), t1, e159, r1], r2, t3.trans r3⟩
    · have n0 : spB ar pd m9 k1 d1.1 i a s k2 d2.1 (2 * D.length) A = A := by
        have := spB_e (ar := ar) (pd := pd) (m9 := m9) (k1 := k1) (k2 := k2) (C1 := d1.1) (i := i) (a := a) (s := s) hb (t := 0) (by omega) (A := A)
        rw [Nat.add_zero] at this
        rw [this, if_neg (fun w => he w.1)]
      have n1 : spB ar pd m9 k1 d1.1 i a s k2 d2.1 (2 * D.length + 1) A = A := by
        rw [spB_e hb (t := 1) (by omega), if_neg (fun w => he w.1)]
      obtain ⟨τ, r1, r2, r3⟩ := go σ A hD' hI hA
      exact ⟨τ, by rw [b2_f he, if_pos rfl, e159, r1], by rw [n0, n1]; exact r2, r3⟩
theorem sp_48 (hc1 : Cs[k1]? = some d1) (hc2 : Cs[k2]? = some d2) {i : Nat} {a : Lt} (ha : d1.1[i]? = some a) (a1 : a.1 = 1) (he : elI d1.1 i) {β : Nat} (hβ : 1643 ≤ β) {s : Nat} (hs : s < 2) {σ : zS} {A : PA} (hI : RI ar pd m9 σ A) (hA : Ext Cs A) : ∃ τ, zE tM_superpose_48 β σ [(k1 : Int), (k2 : Int), lpos Cs k1 + (i : Int), (s : Int)] = zE tM_superpose_48 β τ [(k1 : Int), (k2 : Int), lpos Cs k1 + (i : Int), (s : Int) + 1] ∧ RI ar pd m9 τ (spA ar pd m9 k1 d1.1 k2 d2.1 (2 * i + s) A) ∧ FIn σ τ := by
  obtain ⟨g1, g2, g3, g4, g5, g6, _⟩ := ex_k hI hA hc1
  obtain ⟨h1, h2, h3, h4, h5, h6, _⟩ := ex_k hI hA hc2
  obtain ⟨l1, l2, l3, l4, l5⟩ := ex_l hI hA hc1 ha
  have il := (List.getElem?_eq_some_iff.mp ha).1
  have hs' : (s : Int) = 0 ∨ (s : Int) = 1 := by omega
  have u := us_r (β := β - 1) (q := lpos Cs k1 + (i : Int)) (by omega) (by omega) l2 hs'
  have e165 : ∀ ρ : zS, zE tM_superpose_165 β ρ [(k1 : Int), (k2 : Int), lpos Cs k1 + (i : Int), (s : Int)] = zE tM_superpose_48 β ρ [(k1 : Int), (k2 : Int), lpos Cs k1 + (i : Int), (s : Int) + 1] := fun ρ => by rw [zq_superpose_165, kZ_superpose_165, if_pos (by omega)]
  rw [spA_e ha hs]
  by_cases g : usL a (s : Int)
  · obtain ⟨τ, t1, t2, t3⟩ := sp_75 hc1 hc2 ha hs' hβ d2.1 [] σ A rfl hI hA
    have t1' : zE tM_superpose_75 β σ [(k1 : Int), (k2 : Int), lpos Cs k1 + (i : Int), (s : Int), lpos Cs k2] = zE tM_superpose_165 β τ [(k1 : Int), (k2 : Int), lpos Cs k1 + (i : Int), (s : Int)] := by
      rw [show lpos Cs k2 + (([] : List Lt).length : Int) = lpos Cs k2 by simp] at t1
      exact t1
    refine ⟨τ, ?_, by rw [if_pos ⟨a1, he, g⟩]; exact t2, t3⟩
    rw [zq_superpose_48, kZ_superpose_48, if_neg (by omega), if_pos (by omega), zbd_of u, b2_t g, if_neg (by decide), if_pos (by omega), h1, t1', e165]
  · refine ⟨σ, ?_, by rw [if_neg (fun w => g w.2.2)]; exact hI, FrC.refl⟩
    rw [zq_superpose_48, kZ_superpose_48, if_neg (by omega), if_pos (by omega), zbd_of u, b2_f g, if_pos rfl, e165]
theorem sp_7 (hc1 : Cs[k1]? = some d1) (hc2 : Cs[k2]? = some d2) {β : Nat} (hβ : 1643 ≤ β) : ∀ (R D : List Lt) (σ : zS) (A : PA), d1.1 = D ++ R → RI ar pd m9 σ A → Ext Cs A → ∃ τ, zE tM_superpose_7 β σ [(k1 : Int), (k2 : Int), lpos Cs k1 + (D.length : Int)] = some (τ, 0) ∧ RI ar pd m9 τ (fo (spA ar pd m9 k1 d1.1 k2 d2.1) (2 * R.length) (2 * D.length) A) ∧ FIn σ τ
  | [], D, σ, A, hD, hI, hA => by
    rw [List.append_nil] at hD
    obtain ⟨g1, g2, g3, g4, g5, g6, _⟩ := ex_k hI hA hc1
    refine ⟨σ, ?_, hI, FrC.refl⟩
    rw [zq_superpose_7, kZ_superpose_7, if_pos (by omega), g1, g2, if_pos (by omega), if_pos (by rw [hD]; omega)]
  | a :: R, D, σ, A, hD, hI, hA => by
    have hl : d1.1.length = D.length + (R.length + 1) := by rw [hD]; simp
    have ha : d1.1[D.length]? = some a := by rw [hD, List.getElem?_append_right (Nat.le_refl _), Nat.sub_self]; rfl
    have hD' : d1.1 = (D ++ [a]) ++ R := by rw [hD]; simp
    have el : (D ++ [a]).length = D.length + 1 := by simp
    obtain ⟨g1, g2, g3, g4, g5, g6, _⟩ := ex_k hI hA hc1
    obtain ⟨l1, l2, l3, l4, l5⟩ := ex_l hI hA hc1 ha
    have go := sp_7 hc1 hc2 hβ R (D ++ [a])
    rw [el] at go
    have e171 : ∀ ρ : zS, zE tM_superpose_171 β ρ [(k1 : Int), (k2 : Int), lpos Cs k1 + (D.length : Int)] = zE tM_superpose_7 β ρ [(k1 : Int), (k2 : Int), lpos Cs k1 + ((D.length + 1 : Nat) : Int)] := fun ρ => by rw [zq_superpose_171, kZ_superpose_171, if_pos (by omega), show lpos Cs k1 + (D.length : Int) + 1 = lpos Cs k1 + ((D.length + 1 : Nat) : Int) by omega]
    have s7 : zE tM_superpose_7 β σ [(k1 : Int), (k2 : Int), lpos Cs k1 + (D.length : Int)] = if a.1 = 0 then zE tM_superpose_171 β σ [(k1 : Int), (k2 : Int), lpos Cs k1 + (D.length : Int)] else if b2 (elI d1.1 D.length) = 0 then zE tM_superpose_171 β σ [(k1 : Int), (k2 : Int), lpos Cs k1 + (D.length : Int)] else zE tM_superpose_48 β σ [(k1 : Int), (k2 : Int), lpos Cs k1 + (D.length : Int), 0] := by
      rw [zq_superpose_7, kZ_superpose_7, if_pos (by omega), g1, g2, if_pos (by omega), if_neg (by omega), if_pos (by omega), l1, l3]
    rw [List.length_cons, fo_2, s7]
    by_cases hh : a.1 = 1 ∧ elI d1.1 D.length
    · obtain ⟨a1, he⟩ := hh
      obtain ⟨τ1, t1, t2, t3⟩ := sp_48 hc1 hc2 ha a1 he hβ (s := 0) (by omega) hI hA
      rw [Nat.add_zero] at t2
      have x1 := hA.tr (spA_ext (ar := ar) (pd := pd) (m9 := m9) (k1 := k1) (C1 := d1.1) (k2 := k2) (C2 := d2.1) (2 * D.length) A)
      obtain ⟨τ2, r1, r2, r3⟩ := sp_48 hc1 hc2 ha a1 he hβ (s := 1) (by omega) t2 x1
      obtain ⟨τ, q1, q2, q3⟩ := go τ2 _ hD' r2 (x1.tr (spA_ext _ _))
      refine ⟨τ, ?_, q2, (t3.trans r3).trans q3⟩
      have t1' : zE tM_superpose_48 β σ [(k1 : Int), (k2 : Int), lpos Cs k1 + (D.length : Int), 0] = zE tM_superpose_48 β τ1 [(k1 : Int), (k2 : Int), lpos Cs k1 + (D.length : Int), 1] := t1
      have r1' : zE tM_superpose_48 β τ1 [(k1 : Int), (k2 : Int), lpos Cs k1 + (D.length : Int), 1] = zE tM_superpose_48 β τ2 [(k1 : Int), (k2 : Int), lpos Cs k1 + (D.length : Int), 2] := r1
      rw [if_neg (by omega), b2_t he, if_neg (by decide), t1', r1', zq_superpose_48, kZ_superpose_48, if_pos (by omega), e171, q1]
    · have n : ∀ s : Nat, s < 2 → spA ar pd m9 k1 d1.1 k2 d2.1 (2 * D.length + s) A = A := fun s hs => by
        rw [spA_e ha hs, if_neg (fun w => hh ⟨w.1, w.2.1⟩)]
      have n0 := n 0 (by omega)
      rw [Nat.add_zero] at n0
      obtain ⟨τ, r1, r2, r3⟩ := go σ A hD' hI hA
      refine ⟨τ, ?_, by rw [n0, n 1 (by omega)]; exact r2, r3⟩
      by_cases a1 : a.1 = 0
      · rw [if_pos a1, e171, r1]
      · rw [if_neg a1, b2_f (fun w => hh ⟨by omega, w⟩), if_pos rfl, e171, r1]
/-- all of them -/
theorem rsup_ok (hc1 : Cs[k1]? = some d1) (hc2 : Cs[k2]? = some d2) {β : Nat} (hβ : 1643 ≤ β) {σ : zS} {A : PA} (hI : RI ar pd m9 σ A) (hA : Ext Cs A) : ∃ τ, zE tM_superpose β σ [(k1 : Int), (k2 : Int)] = some (τ, 0) ∧ RI ar pd m9 τ (supA ar pd m9 k1 d1.1 k2 d2.1 A) ∧ FIn σ τ := by
  obtain ⟨g1, g2, g3, g4, g5, g6, _⟩ := ex_k hI hA hc1
  obtain ⟨τ, t1, t2, t3⟩ := sp_7 hc1 hc2 hβ d1.1 [] σ A rfl hI hA
  refine ⟨τ, ?_, t2, t3⟩
  rw [zq_superpose, kZ_superpose, if_pos (by omega), g1, ← t1]
  simp
end sup4
