/-! coversAll: one side of one LITERAL of D -/
abbrev VF (σ τ : zS) : Prop := FrC [6603] [67] σ τ
/-- where C's LITERAL n and the m behind it stand, and what is known of them so far: K -/
def HB (ar : Int → Nat) (pd : Int → Prop) (m9 : Int) (Cs : List CL) (K : Int) (M : Mv) (σ : zS) : Prop := Cx ar pd m9 σ ∧ SC σ Cs ∧ MtA ar m9 (σ.2.1 48) ((σ.2.2 48 : Nat) : Int) (zI σ 6603 K) M
theorem HB.v {ar : Int → Nat} {pd : Int → Prop} {m9 : Int} {Cs : List CL} {K : Int} {M : Mv} {σ τ : zS} (h : HB ar pd m9 Cs K M σ) (f : VF σ τ) (g : ∀ v, 0 ≤ v → v < 6 → M v ≠ none → τ.2.1 67 v = σ.2.1 67 v) : HB ar pd m9 Cs K M τ := by
  obtain ⟨h1, h2, h3⟩ := h
  refine ⟨h1.f f, h2.f f, ?_⟩
  have e : τ.2.1 48 = σ.2.1 48 := funext fun q => f.a 48 q
  have l : τ.2.2 48 = σ.2.2 48 := f.2.2.1 48 (by decide) (by decide) (by decide)
  rw [e, l]
  exact h3.q (by rw [zI_1, zI_1]) g
theorem cov_p44 {ar : Int → Nat} {pd : Int → Prop} {m9 : Int} {β : Nat} (hβ : 4 ≤ β) {Cs : List CL} {P Q : Int} {a d : Lt} (wa1 : wf ar (lb m9) (tt a.2.1)) (wa2 : wf ar (lb m9) (tt a.2.2)) (sa : a.1 = 0 ∨ a.1 = 1) (wd1 : wf ar (lb m9) (tt d.2.1)) (wd2 : wf ar (lb m9) (tt d.2.2)) (sd : d.1 = 0 ∨ d.1 = 1) {x1 x2 x5 K : Int} (z1 : zr (x1 - 1)) {M : Mv} {R : Mv → Prop}
    (rec : ∀ (σ : zS) (M1 : Mv), Cx ar pd m9 σ → SC σ Cs → HL σ P a → MtA ar m9 (σ.2.1 48) ((σ.2.2 48 : Nat) : Int) σ M1 → ∃ τ, yE tC_Mat_coversAll (β - 1) σ [P + 5 + (tw a.2.1 : Int) + (tw a.2.2 : Int), x1 - 1, x2] = some (τ, b2 (R M1)) ∧ VF σ τ ∧ (∀ v, 0 ≤ v → v < 6 → M1 v ≠ none → τ.2.1 67 v = σ.2.1 67 v)) {σ : zS} (hB : HB ar pd m9 Cs K M σ) (ha : HL σ P a) (hd : HL σ Q d) {s : Int} (hs : s = 0 ∨ s = 1) :
    ∃ τ, VF σ τ ∧ (∀ v, 0 ≤ v → v < 6 → M v ≠ none → τ.2.1 67 v = σ.2.1 67 v) ∧ ((d.1 = a.1 ∧ (∃ M1, mtL pd M a d s = some M1 ∧ R M1) ∧ yE tC_Mat_coversAll_p44 β σ [P, x1, x2, K, Q, x5, s] = some (τ, 1)) ∨ (d.1 = a.1 ∧ (¬ ∃ M1, mtL pd M a d s = some M1 ∧ R M1) ∧ yE tC_Mat_coversAll_p44 β σ [P, x1, x2, K, Q, x5, s] = yE tC_Mat_coversAll_p44 β τ [P, x1, x2, K, Q, x5, s + 1]) ∨ (d.1 ≠ a.1 ∧ yE tC_Mat_coversAll_p44 β σ [P, x1, x2, K, Q, x5, s] = yE tC_Mat_coversAll_p205 β τ [P, x1, x2, K, Q, x5, s])) := by
  obtain ⟨hC, hS, hM⟩ := id hB
  have s1 : 1 - s = 0 ∨ 1 - s = 1 := by omega
  rw [yq_Mat_coversAll_p44, kY_Mat_coversAll_p44, if_neg (by omega), if_pos (by omega), zbd_of (pos_ok ha), if_pos (by omega), zbd_of (pos_ok hd)]
  have esg : b2 (a.1 = 1) = b2 (d.1 = 1) ↔ d.1 = a.1 := by
    by_cases u : a.1 = 1
    · by_cases v : d.1 = 1
      · rw [b2_t u, b2_t v]; exact ⟨fun _ => by omega, fun _ => rfl⟩
      · rw [b2_t u, b2_f v]; exact ⟨fun h => absurd h (by decide), fun h => absurd (by omega) v⟩
    · by_cases v : d.1 = 1
      · rw [b2_f u, b2_t v]; exact ⟨fun h => absurd h (by decide), fun h => absurd (by omega) u⟩
      · rw [b2_f u, b2_f v]; exact ⟨fun _ => by omega, fun _ => rfl⟩
  by_cases sg : d.1 = a.1
  · rw [if_pos (esg.mpr sg), lt_e]
    obtain ⟨σ1, hσ1⟩ : ∃ z, z = zI σ 6603 K := ⟨_, rfl⟩
    have f1 : VF σ σ1 := by rw [hσ1]; exact FrC_I
    have g1 : ∀ v, σ1.2.1 67 v = σ.2.1 67 v := fun v => by rw [hσ1]; rfl
    rw [← hσ1] at hM ⊢
    have hM1 : MtA ar m9 (σ1.2.1 48) ((σ1.2.2 48 : Nat) : Int) σ1 M := by
      have e : σ1.2.1 48 = σ.2.1 48 := by rw [hσ1]; rfl
      have l : σ1.2.2 48 = σ.2.2 48 := by rw [hσ1]; rfl
      rw [e, l]; exact hM
    have ha1 := ha.f f1
    have hd1 := hd.f f1
    have e199 : ∀ (ρ : zS) (q7 q8 : Int), yE tC_Mat_coversAll_p199 β ρ [P, x1, x2, K, Q, x5, s, q7, q8] = yE tC_Mat_coversAll_p44 β ρ [P, x1, x2, K, Q, x5, s + 1] := fun ρ q7 q8 => by rw [yq_Mat_coversAll_p199, kY_Mat_coversAll_p199, if_pos (by omega)]
    obtain ⟨σ2, m1, m2, m3, m4, m5⟩ := mat_side (pd := pd) (β := β - 1) (by omega) (hC.f f1) ha1 hd1 (s := 0) (t := s) (sd_wf wa1 wa2 0).1 (sd_wf wd1 wd2 s).1 hM1
    have f2 : VF σ σ2 := f1.trans m2
    have g2 : ∀ v, 0 ≤ v → v < 6 → M v ≠ none → σ2.2.1 67 v = σ.2.1 67 v := fun v a b c => by rw [m4 v a b c, g1]
    rw [if_pos (by omega), zbd_of (side_ok hd1 hs), if_pos (by omega), if_pos (by omega), zbd_of (side_ok hd1 s1), if_pos (by omega), zbd_of (side_ok ha1 (Or.inl rfl)), if_pos (by omega), zbd_of (size_ok ha1 (Or.inl rfl)), if_pos (by omega), zbd_of m1]
    have ea0 : sdT a 0 = a.2.1 := rfl
    have ea1 : sdT a 1 = a.2.2 := rfl
    rw [ea0] at m5 ⊢
    cases h1 : mtF pd M (tt a.2.1) (tt (sdT d s)) with
    | none =>
      rw [b2_f (fun h => h rfl), if_pos rfl, e199]
      refine ⟨σ2, f2, g2, Or.inr (Or.inl ⟨sg, ?_, rfl⟩)⟩
      rintro ⟨M1, e, _⟩
      unfold mtL at e; rw [h1] at e; cases e
    | some M1 =>
      rw [b2_t (fun h => (by cases h)), if_neg (by decide)]
      have ha2 := ha.f f2
      have hd2 := hd.f f2
      obtain ⟨σ3, n1, n2, n3, n4, n5⟩ := mat_side (pd := pd) (β := β - 1) (by omega) (hC.f f2) ha2 hd2 (s := 1) (t := 1 - s) (sd_wf wa1 wa2 1).1 (sd_wf wd1 wd2 (1 - s)).1 (m5 M1 h1)
      have f3 : VF σ σ3 := f2.trans n2
      have mo1 := mtF_mono h1
      have g3 : ∀ v, 0 ≤ v → v < 6 → M v ≠ none → σ3.2.1 67 v = σ.2.1 67 v := fun v a b c => by rw [n4 v a b (mo1 v c), g2 v a b c]
      rw [if_pos (by omega), zbd_of (side_ok ha2 (Or.inr rfl)), if_pos (by omega), zbd_of (size_ok ha2 (Or.inr rfl)), if_pos (by omega), zbd_of n1]
      rw [ea1] at n5 ⊢
      have eL : mtL pd M a d s = mtF pd M1 (tt a.2.2) (tt (sdT d (1 - s))) := by unfold mtL; rw [h1]
      cases h2 : mtF pd M1 (tt a.2.2) (tt (sdT d (1 - s))) with
      | none =>
        rw [b2_f (fun h => h rfl), if_pos rfl, e199]
        refine ⟨σ3, f3, g3, Or.inr (Or.inl ⟨sg, ?_, rfl⟩)⟩
        rintro ⟨M2, e, _⟩
        rw [eL, h2] at e; cases e
      | some M2 =>
        rw [b2_t (fun h => (by cases h)), if_neg (by decide), if_pos (by omega), zbd_of (behind_ok (ha.f f3)), if_pos z1, if_pos (by omega)]
        obtain ⟨τ, r1, r2, r3⟩ := rec σ3 M2 (hC.f f3) (hS.f f3) (ha.f f3) (n5 M2 h2)
        have mo2 := mtF_mono h2
        have g4 : ∀ v, 0 ≤ v → v < 6 → M v ≠ none → τ.2.1 67 v = σ.2.1 67 v := fun v a b c => by rw [r3 v a b (mo2 v (mo1 v c)), g3 v a b c]
        rw [zbd_of r1]
        by_cases hR : R M2
        · rw [b2_t hR, if_neg (by decide)]
          exact ⟨τ, f3.trans r2, g4, Or.inl ⟨sg, ⟨M2, by rw [eL]; exact h2, hR⟩, rfl⟩⟩
        · rw [b2_f hR, if_pos rfl, e199]
          refine ⟨τ, f3.trans r2, g4, Or.inr (Or.inl ⟨sg, ?_, rfl⟩)⟩
          rintro ⟨M3, e, h3⟩
          rw [eL, h2] at e; cases e
          exact hR h3
  · rw [if_neg (fun h => sg (esg.mp h))]
    exact ⟨σ, FrC.refl, fun _ _ _ _ => rfl, Or.inr (Or.inr ⟨sg, rfl⟩)⟩
