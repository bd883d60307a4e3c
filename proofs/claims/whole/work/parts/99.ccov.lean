/-! SUBSUMED: the LITERALS of C, with values put in, are LITERALS of D -/
theorem mt1_mono {pd : Int → Prop} {M M1 : Mv} {n n2 : Nat} {k2 : T} {go : Option Mv} (hg : ∀ M2, go = some M2 → ∀ v, M v ≠ none → M2 v ≠ none) (h : mt1 pd M n n2 k2 go = some M1) : ∀ v, M v ≠ none → M1 v ≠ none := fun v hv => by
  unfold mt1 at h
  by_cases hn : cl n < 0
  · rw [if_pos hn] at h
    cases hM : M (-1 - cl n) with
    | some x =>
      rw [hM] at h
      dsimp only at h
      by_cases e : x = (n2, k2)
      · rw [if_pos e] at h; cases h; exact hv
      · rw [if_neg e] at h; cases h
    | none =>
      rw [hM] at h
      dsimp only at h
      by_cases e : 0 ≤ cl n2 ∧ pd (cl n2)
      · rw [if_pos e] at h; cases h
      · rw [if_neg e] at h; cases h
        unfold mup
        by_cases e2 : v = -1 - cl n
        · rw [if_pos e2]; exact fun h => (by cases h)
        · rw [if_neg e2]; exact hv
  · rw [if_neg hn] at h
    by_cases e : n = n2
    · rw [if_pos e] at h; exact hg _ h v hv
    · rw [if_neg e] at h; cases h
theorem mtF_mono {pd : Int → Prop} : ∀ {F G : T} {M M1 : Mv}, mtF pd M F G = some M1 → ∀ v, M v ≠ none → M1 v ≠ none
  | .leaf _, G, M, M1, h, v, hv => by simp only [mtF] at h; cases h; exact hv
  | .branch n k s, .leaf _, M, M1, h, v, hv => by simp only [mtF] at h; cases h
  | .branch n k s, .branch n2 k2 s2, M, M1, h, v, hv => by
    simp only [mtF] at h
    cases hm : mt1 pd M n n2 k2 (mtF pd M k k2) with
    | none => rw [hm] at h; cases h
    | some M2 =>
      rw [hm] at h
      exact mtF_mono h v (mt1_mono (fun M3 h3 => mtF_mono h3) hm v hv)
/-- one LITERAL by side s of another -/
noncomputable def mtL (pd : Int → Prop) (M : Mv) (a d : Lt) (s : Int) : Option Mv := match mtF pd M (tt a.2.1) (tt (sdT d s)) with
  | none => none
  | some M1 => mtF pd M1 (tt a.2.2) (tt (sdT d (1 - s)))
theorem mtL_mono {pd : Int → Prop} {M M1 : Mv} {a d : Lt} {s : Int} (h : mtL pd M a d s = some M1) : ∀ v, M v ≠ none → M1 v ≠ none := fun v hv => by
  unfold mtL at h
  cases hm : mtF pd M (tt a.2.1) (tt (sdT d s)) with
  | none => rw [hm] at h; cases h
  | some M2 => rw [hm] at h; exact mtF_mono h v (mtF_mono hm v hv)
def cov (pd : Int → Prop) (D : List Lt) : Mv → List Lt → Prop
  | _, [] => True
  | M, a :: C => ∃ d ∈ D, d.1 = a.1 ∧ ∃ s : Int, (s = 0 ∨ s = 1) ∧ ∃ M1, mtL pd M a d s = some M1 ∧ cov pd D M1 C
theorem MtA.q {ar : Int → Nat} {m9 : Int} {g : Int → Int} {lim : Int} {σ τ : zS} {M : Mv} (h : MtA ar m9 g lim σ M) (e : τ.1 6603 = σ.1 6603) (f : ∀ v, 0 ≤ v → v < 6 → M v ≠ none → τ.2.1 67 v = σ.2.1 67 v) : MtA ar m9 g lim τ M := by
  refine ⟨by rw [e]; exact h.1, fun v v0 v1 => ?_⟩
  obtain ⟨q1, q2⟩ := h.2 v v0 v1
  refine ⟨by rw [e]; exact q1, fun x hx => ?_⟩
  rw [f v v0 v1 (by rw [hx]; exact fun h => (by cases h))]
  exact q2 x hx
/-- matches, of a side -/
theorem mat_side {ar : Int → Nat} {pd : Int → Prop} {m9 : Int} {β : Nat} (hβ : 2 ≤ β) {σ : zS} (hC : Cx ar pd m9 σ) {p q : Int} {a d : Lt} (ha : HL σ p a) (hd : HL σ q d) {s t : Int} (wa : wf ar (lb m9) (tt (sdT a s))) (wd : wf ar (lb m9) (tt (sdT d t))) {M : Mv} (hM : MtA ar m9 (σ.2.1 48) ((σ.2.2 48 : Nat) : Int) σ M) : ∃ τ, yE tC_Mat_matches_48 β σ [sdp p a s, (tw (sdT a s) : Int), sdp q d t] = some (τ, b2 (mtF pd M (tt (sdT a s)) (tt (sdT d t)) ≠ none)) ∧ FrC [6603] [67] σ τ ∧ (0 ≤ τ.1 6603 ∧ τ.1 6603 < 4096) ∧ (∀ v, 0 ≤ v → v < 6 → M v ≠ none → τ.2.1 67 v = σ.2.1 67 v) ∧ ∀ M2, mtF pd M (tt (sdT a s)) (tt (sdT d t)) = some M2 → MtA ar m9 (τ.2.1 48) ((τ.2.2 48 : Nat) : Int) τ M2 := by
  obtain ⟨a1, a2, a3⟩ := ha.sd (s := s)
  obtain ⟨d1, d2, d3⟩ := hd.sd (s := t)
  have l8 := hd.2.2.2.2.2.2.2.1
  have ew : ∀ x : Tm, wt (tt x) = tw x := fun x => by simp only [tt, wt, tw]; omega
  obtain ⟨τ, r, m1, m2, m3, m4, m5⟩ := mat48_loop (pd := pd) hβ (x0 := sdp p a s) (x1 := (tw (sdT a s) : Int)) (x2 := sdp q d t) (wt (tt (sdT a s))) (tt (sdT a s)) (tt (sdT d t)) σ M (sdp p a s) (sdp q d t) (Nat.le_refl _) hC a1 wa a2 (by rw [ew]) a3 d1 wd rfl d2 (by rw [ew]; omega) hM
  refine ⟨τ, ?_, m2, m3, m4, fun M2 h2 => ?_⟩
  · rw [yq_Mat_matches_48, kY_Mat_matches_48, m1]
    rcases m5 with ⟨rfl, M2, e, _⟩ | ⟨rfl, e⟩
    · rw [b2_t (by rw [e]; exact fun h => (by cases h))]
    · rw [b2_f (fun h => h e)]
  · rcases m5 with ⟨_, M3, e, h3⟩ | ⟨_, e⟩
    · rw [e] at h2; cases h2; exact h3
    · rw [e] at h2; cases h2
