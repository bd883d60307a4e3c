/-! with fewer values to begin with, what matched still does -/
def NP (pd : Int → Prop) (M : Mv) : Prop := ∀ v x, M v = some x → ¬ (0 ≤ cl x.1 ∧ pd (cl x.1))
def Sb (M N : Mv) : Prop := ∀ v x, M v = some x → N v = some x
theorem mt1_sub {pd : Int → Prop} {M M1 N : Mv} (hN : NP pd M) (hS : Sb N M) {n n2 : Nat} {k2 : T} {go go2 : Option Mv} (hg : ∀ M2, go = some M2 → NP pd M2 ∧ ∃ N2, go2 = some N2 ∧ Sb N2 M2) (h : mt1 pd M n n2 k2 go = some M1) : NP pd M1 ∧ ∃ N1, mt1 pd N n n2 k2 go2 = some N1 ∧ Sb N1 M1 := by
  unfold mt1 at h ⊢
  by_cases hn : cl n < 0
  · rw [if_pos hn] at h ⊢
    obtain ⟨v, hv⟩ : ∃ v, v = -1 - cl n := ⟨_, rfl⟩
    rw [← hv] at h ⊢
    cases hM : M v with
    | some x =>
      rw [hM] at h
      dsimp only at h
      by_cases e : x = (n2, k2)
      · rw [if_pos e] at h
        cases h
        refine ⟨hN, ?_⟩
        cases hNv : N v with
        | some y =>
          have := hS v y hNv
          rw [hM] at this
          cases this
          dsimp only
          rw [if_pos e]
          exact ⟨N, rfl, hS⟩
        | none =>
          dsimp only
          have hp := hN v x hM
          rw [e] at hp
          rw [if_neg hp]
          refine ⟨_, rfl, fun w y hy => ?_⟩
          unfold mup at hy
          by_cases ew : w = v
          · rw [if_pos ew] at hy; cases hy; rw [ew, hM, e]
          · rw [if_neg ew] at hy; exact hS w y hy
      · rw [if_neg e] at h; cases h
    | none =>
      rw [hM] at h
      dsimp only at h
      have hNv : N v = none := by
        cases hNv : N v with
        | none => rfl
        | some y => have := hS v y hNv; rw [hM] at this; cases this
      rw [hNv]
      dsimp only
      by_cases e : 0 ≤ cl n2 ∧ pd (cl n2)
      · rw [if_pos e] at h; cases h
      · rw [if_neg e] at h ⊢
        cases h
        refine ⟨fun w y hy => ?_, _, rfl, fun w y hy => ?_⟩
        · unfold mup at hy
          by_cases ew : w = v
          · rw [if_pos ew] at hy; cases hy; exact e
          · rw [if_neg ew] at hy; exact hN w y hy
        · unfold mup at hy ⊢
          by_cases ew : w = v
          · rw [if_pos ew] at hy ⊢; exact hy
          · rw [if_neg ew] at hy ⊢; exact hS w y hy
  · rw [if_neg hn] at h ⊢
    by_cases e : n = n2
    · rw [if_pos e] at h ⊢; exact hg _ h
    · rw [if_neg e] at h; cases h
theorem mtF_sub {pd : Int → Prop} : ∀ {F G : T} {M M1 N : Mv}, NP pd M → Sb N M → mtF pd M F G = some M1 → NP pd M1 ∧ ∃ N1, mtF pd N F G = some N1 ∧ Sb N1 M1
  | .leaf _, G, M, M1, N, hN, hS, h => by simp only [mtF] at h ⊢; cases h; exact ⟨hN, N, rfl, hS⟩
  | .branch n k s, .leaf _, M, M1, N, hN, hS, h => by simp only [mtF] at h; cases h
  | .branch n k s, .branch n2 k2 s2, M, M1, N, hN, hS, h => by
    simp only [mtF] at h ⊢
    cases hm : mt1 pd M n n2 k2 (mtF pd M k k2) with
    | none => rw [hm] at h; cases h
    | some M2 =>
      rw [hm] at h
      obtain ⟨a1, N2, a2, a3⟩ := mt1_sub hN hS (go2 := mtF pd N k k2) (fun M3 h3 => mtF_sub hN hS h3) hm
      rw [a2]
      exact mtF_sub a1 a3 h
theorem cov_one {pd : Int → Prop} {D : List Lt} : ∀ {C : List Lt} {M : Mv}, NP pd M → cov pd D M C → ∀ a ∈ C, cov pd D (fun _ => none) [a]
  | [], M, _, _, a, ha => by cases ha
  | b :: C, M, hN, h, a, ha => by
    obtain ⟨d, h1, h2, s, hs, M1, h3, h4⟩ := h
    unfold mtL at h3
    cases hm : mtF pd M (tt b.2.1) (tt (sdT d s)) with
    | none => rw [hm] at h3; cases h3
    | some M2 =>
      rw [hm] at h3
      dsimp only at h3
      obtain ⟨a1, N2, a2, a3⟩ := mtF_sub hN (N := fun _ => none) (fun v x hx => (by cases hx)) hm
      obtain ⟨b1, N3, b3, _⟩ := mtF_sub a1 a3 h3
      rcases List.mem_cons.mp ha with rfl | ha
      · refine ⟨d, h1, h2, s, hs, N3, ?_, trivial⟩
        unfold mtL; rw [a2]; exact b3
      · exact cov_one b1 h4 a ha
