/-- 1 where it holds, 0 where not -/
noncomputable def b2 (p : Prop) : Int := @ite _ p (Classical.propDecidable p) 1 0
theorem b2_t {p : Prop} (h : p) : b2 p = 1 := by unfold b2; exact if_pos h
theorem b2_f {p : Prop} (h : ¬ p) : b2 p = 0 := by unfold b2; exact if_neg h
theorem b2_c {p q : Prop} (h : p ↔ q) : b2 p = b2 q := by
  by_cases w : q
  · rw [b2_t w, b2_t (h.mpr w)]
  · rw [b2_f w, b2_f (fun x => w (h.mp x))]
theorem b2_01 (p : Prop) : b2 p = 0 ∨ b2 p = 1 := by
  by_cases w : p
  · exact Or.inr (b2_t w)
  · exact Or.inl (b2_f w)
theorem b2_0 {p : Prop} : b2 p = 0 ↔ ¬ p := by
  by_cases w : p
  · rw [b2_t w]; simp [w]
  · rw [b2_f w]; simp [w]
theorem same_47_ok {σ : zS} {ar : Int → Nat} {p : Int → Prop} : ∀ (F G : T) (β : Nat) (a b t u : Int), Pc σ F t → t + (wt F : Int) ≤ 420000 → Pc σ G u → u + (wt G : Int) ≤ 420000 → wf ar p F → wf ar p G → len F = len G → ht F ≤ β → zE tM_same_47 β σ [a, b, u, t] = some (σ, b2 (F = G))
  | .leaf (), G, β, a, b, t, u, hF, _, hG, _, wF, wG, hl, hd => by
    have e : G = nl := len0 hl.symm
    subst e
    have h1 : t < 0 := hF
    rw [zq_same_47, kZ_same_47, if_pos h1, b2_t rfl]
  | .branch n k s, .leaf (), β, a, b, t, u, hF, _, hG, _, wF, wG, hl, hd => by simp only [len] at hl; omega
  | .branch n k s, .branch n2 k2 s2, β, a, b, t, u, hF, c1, hG, c2, wF, wG, hl, hd => by
    have k1 := Pc_kid hF c1 (by omega)
    have k2' := Pc_kid hG c2 (by omega)
    have s1 := Pc_bes hF c1 (by omega)
    have s2' := Pc_bes hG c2 (by omega)
    obtain ⟨a1, a2, a3, a4, a5, a6, a7⟩ := hF
    obtain ⟨b1, b2', b3, b4, b5, b6, b7⟩ := hG
    simp only [ht] at hd
    simp only [len] at hl
    simp only [wt] at c1 c2
    have hs := same_47_ok s s2 β a b _ _ a6 s1 b6 s2' wF.2.2.2 wG.2.2.2 (by omega) (by omega)
    have key : zE tM_same (β - 1) σ [t, u] = some (σ, b2 (n = n2 ∧ k = k2)) := by
      rw [zq_same, kZ_same, if_pos (by omega), if_pos (by omega), a2, b2', a3, b3]
      by_cases hn : n = n2
      · subst hn
        rw [if_pos rfl]
        by_cases hw : wt k = wt k2
        · rw [if_pos (by omega), same_47_ok k k2 (β - 1) t u _ _ a4 k1 b4 k2' wF.2.2.1 wG.2.2.1 (wF.1.trans wG.1.symm) (by omega)]
          congr 2
          exact b2_c (by simp)
        · rw [if_neg (by omega), zq_same_30, kZ_same_30, b2_f]
          intro w; exact hw (by rw [w.2])
      · rw [if_neg (fun w => hn (cl_inj w)), zq_same_30, kZ_same_30, b2_f]
        intro w; exact hn w.1
    rw [zq_same_47, kZ_same_47, if_neg (by omega), if_pos (by omega), zbd_of key]
    by_cases hk : n = n2 ∧ k = k2
    · rw [b2_t hk, if_neg (by omega), if_pos (by omega), if_pos (by omega), hs]
      obtain ⟨rfl, rfl⟩ := hk
      congr 2
      exact b2_c (by simp)
    · rw [b2_f hk, if_pos rfl, b2_f]
      intro w
      injection w with w1 w2 w3
      exact hk ⟨w1, w2⟩
theorem same_ok {σ : zS} {ar : Int → Nat} {p : Int → Prop} {n n2 : Nat} {k k2 : T} {β : Nat} {t u : Int} (h1 : Pt σ n k t) (c1 : t + 1 + (wt k : Int) ≤ 420000) (h2 : Pt σ n2 k2 u) (c2 : u + 1 + (wt k2 : Int) ≤ 420000) (w1 : wf ar p (nd n k nl)) (w2 : wf ar p (nd n2 k2 nl)) (hd : ht k ≤ β) : zE tM_same β σ [t, u] = some (σ, b2 (n = n2 ∧ k = k2)) := by
  have k1 := Pt_kid h1 c1 (by omega)
  have k2' := Pt_kid h2 c2 (by omega)
  obtain ⟨a1, a2, a3, a4, a5⟩ := h1
  obtain ⟨b1, b2', b3, b4, b5⟩ := h2
  rw [zq_same, kZ_same, if_pos (by omega), if_pos (by omega), a2, b2', a3, b3]
  by_cases hn : n = n2
  · subst hn
    rw [if_pos rfl]
    by_cases hw : wt k = wt k2
    · rw [if_pos (by omega), same_47_ok k k2 β t u _ _ a4 k1 b4 k2' w1.2.2.1 w2.2.2.1 (w1.1.trans w2.1.symm) hd]
      congr 2
      exact b2_c (by simp)
    · rw [if_neg (by omega), zq_same_30, kZ_same_30, b2_f]
      intro w; exact hw (by rw [w.2])
  · rw [if_neg (fun w => hn (cl_inj w)), zq_same_30, kZ_same_30, b2_f]
    intro w; exact hn w.1
