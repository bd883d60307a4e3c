/-! loops that make a TERM's TERMS one behind the other: what was made is hung in, and its weight added -/
def hng (τ : zS) (x1 x2 q : Int) : zS := zA (if 0 ≤ x2 then zA τ 45 x2 q else zA τ 44 x1 q) 46 x1 (τ.2.1 46 x1 + τ.2.1 46 q)
theorem hng_i (τ : zS) (x1 x2 q : Int) : (hng τ x1 x2 q).1 = τ.1 := by unfold hng; split <;> rfl
theorem hng_l (τ : zS) (x1 x2 q : Int) : (hng τ x1 x2 q).2.2 = τ.2.2 := by unfold hng; split <;> rfl
theorem hng_w (τ : zS) (x1 x2 q : Int) : (hng τ x1 x2 q).2.1 46 x1 = τ.2.1 46 x1 + τ.2.1 46 q := by unfold hng; split <;> simp [zA]
theorem hng_b (τ : zS) (x1 x2 q : Int) (h : 0 ≤ x2) : (hng τ x1 x2 q).2.1 45 x2 = q := by unfold hng; rw [if_pos h]; simp [zA]
theorem hng_k (τ : zS) (x1 x2 q : Int) (h : x2 < 0) : (hng τ x1 x2 q).2.1 44 x1 = q := by unfold hng; rw [if_neg (by omega)]; simp [zA]
theorem hng_o (τ : zS) (x1 x2 q : Int) (j : Nat) (i : Int) (h1 : ¬ (j = 46 ∧ i = x1)) (h2 : ¬ (j = 45 ∧ i = x2 ∧ 0 ≤ x2)) (h3 : ¬ (j = 44 ∧ i = x1 ∧ x2 < 0)) : (hng τ x1 x2 q).2.1 j i = τ.2.1 j i := by
  unfold hng
  by_cases h : 0 ≤ x2
  · have e : ¬ (j = 45 ∧ i = x2) := fun w => h2 ⟨w.1, w.2, h⟩
    rw [if_pos h]; simp [zA, h1, e]
  · have e : ¬ (j = 44 ∧ i = x1) := fun w => h3 ⟨w.1, w.2, by omega⟩
    rw [if_neg h]; simp [zA, h1, e]
/-- what such a loop has done: it made S -/
def Lp (σ τ : zS) (x1 x2 : Int) (S : T) : Prop := GrowX σ τ (wt S) x1 x2 ∧ τ.2.1 46 x1 = σ.2.1 46 x1 + (wt S : Int) ∧ (S = nl → τ = σ) ∧ (0 < wt S → Pc τ S (σ.1 47) ∧ (0 ≤ x2 → τ.2.1 45 x2 = σ.1 47) ∧ (x2 < 0 → τ.2.1 44 x1 = σ.1 47))
theorem Lp_nil {σ : zS} {x1 x2 : Int} : Lp σ σ x1 x2 nl := ⟨⟨by simp [wt], fun _ _ => rfl, rfl, fun _ _ _ _ _ _ => rfl⟩, by simp [wt], fun _ => rfl, fun w => by simp [wt] at w⟩
theorem Lp_cons {σ τ1 τ4 : zS} {x1 x2 : Int} {n : Nat} {k S : T} (G1 : Grow σ τ1 (1 + wt k)) (P1 : Pt τ1 n k (σ.1 47)) (b1 : τ1.2.1 45 (σ.1 47) = -1) (g1 : 0 ≤ x1) (g2 : x1 < σ.1 47) (g3 : x2 < σ.1 47) (h : Lp (hng τ1 x1 x2 (σ.1 47)) τ4 x1 (σ.1 47) S) : Lp σ τ4 x1 x2 (nd n k S) := by
  obtain ⟨G4, w4, n4, m4⟩ := h
  have t1 : τ1.1 47 = σ.1 47 + 1 + (wt k : Int) := by rw [G1.1]; omega
  have t3 : (hng τ1 x1 x2 (σ.1 47)).1 47 = σ.1 47 + 1 + (wt k : Int) := by rw [hng_i]; exact t1
  have w1 : τ1.2.1 46 x1 = σ.2.1 46 x1 := G1.2.2.2 46 x1 (Or.inl (by omega))
  have wy : τ1.2.1 46 (σ.1 47) = 1 + (wt k : Int) := P1.2.2.1
  have h0 : 0 ≤ σ.1 47 := P1.1
  have Q4 : ∀ j q, q < σ.1 47 + 1 + (wt k : Int) → ¬ (j = 46 ∧ q = x1) → ¬ (j = 45 ∧ q = σ.1 47) → τ4.2.1 j q = (hng τ1 x1 x2 (σ.1 47)).2.1 j q := fun j q u1 u2 u3 => G4.2.2.2 j q (Or.inl (by omega)) u2 (by omega) (by omega)
  have R4 : ∀ j q, σ.1 47 ≤ q → q < σ.1 47 + 1 + (wt k : Int) → ¬ (j = 45 ∧ q = σ.1 47) → τ4.2.1 j q = τ1.2.1 j q := fun j q u0 u1 u2 => by
    rw [Q4 j q u1 (by omega) u2, hng_o _ _ _ _ j q (by omega) (by omega) (by omega)]
  refine ⟨⟨?_, ?_, ?_, ?_⟩, ?_, fun w => (by cases w), fun _ => ⟨⟨?_, ?_, ?_, ?_, ?_, ?_, ?_⟩, fun hx => ?_, fun hx => ?_⟩⟩
  · rw [G4.1, t3]; simp only [wt]; omega
  · intro j hj; rw [G4.2.1 j hj, hng_i]; exact G1.2.1 j hj
  · rw [G4.2.2.1, hng_l]; exact G1.2.2.1
  · intro j q u1 u2 u3 u4
    by_cases hq : q < σ.1 47
    · rw [Q4 j q (by omega) u2 (by omega), hng_o _ _ _ _ j q u2 u3 u4, G1.2.2.2 j q (Or.inl hq)]
    · have u5 : ¬ (j = 43 ∨ j = 44 ∨ j = 45 ∨ j = 46) := by omega
      rw [G4.2.2.2 j q (Or.inr u5) u2 (by omega) (by omega), hng_o _ _ _ _ j q u2 u3 u4, G1.2.2.2 j q (Or.inr u5)]
  · rw [w4, hng_w, w1, wy]; simp only [wt]; omega
  · omega
  · rw [R4 43 _ (by omega) (by omega) (by omega)]; exact P1.2.1
  · rw [R4 46 _ (by omega) (by omega) (by omega)]; exact P1.2.2.1
  · rw [R4 44 _ (by omega) (by omega) (by omega)]
    have z := P1.2.2.2.1
    rcases Pc_bd z with ⟨w1, w2⟩ | ⟨w1, w2⟩
    · exact Pc_q (fun j i u1 u2 u3 => by omega) z
    · have z2 := P1.2.2.2.2 w1
      exact Pc_q (fun j i u1 u2 _ => R4 j i (by omega) (by omega) (by omega)) z
  · rw [R4 44 _ (by omega) (by omega) (by omega)]; exact P1.2.2.2.2
  · rcases Nat.eq_zero_or_pos (wt S) with hs | hs
    · have hs' := wt0 hs
      subst hs'
      show τ4.2.1 45 (σ.1 47) < 0
      rw [n4 rfl, hng_o _ _ _ _ 45 _ (by omega) (by omega) (by omega), b1]; omega
    · obtain ⟨z1, z2, z3⟩ := m4 hs
      rw [z2 (by omega)]; exact z1
  · intro hs
    obtain ⟨z1, z2, z3⟩ := m4 hs
    rw [z2 (by omega), t3]
  · rw [Q4 45 x2 (by omega) (by omega) (by omega)]; exact hng_b _ _ _ _ hx
  · rw [Q4 44 x1 (by omega) (by omega) (by omega)]; exact hng_k _ _ _ _ hx
/-- a new node, and the loop over what is within it -/
theorem Lp_root {σ τ1 τ2 : zS} {n : Nat} {k : T} (h0 : 0 ≤ σ.1 47) (G1 : Grow σ τ1 1) (f1 : τ1.2.1 43 (σ.1 47) = cl n) (f2 : τ1.2.1 44 (σ.1 47) = -1) (f3 : τ1.2.1 45 (σ.1 47) = -1) (f4 : τ1.2.1 46 (σ.1 47) = 1) (h : Lp τ1 τ2 (σ.1 47) (-1) k) : Grow σ τ2 (1 + wt k) ∧ Pt τ2 n k (σ.1 47) ∧ τ2.2.1 45 (σ.1 47) = -1 := by
  obtain ⟨G2, w2, n2, m2⟩ := h
  have t1 : τ1.1 47 = σ.1 47 + 1 := G1.1
  refine ⟨⟨?_, ?_, ?_, ?_⟩, ⟨?_, ?_, ?_, ?_, ?_⟩, ?_⟩
  · rw [G2.1, t1]; omega
  · intro j hj; rw [G2.2.1 j hj, G1.2.1 j hj]
  · rw [G2.2.2.1, G1.2.2.1]
  · intro j q hq
    rw [G2.2.2.2 j q (by omega) (by omega) (by omega) (by omega), G1.2.2.2 j q hq]
  · exact h0
  · rw [G2.2.2.2 43 _ (by omega) (by omega) (by omega) (by omega), f1]
  · rw [w2, f4]
  · rcases Nat.eq_zero_or_pos (wt k) with hk | hk
    · have hk' := wt0 hk
      subst hk'
      show τ2.2.1 44 (σ.1 47) < 0
      rw [n2 rfl, f2]; omega
    · obtain ⟨z1, z2, z3⟩ := m2 hk
      rw [z3 (by omega)]; exact z1
  · intro hk
    obtain ⟨z1, z2, z3⟩ := m2 hk
    rw [z3 (by omega), t1]
  · rw [G2.2.2.2 45 _ (by omega) (by omega) (by omega) (by omega), f3]
theorem hng_pq {σ τ1 : zS} {m : Nat} {x1 x2 hi : Int} (G1 : Grow σ τ1 m) (hh : hi ≤ σ.1 47) (h1 : hi ≤ x1) (h2 : x2 < 0 ∨ hi ≤ x2) : Pq σ (hng τ1 x1 x2 (σ.1 47)) 0 hi := fun j i a b c => by
  rw [hng_o _ _ _ _ j i (by omega) (by omega) (by omega)]; exact G1.2.2.2 j i (Or.inl (by omega))
theorem Pc_hi {σ τ : zS} {hi : Int} (q : Pq σ τ 0 hi) {F : T} {t : Int} (h : Pc σ F t) (hb : t + (wt F : Int) ≤ hi) : Pc τ F t := by
  rcases Pc_bd h with ⟨w1, w2⟩ | ⟨w1, w2⟩
  · exact Pc_q (fun j i u1 u2 u3 => by omega) h
  · exact Pc_q (q.w (by omega) (by omega)) h
theorem Pt_hi {σ τ : zS} {hi : Int} (q : Pq σ τ 0 hi) {n : Nat} {k : T} {t : Int} (h : Pt σ n k t) (hb : t + 1 + (wt k : Int) ≤ hi) : Pt τ n k t := Pt_q (q.w h.1 hb) h
/-! values put for VARIABLES -/
def hv (M : Mv) : T → Prop
  | .leaf _ => True
  | .branch n k s => (if cl n < 0 then M (-1 - cl n) ≠ none else hv M k) ∧ hv M s
noncomputable def sb (M : Mv) : T → T
  | .leaf _ => nl
  | .branch n k s => if cl n < 0 then (match M (-1 - cl n) with
    | some x => nd x.1 x.2 (sb M s)
    | none => nd n k (sb M s)) else nd n (sb M k) (sb M s)
theorem hasAll_loop {m9 : Int} {ar : Int → Nat} {H : Nat} {M : Mv} : ∀ (S : T) (σ : zS) (β : Nat) (x0 x1 : Int), Pc σ S x1 → x1 + (wt S : Int) ≤ 420000 → wf ar (lb m9) S → Mt ar m9 H σ M → ht S ≤ β → zE tM_hasAll_38 β σ [x0, x1] = some (σ, b2 (hv M S))
  | .leaf (), σ, β, x0, x1, hS, _, hw, hM, hd => by
    have h1 : x1 < 0 := hS
    rw [zq_hasAll_38, kZ_hasAll_38, if_pos h1, b2_t (by simp [hv])]
  | .branch n k s, σ, β, x0, x1, hS, hi, hw, hM, hd => by
    have k1 := Pc_kid hS hi (by omega)
    have s1 := Pc_bes hS hi (by omega)
    obtain ⟨a1, a2, a3, a4, a5, a6, a7⟩ := hS
    simp only [ht] at hd
    simp only [wt] at hi
    have hl := hw.2.1
    have key : zE tM_hasAll (β - 1) σ [x1] = some (σ, b2 (if cl n < 0 then M (-1 - cl n) ≠ none else hv M k)) := by
      rw [zq_hasAll, kZ_hasAll, if_pos (by omega), a2]
      by_cases hc : cl n < 0
      · have hm := hM (-1 - cl n) (by omega) (by have := hl.1; omega)
        rw [if_neg (by omega), if_pos (by have := hl.1; omega), if_pos (by have := hl.1; omega)]
        simp only [hc, if_true]
        cases hq : M (-1 - cl n) with
        | none => rw [if_pos (hm.1 hq), zq_hasAll_30, kZ_hasAll_30, if_pos (by omega), b2_f (by simp)]
        | some x => rw [if_neg (by have := (hm.2 x hq).1.1.1; omega), zq_hasAll_30, kZ_hasAll_30, if_pos (by omega), b2_t (by simp)]
      · rw [if_pos (by omega), hasAll_loop k σ (β - 1) x1 _ a4 k1 hw.2.2.1 hM (by omega)]
        simp only [hc, if_false]
    have IH := hasAll_loop s σ β x0 _ a6 s1 hw.2.2.2 hM (by omega)
    rw [zq_hasAll_38, kZ_hasAll_38, if_neg (by omega), if_pos (by omega), zbd_of key]
    by_cases hq : (if cl n < 0 then M (-1 - cl n) ≠ none else hv M k)
    · rw [b2_t hq, if_neg (by omega), if_pos (by omega), IH]
      congr 2
      exact b2_c ⟨fun w => ⟨hq, w⟩, fun w => w.2⟩
    · rw [b2_f hq, if_pos rfl, b2_f (fun w => hq w.1)]
theorem wm_loop {m9 : Int} {ar : Int → Nat} {H : Nat} {M : Mv} : ∀ (S : T) (σ : zS) (β : Nat) (x0 x1 x2 : Int), Pc σ S x2 → x2 + (wt S : Int) ≤ 420000 → wf ar (lb m9) S → Mt ar m9 H σ M → hv M S → ht S ≤ β → 0 ≤ x1 → x1 + (wt (sb M S) : Int) ≤ 2000000000 → zE tM_weighMatched_37 β σ [x0, x1, x2] = some (σ, x1 + (wt (sb M S) : Int))
  | .leaf (), σ, β, x0, x1, x2, hS, _, hw, hM, hH, hd, h0, hx => by
    have h1 : x2 < 0 := hS
    rw [zq_weighMatched_37, kZ_weighMatched_37, if_pos h1]; simp [sb, wt]
  | .branch n k s, σ, β, x0, x1, x2, hS, hi, hw, hM, hH, hd, h0, hx => by
    have k1 := Pc_kid hS hi (by omega)
    have s1 := Pc_bes hS hi (by omega)
    obtain ⟨a1, a2, a3, a4, a5, a6, a7⟩ := hS
    simp only [ht] at hd
    simp only [wt] at hi
    have hl := hw.2.1
    obtain ⟨z, hz, key⟩ : ∃ z : Nat, wt (sb M (.branch n k s)) = z + wt (sb M s) ∧ (z + wt (sb M s) = wt (sb M (.branch n k s)) → zE tM_weighMatched (β - 1) σ [x2] = some (σ, (z : Int))) := by
      by_cases hc : cl n < 0
      · have hm := hM (-1 - cl n) (by omega) (by have := hl.1; omega)
        have hq := hH.1
        simp only [hc, if_true] at hq
        cases hv' : M (-1 - cl n) with
        | none => exact absurd hv' hq
        | some x =>
          obtain ⟨p1, p2, p3⟩ := hm.2 x hv'
          refine ⟨1 + wt x.2, by simp only [sb, hc, if_true, hv', wt], fun _ => ?_⟩
          rw [zq_weighMatched, kZ_weighMatched, if_pos (by omega), a2, if_neg (by omega), if_pos (by have := hl.1; omega), if_pos (by have := hl.1; omega), if_pos (by have := p1.1.1; have := p1.2; omega), p1.1.2.2.1]
          congr 2
      · refine ⟨1 + wt (sb M k), by simp only [sb, hc, if_false, wt], fun hz => ?_⟩
        have hq := hH.1
        simp only [hc, if_false] at hq
        rw [zq_weighMatched, kZ_weighMatched, if_pos (by omega), a2, if_pos (by omega), wm_loop k σ (β - 1) x2 1 _ a4 k1 hw.2.2.1 hM hq (by omega) (by omega) (by omega)]
        congr 2
    rw [zq_weighMatched_37, kZ_weighMatched_37, if_neg (by omega), if_pos (by omega), zbd_of (key hz.symm), if_pos (by omega), if_pos (by omega), wm_loop s σ β x0 (x1 + (z : Int)) _ a6 s1 hw.2.2.2 hM hH.2 (by omega) (by omega) (by omega)]
    congr 2; omega
theorem wmt_loop {m9 : Int} {ar : Int → Nat} {H : Nat} {M : Mv} : ∀ (S : T) (σ : zS) (β : Nat) (hi x0 x1 x2 x3 : Int), x3 + (wt S : Int) ≤ hi → hi ≤ σ.1 47 → Pc σ S x3 → hi ≤ x1 → 0 ≤ x1 → x1 < σ.1 47 → (x2 < 0 ∨ hi ≤ x2) → x2 < σ.1 47 → σ.1 47 + (wt (sb M S) : Int) ≤ 420000 → 0 ≤ σ.2.1 46 x1 → σ.2.1 46 x1 + (wt (sb M S) : Int) ≤ 2000000 → wf ar (lb m9) S → Mt ar m9 H σ M → (∀ v x, 0 ≤ v → v < 6 → M v = some x → σ.2.1 115 v + 1 + (wt x.2 : Int) ≤ hi) → hv M S → ht S + H + 2 ≤ β →
    ∃ τ, zE tM_withMatched_48 β σ [x0, x1, x2, x3] = some (τ, x1) ∧ Lp σ τ x1 x2 (sb M S)
  | .leaf (), σ, β, hi, x0, x1, x2, x3, hb, hh, hS, _, _, _, _, _, _, _, _, hw, hM, hV, hH, hd => by
    have h1 : x3 < 0 := hS
    exact ⟨σ, by rw [zq_withMatched_48, kZ_withMatched_48, if_pos h1], Lp_nil⟩
  | .branch n k s, σ, β, hi, x0, x1, x2, x3, hb, hh, hS, g1, g2, g3, g4, g5, g6, g7, g8, hw, hM, hV, hH, hd => by
    have hi0 : 0 ≤ hi := by have := hS.1; simp only [wt] at hb; omega
    have k1 := Pc_kid hS hb hi0
    have s1 := Pc_bes hS hb hi0
    obtain ⟨a1, a2, a3, a4, a5, a6, a7⟩ := hS
    simp only [ht] at hd
    simp only [wt] at hb
    have hl := hw.2.1
    -- the TERM at x3 becomes y
    obtain ⟨y, hy, key⟩ : ∃ y : Tm, sb M (.branch n k s) = nd y.1 y.2 (sb M s) ∧ ∃ τ, zE tM_withMatched (β - 1) σ [x3] = some (τ, σ.1 47) ∧ Grow σ τ (1 + wt y.2) ∧ Pt τ y.1 y.2 (σ.1 47) ∧ τ.2.1 45 (σ.1 47) = -1 := by
      by_cases hc : cl n < 0
      · have hm := hM (-1 - cl n) (by omega) (by have := hl.1; omega)
        have hq := hH.1
        simp only [hc, if_true] at hq
        cases hv' : M (-1 - cl n) with
        | none => exact absurd hv' hq
        | some x =>
          obtain ⟨p1, p2, p3⟩ := hm.2 x hv'
          have e0 : sb M (.branch n k s) = nd x.1 x.2 (sb M s) := by simp only [sb, hc, if_true, hv']
          rw [e0] at g6
          simp only [wt] at g6
          obtain ⟨τ, e, G, P, b⟩ := copy_ok (β := β - 1 - 1) p1.1 (by have := hV (-1 - cl n) x (by omega) (by have := hl.1; omega) hv'; omega) (by omega) (by omega)
          refine ⟨x, e0, τ, ?_, G, P, b⟩
          rw [zq_withMatched, kZ_withMatched, if_pos (by omega), a2, if_neg (by omega), if_pos (by have := hl.1; omega), if_pos (by have := hl.1; omega), if_pos (by omega), zbd_of e]
      · have e0 : sb M (.branch n k s) = nd n (sb M k) (sb M s) := by simp only [sb, hc, if_false]
        rw [e0] at g6
        simp only [wt] at g6
        have hq := hH.1
        simp only [hc, if_false] at hq
        obtain ⟨τ1, e1, G1, f1, f2, f3, f4⟩ := fresh_ok (σ := σ) (β := β - 1 - 1) (c := σ.2.1 43 x3) (by omega) (by omega)
        have t1 : τ1.1 47 = σ.1 47 + 1 := G1.1
        have q1 := G1.pq (lo := 0) (hi := hi) hh
        have kk : τ1.2.1 44 x3 = σ.2.1 44 x3 := q1 44 x3 a1 (by omega) (by simp)
        have M1 : Mt ar m9 H τ1 M := fun v u1 u2 => by
          obtain ⟨z1, z2⟩ := hM v u1 u2
          have e9 : τ1.2.1 115 v = σ.2.1 115 v := G1.2.2.2 115 v (Or.inr (by omega))
          rw [e9]
          exact ⟨z1, fun x hx => by obtain ⟨p1, p2, p3⟩ := z2 x hx; exact ⟨⟨Pt_hi q1 p1.1 (hV v x u1 u2 hx), p1.2⟩, p2, p3⟩⟩
        obtain ⟨τ2, e2, L2⟩ := wmt_loop k τ1 (β - 1) hi x3 (σ.1 47) (-1) (σ.2.1 44 x3) k1 (by omega) (Pc_hi q1 a4 k1) (by omega) (by omega) (by omega) (by omega) (by omega) (by omega) (by omega) (by omega) hw.2.2.1 M1 (fun v x u1 u2 hx => by rw [G1.2.2.2 115 v (Or.inr (by omega))]; exact hV v x u1 u2 hx) hq (by omega)
        obtain ⟨G, P, b⟩ := Lp_root (n := n) (by omega) G1 (by rw [f1, a2]) f2 f3 f4 L2
        refine ⟨(n, sb M k), e0, τ2, ?_, G, P, b⟩
        rw [zq_withMatched, kZ_withMatched, if_pos (by omega), a2, if_pos (by omega), if_pos (by omega)]
        rw [a2] at e1
        rw [zbd_of e1, kk]; exact e2
    obtain ⟨τ1, e1, G1, P1, b1⟩ := key
    rw [hy] at g6 g8
    simp only [wt] at g6 g8
    have t1 : τ1.1 47 = σ.1 47 + 1 + (wt y.2 : Int) := by rw [G1.1]; omega
    have q3 := hng_pq (x1 := x1) (x2 := x2) G1 hh g1 g4
    have w1 : τ1.2.1 46 x1 = σ.2.1 46 x1 := G1.2.2.2 46 x1 (Or.inl (by omega))
    have wy : τ1.2.1 46 (σ.1 47) = 1 + (wt y.2 : Int) := P1.2.2.1
    have t3 : (hng τ1 x1 x2 (σ.1 47)).1 47 = σ.1 47 + 1 + (wt y.2 : Int) := by rw [hng_i]; exact t1
    have o115 : ∀ v, (hng τ1 x1 x2 (σ.1 47)).2.1 115 v = σ.2.1 115 v := fun v => by rw [hng_o _ _ _ _ 115 v (by omega) (by omega) (by omega)]; exact G1.2.2.2 115 v (Or.inr (by omega))
    have M3 : Mt ar m9 H (hng τ1 x1 x2 (σ.1 47)) M := fun v u1 u2 => by
      obtain ⟨z1, z2⟩ := hM v u1 u2
      rw [o115]
      exact ⟨z1, fun x hx => by obtain ⟨p1, p2, p3⟩ := z2 x hx; exact ⟨⟨Pt_hi q3 p1.1 (hV v x u1 u2 hx), p1.2⟩, p2, p3⟩⟩
    obtain ⟨τ4, e4, L4⟩ := wmt_loop s (hng τ1 x1 x2 (σ.1 47)) β hi x0 x1 (σ.1 47) (σ.2.1 45 x3) s1 (by omega) (Pc_hi q3 a6 s1) g1 g2 (by omega) (by omega) (by omega) (by omega) (by rw [hng_w, w1, wy]; omega) (by rw [hng_w, w1, wy]; omega) hw.2.2.2 M3 (fun v x u1 u2 hx => by rw [o115]; exact hV v x u1 u2 hx) hH.2 (by omega)
    refine ⟨τ4, ?_, by rw [hy]; exact Lp_cons G1 P1 b1 g2 g3 g5 L4⟩
    have eb : (hng τ1 x1 x2 (σ.1 47)).2.1 45 x3 = σ.2.1 45 x3 := q3 45 x3 a1 (by omega) (by simp)
    have e84 : ∀ τ2 : zS, zA τ2 46 x1 (τ2.2.1 46 x1 + τ2.2.1 46 (σ.1 47)) = hng τ1 x1 x2 (σ.1 47) → zr (τ2.2.1 46 x1 + τ2.2.1 46 (σ.1 47)) → zE tM_withMatched_84 β τ2 [x0, x1, x2, x3, σ.1 47] = zE tM_withMatched_48 β (hng τ1 x1 x2 (σ.1 47)) [x0, x1, σ.1 47, σ.2.1 45 x3] := fun τ2 h9 hz => by
      rw [zq_withMatched_84, kZ_withMatched_84, if_pos (by omega), if_pos (by omega), if_pos hz]
      show (if zb x3 420000 then (zE tM_withMatched_48 β (zA τ2 46 x1 (τ2.2.1 46 x1 + τ2.2.1 46 (σ.1 47))) [x0, x1, σ.1 47, (zA τ2 46 x1 (τ2.2.1 46 x1 + τ2.2.1 46 (σ.1 47))).2.1 45 x3]) else none) = _
      rw [if_pos (by omega), h9, eb]
    rw [← e4, zq_withMatched_48, kZ_withMatched_48, if_neg (by omega), if_pos (by omega), zbd_of e1]
    by_cases hx : 0 ≤ x2
    · rw [if_pos hx, if_pos (by omega)]
      have c5 : ∀ q, (zA τ1 45 x2 (σ.1 47)).2.1 46 q = τ1.2.1 46 q := fun q => by simp [zA]
      refine e84 (zA τ1 45 x2 (σ.1 47)) ?_ (by rw [c5, c5, w1, wy]; omega)
      rw [c5, c5]; unfold hng; rw [if_pos hx]
    · rw [if_neg hx, if_pos (by omega)]
      have c5 : ∀ q, (zA τ1 44 x1 (σ.1 47)).2.1 46 q = τ1.2.1 46 q := fun q => by simp [zA]
      refine e84 (zA τ1 44 x1 (σ.1 47)) ?_ (by rw [c5, c5, w1, wy]; omega)
      rw [c5, c5]; unfold hng; rw [if_neg hx]
