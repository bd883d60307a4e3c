/-- the same but for row j -/
def Sa (j0 : Nat) (σ τ : zS) : Prop := τ.1 = σ.1 ∧ τ.2.2 = σ.2.2 ∧ ∀ j q, j ≠ j0 → τ.2.1 j q = σ.2.1 j q
theorem Sa.refl {j0 : Nat} {σ : zS} : Sa j0 σ σ := ⟨rfl, rfl, fun _ _ _ => rfl⟩
theorem Sa.trans {j0 : Nat} {σ τ ρ : zS} (h : Sa j0 σ τ) (g : Sa j0 τ ρ) : Sa j0 σ ρ := ⟨by rw [g.1, h.1], by rw [g.2.1, h.2.1], fun j q w => by rw [g.2.2 j q w, h.2.2 j q w]⟩
theorem Sa.pq {j0 : Nat} {σ τ : zS} (h : Sa j0 σ τ) (hj : 46 < j0) {lo hi : Int} : Pq σ τ lo hi := fun k i _ _ w => h.2.2 k i (by omega)
theorem Sa_A {σ : zS} {k : Nat} {i x : Int} : Sa k σ (zA σ k i x) := ⟨rfl, rfl, fun j q w => by simp [zA, w]⟩
/-- how often VARIABLE v stands in a forest -/
def occ (v : Int) : T → Nat
  | .leaf _ => 0
  | .branch n k s => (if cl n < 0 then (if -1 - cl n = v then 1 else 0) else occ v k) + occ v s
theorem occ_le (v : Int) : ∀ F : T, occ v F ≤ wt F
  | .leaf _ => Nat.le_refl _
  | .branch n k s => by
    have h1 := occ_le v k
    have h2 := occ_le v s
    simp only [occ, wt]
    split
    · split <;> omega
    · omega
/-- VARIABLES are 0 .. m - 1 -/
abbrev vb (m : Int) (c : Int) : Prop := -m ≤ c
theorem times_loop {ar : Int → Nat} {x1 : Int} (hx : x1 = 1 ∨ x1 = -1) : ∀ (S : T) (σ : zS) (β : Nat) (x0 x2 : Int), Pc σ S x2 → x2 + (wt S : Int) ≤ 420000 → wf ar (vb 8) S → (∀ v, 0 ≤ v → v < 8 → -1000000 + (wt S : Int) ≤ σ.2.1 102 v ∧ σ.2.1 102 v ≤ 1000000 - (wt S : Int)) → ht S ≤ β →
    ∃ τ, zE tM_times_34 β σ [x0, x1, x2] = some (τ, 0) ∧ Sa 102 σ τ ∧ ∀ v, τ.2.1 102 v = σ.2.1 102 v + (if 0 ≤ v ∧ v < 8 then x1 * (occ v S : Int) else 0)
  | .leaf (), σ, β, x0, x2, hS, _, hw, hb, hd => by
    have h1 : x2 < 0 := hS
    exact ⟨σ, by rw [zq_times_34, kZ_times_34, if_pos h1], Sa.refl, fun v => by simp [occ]⟩
  | .branch n k s, σ, β, x0, x2, hS, hi, hw, hb, hd => by
    have k1 := Pc_kid hS hi (by omega)
    have s1 := Pc_bes hS hi (by omega)
    obtain ⟨a1, a3, a4, a5, a7, a6, a8⟩ := hS
    simp only [ht] at hd
    simp only [wt] at hb hi
    have key : ∃ τ, zE tM_times (β - 1) σ [x2, x1] = some (τ, 0) ∧ Sa 102 σ τ ∧ ∀ v, τ.2.1 102 v = σ.2.1 102 v + (if 0 ≤ v ∧ v < 8 then x1 * ((if cl n < 0 then (if -1 - cl n = v then 1 else 0) else occ v k : Nat) : Int) else 0) := by
      by_cases hc : cl n < 0
      · have hv := hw.2.1
        have hbn := hb (-1 - cl n) (by omega) (by omega)
        refine ⟨zA σ 102 (-1 - cl n) (σ.2.1 102 (-1 - cl n) + x1), ?_, Sa_A, fun v => ?_⟩
        · rw [zq_times, kZ_times, if_pos (by omega), a3, if_neg (by omega), if_pos (by omega), if_pos (by omega), if_pos (by omega)]; rfl
        · simp only [hc, if_true]
          by_cases hq : v = -1 - cl n
          · subst hq
            have e : (zA σ 102 (-1 - cl n) (σ.2.1 102 (-1 - cl n) + x1)).2.1 102 (-1 - cl n) = σ.2.1 102 (-1 - cl n) + x1 := by simp [zA]
            rw [e, if_pos (by omega)]; simp
          · have e : (zA σ 102 (-1 - cl n) (σ.2.1 102 (-1 - cl n) + x1)).2.1 102 v = σ.2.1 102 v := by simp [zA, hq]
            rw [e, if_neg (show ¬ (-1 - cl n = v) from fun w => hq w.symm)]; simp
      · obtain ⟨τ, e, S1, V⟩ := times_loop hx k σ (β - 1) x2 _ a5 k1 hw.2.2.1 (fun v u1 u2 => by have := hb v u1 u2; omega) (by omega)
        refine ⟨τ, ?_, S1, fun v => ?_⟩
        · rw [zq_times, kZ_times, if_pos (by omega), a3, if_pos (by omega)]; exact e
        · rw [V v]; simp only [hc, if_false]
    obtain ⟨τ1, e1, S1, V1⟩ := key
    have hk9 : ∀ v : Int, (if cl n < 0 then (if -1 - cl n = v then 1 else 0) else occ v k : Nat) ≤ 1 + wt k := fun v => by
      have := occ_le v k
      split
      · split <;> omega
      · omega
    have q1 : ∀ {lo hi : Int}, Pq σ τ1 lo hi := S1.pq (by omega)
    obtain ⟨τ2, e2, S2, V2⟩ := times_loop hx s τ1 β x0 (σ.2.1 45 x2) (Pc_q q1 a6) s1 hw.2.2.2 (fun v u1 u2 => by
      have := hb v u1 u2
      have h9 := hk9 v
      rw [V1 v]
      generalize (if cl n < 0 then (if -1 - cl n = v then 1 else 0) else occ v k : Nat) = z at h9 ⊢
      rw [if_pos ⟨u1, u2⟩]; rcases hx with rfl | rfl <;> omega) (by omega)
    refine ⟨τ2, ?_, S1.trans S2, fun v => ?_⟩
    · rw [zq_times_34, kZ_times_34, if_neg (by omega), if_pos (by omega), zbd_of e1, if_pos (by omega), S1.2.2 45 x2 (by omega)]; exact e2
    · rw [V2 v, V1 v]
      simp only [occ]
      generalize (if cl n < 0 then (if -1 - cl n = v then 1 else 0) else occ v k : Nat) = z
      by_cases hv : 0 ≤ v ∧ v < 8
      · simp only [hv, and_self, if_true]; rcases hx with rfl | rfl <;> omega
      · simp only [hv, if_false]; omega
theorem times_ok {ar : Int → Nat} {x1 : Int} (hx : x1 = 1 ∨ x1 = -1) {n : Nat} {k : T} {σ : zS} {β : Nat} {t : Int} (hP : Pt σ n k t) (hi : t + 1 + (wt k : Int) ≤ 420000) (hw : wf ar (vb 8) (nd n k nl)) (hb : ∀ v, 0 ≤ v → v < 8 → -1000000 + (1 + wt k : Int) ≤ σ.2.1 102 v ∧ σ.2.1 102 v ≤ 1000000 - (1 + wt k : Int)) (hd : ht k ≤ β) :
    ∃ τ, zE tM_times β σ [t, x1] = some (τ, 0) ∧ Sa 102 σ τ ∧ ∀ v, τ.2.1 102 v = σ.2.1 102 v + (if 0 ≤ v ∧ v < 8 then x1 * (occ v (nd n k nl) : Int) else 0) := by
  have k1 := Pt_kid hP hi (by omega)
  obtain ⟨a1, a3, a4, a5, a6⟩ := hP
  by_cases hc : cl n < 0
  · have hv := hw.2.1
    have hbn := hb (-1 - cl n) (by omega) (by omega)
    refine ⟨zA σ 102 (-1 - cl n) (σ.2.1 102 (-1 - cl n) + x1), ?_, Sa_A, fun v => ?_⟩
    · rw [zq_times, kZ_times, if_pos (by omega), a3, if_neg (by omega), if_pos (by omega), if_pos (by omega), if_pos (by omega)]; rfl
    · simp only [occ, hc, if_true]
      by_cases hq : v = -1 - cl n
      · subst hq
        have e : (zA σ 102 (-1 - cl n) (σ.2.1 102 (-1 - cl n) + x1)).2.1 102 (-1 - cl n) = σ.2.1 102 (-1 - cl n) + x1 := by simp [zA]
        rw [e, if_pos (by omega)]; simp
      · have e : (zA σ 102 (-1 - cl n) (σ.2.1 102 (-1 - cl n) + x1)).2.1 102 v = σ.2.1 102 v := by simp [zA, hq]
        rw [e, if_neg (show ¬ (-1 - cl n = v) from fun w => hq w.symm)]; simp
  · obtain ⟨τ, e, S1, V⟩ := times_loop hx k σ β t _ a5 k1 hw.2.2.1 (fun v u1 u2 => by have := hb v u1 u2; omega) hd
    refine ⟨τ, ?_, S1, fun v => ?_⟩
    · rw [zq_times, kZ_times, if_pos (by omega), a3, if_pos (by omega)]; exact e
    · rw [V v]; simp only [occ, hc, if_false]; simp
/-- GREATER, as forests side by side: the first that differ decide -/
def gF : T → T → Prop
  | .branch n k s, .branch n2 k2 s2 => (n = n2 ∧ k = k2 ∧ gF s s2) ∨ (¬ (n = n2 ∧ k = k2) ∧ 0 ≤ cl n ∧ (∀ v, 0 ≤ v → v < 8 → occ v (nd n2 k2 nl) ≤ occ v (nd n k nl)) ∧ (wt k2 < wt k ∨ (wt k = wt k2 ∧ 0 ≤ cl n2 ∧ (cl n2 < cl n ∨ (n = n2 ∧ gF k k2)))))
  | _, _ => False
/-- GREATER -/
def gT (n : Nat) (k : T) (n2 : Nat) (k2 : T) : Prop := 0 ≤ cl n ∧ (∀ v, 0 ≤ v → v < 8 → occ v (nd n2 k2 nl) ≤ occ v (nd n k nl)) ∧ (wt k2 < wt k ∨ (wt k = wt k2 ∧ 0 ≤ cl n2 ∧ (cl n2 < cl n ∨ (n = n2 ∧ gF k k2))))
theorem greater_33_no {σ : zS} {β : Nat} {x0 x1 : Int} : ∀ (m : Nat) (i : Int), i = 8 - (m : Int) → 0 ≤ i → (∃ v, i ≤ v ∧ v < 8 ∧ σ.2.1 102 v < 0) → zE tM_greater_33 β σ [x0, x1, i] = some (σ, 0)
  | 0, i, hi, h1, ⟨v, hv, hv2, hn⟩ => by omega
  | m + 1, i, hi, h1, ⟨v, hv, hv2, hn⟩ => by
    rw [zq_greater_33, kZ_greater_33, if_neg (by omega), if_pos (by omega)]
    by_cases h : 0 ≤ σ.2.1 102 i
    · rw [if_pos h, if_pos (by omega)]
      exact greater_33_no m (i + 1) (by omega) (by omega) ⟨v, by (have : v ≠ i := fun e => by subst e; omega); omega, hv2, hn⟩
    · rw [if_neg h]
theorem greater_33_yes {σ : zS} {β : Nat} {x0 x1 : Int} (hA : ∀ v, 0 ≤ v → v < 8 → 0 ≤ σ.2.1 102 v) : ∀ (m : Nat) (i : Int), i = 8 - (m : Int) → 0 ≤ i → zE tM_greater_33 β σ [x0, x1, i] = zE tM_greater_33 β σ [x0, x1, 8]
  | 0, i, hi, h1 => by have : i = 8 := by omega
                       rw [this]
  | m + 1, i, hi, h1 => by
    rw [zq_greater_33 (x2 := i), kZ_greater_33, if_neg (by omega), if_pos (by omega), if_pos (hA i h1 (by omega)), if_pos (by omega)]
    exact greater_33_yes hA m (i + 1) (by omega) (by omega)
theorem greater_of {ar : Int → Nat} {n n2 : Nat} {k k2 : T} {σ : zS} {β : Nat} {t u : Int} (hP : Pt σ n k t) (hi : t + 1 + (wt k : Int) ≤ 420000) (hQ : Pt σ n2 k2 u) (hi2 : u + 1 + (wt k2 : Int) ≤ 420000) (hw : wf ar (vb 8) (nd n k nl)) (hw2 : wf ar (vb 8) (nd n2 k2 nl)) (hd : ht k + 1 ≤ β) (hd2 : ht k2 + 1 ≤ β) (b1 : wt k ≤ 100000) (b2' : wt k2 ≤ 100000)
    (hA : ∀ τ, Sa 102 σ τ → n = n2 → wt k = wt k2 → ∃ ρ, zE tM_above_98 (β - 1) τ [t, u, σ.2.1 44 u, σ.2.1 44 t] = some (ρ, b2 (gF k k2)) ∧ Sa 102 τ ρ) :
    ∃ τ, zE tM_greater β σ [t, u] = some (τ, b2 (gT n k n2 k2)) ∧ Sa 102 σ τ := by
  have hP' := hP
  have hQ' := hQ
  obtain ⟨a1, a3, a4, a5, a6⟩ := hP
  obtain ⟨c1, c3, c4, c5, c6⟩ := hQ
  by_cases hc : cl n < 0
  · refine ⟨σ, ?_, Sa.refl⟩
    rw [zq_greater, kZ_greater, if_pos (by omega), a3, if_neg (by omega), b2_f]
    intro w; have := w.1; omega
  · have S0 : Sa 102 σ (zFl σ 102 0 8) := ⟨rfl, rfl, fun j q w => by simp [zFl, w]⟩
    have z0 : ∀ v, 0 ≤ v → v < 8 → (zFl σ 102 0 8).2.1 102 v = 0 := fun v u1 u2 => by simp [zFl, u1, u2]
    obtain ⟨τ1, e1, S1, V1⟩ := times_ok (x1 := 1) (Or.inl rfl) (β := β - 1) (Pt_q (S0.pq (by omega)) hP') hi hw (fun v u1 u2 => by rw [z0 v u1 u2]; omega) (by omega)
    have S01 := S0.trans S1
    have V1' : ∀ v, 0 ≤ v → v < 8 → τ1.2.1 102 v = (occ v (nd n k nl) : Int) := fun v u1 u2 => by rw [V1 v, z0 v u1 u2, if_pos ⟨u1, u2⟩]; omega
    have hwk : wt (nd n k nl) = 1 + wt k := by simp [wt]
    have hwk2 : wt (nd n2 k2 nl) = 1 + wt k2 := by simp [wt]
    obtain ⟨τ2, e2, S2, V2⟩ := times_ok (x1 := -1) (Or.inr rfl) (β := β - 1) (Pt_q (S01.pq (by omega)) hQ') hi2 hw2 (fun v u1 u2 => by rw [V1' v u1 u2]; have := occ_le v (nd n k nl); omega) (by omega)
    have S02 := S01.trans S2
    have V2' : ∀ v, 0 ≤ v → v < 8 → τ2.2.1 102 v = (occ v (nd n k nl) : Int) - (occ v (nd n2 k2 nl) : Int) := fun v u1 u2 => by rw [V2 v, V1' v u1 u2, if_pos ⟨u1, u2⟩]; omega
    have E0 : zE tM_greater β σ [t, u] = zE tM_greater_33 β τ2 [t, u, 0] := by
      rw [zq_greater, kZ_greater, if_pos (by omega), a3, if_pos (by omega)]
      simp only [lt_]
      rw [if_pos (by omega), zbd_of e1, if_pos (by omega), zbd_of e2]
    by_cases hv : ∀ v, 0 ≤ v → v < 8 → occ v (nd n2 k2 nl) ≤ occ v (nd n k nl)
    · rw [E0, greater_33_yes (fun v u1 u2 => by rw [V2' v u1 u2]; have := hv v u1 u2; omega) 8 0 (by omega) (by omega), zq_greater_33, kZ_greater_33, if_pos (by omega), if_pos (by omega)]
      have p3 : τ2.2.1 43 t = cl n := by rw [S02.2.2 43 t (by omega)]; exact a3
      have p4 : τ2.2.1 46 t = 1 + (wt k : Int) := by rw [S02.2.2 46 t (by omega)]; exact a4
      have p5 : τ2.2.1 43 u = cl n2 := by rw [S02.2.2 43 u (by omega)]; exact c3
      have p6 : τ2.2.1 46 u = 1 + (wt k2 : Int) := by rw [S02.2.2 46 u (by omega)]; exact c4
      have E1 : ∃ ρ, zE tM_above (β - 1) τ2 [t, u] = some (ρ, b2 (gT n k n2 k2)) ∧ Sa 102 τ2 ρ := by
        rw [zq_above, kZ_above, if_pos (by omega), if_pos (by omega), p3, p4, p5, p6]
        by_cases hk : wt k = wt k2
        · rw [if_pos (by omega)]
          by_cases h2 : 0 ≤ cl n2
          · rw [if_pos h2]
            by_cases hn : n = n2
            · obtain ⟨ρ, e3, S3⟩ := hA τ2 S02 hn hk
              rw [if_pos (by rw [hn]), S02.2.2 44 u (by omega), S02.2.2 44 t (by omega)]
              refine ⟨ρ, ?_, S3⟩
              rw [e3]
              congr 2
              refine b2_c ⟨fun w => ⟨by omega, hv, Or.inr ⟨hk, h2, Or.inr ⟨hn, w⟩⟩⟩, fun w => ?_⟩
              rcases w.2.2 with q | ⟨_, _, q | q⟩
              · omega
              · rw [hn] at q; omega
              · exact q.2
            · have hne : ¬ cl n = cl n2 := fun w => hn (cl_inj w)
              rw [if_neg hne]
              by_cases hl : cl n ≤ cl n2
              · rw [if_pos hl, zq_above_82, kZ_above_82, if_pos (by omega)]
                refine ⟨τ2, ?_, Sa.refl⟩
                rw [b2_f]
                intro w
                rcases w.2.2 with q | ⟨_, _, q | q⟩
                · omega
                · omega
                · exact hn q.1
              · rw [if_neg hl, zq_above_82, kZ_above_82, if_pos (by omega)]
                refine ⟨τ2, ?_, Sa.refl⟩
                rw [b2_t ⟨by omega, hv, Or.inr ⟨hk, h2, Or.inl (by omega)⟩⟩]
          · rw [if_neg h2]
            refine ⟨τ2, ?_, Sa.refl⟩
            rw [b2_f]
            intro w
            rcases w.2.2 with q | ⟨_, q, _⟩ <;> omega
        · rw [if_neg (by omega)]
          by_cases hl : wt k < wt k2
          · rw [if_pos (by omega), zq_above_35, kZ_above_35, if_pos (by omega)]
            refine ⟨τ2, ?_, Sa.refl⟩
            rw [b2_f]
            intro w
            rcases w.2.2 with q | ⟨q, _⟩ <;> omega
          · rw [if_neg (by omega), zq_above_35, kZ_above_35, if_pos (by omega)]
            refine ⟨τ2, ?_, Sa.refl⟩
            rw [b2_t ⟨by omega, hv, Or.inl (by omega)⟩]
      obtain ⟨ρ, e3, S3⟩ := E1
      refine ⟨ρ, ?_, S02.trans S3⟩
      rw [zbd_of e3, if_pos (b2_01 _)]
    · refine ⟨τ2, ?_, S02⟩
      have ⟨v, hv1⟩ : ∃ v, ¬ (0 ≤ v → v < 8 → occ v (nd n2 k2 nl) ≤ occ v (nd n k nl)) := Classical.not_forall.mp hv
      have u1 : 0 ≤ v := Classical.byContradiction fun w => hv1 (fun z => absurd z w)
      have u2 : v < 8 := Classical.byContradiction fun w => hv1 (fun _ z => absurd z w)
      have u3 : ¬ occ v (nd n2 k2 nl) ≤ occ v (nd n k nl) := fun w => hv1 (fun _ _ => w)
      rw [E0, greater_33_no 8 0 (by omega) (by omega) ⟨v, u1, u2, by rw [V2' v u1 u2]; omega⟩, b2_f]
      intro w; exact hv w.2.1
theorem above_loop {ar : Int → Nat} : ∀ (F G : T) (σ : zS) (β : Nat) (x0 x1 t u : Int), Pc σ F t → t + (wt F : Int) ≤ 420000 → Pc σ G u → u + (wt G : Int) ≤ 420000 → wf ar (vb 8) F → wf ar (vb 8) G → len F = len G → 2 * ht F ≤ β → 2 * ht G ≤ β → wt F ≤ 100000 → wt G ≤ 100000 → ∃ τ, zE tM_above_98 β σ [x0, x1, u, t] = some (τ, b2 (gF F G)) ∧ Sa 102 σ τ
  | .leaf (), G, σ, β, x0, x1, t, u, hF, _, hG, _, wF, wG, hl, hd, hd2, _, _ => by
    have h1 : t < 0 := hF
    refine ⟨σ, ?_, Sa.refl⟩
    rw [zq_above_98, kZ_above_98, if_pos h1, b2_f (by simp [gF])]
  | .branch n k s, .leaf (), σ, β, x0, x1, t, u, hF, _, hG, _, wF, wG, hl, hd, hd2, _, _ => by simp only [len] at hl; omega
  | .branch n k s, .branch n2 k2 s2, σ, β, x0, x1, t, u, hF, i1, hG, i2, wF, wG, hl, hd, hd2, c1, c2 => by
    have k1 := Pc_kid hF i1 (by omega)
    have k2' := Pc_kid hG i2 (by omega)
    have s1 := Pc_bes hF i1 (by omega)
    have s2' := Pc_bes hG i2 (by omega)
    have hF' := Pc_nd.mp hF
    have hG' := Pc_nd.mp hG
    obtain ⟨a1, a3, a4, a5, a7, a6, a8⟩ := hF
    obtain ⟨b1, b3, b4, b5, b7, b6, b8⟩ := hG
    simp only [ht] at hd hd2
    simp only [len] at hl
    simp only [wt] at c1 c2 i1 i2
    have w1 : wf ar (vb 8) (nd n k nl) := ⟨wF.1, wF.2.1, wF.2.2.1, trivial⟩
    have w2 : wf ar (vb 8) (nd n2 k2 nl) := ⟨wG.1, wG.2.1, wG.2.2.1, trivial⟩
    have e1 := same_ok (β := β - 1) hF'.1 (by omega) hG'.1 (by omega) w1 w2 (by omega)
    by_cases hk : n = n2 ∧ k = k2
    · obtain ⟨τ, e2, S2⟩ := above_loop s s2 σ β x0 x1 _ _ a6 s1 b6 s2' wF.2.2.2 wG.2.2.2 (by omega) (by omega) (by omega) (by omega) (by omega)
      refine ⟨τ, ?_, S2⟩
      rw [zq_above_98, kZ_above_98, if_neg (by omega), if_pos (by omega), zbd_of e1, b2_t hk, if_neg (by omega), if_pos (by omega), if_pos (by omega), e2]
      congr 2
      refine b2_c ⟨fun w => Or.inl ⟨hk.1, hk.2, w⟩, fun w => ?_⟩
      rcases w with q | q
      · exact q.2.2
      · exact absurd hk q.1
    · obtain ⟨τ, e2, S2⟩ := greater_of (β := β - 1) hF'.1 (by omega) hG'.1 (by omega) w1 w2 (by omega) (by omega) (by omega) (by omega) (fun τ S1 hn hw => above_loop k k2 τ (β - 1 - 1) t u _ _ (Pc_q (S1.pq (by omega)) a5) k1 (Pc_q (S1.pq (by omega)) b5) k2' wF.2.2.1 wG.2.2.1 (by rw [wF.1, wG.1, hn]) (by omega) (by omega) (by omega) (by omega))
      refine ⟨τ, ?_, S2⟩
      rw [zq_above_98, kZ_above_98, if_neg (by omega), if_pos (by omega), zbd_of e1, b2_f hk, if_pos rfl, if_pos (by omega), zbd_of e2, if_pos (b2_01 _)]
      congr 2
      refine b2_c ⟨fun w => Or.inr ⟨hk, w⟩, fun w => ?_⟩
      rcases w with q | q
      · exact absurd ⟨q.1, q.2.1⟩ hk
      · exact q.2
theorem greater_ok {ar : Int → Nat} {n n2 : Nat} {k k2 : T} {σ : zS} {β : Nat} {t u : Int} (hP : Pt σ n k t) (hi : t + 1 + (wt k : Int) ≤ 420000) (hQ : Pt σ n2 k2 u) (hi2 : u + 1 + (wt k2 : Int) ≤ 420000) (hw : wf ar (vb 8) (nd n k nl)) (hw2 : wf ar (vb 8) (nd n2 k2 nl)) (hd : 2 * ht k + 1 ≤ β) (hd2 : 2 * ht k2 + 1 ≤ β) (b1 : wt k ≤ 100000) (b2' : wt k2 ≤ 100000) :
    ∃ τ, zE tM_greater β σ [t, u] = some (τ, b2 (gT n k n2 k2)) ∧ Sa 102 σ τ :=
  greater_of hP hi hQ hi2 hw hw2 (by omega) (by omega) b1 b2' (fun τ S1 hn hwt => above_loop k k2 τ (β - 1) t u _ _ (Pc_q (S1.pq (by omega)) hP.2.2.2.1) (Pt_kid hP hi (by omega)) (Pc_q (S1.pq (by omega)) hQ.2.2.2.1) (Pt_kid hQ hi2 (by omega)) hw.2.2.1 hw2.2.2.1 (by rw [hw.1, hw2.1, hn]) (by omega) (by omega) b1 b2')
