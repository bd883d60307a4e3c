/-! the reference: each with each -/
/-- only rows from r on, 65 and 3000 -/
def EF (r : Int) (σ τ : zS) : Prop := (∀ j, j ≠ 65 → j ≠ 3000 → τ.1 j = σ.1 j) ∧ τ.2.2 = σ.2.2 ∧ (∀ j q, j ≠ 63 → j ≠ 64 → τ.2.1 j q = σ.2.1 j q) ∧ (∀ q, q < 24 * r → τ.2.1 63 q = σ.2.1 63 q) ∧ ∀ q, q < r → τ.2.1 64 q = σ.2.1 64 q
theorem EF.rf {r : Int} {σ : zS} : EF r σ σ := ⟨fun _ _ _ => rfl, rfl, fun _ _ _ _ => rfl, fun _ _ => rfl, fun _ _ => rfl⟩
theorem EF.tr {r : Int} {σ τ ρ : zS} (h : EF r σ τ) (g : EF r τ ρ) : EF r σ ρ := ⟨fun j a b => by rw [g.1 j a b, h.1 j a b], by rw [g.2.1, h.2.1], fun j q a b => by rw [g.2.2.1 j q a b, h.2.2.1 j q a b], fun q a => by rw [g.2.2.2.1 q a, h.2.2.2.1 q a], fun q a => by rw [g.2.2.2.2 q a, h.2.2.2.2 q a]⟩
theorem EF.w {r r2 : Int} {σ τ : zS} (h : EF r σ τ) (hr : r2 ≤ r) : EF r2 σ τ := ⟨h.1, h.2.1, h.2.2.1, fun q a => h.2.2.2.1 q (by omega), fun q a => h.2.2.2.2 q (by omega)⟩
theorem PT.e {r : Int} {σ τ : zS} {x : Tm} {t : Int} (h : PT σ x t) (f : EF r σ τ) : PT τ x t := h.m (fun k q _ hk => f.2.2.1 k q (by omega) (by omega)) (by rw [f.1 47 (by decide) (by decide)]; exact Int.le_refl _)
theorem RRw.e {r i : Int} {σ τ : zS} {c : List Lt} (h : RRw σ i c) (f : EF r σ τ) (hi : i < r) : RRw τ i c := h.m (fun k q _ hk => f.2.2.1 k q (by omega) (by omega)) (by rw [f.1 47 (by decide) (by decide)]; exact Int.le_refl _) (fun q _ q2 => f.2.2.2.1 q (by omega)) (f.2.2.2.2 i hi)
/-- a row out of two -/
theorem row_cat {σ : zS} {r i j : Int} {c d : List Lt} (hc : RRw σ i c) (hd : RRw σ j d) (h8 : c.length + d.length ≤ 8) (hi : i < r) (hj : j < r) : ∃ τ, τ = zI (zA (zCp (zCp σ 63 63 (24 * i) (24 * r) (3 * (c.length : Int))) 63 63 (24 * j) (24 * r + 3 * (c.length : Int)) (3 * (d.length : Int))) 64 r (3 * (c.length : Int) + 3 * (d.length : Int))) 65 (r + 1) ∧ EF r σ τ ∧ RRw τ r (c ++ d) := by
  refine ⟨_, rfl, ?_, ?_⟩
  · refine ⟨fun k a b => by simp [zI, zA, zCp, a], rfl, fun k q a b => by simp [zI, zA, zCp, a, b], fun q hq => ?_, fun q hq => by simp [zI, zA, zCp]; omega⟩
    show (zCp (zCp σ 63 63 (24 * i) (24 * r) (3 * (c.length : Int))) 63 63 (24 * j) (24 * r + 3 * (c.length : Int)) (3 * (d.length : Int))).2.1 63 q = _
    show (if (63 : Nat) = 63 ∧ 24 * r + 3 * (c.length : Int) ≤ q ∧ q < _ then _ else (if (63 : Nat) = 63 ∧ 24 * r ≤ q ∧ q < 24 * r + 3 * (c.length : Int) then _ else σ.2.1 63 q)) = _
    rw [if_neg (by omega), if_neg (by omega)]
  · obtain ⟨τ, hτ⟩ : ∃ x, x = zI (zA (zCp (zCp σ 63 63 (24 * i) (24 * r) (3 * (c.length : Int))) 63 63 (24 * j) (24 * r + 3 * (c.length : Int)) (3 * (d.length : Int))) 64 r (3 * (c.length : Int) + 3 * (d.length : Int))) 65 (r + 1) := ⟨_, rfl⟩
    rw [← hτ]
    have k63 : ∀ q, τ.2.1 63 q = (if 24 * r + 3 * (c.length : Int) ≤ q ∧ q < 24 * r + 3 * (c.length : Int) + 3 * (d.length : Int) then (if 24 * r ≤ 24 * j + (q - (24 * r + 3 * (c.length : Int))) ∧ 24 * j + (q - (24 * r + 3 * (c.length : Int))) < 24 * r + 3 * (c.length : Int) then σ.2.1 63 (24 * i + (24 * j + (q - (24 * r + 3 * (c.length : Int))) - 24 * r)) else σ.2.1 63 (24 * j + (q - (24 * r + 3 * (c.length : Int))))) else (if 24 * r ≤ q ∧ q < 24 * r + 3 * (c.length : Int) then σ.2.1 63 (24 * i + (q - 24 * r)) else σ.2.1 63 q)) := fun q => by rw [hτ]; simp [zI, zA, zCp]
    have a1 : ∀ k q, k ≠ 63 → k ≠ 64 → τ.2.1 k q = σ.2.1 k q := fun k q x y => by rw [hτ]; simp [zI, zA, zCp, x, y]
    have i1 : τ.1 47 = σ.1 47 := by rw [hτ]; simp [zI, zA, zCp]
    have pm : ∀ {x : Tm} {t : Int}, PT σ x t → PT τ x t := fun {x t} h => h.m (fun k q _ hk => a1 k q (by omega) (by omega)) (by omega)
    refine ⟨by rw [hτ, List.length_append]; simp [zI, zA, zCp]; omega, by rw [List.length_append]; omega, fun k a ha => ?_⟩
    by_cases ck : k < c.length
    · rw [List.getElem?_append_left ck] at ha
      obtain ⟨p1, p2, p3, p4⟩ := hc.2.2 k a ha
      have e : ∀ s : Int, 0 ≤ s → s < 3 → τ.2.1 63 (24 * r + 3 * (k : Int) + s) = σ.2.1 63 (24 * i + 3 * (k : Int) + s) := fun s s0 s1 => by
        rw [k63, if_neg (by omega), if_pos ⟨by omega, by omega⟩]
        exact congrArg (σ.2.1 63) (by omega)
      have e0 := e 0 (by decide) (by decide)
      rw [Int.add_zero, Int.add_zero] at e0
      rw [e0, e 1 (by decide) (by decide), e 2 (by decide) (by decide)]
      exact ⟨pm p1, pm p2, p3, p4⟩
    · rw [List.getElem?_append_right (by omega)] at ha
      have hk := (List.getElem?_eq_some_iff.mp ha).1
      obtain ⟨p1, p2, p3, p4⟩ := hd.2.2 _ a ha
      have e : ∀ s : Int, 0 ≤ s → s < 3 → τ.2.1 63 (24 * r + 3 * (k : Int) + s) = σ.2.1 63 (24 * j + 3 * ((k - c.length : Nat) : Int) + s) := fun s s0 s1 => by
        rw [k63, if_pos ⟨by omega, by omega⟩, if_neg (by omega)]
        exact congrArg (σ.2.1 63) (by omega)
      have e0 := e 0 (by decide) (by decide)
      rw [Int.add_zero, Int.add_zero] at e0
      rw [e0, e 1 (by decide) (by decide), e 2 (by decide) (by decide)]
      exact ⟨pm p1, pm p2, p3, p4⟩
/-- row i with all rows behind the middle -/
theorem ei_17 {β : Nat} {r0 : Int} {a b : Nat} (h0 : 0 ≤ r0) {i : Nat} (hi : i < a) {c : List Lt} {B : List (List Lt)} (hb : B.length = b) : ∀ (L : List (List Lt)) (j : Nat) (σ : zS) (D : List (List Lt)), B.drop j = L → RRw σ (r0 + (i : Int)) c → RRs σ (r0 + (a : Int)) B → RRs σ (r0 + (a : Int) + (b : Int)) D → σ.1 65 = r0 + (a : Int) + (b : Int) + (D.length : Int) → σ.1 65 + (L.length : Int) ≤ 1200 →
    ((∀ d ∈ L, c.length + d.length ≤ 8) → ∃ τ, xE tX_either_17 β σ [r0, r0 + (a : Int), r0 + (a : Int) + (b : Int), r0 + (i : Int), r0 + (a : Int) + (j : Int)] = xE tX_either_8 β τ [r0, r0 + (a : Int), r0 + (a : Int) + (b : Int), r0 + (i : Int) + 1] ∧ EF (r0 + (a : Int) + (b : Int)) σ τ ∧ RRs τ (r0 + (a : Int) + (b : Int)) (D ++ L.map (fun d => c ++ d)) ∧ τ.1 65 = r0 + (a : Int) + (b : Int) + (D.length : Int) + (L.length : Int)) ∧
    ((∃ d ∈ L, 8 < c.length + d.length) → ∃ τ, xE tX_either_17 β σ [r0, r0 + (a : Int), r0 + (a : Int) + (b : Int), r0 + (i : Int), r0 + (a : Int) + (j : Int)] = some (τ, 0) ∧ τ.1 3000 = 2 ∧ EF (r0 + (a : Int) + (b : Int)) σ τ ∧ r0 ≤ τ.1 65) := by
  intro L
  induction L with
  | nil =>
    intro j σ D hd hc hB hD h65 h12
    have hj : b ≤ j := by
      have := congrArg List.length hd
      rw [List.length_drop] at this
      simp at this
      omega
    refine ⟨fun _ => ⟨σ, ?_, EF.rf, by rw [List.map_nil, List.append_nil]; exact hD, by rw [h65]; simp⟩, fun ⟨d, hd2, _⟩ => by cases hd2⟩
    simp only [List.length_nil] at h12
    rw [xq_either_17, kW_either_17, if_pos (by omega), if_pos ⟨by omega, by omega⟩]
  | cons d L ih =>
    intro j σ D hd hc hB hD h65 h12
    simp only [List.length_cons] at h12
    have hjb : j < b := by
      rcases Nat.lt_or_ge j B.length with q | q
      · omega
      · rw [List.drop_eq_nil_of_le q] at hd; cases hd
    have hdj : B[j]? = some d := by
      have : (B.drop j)[0]? = some d := by rw [hd]; rfl
      rw [List.getElem?_drop] at this
      exact this
    have hd1 : B.drop (j + 1) = L := by
      rw [List.drop_eq_getElem_cons (by omega)] at hd
      exact List.tail_eq_of_cons_eq hd
    have hRd := hB j d hdj
    have sc := hc.1
    have sd := hRd.1
    have lc := hc.2.1
    have ld := hRd.2.1
    have begin_ : xE tX_either_17 β σ [r0, r0 + (a : Int), r0 + (a : Int) + (b : Int), r0 + (i : Int), r0 + (a : Int) + (j : Int)] = (if 3 * (c.length : Int) + 3 * (d.length : Int) ≤ 24 then xE tX_either_17 β (zI (zA (zCp (zCp σ 63 63 (24 * (r0 + (i : Int))) (24 * σ.1 65) (3 * (c.length : Int))) 63 63 (24 * (r0 + (a : Int) + (j : Int))) (24 * σ.1 65 + 3 * (c.length : Int)) (3 * (d.length : Int))) 64 (σ.1 65) (3 * (c.length : Int) + 3 * (d.length : Int))) 65 (σ.1 65 + 1)) [r0, r0 + (a : Int), r0 + (a : Int) + (b : Int), r0 + (i : Int), r0 + (a : Int) + (j : Int) + 1] else some (zI σ 3000 2, 0)) := by
      rw [xq_either_17, kW_either_17, if_neg (by omega), if_pos ⟨by omega, by omega⟩, if_pos ⟨by omega, by omega⟩, sc, sd, if_pos ⟨by omega, by omega⟩]
      by_cases c8 : 3 * (c.length : Int) + 3 * (d.length : Int) ≤ 24
      · rw [if_pos c8, if_pos c8, if_pos ⟨by omega, by omega⟩, if_pos ⟨by omega, by omega⟩, if_pos ⟨by omega, by omega, by omega, by omega, by omega⟩, lt_e]
        have e65 : ∀ (z : zS) (p q n : Int), (zCp z 63 63 p q n).1 65 = z.1 65 := fun _ _ _ _ => rfl
        have e64 : ∀ (z : zS) (p q n u : Int), (zCp z 63 63 p q n).2.1 64 u = z.2.1 64 u := fun _ _ _ _ _ => by simp [zCp]
        have f65 : ∀ (z : zS) (k : Nat) (q y : Int), (zA z k q y).1 65 = z.1 65 := fun _ _ _ _ => rfl
        rw [e65, e64, e64, sc, sd, if_pos ⟨by omega, by omega⟩, if_pos ⟨by omega, by omega⟩, if_pos ⟨by omega, by omega⟩, if_pos ⟨by omega, by omega, by omega, by omega, by omega⟩, lt_e, e65, e65, e64, e64, e64, e64, sc, sd, if_pos ⟨by omega, by omega⟩, if_pos ⟨by omega, by omega⟩, lt_e, f65, e65, e65, if_pos ⟨by omega, by omega⟩, lt_e, if_pos ⟨by omega, by omega⟩]
      · rw [if_neg c8, if_neg c8, lt_e]
    rw [begin_]
    by_cases c8 : c.length + d.length ≤ 8
    · rw [if_pos (by omega)]
      obtain ⟨τ, hτ, f1, f2⟩ := row_cat (r := σ.1 65) hc hRd c8 (by omega) (by omega)
      rw [← hτ]
      have t65 : τ.1 65 = σ.1 65 + 1 := by rw [hτ, zI_1]
      have f1' : EF (r0 + (a : Int) + (b : Int)) σ τ := f1.w (by omega)
      have hD2 : RRs τ (r0 + (a : Int) + (b : Int)) (D ++ [c ++ d]) := fun k x hx => by
        by_cases ck : k < D.length
        · rw [List.getElem?_append_left ck] at hx
          exact (hD k x hx).e f1 (by omega)
        · have hk : k = D.length := by
            have := (List.getElem?_eq_some_iff.mp hx).1
            rw [List.length_append] at this
            simp at this; omega
          subst hk
          rw [List.getElem?_append_right (Nat.le_refl _), Nat.sub_self] at hx
          cases hx
          rw [← h65]; exact f2
      obtain ⟨y1, y2⟩ := ih (j + 1) τ (D ++ [c ++ d]) hd1 (hc.e f1 (by omega)) (fun k x hx => (hB k x hx).e f1 (by have := (List.getElem?_eq_some_iff.mp hx).1; omega)) hD2 (by rw [t65, h65, List.length_append]; simp; omega) (by omega)
      rw [show r0 + (a : Int) + ((j + 1 : Nat) : Int) = r0 + (a : Int) + (j : Int) + 1 by omega] at y1 y2
      refine ⟨fun hall => ?_, fun ⟨x, hx, h9⟩ => ?_⟩
      · obtain ⟨ρ, z1, z2, z3, z4⟩ := y1 (fun x hx => hall x (by simp [hx]))
        refine ⟨ρ, z1, f1'.tr z2, ?_, ?_⟩
        · rw [List.append_assoc] at z3; exact z3
        · rw [z4, List.length_append, List.length_cons]; simp; omega
      · rcases List.mem_cons.mp hx with e | hx
        · subst e; omega
        · obtain ⟨ρ, z1, z2, z3, z4⟩ := y2 ⟨x, hx, h9⟩
          exact ⟨ρ, z1, z2, f1'.tr z3, z4⟩
    · rw [if_neg (by omega)]
      refine ⟨fun hall => absurd (hall d (by simp)) c8, fun _ => ⟨zI σ 3000 2, rfl, by simp [zI], ⟨fun k _ h => by simp [zI, h], rfl, fun _ _ _ _ => rfl, fun _ _ => rfl, fun _ _ => rfl⟩, by show r0 ≤ σ.1 65; omega⟩⟩
theorem ei_8 {β : Nat} {r0 : Int} {a b : Nat} (h0 : 0 ≤ r0) {A B : List (List Lt)} (ha : A.length = a) (hb : B.length = b) : ∀ (L : List (List Lt)) (i : Nat) (σ : zS) (D : List (List Lt)), A.drop i = L → RRs σ r0 A → RRs σ (r0 + (a : Int)) B → RRs σ (r0 + (a : Int) + (b : Int)) D → σ.1 65 = r0 + (a : Int) + (b : Int) + (D.length : Int) → σ.1 65 + ((L.length * b : Nat) : Int) ≤ 1200 →
    ((∀ c ∈ L, ∀ d ∈ B, c.length + d.length ≤ 8) → ∃ τ, xE tX_either_8 β σ [r0, r0 + (a : Int), r0 + (a : Int) + (b : Int), r0 + (i : Int)] = xE tX_either_176 β τ [r0, r0 + (a : Int), r0 + (a : Int) + (b : Int), ((D ++ eaE L B).length : Int), 0] ∧ EF (r0 + (a : Int) + (b : Int)) σ τ ∧ RRs τ (r0 + (a : Int) + (b : Int)) (D ++ eaE L B) ∧ τ.1 65 = r0 + (a : Int) + (b : Int) + ((D ++ eaE L B).length : Int)) ∧
    ((∃ c ∈ L, ∃ d ∈ B, 8 < c.length + d.length) → ∃ τ, xE tX_either_8 β σ [r0, r0 + (a : Int), r0 + (a : Int) + (b : Int), r0 + (i : Int)] = some (τ, 0) ∧ τ.1 3000 = 2 ∧ EF (r0 + (a : Int) + (b : Int)) σ τ ∧ r0 ≤ τ.1 65) := by
  intro L
  induction L with
  | nil =>
    intro i σ D hd hA hB hD h65 h12
    have hi : a ≤ i := by
      have := congrArg List.length hd
      rw [List.length_drop] at this
      simp at this
      omega
    refine ⟨fun _ => ⟨σ, ?_, EF.rf, by show RRs σ _ (D ++ []); rw [List.append_nil]; exact hD, by show σ.1 65 = _ + ((D ++ []).length : Int); rw [List.append_nil]; exact h65⟩, fun ⟨c, hc, _⟩ => by cases hc⟩
    show _ = xE tX_either_176 β σ [r0, r0 + (a : Int), r0 + (a : Int) + (b : Int), ((D ++ []).length : Int), 0]
    simp only [List.length_nil, Nat.zero_mul] at h12
    rw [List.append_nil, xq_either_8, kW_either_8, if_pos (by omega), h65, if_pos ⟨by omega, by omega⟩, show r0 + (a : Int) + (b : Int) + (D.length : Int) - (r0 + (a : Int) + (b : Int)) = (D.length : Int) by omega]
  | cons c L ih =>
    intro i σ D hd hA hB hD h65 h12
    simp only [List.length_cons, Nat.add_mul, Nat.one_mul] at h12
    have hia : i < a := by
      rcases Nat.lt_or_ge i A.length with q | q
      · omega
      · rw [List.drop_eq_nil_of_le q] at hd; cases hd
    have hci : A[i]? = some c := by
      have : (A.drop i)[0]? = some c := by rw [hd]; rfl
      rw [List.getElem?_drop] at this
      exact this
    have hd1 : A.drop (i + 1) = L := by
      rw [List.drop_eq_getElem_cons (by omega)] at hd
      exact List.tail_eq_of_cons_eq hd
    have begin_ : xE tX_either_8 β σ [r0, r0 + (a : Int), r0 + (a : Int) + (b : Int), r0 + (i : Int)] = xE tX_either_17 β σ [r0, r0 + (a : Int), r0 + (a : Int) + (b : Int), r0 + (i : Int), r0 + (a : Int) + ((0 : Nat) : Int)] := by
      rw [xq_either_8, kW_either_8, if_neg (by omega)]
      simp
    rw [begin_]
    obtain ⟨x1, x2⟩ := ei_17 (β := β) h0 hia (c := c) hb B 0 σ D rfl (hA i c hci) hB hD h65 (by rw [hb]; omega)
    by_cases hall : ∀ d ∈ B, c.length + d.length ≤ 8
    · obtain ⟨τ, t1, t2, t3, t4⟩ := x1 hall
      rw [t1]
      have hl : (D ++ B.map (fun d => c ++ d)).length = D.length + b := by rw [List.length_append, List.length_map, hb]
      obtain ⟨y1, y2⟩ := ih (i + 1) τ (D ++ B.map (fun d => c ++ d)) hd1 (fun k x hx => (hA k x hx).e t2 (by have := (List.getElem?_eq_some_iff.mp hx).1; omega)) (fun k x hx => (hB k x hx).e t2 (by have := (List.getElem?_eq_some_iff.mp hx).1; omega)) t3 (by rw [t4, hl, hb]; omega) (by rw [t4, hb]; omega)
      rw [show r0 + ((i + 1 : Nat) : Int) = r0 + (i : Int) + 1 by omega] at y1 y2
      have eea : D ++ B.map (fun d => c ++ d) ++ eaE L B = D ++ eaE (c :: L) B := by
        rw [List.append_assoc]; rfl
      rw [eea] at y1
      refine ⟨fun h => ?_, fun ⟨c', hc', d, hd', h9⟩ => ?_⟩
      · obtain ⟨ρ, z1, z2, z3, z4⟩ := y1 (fun c' hc' => h c' (by simp [hc']))
        exact ⟨ρ, z1, t2.tr z2, z3, z4⟩
      · rcases List.mem_cons.mp hc' with e | hc'
        · subst e
          have := hall d hd'
          omega
        · obtain ⟨ρ, z1, z2, z3, z4⟩ := y2 ⟨c', hc', d, hd', h9⟩
          exact ⟨ρ, z1, z2, t2.tr z3, z4⟩
    · have hex : ∃ d ∈ B, 8 < c.length + d.length := by
        have := Classical.not_forall.mp hall
        obtain ⟨d, hd⟩ := this
        have := Classical.not_imp.mp hd
        exact ⟨d, this.1, by omega⟩
      obtain ⟨τ, t1, t2, t3, t4⟩ := x2 hex
      exact ⟨fun h => absurd (fun d hd => h c (by simp) d hd) hall, fun _ => ⟨τ, t1, t2, t3, t4⟩⟩
/-- the made rows come down -/
theorem ei_176 {β : Nat} {r0 to_ : Int} {x1 : Int} (h0 : 0 ≤ r0) (ht : r0 < to_) {D : List (List Lt)} (h12 : to_ + (D.length : Int) ≤ 1200) : ∀ (m k : Nat) (σ : zS), k + m = D.length → RRs σ r0 (D.take k) → (∀ (i : Nat) c, k ≤ i → D[i]? = some c → RRw σ (to_ + (i : Int)) c) → ∃ τ, xE tX_either_176 β σ [r0, x1, to_, (D.length : Int), (k : Int)] = some (τ, 0) ∧ τ.1 3000 = 0 ∧ EF r0 σ τ ∧ RRs τ r0 D ∧ τ.1 65 = r0 + (D.length : Int) := by
  intro m
  induction m with
  | zero =>
    intro k σ hk h1 h2
    have hk : k = D.length := by omega
    rw [hk, List.take_length] at h1
    obtain ⟨τ, hτ⟩ : ∃ z, z = zI (zI σ 65 (r0 + (D.length : Int))) 3000 0 := ⟨_, rfl⟩
    have f : EF r0 σ τ := by rw [hτ]; exact ⟨fun j a b => by simp [zI, a, b], rfl, fun _ _ _ _ => rfl, fun _ _ => rfl, fun _ _ => rfl⟩
    have e2 : τ.2 = σ.2 := by rw [hτ]; rfl
    refine ⟨τ, ?_, by rw [hτ]; simp [zI], f, fun i c hc => ?_, by rw [hτ]; simp [zI]⟩
    · rw [xq_either_176, kW_either_176, if_pos (by omega), if_pos ⟨by omega, by omega⟩, lt_e, lt_e, ← hτ]
    · refine (h1 i c hc).m (fun k q _ _ => by rw [e2]) (by rw [f.1 47 (by decide) (by decide)]; exact Int.le_refl _) (fun q _ _ => by rw [e2]) (by rw [e2])
  | succ m ih =>
    intro k σ hk h1 h2
    obtain ⟨c, hc⟩ : ∃ c, D[k]? = some c := ⟨D[k], List.getElem?_eq_getElem (by omega)⟩
    have hRc := h2 k c (Nat.le_refl _) hc
    have sc := hRc.1
    have lc := hRc.2.1
    obtain ⟨τ, hτ⟩ : ∃ z, z = zA (zCp σ 63 63 (24 * (to_ + (k : Int))) (24 * (r0 + (k : Int))) (3 * (c.length : Int))) 64 (r0 + (k : Int)) (3 * (c.length : Int)) := ⟨_, rfl⟩
    have a1 : ∀ j q, j ≠ 63 → j ≠ 64 → τ.2.1 j q = σ.2.1 j q := fun j q x y => by rw [hτ]; simp [zA, zCp, x, y]
    have k63 : ∀ q, τ.2.1 63 q = if 24 * (r0 + (k : Int)) ≤ q ∧ q < 24 * (r0 + (k : Int)) + 3 * (c.length : Int) then σ.2.1 63 (24 * (to_ + (k : Int)) + (q - 24 * (r0 + (k : Int)))) else σ.2.1 63 q := fun q => by rw [hτ]; simp [zA, zCp]
    have k64 : ∀ q, τ.2.1 64 q = if q = r0 + (k : Int) then 3 * (c.length : Int) else σ.2.1 64 q := fun q => by rw [hτ]; simp [zA, zCp]
    have i1 : τ.1 = σ.1 := by rw [hτ]; rfl
    have f : EF r0 σ τ := ⟨fun j _ _ => by rw [i1], by rw [hτ]; rfl, a1, fun q hq => by rw [k63, if_neg (by omega)], fun q hq => by rw [k64, if_neg (by omega)]⟩
    have pm : ∀ {x : Tm} {t : Int}, PT σ x t → PT τ x t := fun {x t} h => h.m (fun k q _ hk => a1 k q (by omega) (by omega)) (by rw [i1]; exact Int.le_refl _)
    have hnew : RRw τ (r0 + (k : Int)) c := by
      refine ⟨by rw [k64, if_pos rfl], lc, fun j x hx => ?_⟩
      have hj := (List.getElem?_eq_some_iff.mp hx).1
      obtain ⟨p1, p2, p3, p4⟩ := hRc.2.2 j x hx
      have e : ∀ s : Int, 0 ≤ s → s < 3 → τ.2.1 63 (24 * (r0 + (k : Int)) + 3 * (j : Int) + s) = σ.2.1 63 (24 * (to_ + (k : Int)) + 3 * (j : Int) + s) := fun s s0 s1 => by
        rw [k63, if_pos ⟨by omega, by omega⟩]
        exact congrArg (σ.2.1 63) (by omega)
      have e0 := e 0 (by decide) (by decide)
      rw [Int.add_zero, Int.add_zero] at e0
      rw [e0, e 1 (by decide) (by decide), e 2 (by decide) (by decide)]
      exact ⟨pm p1, pm p2, p3, p4⟩
    have keep : ∀ {r : Int} {d : List Lt}, RRw σ r d → r ≠ r0 + (k : Int) → RRw τ r d := fun {r d} h hr => h.m (fun k q _ hk => a1 k q (by omega) (by omega)) (by rw [i1]; exact Int.le_refl _) (fun q q1 q2 => by rw [k63, if_neg (by omega)]) (by rw [k64, if_neg hr])
    obtain ⟨ρ, z1, z2, z3, z4, z5⟩ := ih (k + 1) τ (by omega) (fun i d hd => by
      rw [List.take_add_one, hc] at hd
      have hil := (List.getElem?_eq_some_iff.mp hd).1
      rw [List.length_append, List.length_take] at hil
      simp at hil
      by_cases ci : i < k
      · rw [List.getElem?_append_left (by rw [List.length_take]; omega)] at hd
        exact keep (h1 i d hd) (by omega)
      · have : i = k := by omega
        subst this
        have : d = c := by
          rw [List.getElem?_append_right (by rw [List.length_take]; omega), List.length_take] at hd
          rw [show i - min i D.length = 0 by omega] at hd
          simpa using hd.symm
        rw [this]; exact hnew) (fun i d hi hd => keep (h2 i d (by omega) hd) (by omega))
    refine ⟨ρ, ?_, z2, f.tr z3, z4, z5⟩
    rw [xq_either_176, kW_either_176, if_neg (by omega), if_pos ⟨by omega, by omega⟩, if_pos ⟨by omega, by omega⟩, if_pos ⟨by omega, by omega⟩, if_pos ⟨by omega, by omega⟩, if_pos ⟨by omega, by omega⟩, sc, if_pos ⟨by omega, by omega, by omega, by omega, by omega⟩, lt_e, if_pos ⟨by omega, by omega⟩]
    have e64 : (zCp σ 63 63 (24 * (to_ + (k : Int))) (24 * (r0 + (k : Int))) (3 * (c.length : Int))).2.1 64 (to_ + (k : Int)) = 3 * (c.length : Int) := by
      rw [← sc]; simp [zCp]
    rw [e64, lt_e, ← hτ, if_pos ⟨by omega, by omega⟩, show (k : Int) + 1 = ((k + 1 : Nat) : Int) by omega]
    exact z1
theorem ei_ok {β : Nat} {r0 : Int} {σ : zS} {A B : List (List Lt)} (h0 : 0 ≤ r0) (hA : RRs σ r0 A) (hB : RRs σ (r0 + (A.length : Int)) B) (h65 : σ.1 65 = r0 + (A.length : Int) + (B.length : Int)) (h12 : σ.1 65 + ((A.length * B.length : Nat) : Int) ≤ 1200) (ha : 1 ≤ A.length) (hb : 1 ≤ B.length) :
    ((∀ c ∈ A, ∀ d ∈ B, c.length + d.length ≤ 8) → ∃ τ, xE tX_either β σ [r0, r0 + (A.length : Int)] = some (τ, 0) ∧ τ.1 3000 = 0 ∧ EF r0 σ τ ∧ RRs τ r0 (eaE A B) ∧ τ.1 65 = r0 + ((eaE A B).length : Int)) ∧
    ((∃ c ∈ A, ∃ d ∈ B, 8 < c.length + d.length) → ∃ τ, xE tX_either β σ [r0, r0 + (A.length : Int)] = some (τ, 0) ∧ τ.1 3000 = 2 ∧ EF r0 σ τ ∧ r0 ≤ τ.1 65) := by
  obtain ⟨y1, y2⟩ := ei_8 (β := β) h0 (a := A.length) (b := B.length) rfl rfl A 0 σ [] rfl hA hB (fun i c hc => by cases hc) (by rw [h65]; simp) (by omega)
  have e0 : xE tX_either β σ [r0, r0 + (A.length : Int)] = xE tX_either_8 β σ [r0, r0 + (A.length : Int), r0 + (A.length : Int) + (B.length : Int), r0 + ((0 : Nat) : Int)] := by
    rw [xq_either, kW_either, h65]
    simp
  rw [e0]
  refine ⟨fun h => ?_, fun h => ?_⟩
  · obtain ⟨τ, t1, t2, t3, t4⟩ := y1 h
    rw [List.nil_append] at t1 t3 t4
    have hl := eaE_len A B
    obtain ⟨ρ, z1, z2, z3, z4, z5⟩ := ei_176 (β := β) (r0 := r0) (to_ := r0 + (A.length : Int) + (B.length : Int)) (x1 := r0 + (A.length : Int)) h0 (by omega) (D := eaE A B) (by rw [hl]; omega) (eaE A B).length 0 τ (by omega) (fun i c hc => by rw [List.take_zero] at hc; cases hc) (fun i c _ hc => t3 i c hc)
    exact ⟨ρ, by rw [t1]; exact z1, z2, (t2.w (by omega)).tr z3, z4, z5⟩
  · obtain ⟨τ, t1, t2, t3, t4⟩ := y2 h
    exact ⟨τ, t1, t2, t3.w (by omega), t4⟩
