/-! the reference: rows of CLAUSES, ATOMS -/
/-- a TERM made behind the CLAUSES -/
def PT (σ : zS) (x : Tm) (t : Int) : Prop := Pt σ x.1 x.2 t ∧ 205000 ≤ t ∧ t + (tw x : Int) ≤ σ.1 47
/-- row r -/
def RRw (σ : zS) (r : Int) (c : List Lt) : Prop := σ.2.1 64 r = 3 * (c.length : Int) ∧ c.length ≤ 8 ∧ ∀ (j : Nat) a, c[j]? = some a → PT σ a.2.1 (σ.2.1 63 (24 * r + 3 * (j : Int))) ∧ PT σ a.2.2 (σ.2.1 63 (24 * r + 3 * (j : Int) + 1)) ∧ σ.2.1 63 (24 * r + 3 * (j : Int) + 2) = a.1 ∧ tw a.2.1 + tw a.2.2 ≤ 100 ∧ (a.1 = 0 ∨ a.1 = 1)
def RRs (σ : zS) (r0 : Int) (A : List (List Lt)) : Prop := ∀ (i : Nat) c, A[i]? = some c → RRw σ (r0 + (i : Int)) c
/-- what making CLAUSES changes -/
def CLf (σ τ : zS) : Prop := (∀ j, j ≠ 47 → j ≠ 62 → j ≠ 65 → j ≠ 3000 → τ.1 j = σ.1 j) ∧ τ.2.2 = σ.2.2 ∧ (∀ j q, ([43, 44, 45, 46, 59, 60, 61, 63, 64] : List Nat).elem j = false → τ.2.1 j q = σ.2.1 j q) ∧ (∀ k q, q < σ.1 47 → (k = 43 ∨ k = 44 ∨ k = 45 ∨ k = 46) → τ.2.1 k q = σ.2.1 k q) ∧ σ.1 47 ≤ τ.1 47 ∧ (∀ q, q < 24 * σ.1 65 → τ.2.1 63 q = σ.2.1 63 q) ∧ (∀ q, q < σ.1 65 → τ.2.1 64 q = σ.2.1 64 q)
theorem CLf.rf {σ : zS} : CLf σ σ := ⟨fun _ _ _ _ _ => rfl, rfl, fun _ _ _ => rfl, fun _ _ _ _ => rfl, Int.le_refl _, fun _ _ => rfl, fun _ _ => rfl⟩
theorem CLf.tr {σ τ ρ : zS} (h : CLf σ τ) (g : CLf τ ρ) (h65 : σ.1 65 ≤ τ.1 65) : CLf σ ρ := by
  obtain ⟨a1, a2, a3, a4, a5, a6, a7⟩ := h
  obtain ⟨b1, b2, b3, b4, b5, b6, b7⟩ := g
  exact ⟨fun j x1 x2 x3 x4 => by rw [b1 j x1 x2 x3 x4, a1 j x1 x2 x3 x4], by rw [b2, a2], fun j q hj => by rw [b3 j q hj, a3 j q hj], fun k q hq hk => by rw [b4 k q (by omega) hk, a4 k q hq hk], by omega, fun q hq => by rw [b6 q (by omega), a6 q hq], fun q hq => by rw [b7 q (by omega), a7 q hq]⟩
theorem PT.m {σ τ : zS} {x : Tm} {t : Int} (h : PT σ x t) (h1 : ∀ k q, q < σ.1 47 → (k = 43 ∨ k = 44 ∨ k = 45 ∨ k = 46) → τ.2.1 k q = σ.2.1 k q) (h2 : σ.1 47 ≤ τ.1 47) : PT τ x t := by
  obtain ⟨a, b, c⟩ := h
  have e : (tw x : Int) = 1 + (wt x.2 : Int) := by simp only [tw]; omega
  exact ⟨Pt_q (fun k q q1 q2 hk => h1 k q (by omega) hk) a, b, by omega⟩
theorem RRw.m {σ τ : zS} {r : Int} {c : List Lt} (h : RRw σ r c) (h1 : ∀ k q, q < σ.1 47 → (k = 43 ∨ k = 44 ∨ k = 45 ∨ k = 46) → τ.2.1 k q = σ.2.1 k q) (h2 : σ.1 47 ≤ τ.1 47) (h3 : ∀ q, 24 * r ≤ q → q < 24 * r + 24 → τ.2.1 63 q = σ.2.1 63 q) (h4 : τ.2.1 64 r = σ.2.1 64 r) : RRw τ r c := by
  obtain ⟨a, b, d⟩ := h
  refine ⟨by rw [h4]; exact a, b, fun j x hx => ?_⟩
  have hj := (List.getElem?_eq_some_iff.mp hx).1
  obtain ⟨d1, d2, d3⟩ := d j x hx
  rw [h3 _ (by omega) (by omega), h3 _ (by omega) (by omega), h3 _ (by omega) (by omega)]
  exact ⟨d1.m h1 h2, d2.m h1 h2, d3⟩
theorem RRs.c {σ τ : zS} {r0 : Int} {A : List (List Lt)} (h : RRs σ r0 A) (f : CLf σ τ) (hl : r0 + (A.length : Int) ≤ σ.1 65) : RRs τ r0 A := fun i c hc => by
  have hi := (List.getElem?_eq_some_iff.mp hc).1
  exact (h i c hc).m f.2.2.2.1 f.2.2.2.2.1 (fun q q1 q2 => f.2.2.2.2.2.1 q (by omega)) (f.2.2.2.2.2.2 _ (by omega))
/-- room: TERMS made while their VARIABLES stand for others -/
theorem Grow.cl {σ τ : zS} {m : Nat} (g : Grow σ τ m) : CLf σ τ := ⟨fun j h _ _ _ => g.2.1 j h, g.2.2.1, fun j q hj => g.2.2.2 j q (Or.inr (fun h => by rcases h with h | h | h | h <;> subst h <;> exact absurd hj (by decide))), fun k q hq _ => g.2.2.2 k q (Or.inl hq), by rw [g.1]; omega, fun q _ => g.2.2.2 63 q (Or.inr (by decide)), fun q _ => g.2.2.2 64 q (Or.inr (by decide))⟩
theorem ht_le100 {x : Tm} (h : tw x ≤ 100) : ht (tt x) ≤ 100 := by
  rw [ht_tt]
  have := ht_le_wt x.2
  simp only [tw] at h
  omega
theorem ht_su100 {F : T} (h : wt F ≤ 99) : ht F ≤ 99 := Nat.le_trans (ht_le_wt F) h
/-- a row of one ATOM is written -/
theorem atm_end {β : Nat} {σ σ2 : zS} {w : Nat → Nat} {E : VE} {x y : Tm} {t u a W : Int} {is : Bool} (hE : REv w σ E) (h0 : 0 ≤ σ.1 65) (h65 : σ.1 65 < 1200) (fσ : CLf σ σ2) (hi : ∀ j, j ≠ 47 → σ2.1 j = σ.1 j) (ha : ∀ j q, j ≠ 63 → (j = 43 ∨ j = 44 ∨ j = 45 ∨ j = 46 ∨ σ2.2.1 j q = σ.2.1 j q)) (h63 : σ2.2.1 63 (24 * σ.1 65) = t) (hx : PT σ2 x t) (hy : PT σ2 y u) (hw : tw x + tw y ≤ 100) : ∃ τ, xE tX_atom2_197 β σ2 [a, bi is, W, 24 * σ.1 65, u, 24 * σ.1 65 + 1] = some (τ, 0) ∧ τ.1 3000 = 0 ∧ CLf σ τ ∧ REv w τ E ∧ τ.1 65 = σ.1 65 + 1 ∧ τ.1 47 = σ2.1 47 ∧ RRw τ (σ.1 65) [(bi is, x, y)] := by
  obtain ⟨τ, hτ⟩ : ∃ z, z = zI (zA (zI (zA (zA σ2 63 (24 * σ.1 65 + 1) u) 63 (24 * σ.1 65 + 2) (bi is)) 65 (σ.1 65 + 1)) 64 (σ.1 65) 3) 3000 0 := ⟨_, rfl⟩
  have e65 : σ2.1 65 = σ.1 65 := hi 65 (by decide)
  have i1 : ∀ j, j ≠ 65 → j ≠ 3000 → τ.1 j = σ2.1 j := fun j j1 j2 => by rw [hτ]; simp [zI, zA, j1, j2]
  have a1 : ∀ j q, j ≠ 63 → j ≠ 64 → τ.2.1 j q = σ2.2.1 j q := fun j q j1 j2 => by rw [hτ]; simp [zI, zA, j1, j2]
  have k64 : ∀ q, τ.2.1 64 q = if q = σ.1 65 then 3 else σ2.2.1 64 q := fun q => by rw [hτ]; simp [zI, zA]
  have k63 : ∀ q, τ.2.1 63 q = if q = 24 * σ.1 65 + 2 then bi is else if q = 24 * σ.1 65 + 1 then u else σ2.2.1 63 q := fun q => by rw [hτ]; simp [zI, zA]
  have t65 : τ.1 65 = σ.1 65 + 1 := by rw [hτ]; simp [zI, zA]
  have run : xE tX_atom2_197 β σ2 [a, bi is, W, 24 * σ.1 65, u, 24 * σ.1 65 + 1] = some (τ, 0) := by
    have e215 : ∀ y : Int, y = bi is → xE tX_atom2_215 β (zA σ2 63 (24 * σ.1 65 + 1) u) [a, bi is, W, 24 * σ.1 65, y, 24 * σ.1 65 + 2] = some (τ, 0) := fun y hy => by
      rw [xq_atom2_215, kW_atom2_215, if_pos ⟨by omega, by omega⟩, lt_e, hy]
      have e1 : ∀ (z : zS) (b : Nat) (i y : Int), (zA z b i y).1 65 = z.1 65 := fun _ _ _ _ => rfl
      rw [e1, e1, e65, if_pos ⟨by omega, by omega⟩, lt_e, if_pos ⟨by omega, by omega⟩, lt_e, lt_e, ← hτ]
    rw [xq_atom2_197, kW_atom2_197, if_pos ⟨by omega, by omega⟩, lt_e]
    cases is
    · rw [if_pos (show bi false = 0 from rfl), if_pos ⟨by omega, by omega⟩]; exact e215 0 rfl
    · rw [if_neg (show ¬ bi true = 0 by decide), if_pos ⟨by omega, by omega⟩]; exact e215 1 rfl
  have f2τ : CLf σ τ := by
    obtain ⟨b1, b2', b3, b4, b5, b6, b7⟩ := fσ
    refine ⟨fun j x1 x2 x3 x4 => by rw [i1 j x3 x4]; exact b1 j x1 x2 x3 x4, by rw [hτ]; exact b2', fun j q hj => ?_, fun k q hq hk => by rw [a1 k q (by omega) (by omega)]; exact b4 k q hq hk, by rw [i1 47 (by decide) (by decide)]; exact b5, fun q hq => by rw [k63, if_neg (by omega), if_neg (by omega)]; exact b6 q hq, fun q hq => by rw [k64, if_neg (by omega)]; exact b7 q hq⟩
    rw [a1 j q (fun e => by subst e; exact absurd hj (by decide)) (fun e => by subst e; exact absurd hj (by decide))]
    exact b3 j q hj
  have pm : ∀ k q, q < σ2.1 47 → (k = 43 ∨ k = 44 ∨ k = 45 ∨ k = 46) → τ.2.1 k q = σ2.2.1 k q := fun k q _ hk => a1 k q (by omega) (by omega)
  have p47 : σ2.1 47 ≤ τ.1 47 := by rw [i1 47 (by decide) (by decide)]; exact Int.le_refl _
  refine ⟨τ, run, by rw [hτ]; simp [zI], f2τ, ?_, t65, i1 47 (by decide) (by decide), ⟨by rw [k64, if_pos rfl]; rfl, by simp, fun j c hc => ?_⟩⟩
  · have g : ∀ j q, j ≠ 63 → j ≠ 64 → ¬ (j = 43 ∨ j = 44 ∨ j = 45 ∨ j = 46) → τ.2.1 j q = σ.2.1 j q := fun j q j1 j2 j3 => by
      rw [a1 j q j1 j2]
      rcases ha j q j1 with h | h | h | h | h
      · exact absurd (Or.inl h) j3
      · exact absurd (Or.inr (Or.inl h)) j3
      · exact absurd (Or.inr (Or.inr (Or.inl h))) j3
      · exact absurd (Or.inr (Or.inr (Or.inr h))) j3
      · exact h
    exact ⟨by rw [i1 62 (by decide) (by decide), hi 62 (by decide)]; exact hE.1, hE.2.1, fun i z hz => by rw [g 59 _ (by decide) (by decide) (by decide), g 60 _ (by decide) (by decide) (by decide), g 61 _ (by decide) (by decide) (by decide), g 23 _ (by decide) (by decide) (by decide)]; exact hE.2.2 i z hz⟩
  · have hj : j = 0 := by
      have := (List.getElem?_eq_some_iff.mp hc).1
      simp at this; omega
    subst hj
    cases hc
    rw [k63, k63, k63, if_neg (by omega), if_neg (by omega), if_neg (by omega), if_pos (by omega), if_pos (by omega), show 24 * σ.1 65 + 3 * ((0 : Nat) : Int) = 24 * σ.1 65 by omega, h63]
    exact ⟨hx.m pm p47, hy.m pm p47, rfl, hw, by cases is <;> simp [bi]⟩
