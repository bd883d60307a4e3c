theorem tw_st (τ : Vs) (x : Tm) : wt (su τ (tt x)) = tw (st τ x) := by
  show wt (nd (st τ x).1 (st τ x).2 nl) = _
  simp only [wt, tw, Nat.add_zero]
/-! how many of 0 .. 11 -/
noncomputable def n12 (P : Int → Prop) : Nat := ((List.range 12).filter (fun i : Nat => @decide (P (i : Int)) (Classical.propDecidable _))).length
theorem n12_le (P : Int → Prop) : n12 P ≤ 12 := by
  unfold n12
  have := List.length_filter_le (fun i => @decide (P ((i : Nat) : Int)) (Classical.propDecidable _)) (List.range 12)
  simpa using this
theorem filt_mono {α : Type} {p q : α → Bool} : ∀ {L : List α}, (∀ a, p a = true → q a = true) → (L.filter p).length ≤ (L.filter q).length
  | [], _ => Nat.le_refl _
  | a :: L, h => by
    have ih := filt_mono (L := L) h
    by_cases hp : p a = true
    · rw [List.filter_cons_of_pos hp, List.filter_cons_of_pos (h a hp)]
      simp only [List.length_cons]; omega
    · rw [List.filter_cons_of_neg hp]
      by_cases hq : q a = true
      · rw [List.filter_cons_of_pos hq]; simp only [List.length_cons]; omega
      · rw [List.filter_cons_of_neg hq]; exact ih
theorem filt_lt {α : Type} {p q : α → Bool} : ∀ {L : List α}, (∀ a, p a = true → q a = true) → (∃ a ∈ L, q a = true ∧ ¬ p a = true) → (L.filter p).length < (L.filter q).length
  | [], _, h => by obtain ⟨a, h, _⟩ := h; cases h
  | a :: L, h, g => by
    obtain ⟨b, hb, hq, hp⟩ := g
    have mono := filt_mono (L := L) h
    rcases List.mem_cons.mp hb with rfl | hb
    · rw [List.filter_cons_of_neg hp, List.filter_cons_of_pos hq]
      simp only [List.length_cons]; omega
    · have ih := filt_lt (L := L) h ⟨b, hb, hq, hp⟩
      by_cases pa : p a = true
      · rw [List.filter_cons_of_pos pa, List.filter_cons_of_pos (h a pa)]
        simp only [List.length_cons]; omega
      · rw [List.filter_cons_of_neg pa]
        by_cases qa : q a = true
        · rw [List.filter_cons_of_pos qa]; simp only [List.length_cons]; omega
        · rw [List.filter_cons_of_neg qa]; exact ih
theorem n12_mono {P Q : Int → Prop} (h : ∀ i, P i → Q i) : n12 P ≤ n12 Q := filt_mono (fun a => by
  simp only [decide_eq_true_eq]; exact h _)
theorem n12_lt {P Q : Int → Prop} (h : ∀ i, P i → Q i) {v : Int} (h0 : 0 ≤ v) (h1 : v < 12) (hq : Q v) (hp : ¬ P v) : n12 P < n12 Q := filt_lt (fun a => by
  simp only [decide_eq_true_eq]; exact h _) ⟨v.toNat, List.mem_range.mpr (by omega), by simp only [decide_eq_true_eq]; rw [Int.toNat_of_nonneg h0]; exact ⟨hq, hp⟩⟩
/-! values that hang together: rt: the root of a VARIABLE; vl: the value of a root -/
/-- from u one comes to Z -/
def RZ (rt : Int → Int) (vl : Int → Option Tm) (Z : Int → Prop) (u : Int) : Prop := ∀ S : Int → Prop, (∀ w, Z w → S w) → (∀ w x v, vl w = some x → vi v (tt x) → S (rt v) → S w) → S u
theorem RZ.z {rt : Int → Int} {vl : Int → Option Tm} {Z : Int → Prop} {u : Int} (h : Z u) : RZ rt vl Z u := fun S a _ => a u h
theorem RZ.s {rt : Int → Int} {vl : Int → Option Tm} {Z : Int → Prop} {u v : Int} {x : Tm} (h : vl u = some x) (hv : vi v (tt x)) (g : RZ rt vl Z (rt v)) : RZ rt vl Z u := fun S a b => b u x v h hv (g S a b)
theorem RZ.inv {rt : Int → Int} {vl : Int → Option Tm} {Z : Int → Prop} {u : Int} (h : RZ rt vl Z u) : Z u ∨ ∃ x v, vl u = some x ∧ vi v (tt x) ∧ RZ rt vl Z (rt v) := by
  have := h (fun u => RZ rt vl Z u ∧ (Z u ∨ ∃ x v, vl u = some x ∧ vi v (tt x) ∧ RZ rt vl Z (rt v))) (fun w hw => ⟨RZ.z hw, Or.inl hw⟩) (fun w x v h1 h2 h3 => ⟨RZ.s h1 h2 h3.1, Or.inr ⟨x, v, h1, h2, h3.1⟩⟩)
  exact this.2
/-- a closed set without Z -/
theorem RZ.no {rt : Int → Int} {vl : Int → Option Tm} {Z S : Int → Prop} (h1 : ∀ w, S w → ¬ Z w) (h2 : ∀ w x v, S w → vl w = some x → vi v (tt x) → S (rt v)) {u : Int} (hu : S u) : ¬ RZ rt vl Z u := fun h =>
  h (fun w => ¬ S w) (fun w hw hs => h1 w hs hw) (fun w x v a b c hs => c (h2 w x v hs a b)) hu
/-- no value is within itself -/
def Ac (rt : Int → Int) (vl : Int → Option Tm) (rk : Int → Nat) : Prop := ∀ r x, vl r = some x → ∀ v, vi v (tt x) → rk (rt v) < rk r
/-- a new node b in place of Z -/
theorem Ac_shift {rt rt2 : Int → Int} {vl vl2 : Int → Option Tm} {rk : Int → Nat} {B : Nat} (hB : ∀ u, rk u ≤ B) (h : Ac rt vl rk) {Z : Int → Prop} {b : Int} (hb : Z b) (h1 : ∀ x, vl2 b = some x → ∀ v, vi v (tt x) → rt2 v = rt v ∧ ¬ RZ rt vl Z (rt v)) (h2 : ∀ u x, u ≠ b → vl2 u = some x → vl u = some x) (h3 : ∀ v, rt2 v = rt v ∨ (Z (rt v) ∧ rt2 v = b)) : ∃ rk2 : Int → Nat, ∃ B2, (∀ u, rk2 u ≤ B2) ∧ Ac rt2 vl2 rk2 := by
  refine ⟨fun u => @ite _ (u = b) (Classical.propDecidable _) (B + 1) (@ite _ (RZ rt vl Z u) (Classical.propDecidable _) (rk u + B + 2) (rk u)), 2 * B + 2, fun u => ?_, fun r x hr v hv => ?_⟩
  · have := hB u
    show @ite _ (u = b) (Classical.propDecidable _) (B + 1) (@ite _ (RZ rt vl Z u) (Classical.propDecidable _) (rk u + B + 2) (rk u)) ≤ 2 * B + 2
    split
    · omega
    · split <;> omega
  · show @ite _ (rt2 v = b) (Classical.propDecidable _) (B + 1) (@ite _ (RZ rt vl Z (rt2 v)) (Classical.propDecidable _) (rk (rt2 v) + B + 2) (rk (rt2 v))) < @ite _ (r = b) (Classical.propDecidable _) (B + 1) (@ite _ (RZ rt vl Z r) (Classical.propDecidable _) (rk r + B + 2) (rk r))
    by_cases hrb : r = b
    · subst hrb
      obtain ⟨e1, e2⟩ := h1 x hr v hv
      have e3 : rt2 v ≠ r := fun w => e2 (by rw [← e1, w]; exact RZ.z hb)
      rw [if_pos rfl, if_neg e3, e1, if_neg e2]
      have := hB (rt v); omega
    · have hx := h2 r x hrb hr
      have hlt := h r x hx v hv
      rw [if_neg hrb]
      rcases h3 v with e | ⟨z, e⟩
      · rw [e]
        by_cases hz : RZ rt vl Z (rt v)
        · rw [if_pos (RZ.s hx hv hz)]
          split
          · omega
          · omega
        · rw [if_neg (fun w => hz (by rw [w]; exact RZ.z hb)), if_neg hz]
          split <;> omega
      · rw [e, if_pos rfl, if_pos (RZ.s hx hv (RZ.z z))]; omega
/-- numbers below 13 are enough -/
theorem Ac_12 {rt : Int → Int} {vl : Int → Option Tm} {rk : Int → Nat} (h : Ac rt vl rk) (hr : ∀ v x w, vl v = some x → vi w (tt x) → 0 ≤ rt w ∧ rt w < 12) : Ac rt vl (fun u => n12 (fun w => rk w < rk u)) := fun r x hx v hv => by
  have := h r x hx v hv
  obtain ⟨a, b⟩ := hr r x v hx hv
  exact n12_lt (P := fun w => rk w < rk (rt v)) (Q := fun w => rk w < rk r) (fun i hi => by omega) a b this (by omega)
