/-! how many are around a VARIABLE, and its WITNESS -/
def bdn : T → Nat → Nat → Nat → Prop
  | .leaf _, _, _, _ => False
  | .branch l k s, n, v, m => (2 < l ∧ ((8 ≤ l ∧ v = (l - 8) / 2 ∧ m = n) ∨ bdn k (if 8 ≤ l then n + 1 else n) v m)) ∨ bdn s n v m
theorem bdn_b : ∀ {F : T} {n v m : Nat}, bdn F n v m → bnF F v
  | .leaf _, n, v, m, h => h.elim
  | .branch l k s, n, v, m, h => by
    rcases h with ⟨h1, h2⟩ | h
    · refine Or.inl ⟨h1, ?_⟩
      rcases h2 with h2 | h2
      · exact Or.inl ⟨h2.1, h2.2.1⟩
      · exact Or.inr (bdn_b h2)
    · exact Or.inr (bdn_b h)
theorem bnF_d : ∀ {F : T} {n v : Nat}, bnF F v → ∃ m, bdn F n v m
  | .leaf _, n, v, h => h.elim
  | .branch l k s, n, v, h => by
    rcases h with ⟨h1, h2⟩ | h
    · rcases h2 with h2 | h2
      · exact ⟨n, Or.inl ⟨h1, Or.inl ⟨h2.1, h2.2, rfl⟩⟩⟩
      · obtain ⟨m, hm⟩ := bnF_d (n := if 8 ≤ l then n + 1 else n) h2
        exact ⟨m, Or.inl ⟨h1, Or.inr hm⟩⟩
    · obtain ⟨m, hm⟩ := bnF_d (n := n) h
      exact ⟨m, Or.inr hm⟩
theorem bdn_m1 {l : Nat} {f : Tm} {n v m : Nat} (hl : 3 ≤ l) (h : bdn (tt f) (if 8 ≤ l then n + 1 else n) v m) : bdn (tt (mk1 l f)) n v m := Or.inl ⟨hl, Or.inr h⟩
theorem bdn_ml {l : Nat} {f g : Tm} {n v m : Nat} (h4 : 4 ≤ l) (h7 : l ≤ 7) (h : bdn (tt f) n v m) : bdn (tt (mk2 l f g)) n v m := by
  refine Or.inl ⟨by show 2 < l; omega, Or.inr ?_⟩
  rw [if_neg (by show ¬ 8 ≤ l; omega)]
  rcases h with h | h
  · exact Or.inl h
  · exact h.elim
theorem bdn_mr {l : Nat} {f g : Tm} {n v m : Nat} (h4 : 4 ≤ l) (h7 : l ≤ 7) (h : bdn (tt g) n v m) : bdn (tt (mk2 l f g)) n v m := by
  refine Or.inl ⟨by show 2 < l; omega, Or.inr ?_⟩
  rw [if_neg (by show ¬ 8 ≤ l; omega)]
  exact Or.inr h
/-- ways that hold a sign -/
def cvW (w : Nat) (is : Bool) : Prop := w = 3 ∨ w = (if is = true then 2 else 1)
theorem cvW_t {w : Nat} {is : Bool} (h : cvW w is) : cvW (tw3 w) (!is) := by
  unfold cvW tw3 at *
  cases is <;> simp at h ⊢ <;> rcases h with h | h <;> subst h <;> decide
theorem wK2_of {q : Nat → Nat → Prop} : ∀ f, FS (tt f) → ∀ (n w : Nat) (is : Bool), cvW w is → (∀ v m, bdn (tt f) n v m → rqF f w v → q v m) → wK2 q f n is := by
  refine FO_ind ?_ ?_ ?_ ?_ ?_
  · intro l1 k1 l2 k2 l hl n w is _ _
    show (if l ≤ 2 then True else _)
    rw [if_pos (by omega)]; trivial
  · intro h g n w is _ _
    trivial
  · intro g _ ih n w is hc hq
    rw [wK2_not]
    exact ih n (tw3 w) (!is) (cvW_t hc) (fun v m h1 h2 => hq v m (bdn_m1 (by omega) h1) h2)
  · intro l g h l4 l7 fg fh ig ih n w is hc hq
    have hl : l ≤ 5 ∨ l = 6 ∨ l = 7 := by omega
    rcases hl with e | e | e
    · rw [wK2_45 l4 e]
      exact ⟨ig n w is hc (fun v m h1 h2 => hq v m (bdn_ml l4 l7 h1) (by rw [rqF_45 l4 e]; exact Or.inl h2)), ih n w is hc (fun v m h1 h2 => hq v m (bdn_mr l4 l7 h1) (by rw [rqF_45 l4 e]; exact Or.inr h2))⟩
    · subst e
      rw [wK2_6]
      exact ⟨ig n (tw3 w) (!is) (cvW_t hc) (fun v m h1 h2 => hq v m (bdn_ml l4 l7 h1) (by rw [rqF_6]; exact Or.inl h2)), ih n w is hc (fun v m h1 h2 => hq v m (bdn_mr l4 l7 h1) (by rw [rqF_6]; exact Or.inr h2))⟩
    · subst e
      rw [wK2_7]
      exact ⟨fun s => ig n 3 s (Or.inl rfl) (fun v m h1 h2 => hq v m (bdn_ml l4 l7 h1) (by rw [rqF_7]; exact Or.inl h2)), fun s => ih n 3 s (Or.inl rfl) (fun v m h1 h2 => hq v m (bdn_mr l4 l7 h1) (by rw [rqF_7]; exact Or.inr h2))⟩
  · intro l g l8 fg ih n w is hc hq
    rw [wK2_q l8]
    refine ⟨fun hs => hq _ _ (Or.inl ⟨by show 2 < l; omega, Or.inl ⟨l8, rfl, rfl⟩⟩) ?_, ih (n + 1) w is hc (fun v m h1 h2 => hq v m (bdn_m1 (by omega) (by rw [if_pos l8]; exact h1)) (by rw [rqF_q l8]; exact Or.inr h2))⟩
    rw [rqF_q l8]
    refine Or.inl ⟨rfl, ?_⟩
    unfold cvW at hc
    unfold hitW
    have h2 : l % 2 = 0 ∨ l % 2 = 1 := by omega
    cases is
    · simp at hc
      rcases h2 with h2 | h2
      · rcases hc with hc | hc
        · exact Or.inl hc
        · exact Or.inr (Or.inl ⟨hc, h2⟩)
      · rw [h2] at hs; exact absurd hs (by decide)
    · simp at hc
      rcases h2 with h2 | h2
      · rw [h2] at hs; exact absurd hs (by decide)
      · rcases hc with hc | hc
        · exact Or.inl hc
        · exact Or.inr (Or.inr ⟨hc, h2⟩)
/-- the VARIABLES of the TEXT that are replaced somewhere -/
def wyE (e : SE) : Nat := if e.2.1 = true then 1 else 2
def rpSe (e : SE) (v : Nat) : Prop := ((v : Int) ∈ e.2.2.2 ∧ e.2.1 = true) ∨ rqF e.2.2.1 (wyE e) v
def RPs (SL : List SE) (v : Nat) : Prop := ∃ e ∈ SL, rpSe e v
def inE2 (e : SE) (v : Nat) : Prop := bnF (tt e.2.2.1) v ∨ (v : Int) ∈ e.2.2.2
theorem SU.le : ∀ {L : List SE} {lo hi : Nat}, SU L lo hi → lo ≤ hi
  | [], lo, hi, h => by have h : lo = hi := h; omega
  | e :: L, lo, hi, ⟨mid, a, b, c, d⟩ => by have := a.le; have := SU.le d; omega
theorem SU.rg : ∀ {L : List SE} {lo hi : Nat}, SU L lo hi → ∀ {k : Nat} {e : SE} {v : Nat}, L[k]? = some e → inE2 e v → lo ≤ v ∧ v < hi
  | [], lo, hi, _, k, e, v, h, _ => by cases h
  | x :: L, lo, hi, ⟨mid, a, b, c, d⟩, 0, e, v, h, hv => by
    cases h
    have := SU.le d
    rcases hv with hv | hv
    · have := a.b hv; omega
    · have := b _ hv; omega
  | x :: L, lo, hi, ⟨mid, a, b, c, d⟩, k + 1, e, v, h, hv => by
    have := SU.rg d (k := k) h hv
    have := a.le
    omega
theorem SU.un : ∀ {L : List SE} {lo hi : Nat}, SU L lo hi → ∀ {k k2 : Nat} {e e2 : SE} {v : Nat}, L[k]? = some e → L[k2]? = some e2 → inE2 e v → inE2 e2 v → k = k2
  | [], lo, hi, _, k, k2, e, e2, v, h, _, _, _ => by cases h
  | x :: L, lo, hi, ⟨mid, a, b, c, d⟩, 0, 0, e, e2, v, h, h2, hv, hv2 => rfl
  | x :: L, lo, hi, ⟨mid, a, b, c, d⟩, 0, k2 + 1, e, e2, v, h, h2, hv, hv2 => by
    cases h
    have q := SU.rg d (k := k2) h2 hv2
    rcases hv with hv | hv
    · have := a.b hv; omega
    · have := b _ hv; omega
  | x :: L, lo, hi, ⟨mid, a, b, c, d⟩, k + 1, 0, e, e2, v, h, h2, hv, hv2 => by
    cases h2
    have q := SU.rg d (k := k) h hv
    rcases hv2 with hv | hv
    · have := a.b hv; omega
    · have := b _ hv; omega
  | x :: L, lo, hi, ⟨mid, a, b, c, d⟩, k + 1, k2 + 1, e, e2, v, h, h2, hv, hv2 => by
    have := SU.un d (k := k) (k2 := k2) h h2 hv hv2
    omega
theorem SU.cov : ∀ {L : List SE} {lo hi : Nat}, SU L lo hi → ∀ {v : Nat}, lo ≤ v → v < hi → ∃ (k : Nat) (e : SE), L[k]? = some e ∧ inE2 e v
  | [], lo, hi, h, v, h1, h2 => by have h : lo = hi := h; omega
  | x :: L, lo, hi, ⟨mid, a, b, c, d⟩, v, h1, h2 => by
    by_cases hc : v < mid
    · exact ⟨0, x, rfl, c v h1 hc⟩
    · obtain ⟨k, e, q1, q2⟩ := SU.cov d (v := v) (by omega) h2
      exact ⟨k + 1, e, q1, q2⟩
theorem rpSe_in {e : SE} {v : Nat} (fs : FS (tt e.2.2.1)) (h : rpSe e v) : inE2 e v := by
  rcases h with h | h
  · exact Or.inr h.1
  · exact Or.inl (rqF_b _ fs _ _ h)
/-- how many are replaced before it -/
noncomputable def rkR (R : Nat → Prop) : Nat → Nat
  | 0 => 0
  | v + 1 => rkR R v + @ite _ (R v) (Classical.propDecidable _) 1 0
theorem rkR_le (R : Nat → Prop) : ∀ v, rkR R v ≤ v
  | 0 => Nat.le_refl _
  | v + 1 => by
    have := rkR_le R v
    show rkR R v + _ ≤ v + 1
    split <;> omega
theorem rkR_mono (R : Nat → Prop) {u : Nat} : ∀ {v : Nat}, u ≤ v → rkR R u ≤ rkR R v
  | 0, h => by rw [show u = 0 by omega]; exact Nat.le_refl _
  | v + 1, h => by
    by_cases c : u = v + 1
    · rw [c]; exact Nat.le_refl _
    · have := rkR_mono R (u := u) (v := v) (by omega)
      show _ ≤ rkR R v + _
      omega
theorem rkR_lt (R : Nat → Prop) {u v : Nat} (h : u < v) (hu : R u) : rkR R u < rkR R v := by
  have h1 := rkR_mono R (u := u + 1) (v := v) (by omega)
  have h2 : rkR R (u + 1) = rkR R u + 1 := by
    show rkR R u + _ = _
    rw [if_pos hu]
  omega
