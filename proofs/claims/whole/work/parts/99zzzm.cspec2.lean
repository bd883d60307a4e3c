/-! CLAUSES beyond the BOUNDS, and how much room making them takes -/
def lsz (A : List (List Lt)) : Nat := (A.map List.length).sum
theorem lsz_cons (a : List Lt) (A : List (List Lt)) : lsz (a :: A) = a.length + lsz A := by simp [lsz]
theorem lsz_app (A B : List (List Lt)) : lsz (A ++ B) = lsz A + lsz B := by simp [lsz]
theorem lsz_map (a : List Lt) (B : List (List Lt)) : lsz (B.map (fun b => a ++ b)) = B.length * a.length + lsz B := by
  induction B with
  | nil => simp [lsz]
  | cons b B ih => rw [List.map_cons, lsz_cons, ih, lsz_cons, List.length_append, List.length_cons, Nat.add_mul]; omega
theorem lsz_ea (A B : List (List Lt)) : lsz (eaE A B) = B.length * lsz A + A.length * lsz B := by
  induction A with
  | nil => simp [lsz, eaE]
  | cons a A ih =>
    have e : eaE (a :: A) B = B.map (fun b => a ++ b) ++ eaE A B := List.flatMap_cons
    rw [e, lsz_app, lsz_map, ih, lsz_cons, List.length_cons, Nat.mul_add, Nat.add_mul]
    omega
theorem lsz_8 : ∀ {A : List (List Lt)}, (∀ c ∈ A, c.length ≤ 8) → lsz A ≤ 8 * A.length
  | [], _ => by simp [lsz]
  | a :: A, h => by
    have h1 := h a (by simp)
    have h2 := lsz_8 (A := A) (fun c hc => h c (by simp [hc]))
    rw [lsz_cons, List.length_cons]; omega
theorem lsz_ea1 {A B : List (List Lt)} (hA : 1 ≤ A.length) (hB : 1 ≤ B.length) : lsz A + lsz B ≤ lsz (eaE A B) := by
  rw [lsz_ea]
  have h1 := Nat.le_mul_of_pos_left (lsz A) hB
  have h2 := Nat.le_mul_of_pos_left (lsz B) hA
  omega
/-- too many LITERALS, or an ATOM too heavy -/
def bdC (c : List Lt) : Prop := 8 < c.length ∨ ∃ a ∈ c, 100 < tw a.2.1 + tw a.2.2
def Bd (A : List (List Lt)) : Prop := ∃ c ∈ A, bdC c
theorem bdC_l {a b : List Lt} (h : bdC a) : bdC (a ++ b) := by
  rcases h with h | ⟨x, hx, h⟩
  · exact Or.inl (by rw [List.length_append]; omega)
  · exact Or.inr ⟨x, by simp [hx], h⟩
theorem bdC_r {a b : List Lt} (h : bdC b) : bdC (a ++ b) := by
  rcases h with h | ⟨x, hx, h⟩
  · exact Or.inl (by rw [List.length_append]; omega)
  · exact Or.inr ⟨x, by simp [hx], h⟩
theorem Bd_al {A B : List (List Lt)} (h : Bd A) : Bd (A ++ B) := by
  obtain ⟨c, hc, h⟩ := h
  exact ⟨c, by simp [hc], h⟩
theorem Bd_ar {A B : List (List Lt)} (h : Bd B) : Bd (A ++ B) := by
  obtain ⟨c, hc, h⟩ := h
  exact ⟨c, by simp [hc], h⟩
theorem eaE_mem {A B : List (List Lt)} {a b : List Lt} (ha : a ∈ A) (hb : b ∈ B) : a ++ b ∈ eaE A B := List.mem_flatMap.mpr ⟨a, ha, List.mem_map.mpr ⟨b, hb, rfl⟩⟩
theorem Bd_el {A B : List (List Lt)} (h : Bd A) (hB : 1 ≤ B.length) : Bd (eaE A B) := by
  obtain ⟨c, hc, h⟩ := h
  match B, hB with
  | b :: B, _ => exact ⟨c ++ b, eaE_mem hc (by simp), bdC_l h⟩
theorem Bd_er {A B : List (List Lt)} (h : Bd B) (hA : 1 ≤ A.length) : Bd (eaE A B) := by
  obtain ⟨c, hc, h⟩ := h
  match A, hA with
  | a :: A, _ => exact ⟨a ++ c, eaE_mem (by simp) hc, bdC_r h⟩
/-! right turns at 'each with each', and equivalences within each other -/
def rbin (l : Nat) (a b : N2) (is : Bool) : Nat :=
  if l = 4 then (if is = true then max (a is) (b is) else max (a is) (b is + 1)) else if l = 5 then (if is = true then max (a is) (b is + 1) else max (a is) (b is)) else if l = 6 then (if is = true then max (a (!is)) (b is + 1) else max (a (!is)) (b is))
  else max (max (a true) (a false)) (max (b true) (b false))
def rr : T → List N2
  | .leaf _ => []
  | .branch l k s => (fun is => if l ≤ 2 then 0 else if l = 3 then (rr k).getD 0 (fun _ => 0) (!is) else if l ≤ 7 then rbin l ((rr k).getD 0 (fun _ => 0)) ((rr k).getD 1 (fun _ => 0)) is else (rr k).getD 0 (fun _ => 0) is) :: rr s
def rF (f : Tm) : N2 := (rr (tt f)).getD 0 (fun _ => 0)
theorem rF_at {l : Nat} {k : T} {is : Bool} (h : l ≤ 2) : rF (l, k) is = 0 := by
  show (if l ≤ 2 then _ else _) = _
  rw [if_pos h]
theorem rF_not {g : Tm} {is : Bool} : rF (mk1 3 g) is = rF g (!is) := rfl
theorem rF_bin {l : Nat} {g h : Tm} {is : Bool} (h1 : 4 ≤ l) (h2 : l ≤ 7) : rF (mk2 l g h) is = rbin l (rF g) (rF h) is := by
  show (if l ≤ 2 then _ else if l = 3 then _ else if l ≤ 7 then rbin l (rF g) (rF h) is else _) = _
  rw [if_neg (by omega), if_neg (by omega), if_pos h2]
theorem rF_q {l : Nat} {g : Tm} {is : Bool} (h : 8 ≤ l) : rF (mk1 l g) is = rF g is := by
  show (if l ≤ 2 then _ else if l = 3 then _ else if l ≤ 7 then _ else rF g is) = _
  rw [if_neg (by omega), if_neg (by omega), if_neg (by omega)]
theorem rF_qnt {k first : Nat} : ∀ (j : Nat) {g : Tm} {is : Bool}, rF (qnt k first j g) is = rF g is
  | 0, g, is => rfl
  | j + 1, g, is => by
    unfold qnt
    rw [rF_qnt j, rF_q (by omega)]
def ee : T → List Nat
  | .leaf _ => []
  | .branch l k s => (if l ≤ 2 then 0 else if l ≤ 6 then max ((ee k).getD 0 0) ((ee k).getD 1 0) else if l = 7 then 1 + max ((ee k).getD 0 0) ((ee k).getD 1 0) else (ee k).getD 0 0) :: ee s
def eF (f : Tm) : Nat := (ee (tt f)).getD 0 0
theorem eF_at {l : Nat} {k : T} (h : l ≤ 2) : eF (l, k) = 0 := by
  show (if l ≤ 2 then _ else _) = _
  rw [if_pos h]
theorem eF_not {g : Tm} : eF (mk1 3 g) = eF g := by
  show max (eF g) 0 = _
  omega
theorem eF_bin {l : Nat} {g h : Tm} (h1 : 4 ≤ l) (h2 : l ≤ 7) : eF (mk2 l g h) = (if l = 7 then 1 else 0) + max (eF g) (eF h) := by
  show (if l ≤ 2 then 0 else if l ≤ 6 then max (eF g) (eF h) else if l = 7 then 1 + max (eF g) (eF h) else _) = _
  rw [if_neg (by omega)]
  by_cases c : l ≤ 6
  · rw [if_pos c, if_neg (by omega)]; omega
  · rw [if_neg c, if_pos (by omega), if_pos (by omega)]
theorem eF_q {l : Nat} {g : Tm} (h : 8 ≤ l) : eF (mk1 l g) = eF g := by
  show (if l ≤ 2 then 0 else if l ≤ 6 then _ else if l = 7 then _ else eF g) = _
  rw [if_neg (by omega), if_neg (by omega), if_neg (by omega)]
/-- each equivalence within another doubles the CLAUSES -/
theorem eF_2 : ∀ f : Tm, FS (tt f) → ∀ is, 2 ^ eF f ≤ nF f is := by
  refine FO_ind ?_ ?_ ?_ ?_ ?_
  · intro l1 k1 l2 k2 l h is
    rw [nF_at (by omega), eF_at (by omega)]; decide
  · intro h g is
    rw [nF_at (by omega), eF_at (by omega)]; decide
  · intro g _ ih is
    rw [nF_not, eF_not]; exact ih _
  · intro l g h h1 h2 fg fh i1 i2 is
    have a1 := nF_1 g fg
    have a2 := nF_1 h fh
    have pm : 2 ^ max (eF g) (eF h) ≤ max (2 ^ eF g) (2 ^ eF h) := by
      rcases Nat.le_total (eF g) (eF h) with c | c
      · rw [Nat.max_eq_right c]; exact Nat.le_max_right _ _
      · rw [Nat.max_eq_left c]; exact Nat.le_max_left _ _
    have m1 : ∀ s t, nF g s ≤ nF g s * nF h t := fun s t => Nat.le_mul_of_pos_right _ (a2 t)
    have m2 : ∀ s t, nF h t ≤ nF g s * nF h t := fun s t => Nat.le_mul_of_pos_left _ (a1 s)
    rw [nF_bin h1 h2, eF_bin h1 h2]
    unfold nbin
    by_cases c4 : l = 4
    · rw [if_pos c4, if_neg (by omega), Nat.zero_add]
      have x1 := i1 is
      have x2 := i2 is
      have x3 := m1 is is
      have x4 := m2 is is
      split <;> omega
    rw [if_neg c4]
    by_cases c5 : l = 5
    · rw [if_pos c5, if_neg (by omega), Nat.zero_add]
      have x1 := i1 is
      have x2 := i2 is
      have x3 := m1 is is
      have x4 := m2 is is
      split <;> omega
    rw [if_neg c5]
    by_cases c6 : l = 6
    · rw [if_pos c6, if_neg (by omega), Nat.zero_add]
      have x1 := i1 (!is)
      have x2 := i2 is
      have x3 := m1 (!is) is
      have x4 := m2 (!is) is
      split <;> omega
    rw [if_neg c6, if_pos (by omega), Nat.add_comm 1, Nat.pow_succ]
    have x3 := m1 (!is) true
    have x4 := m2 (!is) true
    have y1 := i1 true
    have y2 := i1 false
    have y3 := i2 true
    have y4 := i2 false
    cases is
    · simp only [Bool.not_false] at x3 x4 ⊢
      rw [if_neg (by decide)]
      have x5 := m1 false false
      have x6 := m2 false false
      omega
    · simp only [Bool.not_true] at x3 x4 ⊢
      rw [if_pos trivial, Nat.mul_comm (nF h false)]
      have x5 := m1 true false
      have x6 := m2 true false
      omega
  · intro l g h _ ih is
    rw [nF_q h, eF_q h]; exact ih is
theorem eF_7 {f : Tm} {is : Bool} (h : FS (tt f)) (hn : nF f is ≤ 200) : eF f ≤ 7 := by
  have h1 := eF_2 f h is
  by_cases c : eF f ≤ 7
  · exact c
  · have : 2 ^ 8 ≤ 2 ^ eF f := Nat.pow_le_pow_right (by decide) (by omega)
    omega
/-- room for ATOMS and rows -/
def aB (f : Tm) (is : Bool) : Nat := nF f is + rF f is + eF f
theorem ab_mul {a b : Nat} (h1 : 1 ≤ a) (h2 : 1 ≤ b) : a + b ≤ a * b + 1 := by
  obtain ⟨c, rfl⟩ : ∃ c, a = c + 1 := ⟨a - 1, by omega⟩
  obtain ⟨d, rfl⟩ : ∃ d, b = d + 1 := ⟨b - 1, by omega⟩
  have : (c + 1) * (d + 1) = c * d + c + d + 1 := by rw [Nat.add_mul, Nat.mul_add]; omega
  omega
