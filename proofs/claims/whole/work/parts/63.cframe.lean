/-! the class's rows that grow -/
def rl (σ : zS) : Nat := σ.2.2 2 + σ.2.2 4 + σ.2.2 11 + σ.2.2 16 + σ.2.2 19 + σ.2.2 21 + σ.2.2 30 + σ.2.2 34 + σ.2.2 36 + σ.2.2 38 + σ.2.2 48 + σ.2.2 50 + σ.2.2 52 + σ.2.2 56 + σ.2.2 58 + σ.2.2 65
abbrev rws : List Nat := [2, 4, 11, 16, 19, 21, 30, 34, 36, 38, 48, 50, 52, 56, 58, 65]
/-- what is made is paid for by what rows have grown -/
def Mg (σ τ : zS) : Prop := τ.2.2 3002 + 2 * rl σ ≤ σ.2.2 3002 + 2 * rl τ ∧ 17 * τ.2.2 3001 + rl σ ≤ 17 * σ.2.2 3001 + rl τ
theorem Mg.refl {σ : zS} : Mg σ σ := ⟨Nat.le_refl _, Nat.le_refl _⟩
theorem Mg.trans {σ τ ρ : zS} (h : Mg σ τ) (g : Mg τ ρ) : Mg σ ρ := by
  obtain ⟨a, b⟩ := h
  obtain ⟨c, d⟩ := g
  exact ⟨by omega, by omega⟩
theorem Mg.of {σ τ : zS} (h : τ.2.2 = σ.2.2) : Mg σ τ := by
  unfold Mg rl; rw [h]; exact ⟨Nat.le_refl _, Nat.le_refl _⟩
def Mb (σ : zS) : Prop := σ.2.2 3002 ≤ 2 * rl σ + 1000000 ∧ 17 * σ.2.2 3001 ≤ rl σ + 17000000
theorem Mb.m {σ τ : zS} (h : Mb σ) (g : Mg σ τ) : Mb τ := by
  obtain ⟨a, b⟩ := h
  obtain ⟨c, d⟩ := g
  exact ⟨by omega, by omega⟩
def RL (σ : zS) : Prop := ∀ j, rws.elem j = true → σ.2.2 j ≤ 10000000
theorem RL.b {σ : zS} (h : RL σ) : rl σ ≤ 160000000 := by
  have h1 := h 2 rfl
  have h2 := h 4 rfl
  have h3 := h 11 rfl
  have h4 := h 16 rfl
  have h5 := h 19 rfl
  have h6 := h 21 rfl
  have h7 := h 30 rfl
  have h8 := h 34 rfl
  have h9 := h 36 rfl
  have h10 := h 38 rfl
  have h11 := h 48 rfl
  have h12 := h 50 rfl
  have h13 := h 52 rfl
  have h14 := h 56 rfl
  have h15 := h 58 rfl
  have h16 := h 65 rfl
  unfold rl
  omega
/-- nothing changes but these numbers and arrays -/
def FrC (I A : List Nat) (σ τ : zS) : Prop := (∀ j, I.elem j = false → τ.1 j = σ.1 j) ∧ (∀ j q, A.elem j = false → τ.2.1 j q = σ.2.1 j q) ∧ (∀ j, A.elem j = false → j ≠ 3001 → j ≠ 3002 → τ.2.2 j = σ.2.2 j) ∧ Mg σ τ
theorem FrC.refl {I A : List Nat} {σ : zS} : FrC I A σ σ := ⟨fun _ _ => rfl, fun _ _ _ => rfl, fun _ _ _ _ => rfl, Mg.refl⟩
theorem FrC.trans {I A : List Nat} {σ τ ρ : zS} (h : FrC I A σ τ) (g : FrC I A τ ρ) : FrC I A σ ρ := ⟨fun j a => by rw [g.1 j a, h.1 j a], fun j q a => by rw [g.2.1 j q a, h.2.1 j q a], fun j a b c => by rw [g.2.2.1 j a b c, h.2.2.1 j a b c], h.2.2.2.trans g.2.2.2⟩
theorem FrC.w {I A J B : List Nat} {σ τ : zS} (h : FrC I A σ τ) (h1 : I.all (fun i => J.elem i) = true := by decide) (h2 : A.all (fun i => B.elem i) = true := by decide) : FrC J B σ τ := ⟨fun j a => h.1 j (el_sub h1 a), fun j q a => h.2.1 j q (el_sub h2 a), fun j a b c => h.2.2.1 j (el_sub h2 a) b c, h.2.2.2⟩
theorem FrC.i {I A : List Nat} {σ τ : zS} (h : FrC I A σ τ) (j : Nat) (hj : I.elem j = false := by decide) : τ.1 j = σ.1 j := h.1 j hj
theorem FrC.a {I A : List Nat} {σ τ : zS} (h : FrC I A σ τ) (j : Nat) (q : Int) (hj : A.elem j = false := by decide) : τ.2.1 j q = σ.2.1 j q := h.2.1 j q hj
theorem FrC.l {I A : List Nat} {σ τ : zS} (h : FrC I A σ τ) (j : Nat) (hj : A.elem j = false := by decide) (h1 : j ≠ 3001 := by decide) (h2 : j ≠ 3002 := by decide) : τ.2.2 j = σ.2.2 j := h.2.2.1 j hj h1 h2
theorem FrC_I {I A : List Nat} {σ : zS} {k : Nat} {x : Int} (hk : I.elem k = true := by decide) : FrC I A σ (zI σ k x) := by
  refine ⟨fun j hj => ?_, fun _ _ _ => rfl, fun _ _ _ _ => rfl, Mg.of rfl⟩
  have : j ≠ k := fun e => by subst e; rw [hk] at hj; cases hj
  simp [zI, this]
theorem FrC_A {I A : List Nat} {σ : zS} {k : Nat} {i x : Int} (hk : A.elem k = true := by decide) : FrC I A σ (zA σ k i x) := by
  refine ⟨fun _ _ => rfl, fun j q hj => ?_, fun _ _ _ _ => rfl, Mg.of rfl⟩
  have : j ≠ k := fun e => by subst e; rw [hk] at hj; cases hj
  simp [zA, this]
theorem FrC_Sa {I A : List Nat} {σ τ : zS} {k : Nat} (h : Sa k σ τ) (hk : A.elem k = true := by decide) : FrC I A σ τ := by
  refine ⟨fun _ _ => by rw [h.1], fun j q hj => h.2.2 j q (fun e => by subst e; rw [hk] at hj; cases hj), fun _ _ _ _ => by rw [h.2.1], Mg.of h.2.1⟩
theorem zI_1 {σ : zS} {k : Nat} {x : Int} : (zI σ k x).1 k = x := by simp [zI]
theorem zI_o {σ : zS} {k j : Nat} {x : Int} (h : j ≠ k := by decide) : (zI σ k x).1 j = σ.1 j := by simp [zI, h]
theorem zI_2 {σ : zS} {k : Nat} {x : Int} : (zI σ k x).2 = σ.2 := rfl
theorem zA_1 {σ : zS} {k : Nat} {i x : Int} : (zA σ k i x).1 = σ.1 := rfl
theorem zA_s {σ : zS} {k : Nat} {i x : Int} : (zA σ k i x).2.1 k i = x := by simp [zA]
theorem zA_i {σ : zS} {k j : Nat} {i q x : Int} (h : q ≠ i) : (zA σ k i x).2.1 j q = σ.2.1 j q := by simp [zA, h]
theorem zA_j {σ : zS} {k j : Nat} {i q x : Int} (h : j ≠ k := by decide) : (zA σ k i x).2.1 j q = σ.2.1 j q := by simp [zA, h]
theorem zA_l {σ : zS} {k : Nat} {i x : Int} : (zA σ k i x).2.2 = σ.2.2 := rfl
/-- a row: its size in number r, its cells in array a -/
def RowC (σ : zS) (r a : Nat) (X : List Int) : Prop := σ.1 r = (X.length : Int) ∧ X.length ≤ σ.2.2 a ∧ 16 ≤ σ.2.2 a ∧ Fl (σ.2.1 a) 0 X
theorem RowC.q {σ τ : zS} {r a : Nat} {X : List Int} (h : RowC σ r a X) (h1 : τ.1 r = σ.1 r) (h2 : ∀ q, τ.2.1 a q = σ.2.1 a q) (h3 : τ.2.2 a = σ.2.2 a) : RowC τ r a X := ⟨by rw [h1]; exact h.1, by rw [h3]; exact h.2.1, by rw [h3]; exact h.2.2.1, Fl_q (fun i _ _ => h2 i) h.2.2.2⟩
theorem RowC.f {I A : List Nat} {σ τ : zS} {r a : Nat} {X : List Int} (h : RowC σ r a X) (f : FrC I A σ τ) (h1 : I.elem r = false := by decide) (h2 : A.elem a = false := by decide) (h3 : a ≠ 3001 := by decide) (h4 : a ≠ 3002 := by decide) : RowC τ r a X := h.q (f.1 r h1) (fun q => f.2.1 a q h2) (f.2.2.1 a h2 h3 h4)
theorem zrok_of {σ : zS} {r a : Nat} {X : List Int} (hM : Mb σ) (hR : RL σ) (h : RowC σ r a X) (ha : rws.elem a = true := by decide) : zrok σ r a := by
  have h1 := hR.b
  have h2 := hR a ha
  obtain ⟨m1, m2⟩ := hM
  obtain ⟨a1, a2, a3, a4⟩ := h
  refine ⟨by omega, by omega, by omega, by omega, by omega⟩
theorem rl_up {σ τ : zS} {a n : Nat} (ha : rws.elem a = true) (h : ∀ j, j ≠ a → j ≠ 3001 → j ≠ 3002 → τ.2.2 j = σ.2.2 j) (hn : τ.2.2 a = σ.2.2 a + n) : rl τ = rl σ + n := by
  have hm : a ∈ rws := List.elem_iff.mp ha
  simp only [rws, List.mem_cons, List.not_mem_nil, or_false] at hm
  unfold rl
  rcases hm with rfl | rfl | rfl | rfl | rfl | rfl | rfl | rfl | rfl | rfl | rfl | rfl | rfl | rfl | rfl | rfl
  · rw [h 4 (by decide) (by decide) (by decide), h 11 (by decide) (by decide) (by decide), h 16 (by decide) (by decide) (by decide), h 19 (by decide) (by decide) (by decide), h 21 (by decide) (by decide) (by decide), h 30 (by decide) (by decide) (by decide), h 34 (by decide) (by decide) (by decide), h 36 (by decide) (by decide) (by decide), h 38 (by decide) (by decide) (by decide), h 48 (by decide) (by decide) (by decide), h 50 (by decide) (by decide) (by decide), h 52 (by decide) (by decide) (by decide), h 56 (by decide) (by decide) (by decide), h 58 (by decide) (by decide) (by decide), h 65 (by decide) (by decide) (by decide), hn]; omega
  · rw [h 2 (by decide) (by decide) (by decide), h 11 (by decide) (by decide) (by decide), h 16 (by decide) (by decide) (by decide), h 19 (by decide) (by decide) (by decide), h 21 (by decide) (by decide) (by decide), h 30 (by decide) (by decide) (by decide), h 34 (by decide) (by decide) (by decide), h 36 (by decide) (by decide) (by decide), h 38 (by decide) (by decide) (by decide), h 48 (by decide) (by decide) (by decide), h 50 (by decide) (by decide) (by decide), h 52 (by decide) (by decide) (by decide), h 56 (by decide) (by decide) (by decide), h 58 (by decide) (by decide) (by decide), h 65 (by decide) (by decide) (by decide), hn]; omega
  · rw [h 2 (by decide) (by decide) (by decide), h 4 (by decide) (by decide) (by decide), h 16 (by decide) (by decide) (by decide), h 19 (by decide) (by decide) (by decide), h 21 (by decide) (by decide) (by decide), h 30 (by decide) (by decide) (by decide), h 34 (by decide) (by decide) (by decide), h 36 (by decide) (by decide) (by decide), h 38 (by decide) (by decide) (by decide), h 48 (by decide) (by decide) (by decide), h 50 (by decide) (by decide) (by decide), h 52 (by decide) (by decide) (by decide), h 56 (by decide) (by decide) (by decide), h 58 (by decide) (by decide) (by decide), h 65 (by decide) (by decide) (by decide), hn]; omega
  · rw [h 2 (by decide) (by decide) (by decide), h 4 (by decide) (by decide) (by decide), h 11 (by decide) (by decide) (by decide), h 19 (by decide) (by decide) (by decide), h 21 (by decide) (by decide) (by decide), h 30 (by decide) (by decide) (by decide), h 34 (by decide) (by decide) (by decide), h 36 (by decide) (by decide) (by decide), h 38 (by decide) (by decide) (by decide), h 48 (by decide) (by decide) (by decide), h 50 (by decide) (by decide) (by decide), h 52 (by decide) (by decide) (by decide), h 56 (by decide) (by decide) (by decide), h 58 (by decide) (by decide) (by decide), h 65 (by decide) (by decide) (by decide), hn]; omega
  · rw [h 2 (by decide) (by decide) (by decide), h 4 (by decide) (by decide) (by decide), h 11 (by decide) (by decide) (by decide), h 16 (by decide) (by decide) (by decide), h 21 (by decide) (by decide) (by decide), h 30 (by decide) (by decide) (by decide), h 34 (by decide) (by decide) (by decide), h 36 (by decide) (by decide) (by decide), h 38 (by decide) (by decide) (by decide), h 48 (by decide) (by decide) (by decide), h 50 (by decide) (by decide) (by decide), h 52 (by decide) (by decide) (by decide), h 56 (by decide) (by decide) (by decide), h 58 (by decide) (by decide) (by decide), h 65 (by decide) (by decide) (by decide), hn]; omega
  · rw [h 2 (by decide) (by decide) (by decide), h 4 (by decide) (by decide) (by decide), h 11 (by decide) (by decide) (by decide), h 16 (by decide) (by decide) (by decide), h 19 (by decide) (by decide) (by decide), h 30 (by decide) (by decide) (by decide), h 34 (by decide) (by decide) (by decide), h 36 (by decide) (by decide) (by decide), h 38 (by decide) (by decide) (by decide), h 48 (by decide) (by decide) (by decide), h 50 (by decide) (by decide) (by decide), h 52 (by decide) (by decide) (by decide), h 56 (by decide) (by decide) (by decide), h 58 (by decide) (by decide) (by decide), h 65 (by decide) (by decide) (by decide), hn]; omega
  · rw [h 2 (by decide) (by decide) (by decide), h 4 (by decide) (by decide) (by decide), h 11 (by decide) (by decide) (by decide), h 16 (by decide) (by decide) (by decide), h 19 (by decide) (by decide) (by decide), h 21 (by decide) (by decide) (by decide), h 34 (by decide) (by decide) (by decide), h 36 (by decide) (by decide) (by decide), h 38 (by decide) (by decide) (by decide), h 48 (by decide) (by decide) (by decide), h 50 (by decide) (by decide) (by decide), h 52 (by decide) (by decide) (by decide), h 56 (by decide) (by decide) (by decide), h 58 (by decide) (by decide) (by decide), h 65 (by decide) (by decide) (by decide), hn]; omega
  · rw [h 2 (by decide) (by decide) (by decide), h 4 (by decide) (by decide) (by decide), h 11 (by decide) (by decide) (by decide), h 16 (by decide) (by decide) (by decide), h 19 (by decide) (by decide) (by decide), h 21 (by decide) (by decide) (by decide), h 30 (by decide) (by decide) (by decide), h 36 (by decide) (by decide) (by decide), h 38 (by decide) (by decide) (by decide), h 48 (by decide) (by decide) (by decide), h 50 (by decide) (by decide) (by decide), h 52 (by decide) (by decide) (by decide), h 56 (by decide) (by decide) (by decide), h 58 (by decide) (by decide) (by decide), h 65 (by decide) (by decide) (by decide), hn]; omega
  · rw [h 2 (by decide) (by decide) (by decide), h 4 (by decide) (by decide) (by decide), h 11 (by decide) (by decide) (by decide), h 16 (by decide) (by decide) (by decide), h 19 (by decide) (by decide) (by decide), h 21 (by decide) (by decide) (by decide), h 30 (by decide) (by decide) (by decide), h 34 (by decide) (by decide) (by decide), h 38 (by decide) (by decide) (by decide), h 48 (by decide) (by decide) (by decide), h 50 (by decide) (by decide) (by decide), h 52 (by decide) (by decide) (by decide), h 56 (by decide) (by decide) (by decide), h 58 (by decide) (by decide) (by decide), h 65 (by decide) (by decide) (by decide), hn]; omega
  · rw [h 2 (by decide) (by decide) (by decide), h 4 (by decide) (by decide) (by decide), h 11 (by decide) (by decide) (by decide), h 16 (by decide) (by decide) (by decide), h 19 (by decide) (by decide) (by decide), h 21 (by decide) (by decide) (by decide), h 30 (by decide) (by decide) (by decide), h 34 (by decide) (by decide) (by decide), h 36 (by decide) (by decide) (by decide), h 48 (by decide) (by decide) (by decide), h 50 (by decide) (by decide) (by decide), h 52 (by decide) (by decide) (by decide), h 56 (by decide) (by decide) (by decide), h 58 (by decide) (by decide) (by decide), h 65 (by decide) (by decide) (by decide), hn]; omega
  · rw [h 2 (by decide) (by decide) (by decide), h 4 (by decide) (by decide) (by decide), h 11 (by decide) (by decide) (by decide), h 16 (by decide) (by decide) (by decide), h 19 (by decide) (by decide) (by decide), h 21 (by decide) (by decide) (by decide), h 30 (by decide) (by decide) (by decide), h 34 (by decide) (by decide) (by decide), h 36 (by decide) (by decide) (by decide), h 38 (by decide) (by decide) (by decide), h 50 (by decide) (by decide) (by decide), h 52 (by decide) (by decide) (by decide), h 56 (by decide) (by decide) (by decide), h 58 (by decide) (by decide) (by decide), h 65 (by decide) (by decide) (by decide), hn]; omega
  · rw [h 2 (by decide) (by decide) (by decide), h 4 (by decide) (by decide) (by decide), h 11 (by decide) (by decide) (by decide), h 16 (by decide) (by decide) (by decide), h 19 (by decide) (by decide) (by decide), h 21 (by decide) (by decide) (by decide), h 30 (by decide) (by decide) (by decide), h 34 (by decide) (by decide) (by decide), h 36 (by decide) (by decide) (by decide), h 38 (by decide) (by decide) (by decide), h 48 (by decide) (by decide) (by decide), h 52 (by decide) (by decide) (by decide), h 56 (by decide) (by decide) (by decide), h 58 (by decide) (by decide) (by decide), h 65 (by decide) (by decide) (by decide), hn]; omega
  · rw [h 2 (by decide) (by decide) (by decide), h 4 (by decide) (by decide) (by decide), h 11 (by decide) (by decide) (by decide), h 16 (by decide) (by decide) (by decide), h 19 (by decide) (by decide) (by decide), h 21 (by decide) (by decide) (by decide), h 30 (by decide) (by decide) (by decide), h 34 (by decide) (by decide) (by decide), h 36 (by decide) (by decide) (by decide), h 38 (by decide) (by decide) (by decide), h 48 (by decide) (by decide) (by decide), h 50 (by decide) (by decide) (by decide), h 56 (by decide) (by decide) (by decide), h 58 (by decide) (by decide) (by decide), h 65 (by decide) (by decide) (by decide), hn]; omega
  · rw [h 2 (by decide) (by decide) (by decide), h 4 (by decide) (by decide) (by decide), h 11 (by decide) (by decide) (by decide), h 16 (by decide) (by decide) (by decide), h 19 (by decide) (by decide) (by decide), h 21 (by decide) (by decide) (by decide), h 30 (by decide) (by decide) (by decide), h 34 (by decide) (by decide) (by decide), h 36 (by decide) (by decide) (by decide), h 38 (by decide) (by decide) (by decide), h 48 (by decide) (by decide) (by decide), h 50 (by decide) (by decide) (by decide), h 52 (by decide) (by decide) (by decide), h 58 (by decide) (by decide) (by decide), h 65 (by decide) (by decide) (by decide), hn]; omega
  · rw [h 2 (by decide) (by decide) (by decide), h 4 (by decide) (by decide) (by decide), h 11 (by decide) (by decide) (by decide), h 16 (by decide) (by decide) (by decide), h 19 (by decide) (by decide) (by decide), h 21 (by decide) (by decide) (by decide), h 30 (by decide) (by decide) (by decide), h 34 (by decide) (by decide) (by decide), h 36 (by decide) (by decide) (by decide), h 38 (by decide) (by decide) (by decide), h 48 (by decide) (by decide) (by decide), h 50 (by decide) (by decide) (by decide), h 52 (by decide) (by decide) (by decide), h 56 (by decide) (by decide) (by decide), h 65 (by decide) (by decide) (by decide), hn]; omega
  · rw [h 2 (by decide) (by decide) (by decide), h 4 (by decide) (by decide) (by decide), h 11 (by decide) (by decide) (by decide), h 16 (by decide) (by decide) (by decide), h 19 (by decide) (by decide) (by decide), h 21 (by decide) (by decide) (by decide), h 30 (by decide) (by decide) (by decide), h 34 (by decide) (by decide) (by decide), h 36 (by decide) (by decide) (by decide), h 38 (by decide) (by decide) (by decide), h 48 (by decide) (by decide) (by decide), h 50 (by decide) (by decide) (by decide), h 52 (by decide) (by decide) (by decide), h 56 (by decide) (by decide) (by decide), h 58 (by decide) (by decide) (by decide), hn]; omega
theorem zAdd_new {σ : zS} {r a : Nat} {x : Int} (h : σ.1 r = (σ.2.2 a : Int)) (h1 : a ≠ 3001) (h2 : a ≠ 3002) : (zAdd σ r a x).1 r = σ.1 r + 1 ∧ (∀ j, j ≠ r → (zAdd σ r a x).1 j = σ.1 j) ∧ (∀ q, (zAdd σ r a x).2.1 a q = (if q = (σ.2.2 a : Int) then x else if q < (σ.2.2 a : Int) then σ.2.1 a q else 0)) ∧ (∀ j q, j ≠ a → (zAdd σ r a x).2.1 j q = σ.2.1 j q) ∧ (zAdd σ r a x).2.2 a = 2 * σ.2.2 a + 1 ∧ (zAdd σ r a x).2.2 3001 = σ.2.2 3001 + 1 ∧ (zAdd σ r a x).2.2 3002 = σ.2.2 3002 + (2 * σ.2.2 a + 1) ∧ ∀ j, j ≠ a → j ≠ 3001 → j ≠ 3002 → (zAdd σ r a x).2.2 j = σ.2.2 j := by
  unfold zAdd
  rw [if_pos h]
  refine ⟨by simp, fun j hj => by simp [hj], fun q => by simp, fun j q hj => by simp [hj], by simp [h1, h2], by simp, by simp, fun j a b c => by simp [a, b, c]⟩
theorem zAdd_old {σ : zS} {r a : Nat} {x : Int} (h : ¬ σ.1 r = (σ.2.2 a : Int)) : (zAdd σ r a x).1 r = σ.1 r + 1 ∧ (∀ j, j ≠ r → (zAdd σ r a x).1 j = σ.1 j) ∧ (∀ j q, (zAdd σ r a x).2.1 j q = (if j = a ∧ q = σ.1 r then x else σ.2.1 j q)) ∧ (zAdd σ r a x).2.2 = σ.2.2 := by
  unfold zAdd
  rw [if_neg h]
  exact ⟨by simp, fun j hj => by simp [hj], fun j q => by simp, rfl⟩
theorem zAdd_row {σ : zS} {r a : Nat} {X : List Int} {x : Int} (h : RowC σ r a X) (ha : rws.elem a = true := by decide) : RowC (zAdd σ r a x) r a (X ++ [x]) ∧ FrC [r] [a] σ (zAdd σ r a x) ∧ ((zAdd σ r a x).2.2 a ≤ σ.2.2 a ∨ (zAdd σ r a x).2.2 a ≤ 2 * X.length + 1) := by
  have hm : a ∈ rws := List.elem_iff.mp ha
  have h1 : a ≠ 3001 := fun e => by subst e; simp at ha
  have h2 : a ≠ 3002 := fun e => by subst e; simp at ha
  obtain ⟨a1, a2, a3, a4⟩ := h
  have el : ((X ++ [x]).length : Int) = (X.length : Int) + 1 := by simp
  have el2 : (X ++ [x]).length = X.length + 1 := by simp
  have sing : ∀ {I : List Nat} {j : Nat}, [r].elem j = false → j ≠ r := fun hj e => by subst e; simp at hj
  have sing2 : ∀ {j : Nat}, [a].elem j = false → j ≠ a := fun hj e => by subst e; simp at hj
  by_cases hf : σ.1 r = (σ.2.2 a : Int)
  · obtain ⟨b1, b2, b3, b4, b5, b6, b7, b8⟩ := zAdd_new (x := x) hf h1 h2
    have hl : X.length = σ.2.2 a := by omega
    have hrl := rl_up (n := σ.2.2 a + 1) ha b8 (by rw [b5]; omega)
    refine ⟨⟨by rw [b1, a1, el], by rw [b5, el2]; omega, by rw [b5]; omega, Fl_app.mpr ⟨Fl_q (fun i i0 i1 => ?_) a4, ?_, trivial⟩⟩, ⟨fun j hj => b2 j (sing (I := [r]) hj), fun j q hj => b4 j q (sing2 hj), fun j hj c d => b8 j (sing2 hj) c d, ?_, ?_⟩, Or.inr (by rw [b5]; omega)⟩
    · rw [b3, if_neg (by omega), if_pos (by omega)]
    · rw [b3, if_pos (by omega)]
    · rw [b7, hrl]; omega
    · rw [b6, hrl]; omega
  · obtain ⟨b1, b2, b3, b4⟩ := zAdd_old (x := x) hf
    refine ⟨⟨by rw [b1, a1, el], by rw [b4, el2]; omega, by rw [b4]; exact a3, Fl_app.mpr ⟨Fl_q (fun i i0 i1 => ?_) a4, ?_, trivial⟩⟩, ⟨fun j hj => b2 j (sing (I := [r]) hj), fun j q hj => ?_, fun j hj c d => by rw [b4], Mg.of b4⟩, Or.inl (by rw [b4]; exact Nat.le_refl _)⟩
    · rw [b3, if_neg (by omega)]
    · rw [b3, if_pos ⟨rfl, by omega⟩]
    · rw [b3, if_neg (fun w => sing2 hj w.1)]
/-! bits, as numbers -/
theorem i32_nn {a : Int} (h0 : 0 ≤ a) (h1 : a < 2147483648) : (i32 a).toBitVec.toNat = a.toNat := by
  obtain ⟨n, rfl⟩ := Int.eq_ofNat_of_zero_le h0
  show (BitVec.ofInt 32 (n : Int)).toNat = _
  rw [BitVec.ofInt_natCast, BitVec.toNat_ofNat]
  have : n < 2 ^ 32 := by omega
  rw [Nat.mod_eq_of_lt this]; simp
theorem to_nn {x : Int32} (h : x.toBitVec.toNat < 2147483648) : x.toInt = (x.toBitVec.toNat : Int) := by
  show x.toBitVec.toInt = _
  rw [BitVec.toInt_eq_toNat_of_lt (by omega)]
theorem zand_n {a b : Int} (h0 : 0 ≤ a) (h1 : a < 4096) : 0 ≤ zand a b ∧ zand a b < 4096 := by
  have e : (i32 a &&& i32 b).toBitVec.toNat ≤ a.toNat := by
    rw [Int32.toBitVec_and, BitVec.toNat_and, i32_nn h0 (by omega)]
    exact Nat.and_le_left
  have := to_nn (x := i32 a &&& i32 b) (by omega)
  unfold zand
  rw [this]; omega
theorem zor_n {a b : Int} (h0 : 0 ≤ a) (h1 : a < 4096) (h2 : 0 ≤ b) (h3 : b < 4096) : 0 ≤ zor a b ∧ zor a b < 4096 := by
  have e : (i32 a ||| i32 b).toBitVec.toNat < 2 ^ 12 := by
    rw [Int32.toBitVec_or, BitVec.toNat_or, i32_nn h0 (by omega), i32_nn h2 (by omega)]
    exact Nat.or_lt_two_pow (by omega) (by omega)
  have := to_nn (x := i32 a ||| i32 b) (by omega)
  unfold zor
  rw [this]; omega
theorem zshl_n {r : Int} (h0 : 0 ≤ r) (h1 : r < 12) : 0 ≤ zshl 1 r ∧ zshl 1 r < 4096 := by
  rw [zshl_1 h0 h1]
  have : 2 ^ r.toNat < 2 ^ 12 := Nat.pow_lt_pow_right (by omega) (by omega)
  refine ⟨Int.natCast_nonneg _, ?_⟩
  have e : ((2 ^ 12 : Nat) : Int) = 4096 := by decide
  rw [← e]
  exact Int.ofNat_lt.mpr this
theorem bt_hi {a i : Int} (h0 : 0 ≤ a) (h1 : a < 4096) (h : 12 ≤ i) : ¬ bt a i := fun w => by
  unfold bt at w
  have e := i32_nn h0 (by omega)
  have : (i32 a).toBitVec.toNat < 2 ^ i.toNat := by
    rw [e]
    have : (2 : Nat) ^ 12 ≤ 2 ^ i.toNat := Nat.pow_le_pow_right (by omega) (by omega)
    omega
  have := Nat.testBit_lt_two_pow this
  rw [← BitVec.testBit_toNat] at w
  rw [this] at w
  cases w
