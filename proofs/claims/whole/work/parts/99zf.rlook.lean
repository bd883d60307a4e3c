/-! the reference: which LITERAL is GREATER, both = -/
def LMz (σ : zS) (A B : Int → Int) (Z : (Int → Prop) × (Int → Prop)) : Prop := ∀ u : Int, (u = 0 ∨ u = 1) → (Z.1 u → σ.2.1 103 u = A u) ∧ (¬ Z.1 u → σ.2.1 103 u < 0) ∧ (Z.2 u → σ.2.1 104 u = B u) ∧ (¬ Z.2 u → σ.2.1 104 u < 0)
section glit
variable {ar : Int → Nat} {m9 : Int} {a b : Lt} {A B : Int → Int} {x0 x1 : Int}
/-- the sides, and where they lie -/
def SdA (ar : Int → Nat) (m9 : Int) (σ : zS) (a : Lt) (A : Int → Int) : Prop := ∀ u : Int, (u = 0 ∨ u = 1) → Px σ (sdT a u) (A u) ∧ wf ar (lb m9) (tt (sdT a u)) ∧ tw (sdT a u) ≤ 100
theorem SdA.f {I L : List Nat} {σ τ : zS} (h : SdA ar m9 σ a A) (f : FrC I L σ τ) (h3 : L.elem 43 = false := by decide) (h4 : L.elem 44 = false := by decide) (h5 : L.elem 45 = false := by decide) (h6 : L.elem 46 = false := by decide) : SdA ar m9 τ a A := fun u hu => ⟨Px_q (h u hu).1 (f.pq h3 h4 h5 h6), (h u hu).2⟩
theorem gl_st {β : Nat} (hβ : 102 ≤ β) {σ : zS} {Z : (Int → Prop) × (Int → Prop)} (hA : SdA ar m9 σ a A) (hB : SdA ar m9 σ b B) (hZ : LMz σ A B Z) {p q : Int} (hp : p = 0 ∨ p = 1) (hq : q = 0 ∨ q = 1) : ∃ τ, zE tM_greaterLiteral_33 β σ [x0, x1, 2, 2, p, q] = zE tM_greaterLiteral_33 β τ [x0, x1, 2, 2, p, q + 1] ∧ FrC [] [103, 104] σ τ ∧ LMz τ A B (rm a b p q Z) := by
  obtain ⟨z1, z2, _, _⟩ := hZ p hp
  obtain ⟨_, _, z3, z4⟩ := hZ q hq
  obtain ⟨pa, wa, ta⟩ := hA p hp
  obtain ⟨pb, wb, tb⟩ := hB q hq
  have e100 : ∀ ρ : zS, zE tM_greaterLiteral_100 β ρ [x0, x1, 2, 2, p, q] = zE tM_greaterLiteral_33 β ρ [x0, x1, 2, 2, p, q + 1] := fun ρ => by rw [zq_greaterLiteral_100, kZ_greaterLiteral_100, if_pos (by omega)]
  have no : ¬ (Z.1 p ∧ Z.2 q ∧ sdT a p = sdT b q) → LMz σ A B (rm a b p q Z) := fun hn u hu => by
    obtain ⟨y1, y2, y3, y4⟩ := hZ u hu
    refine ⟨fun w => y1 w.1, fun w => y2 (fun v => w ⟨v, fun z => hn z.1⟩), fun w => y3 w.1, fun w => y4 (fun v => w ⟨v, fun z => hn z.1⟩)⟩
  rw [zq_greaterLiteral_33, kZ_greaterLiteral_33, if_neg (by omega), if_pos (by omega)]
  by_cases h1 : Z.1 p
  · rw [z1 h1, if_neg (by have := pa.1.1; omega), if_pos (by omega)]
    by_cases h2 : Z.2 q
    · have ha := ht_le_wt (sdT a p).2
      have ea : tw (sdT a p) = 1 + wt (sdT a p).2 := rfl
      rw [z3 h2, if_neg (by have := pb.1.1; omega), if_pos (by omega), zbd_of (same_x (β := β - 1) pa pb wa wb (by omega))]
      by_cases h3 : sdT a p = sdT b q
      · rw [b2_t h3, if_neg (by decide), lt_e, lt_e, e100]
        refine ⟨_, rfl, ?_, fun u hu => ?_⟩
        · have c1 : FrC [] [103, 104] σ (zA σ 103 p (-1)) := FrC_A
          exact c1.trans FrC_A
        · obtain ⟨y1, y2, y3, y4⟩ := hZ u hu
          refine ⟨fun w => ?_, fun w => ?_, fun w => ?_, fun w => ?_⟩
          · have : u ≠ p := fun e => w.2 ⟨⟨h1, h2, h3⟩, e⟩
            rw [zA_j, zA_i this]; exact y1 w.1
          · by_cases e : u = p
            · rw [zA_j, e, zA_s]; decide
            · rw [zA_j, zA_i e]
              exact y2 (fun v => w ⟨v, fun z => e z.2⟩)
          · have : u ≠ q := fun e => w.2 ⟨⟨h1, h2, h3⟩, e⟩
            rw [zA_i this, zA_j]; exact y3 w.1
          · by_cases e : u = q
            · rw [e, zA_s]; decide
            · rw [zA_i e, zA_j]
              exact y4 (fun v => w ⟨v, fun z => e z.2⟩)
      · rw [b2_f h3, if_pos rfl, e100]
        exact ⟨σ, rfl, FrC.refl, no (fun w => h3 w.2.2)⟩
    · rw [if_pos (z4 h2), e100]
      exact ⟨σ, rfl, FrC.refl, no (fun w => h2 w.2.1)⟩
  · rw [if_pos (z2 h1), e100]
    exact ⟨σ, rfl, FrC.refl, no (fun w => h1 w.1)⟩
theorem gl_188 {β : Nat} (hβ : 210 ≤ β) {σ : zS} {Z : (Int → Prop) × (Int → Prop)} (hA : SdA ar m9 σ a A) (hB : SdA ar m9 σ b B) (hZ : LMz σ A B Z) {j x4 : Int} (hj : j = 0 ∨ j = 1) (h2 : Z.2 j) : ∃ τ, FrC [] [102] σ τ ∧ (((∃ i, (i = 0 ∨ i = 1) ∧ Z.1 i ∧ gTm (sdT a i) (sdT b j)) ∧ zE tM_greaterLiteral_188 β σ [x0, x1, 2, 2, x4, j, 0, 0] = zE tM_greaterLiteral_250 β τ [x0, x1, 2, 2, x4, j]) ∨ ((¬ ∃ i, (i = 0 ∨ i = 1) ∧ Z.1 i ∧ gTm (sdT a i) (sdT b j)) ∧ zE tM_greaterLiteral_188 β σ [x0, x1, 2, 2, x4, j, 0, 0] = some (τ, 0))) := by
  have e235 : ∀ (ρ : zS) (x6 x7 x8 : Int), (x7 = 0 ∨ x7 = 1) → zE tM_greaterLiteral_235 β ρ [x0, x1, 2, 2, x4, j, x6, x7, x8] = zE tM_greaterLiteral_188 β ρ [x0, x1, 2, 2, x4, j, x8, x7 + 1] := fun ρ x6 x7 x8 h => by rw [zq_greaterLiteral_235, kZ_greaterLiteral_235, if_pos (by omega)]
  -- once found, it stays
  have done : ∀ (ρ : zS) (x7 : Int), x7 = 1 ∨ x7 = 2 → zE tM_greaterLiteral_188 β ρ [x0, x1, 2, 2, x4, j, 1, x7] = zE tM_greaterLiteral_250 β ρ [x0, x1, 2, 2, x4, j] := fun ρ x7 h => by
    have d2 : zE tM_greaterLiteral_188 β ρ [x0, x1, 2, 2, x4, j, 1, 2] = zE tM_greaterLiteral_250 β ρ [x0, x1, 2, 2, x4, j] := by
      rw [zq_greaterLiteral_188, kZ_greaterLiteral_188, if_pos (by omega), if_neg (by decide)]
    rcases h with rfl | rfl
    · rw [zq_greaterLiteral_188, kZ_greaterLiteral_188, if_neg (by omega), if_neg (by decide), zq_greaterLiteral_230, kZ_greaterLiteral_230, e235 _ _ _ _ (Or.inr rfl), show (1 : Int) + 1 = 2 by omega, d2]
    · exact d2
  have step : ∀ (ρ : zS) (i : Int), (i = 0 ∨ i = 1) → FrC [] [102] σ ρ → ∃ τ, FrC [] [102] σ τ ∧ (((Z.1 i ∧ gTm (sdT a i) (sdT b j)) ∧ zE tM_greaterLiteral_188 β ρ [x0, x1, 2, 2, x4, j, 0, i] = zE tM_greaterLiteral_188 β τ [x0, x1, 2, 2, x4, j, 1, i + 1]) ∨ ((¬ (Z.1 i ∧ gTm (sdT a i) (sdT b j))) ∧ zE tM_greaterLiteral_188 β ρ [x0, x1, 2, 2, x4, j, 0, i] = zE tM_greaterLiteral_188 β τ [x0, x1, 2, 2, x4, j, 0, i + 1])) := fun ρ i hi fρ => by
    obtain ⟨z1, z2, _, _⟩ := hZ i hi
    obtain ⟨_, _, z3, _⟩ := hZ j hj
    obtain ⟨pa, wa, ta⟩ := (hA.f fρ) i hi
    obtain ⟨pb, wb, tb⟩ := (hB.f fρ) j hj
    have e3 : ρ.2.1 103 i = σ.2.1 103 i := fρ.a 103 i
    have e4 : ρ.2.1 104 j = σ.2.1 104 j := fρ.a 104 j
    rw [zq_greaterLiteral_188, kZ_greaterLiteral_188, if_neg (by omega), if_pos rfl, if_pos (by omega), e3]
    by_cases h1 : Z.1 i
    · have ha := ht_le_wt (sdT a i).2
      have ea : tw (sdT a i) = 1 + wt (sdT a i).2 := rfl
      have hb := ht_le_wt (sdT b j).2
      have eb : tw (sdT b j) = 1 + wt (sdT b j).2 := rfl
      obtain ⟨τ, t1, t2⟩ := greater_ok (β := β - 1) pa.1 pa.2 pb.1 pb.2 (wf_mono (fun c h => lb8 h) wa) (wf_mono (fun c h => lb8 h) wb) (by omega) (by omega) (by omega) (by omega)
      have fτ : FrC [] [102] σ τ := fρ.trans (FrC_Sa t2)
      rw [z1 h1, if_neg (by have := pa.1.1; omega), if_pos (by omega), if_pos (by omega), e4, z3 h2, zbd_of t1]
      refine ⟨τ, fτ, ?_⟩
      by_cases g : gT (sdT a i).1 (sdT a i).2 (sdT b j).1 (sdT b j).2
      · left
        refine ⟨⟨h1, g⟩, ?_⟩
        rw [b2_t g, if_neg (by decide), zq_greaterLiteral_230, kZ_greaterLiteral_230, e235 _ _ _ _ hi]
      · right
        refine ⟨fun w => g w.2, ?_⟩
        rw [b2_f g, if_pos rfl, zq_greaterLiteral_234, kZ_greaterLiteral_234, e235 _ _ _ _ hi]
    · rw [if_pos (z2 h1)]
      refine ⟨ρ, fρ, Or.inr ⟨fun w => h1 w.1, ?_⟩⟩
      rw [zq_greaterLiteral_234, kZ_greaterLiteral_234, e235 _ _ _ _ hi]
  obtain ⟨σ1, f1, u⟩ := step σ 0 (Or.inl rfl) FrC.refl
  rcases u with ⟨u1, u2⟩ | ⟨u1, u2⟩
  · exact ⟨σ1, f1, Or.inl ⟨⟨0, Or.inl rfl, u1⟩, by rw [u2, show (0 : Int) + 1 = 1 by omega, done σ1 1 (Or.inl rfl)]⟩⟩
  · obtain ⟨σ2, f2, v⟩ := step σ1 1 (Or.inr rfl) f1
    rw [u2, show (0 : Int) + 1 = 1 by omega]
    rcases v with ⟨v1, v2⟩ | ⟨v1, v2⟩
    · exact ⟨σ2, f2, Or.inl ⟨⟨1, Or.inr rfl, v1⟩, by rw [v2, show (1 : Int) + 1 = 2 by omega, done σ2 2 (Or.inr rfl)]⟩⟩
    · refine ⟨σ2, f2, Or.inr ⟨?_, ?_⟩⟩
      · rintro ⟨i, hi, h⟩
        rcases hi with rfl | rfl
        · exact u1 h
        · exact v1 h
      · rw [v2, show (1 : Int) + 1 = 2 by omega, zq_greaterLiteral_188, kZ_greaterLiteral_188, if_pos (by omega), if_pos rfl]
theorem gl_162 {β : Nat} (hβ : 210 ≤ β) {σ : zS} {Z : (Int → Prop) × (Int → Prop)} (hA : SdA ar m9 σ a A) (hB : SdA ar m9 σ b B) (hZ : LMz σ A B Z) {x4 : Int} : ∃ τ, zE tM_greaterLiteral_162 β σ [x0, x1, 2, 2, x4, 0] = some (τ, b2 (∀ j, (j = 0 ∨ j = 1) → Z.2 j → ∃ i, (i = 0 ∨ i = 1) ∧ Z.1 i ∧ gTm (sdT a i) (sdT b j))) ∧ FrC [] [102] σ τ := by
  have e250 : ∀ (ρ : zS) (j : Int), (j = 0 ∨ j = 1) → zE tM_greaterLiteral_250 β ρ [x0, x1, 2, 2, x4, j] = zE tM_greaterLiteral_162 β ρ [x0, x1, 2, 2, x4, j + 1] := fun ρ j h => by rw [zq_greaterLiteral_250, kZ_greaterLiteral_250, if_pos (by omega)]
  have step : ∀ (ρ : zS) (j : Int), (j = 0 ∨ j = 1) → FrC [] [102] σ ρ → ∃ τ, FrC [] [102] σ τ ∧ (((Z.2 j → ∃ i, (i = 0 ∨ i = 1) ∧ Z.1 i ∧ gTm (sdT a i) (sdT b j)) ∧ zE tM_greaterLiteral_162 β ρ [x0, x1, 2, 2, x4, j] = zE tM_greaterLiteral_162 β τ [x0, x1, 2, 2, x4, j + 1]) ∨ ((¬ (Z.2 j → ∃ i, (i = 0 ∨ i = 1) ∧ Z.1 i ∧ gTm (sdT a i) (sdT b j))) ∧ zE tM_greaterLiteral_162 β ρ [x0, x1, 2, 2, x4, j] = some (τ, 0))) := fun ρ j hj fρ => by
    obtain ⟨_, _, z3, z4⟩ := hZ j hj
    have e4 : ρ.2.1 104 j = σ.2.1 104 j := fρ.a 104 j
    have pb := (hB j hj).1
    rw [zq_greaterLiteral_162, kZ_greaterLiteral_162, if_neg (by omega), if_pos (by omega), e4]
    by_cases h2 : Z.2 j
    · have Zρ : LMz ρ A B Z := fun u hu => by
        rw [fρ.a 103, fρ.a 104]; exact hZ u hu
      obtain ⟨τ, t1, t⟩ := gl_188 (x0 := x0) (x1 := x1) hβ (hA.f fρ) (hB.f fρ) Zρ (x4 := x4) hj h2
      rw [z3 h2, if_pos (by have := pb.1.1; omega)]
      refine ⟨τ, fρ.trans t1, ?_⟩
      rcases t with ⟨t2, t3⟩ | ⟨t2, t3⟩
      · exact Or.inl ⟨fun _ => t2, by rw [t3, e250 _ _ hj]⟩
      · exact Or.inr ⟨fun w => t2 (w h2), t3⟩
    · have := z4 h2
      rw [if_neg (by omega), e250 _ _ hj]
      exact ⟨ρ, fρ, Or.inl ⟨fun w => absurd w h2, rfl⟩⟩
  obtain ⟨σ1, f1, u⟩ := step σ 0 (Or.inl rfl) FrC.refl
  rcases u with ⟨u1, u2⟩ | ⟨u1, u2⟩
  · obtain ⟨σ2, f2, v⟩ := step σ1 1 (Or.inr rfl) f1
    rw [u2, show (0 : Int) + 1 = 1 by omega]
    rcases v with ⟨v1, v2⟩ | ⟨v1, v2⟩
    · refine ⟨σ2, ?_, f2⟩
      rw [v2, show (1 : Int) + 1 = 2 by omega, zq_greaterLiteral_162, kZ_greaterLiteral_162, if_pos (by omega), b2_t]
      intro j hj
      rcases hj with rfl | rfl
      · exact u1
      · exact v1
    · refine ⟨σ2, ?_, f2⟩
      rw [v2, b2_f (fun w => v1 (w 1 (Or.inr rfl)))]
  · exact ⟨σ1, by rw [u2, b2_f (fun w => u1 (w 0 (Or.inl rfl)))], f1⟩
theorem gl_118 {β : Nat} {σ : zS} {Z : (Int → Prop) × (Int → Prop)} (hA : SdA ar m9 σ a A) (hZ : LMz σ A B Z) : (¬ (Z.1 0 ∨ Z.1 1) → zE tM_greaterLiteral_118 β σ [x0, x1, 2, 2, 0, 0] = some (σ, 0)) ∧ ((Z.1 0 ∨ Z.1 1) → zE tM_greaterLiteral_118 β σ [x0, x1, 2, 2, 0, 0] = zE tM_greaterLiteral_162 β σ [x0, x1, 2, 2, 1, 0]) := by
  have e144 : ∀ x4 x5 x6 : Int, (x5 = 0 ∨ x5 = 1) → zE tM_greaterLiteral_144 β σ [x0, x1, 2, 2, x4, x5, x6] = zE tM_greaterLiteral_118 β σ [x0, x1, 2, 2, x6, x5 + 1] := fun x4 x5 x6 h => by rw [zq_greaterLiteral_144, kZ_greaterLiteral_144, if_pos (by omega)]
  have e139 : ∀ x4 x5 : Int, (x5 = 0 ∨ x5 = 1) → zE tM_greaterLiteral_139 β σ [x0, x1, 2, 2, x4, x5] = zE tM_greaterLiteral_118 β σ [x0, x1, 2, 2, 1, x5 + 1] := fun x4 x5 h => by rw [zq_greaterLiteral_139, kZ_greaterLiteral_139, e144 _ _ _ h]
  have d1 : zE tM_greaterLiteral_118 β σ [x0, x1, 2, 2, 1, 2] = zE tM_greaterLiteral_162 β σ [x0, x1, 2, 2, 1, 0] := by rw [zq_greaterLiteral_118, kZ_greaterLiteral_118, if_pos (by omega), if_neg (by decide)]
  have d0 : zE tM_greaterLiteral_118 β σ [x0, x1, 2, 2, 0, 2] = some (σ, 0) := by rw [zq_greaterLiteral_118, kZ_greaterLiteral_118, if_pos (by omega), if_pos rfl]
  obtain ⟨y1, y2, _, _⟩ := hZ 0 (Or.inl rfl)
  obtain ⟨z1, z2, _, _⟩ := hZ 1 (Or.inr rfl)
  have p0 := (hA 0 (Or.inl rfl)).1.1.1
  have p1 := (hA 1 (Or.inr rfl)).1.1.1
  have s0 : zE tM_greaterLiteral_118 β σ [x0, x1, 2, 2, 0, 0] = if σ.2.1 103 0 < 0 then zE tM_greaterLiteral_118 β σ [x0, x1, 2, 2, 0, 1] else zE tM_greaterLiteral_118 β σ [x0, x1, 2, 2, 1, 1] := by
    rw [zq_greaterLiteral_118, kZ_greaterLiteral_118, if_neg (by omega), if_pos rfl, if_pos (by omega), e144 _ _ _ (Or.inl rfl), e139 _ _ (Or.inl rfl)]
    rfl
  have s1 : zE tM_greaterLiteral_118 β σ [x0, x1, 2, 2, 1, 1] = zE tM_greaterLiteral_162 β σ [x0, x1, 2, 2, 1, 0] := by
    rw [zq_greaterLiteral_118, kZ_greaterLiteral_118, if_neg (by omega), if_neg (by decide), e139 _ _ (Or.inr rfl)]
    exact d1
  have s2 : zE tM_greaterLiteral_118 β σ [x0, x1, 2, 2, 0, 1] = if σ.2.1 103 1 < 0 then some (σ, 0) else zE tM_greaterLiteral_162 β σ [x0, x1, 2, 2, 1, 0] := by
    rw [zq_greaterLiteral_118, kZ_greaterLiteral_118, if_neg (by omega), if_pos rfl, if_pos (by omega), e144 _ _ _ (Or.inr rfl), e139 _ _ (Or.inr rfl)]
    rw [show (1 : Int) + 1 = 2 by omega, d0, d1]
  refine ⟨fun h => ?_, fun h => ?_⟩
  · rw [s0, if_pos (y2 (fun w => h (Or.inl w))), s2, if_pos (z2 (fun w => h (Or.inr w)))]
  · rw [s0]
    by_cases q : Z.1 0
    · rw [y1 q, if_neg (by omega), s1]
    · rw [if_pos (y2 q), s2, z1 (h.resolve_left q), if_neg (by omega)]
end glit
