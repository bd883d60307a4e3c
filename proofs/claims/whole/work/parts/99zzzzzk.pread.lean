/-! one call of both: read -/
variable {qo : Nat}
theorem TL_flt {σ ρ τ κ : zS} {n : Nat} {k q : Int} (h : TL qo σ ρ n) (hC : CFt τ k q) (hR : RFt κ k q) (f : FrC cpI cpA σ τ) (g : KpR ρ κ) : TL qo τ κ 0 := by
  obtain ⟨ar, pd, m9, A, P, T, nm, o, d, s, c, qq, r, ⟨⟨a1, a2, a3, a4, a5, a6⟩, i2, ⟨b1, b2, b3⟩, i4⟩⟩ := h
  obtain ⟨s1, s2, s3, s4, s5, s6, s7, s8, s9⟩ := hC
  obtain ⟨t1, t2, t3, t4, t5, t6, t7, t8, t9⟩ := hR
  obtain ⟨g1, g2, g3, g4, g5, g6⟩ := g
  refine ⟨fun _ => 0, fun c => c = 0, 1, ([], fc0), [], 0, [], o, ⟨Nat.le_refl _, rfl, by decide, rfl, ⟨(by intro c hc; cases hc), fun k c hc => (by cases hc)⟩, fun c hc e => by omega⟩, s1, ⟨s2, s9, s7, ⟨by rw [zI_o]; exact s6, by decide, (by intro x hx; cases hx), zI_1, ⟨⟨by rw [zI_o]; exact s8, by simp [nmC], s2.1.1.1, trivial⟩, s2.1.1.2, s2.1.2.2.2⟩, fun i x hx => (by cases hx)⟩⟩, Or.inr t1, ⟨⟨t6, fun c c0 c1 => by rw [show c = 0 by omega]; exact t9⟩, ⟨by decide, fun c c0 c1 => ?_⟩, t5, ⟨t7, fun i x hx => (by cases hx)⟩⟩, ⟨s5, t4, Nat.zero_le _, by rw [f.l 2]; exact a4, by rw [f.l 2]; exact a5, fun i i0 i1 => by omega⟩, ⟨by rw [s3, t2], by rw [s4, t3]⟩, ⟨by rw [f.i 301]; exact b1, by rw [g1]; exact b2, fun i i0 i1 => by rw [f.a 4, g3]; exact b3 i i0 i1⟩, by rw [f.l 4, g4]; exact IO4 (fun i => congrFun g3 i) i4⟩
  have : c = 0 := by omega
  rw [this, t8]
  exact ⟨fun z => absurd z (by decide), fun z => absurd rfl z⟩
theorem pread_ok (hTr : ∀ (nm : PN) (SL : List SE) (b : Nat) (Cs : List CL), TXo nm SL b → b ≤ 300 → UA SL → mkS (wS nm SL) SL 0 [] = .inr Cs → IvA (pdS nm) Cs) {σ ρ : zS} {n : Nat} (h : TL qo σ ρ n) (hn : n ≤ 20000) {β γ : Nat} (hβ : 160 ≤ β) (hγ : 1002 ≤ γ) : ∃ τ r κ, yE tG_CP_read β σ [] = some (τ, r) ∧ xE tX_read γ ρ [] = some (κ, r) ∧ τ.2.2 3000 = σ.2.2 3000 ∧ Mg σ τ ∧ TL qo τ κ 0 := by
  obtain ⟨ar, pd, m9, A, P, T, nm, o, d, s, c, qq, r', ⟨⟨a1, a2, a3, a4, a5, a6⟩, i2, ⟨b1, b2, b3⟩, i4⟩⟩ := id h
  obtain ⟨m, r, hr, hk, hl⟩ := seS_all (X := ρ.2.1 0) (n := (n : Int)) (by omega)
  obtain ⟨c1, c2⟩ := cread_ok a6 hβ s rfl (by omega) (by omega) (by omega) a1 c.1 hr
  have hX : TXT (ρ.2.1 0) (n : Int) := fun i i0 i1 => by rcases a6 i i0 i1 with z | z <;> omega
  have hU : ∀ a, r = .inr a → UA a.2 ∧ frL a.2 ≤ 300 ∧ a.2.length ≤ 20100 := fun a ha => by
    obtain ⟨u1, u2, u3, _⟩ := c2 a ha
    have := frL_b u1 (fun e he => he) u2.2.1
    have := hl a ha
    exact ⟨u1, by omega, by omega⟩
  obtain ⟨z1, z2⟩ := rread_ok hX (β := γ) hγ (σ := ρ) (by omega) (by omega) rfl a2 hr hk hU
  have l3 : ∀ {τ : zS}, FrC cpI cpA σ τ → τ.2.2 3000 = σ.2.2 3000 := fun {τ} f => f.l 3000
  match r, hr, hk, hl, c1, c2, hU, z1, z2 with
  | .inl e, hr, hk, hl, c1, c2, hU, z1, z2 =>
    obtain ⟨τ, t1, t2, t3⟩ := c1 e rfl
    obtain ⟨κ, u1, u2, u3⟩ := z1 e rfl
    exact ⟨τ, -1, κ, t1, u1, l3 t3, t3.2.2.2, TL_flt h t2 u2 t3 u3⟩
  | .inr a, hr, hk, hl, c1, c2, hU, z1, z2 =>
    obtain ⟨v1, v2, v3, v4, v5⟩ := c2 a rfl
    obtain ⟨w4, w5⟩ := z2 a rfl
    cases hm : mkS (wS a.1.2.1 a.2) a.2 0 [] with
    | inl q =>
      obtain ⟨τ, t1, t2, t3⟩ := v4 q hm
      obtain ⟨κ, u1, u2, u3⟩ := w4 q hm
      exact ⟨τ, -1, κ, t1, u1, l3 t3, t3.2.2.2, TL_flt h t2 u2 t3 u3⟩
    | inr Cs =>
      obtain ⟨τ, t1, t2, t3, t4, t5, t6, t7, t8, t9, t10⟩ := v5 Cs hm
      obtain ⟨κ, u1, u2, u3, u4, u5, u6, u7, u8, u9⟩ := w5 Cs hm
      obtain ⟨g1, g2, g3, g4, g5, g6⟩ := u9
      refine ⟨τ, (Cs.length : Int), κ, t1, u1, l3 t10, t10.2.2.2, _, _, _, _, _, Cs.length, a.1.2.1, o, ⟨Nat.le_refl _, by unfold arS; rw [if_pos (by decide)], by unfold m9S; omega, Or.inl rfl, hTr _ _ _ Cs v2 v3 v1 hm, fun c hc z => ?_⟩, t2, ⟨t3, t7, t8, t9⟩, Or.inl u2, ⟨u7, u2.1.2.2.1, u6, ⟨u8.1, fun i x hx => ?_⟩⟩, ⟨t6, u5, Nat.zero_le _, by rw [t10.l 2]; exact a4, by rw [t10.l 2]; exact a5, fun i i0 i1 => by omega⟩, ⟨by rw [t4, u3], by rw [t5, u4]⟩, ⟨by rw [t10.i 301]; exact b1, by rw [g1]; exact b2, fun i i0 i1 => by rw [t10.a 4, g3]; exact b3 i i0 i1⟩, by rw [t10.l 4, g4]; exact IO4 (fun i => congrFun g3 i) i4⟩
      · rcases z with z | z
        · omega
        · omega
      · obtain ⟨x1, x2, x3, _⟩ := u8.2.2.2.2 i x hx
        have hNB : NB a.1.2.1 := seS_nb m _ _ a (show NB ([] : PN) from fun y hy => by cases hy) hr
        exact ⟨x1, x2, fun j ch hc => ⟨x3 j ch hc, hNB x (List.mem_of_getElem? hx) ch (List.mem_of_getElem? hc)⟩⟩
