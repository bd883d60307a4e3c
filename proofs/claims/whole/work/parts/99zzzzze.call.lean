/-! one call of both: end, out, fault, symbol, clause, rewrote -/
variable {qo : Nat}
def MgT (σ τ : zS) : Prop := Mg σ τ ∨ (rl τ = rl σ ∧ τ.2.2 3001 = σ.2.2 3001 + 1 ∧ τ.2.2 3002 = σ.2.2 3002 + 6)
/-- both answer, or both refuse -/
def An (qo : Nat) (oy oz : Option zR) (σ : zS) (m : List (Nat × Int)) (n : Nat) : Prop := ∃ τ r κ s, oy = some (τ, r) ∧ oz = some (κ, s) ∧ m.elem (τ.2.2 3000, κ.1 4) = true ∧ (τ.2.2 3000 = 0 → r = s) ∧ MgT σ τ ∧ TL qo (rst τ) κ n
theorem An.ok {oy oz : Option zR} {σ τ κ : zS} {r : Int} {m : List (Nat × Int)} {n : Nat} (hy : oy = some (τ, r)) (hz : oz = some (κ, r)) (h3 : τ.2.2 3000 = 0) (h4 : κ.1 4 = 0) (hm : m.elem (0, 0) = true) (g : Mg σ τ) (t : TL qo τ κ n) : An qo oy oz σ m n := ⟨τ, r, κ, r, hy, hz, by rw [h3, h4]; exact hm, fun _ => rfl, Or.inl g, t.r⟩
theorem zT_3 {σ : zS} {c : Nat} : (zT σ c).2.2 3000 = c := by unfold zT; simp [va_up]
theorem zT_g {σ : zS} {c : Nat} : MgT σ (zT σ c) := by
  refine Or.inr ⟨?_, ?_, ?_⟩
  · unfold rl zT; simp [va_up]
  · unfold zT; simp [va_up]
  · unfold zT; simp [va_up]
theorem An.th {oy oz : Option zR} {σ κ : zS} {c : Nat} {r s e : Int} {m : List (Nat × Int)} {n : Nat} (hc : c ≠ 0) (hy : oy = some (zT σ c, r)) (hz : oz = some (κ, s)) (h4 : κ.1 4 = e) (t : TL qo σ κ n) (hm : m.elem (c, e) = true := by decide) : An qo oy oz σ m n := ⟨zT σ c, r, κ, s, hy, hz, by rw [zT_3, h4]; exact hm, fun h => absurd (zT_3.symm.trans h) hc, zT_g, by rw [rst_z]; exact t.r⟩
theorem TL.o {σ τ ρ κ : zS} {n : Nat} (h : TL qo σ ρ n) (f : FrC [6904, 6905] [70, 71] σ τ) (g : FrC [4, 124, 125] [123, 126] ρ κ) : TL qo τ κ n := by
  obtain ⟨ar, pd, m9, A, P, T, nm, o, d, s, c, q, r, i⟩ := h
  exact ⟨ar, pd, m9, A, P, T, nm, o, d, s.f f (s.1.2.2.2.2.2.1.f f), c.f f, q.f g g.pq, r.f g, i.f f g⟩
theorem TL.t {σ ρ : zS} {n : Nat} {x : Int} (h : TL qo σ ρ n) : TL qo σ (zI ρ 4 x) n := h.o FrC.refl FrC_I
theorem TL.zr {σ ρ : zS} {n : Nat} (h : TL qo σ ρ n) : zrT σ := by
  obtain ⟨ar, pd, m9, A, P, T, nm, o, d, s, c, q, r, i⟩ := h
  have hM := s.1.2.2.2.2.1
  have hR := s.1.2.2.2.2.2.1.b
  obtain ⟨h1, h2⟩ := hM
  exact ⟨by omega, by omega⟩
theorem ref_0 {β : Nat} {σ : zS} {k : Int} : zE tM_refuse β σ [k, 0] = some (σ, 0) := by
  rw [zq_refuse, kZ_refuse, if_pos rfl, zq_refuse_9, kZ_refuse_9, if_pos (Or.inl rfl)]
theorem ref_1 {β : Nat} {σ : zS} {k : Int} : zE tM_refuse β σ [k, 1] = some (zI σ 4 k, 1) := by
  rw [zq_refuse, kZ_refuse, if_neg (by decide), lt_e, zq_refuse_9, kZ_refuse_9, if_pos (Or.inr rfl)]
abbrev mTI : List (Nat × Int) := [(0, 0), (2, 1)]
abbrev mTO : List (Nat × Int) := [(0, 0), (4, 1)]
abbrev mTZ : List (Nat × Int) := [(0, 0)]
abbrev mNR : List (Nat × Int) := [(0, 0), (3, 1)]
abbrev mNS : List (Nat × Int) := [(0, 0), (3, 1), (2, 2)]
theorem CTX.le {X Y : Int → Int} {n k : Int} (h : CTX X Y n) (hk : k ≤ n) : CTX X Y k := fun i i0 i1 => h i i0 (by omega)
theorem pend_ok {σ ρ : zS} {n : Nat} (h : TL qo σ ρ n) (h3 : σ.2.2 3000 = 0) {β γ : Nat} (hγ : 1 ≤ γ) {x : Int} : ∃ k, k ≤ n ∧ An qo (yE tP_CP_end β σ [x]) (zE tM_end γ ρ [x]) σ mTI k := by
  have hz := h.zr
  obtain ⟨ar, pd, m9, A, P, T, nm, o, d, s, c, q, r, ⟨⟨a1, a2, a3, a4, a5, a6⟩, i2, i3, i4⟩⟩ := id h
  have thr : x < 0 ∨ (n : Int) < x → An qo (yE tP_CP_end β σ [x]) (zE tM_end γ ρ [x]) σ mTI n := fun hx => by
    refine An.th (c := 2) (r := 0) (κ := zI ρ 4 1) (s := 0) (by decide) ?_ ?_ zI_1 h.t
    · have e15 : yE tP_CP_end_p15 β σ [x] = some (zT σ 2, 0) := by rw [yq_CP_end_p15, kY_CP_end_p15, if_pos hz, lt_e]
      rw [yq_CP_end, kY_CP_end, a1]
      by_cases q0 : x < 0
      · rw [if_pos q0]; exact e15
      · rw [if_neg q0, if_neg (by omega)]; exact e15
    · have e19 : zE tM_end_19 γ (zI ρ 4 0) [x, 1] = some (zI ρ 4 1, 0) := by
        rw [zq_end_19, kZ_end_19, zq_end_24, kZ_end_24, if_pos hγ, zbd_of ref_1, if_neg (by decide), zI_zI]
      have e2 : (zI ρ 4 0).1 2 = (n : Int) := by rw [zI_o]; exact a2
      rw [zq_end, kZ_end, lt_e, e2]
      by_cases q0 : x < 0
      · rw [if_pos q0]; exact e19
      · rw [if_neg q0, if_neg (by omega)]; exact e19
  by_cases q0 : x < 0
  · exact ⟨n, Nat.le_refl _, thr (Or.inl q0)⟩
  by_cases q1 : (n : Int) < x
  · exact ⟨n, Nat.le_refl _, thr (Or.inr q1)⟩
  have fσ : FrC [101] [] σ (zI σ 101 x) := FrC_I
  have fρ : FrC [2, 4] [] ρ (zI (zI ρ 4 0) 2 x) := by
    have b : FrC [2, 4] [] ρ (zI ρ 4 0) := FrC_I
    exact b.trans FrC_I
  refine ⟨x.toNat, by omega, An.ok (τ := zI σ 101 x) (κ := zI (zI ρ 4 0) 2 x) (r := x) ?_ ?_ h3 (by rw [zI_o, zI_1]) rfl (Mg.of rfl) ?_⟩
  · rw [yq_CP_end, kY_CP_end, if_neg q0, a1, if_pos (by omega), lt_e]
  · have e2 : (zI ρ 4 0).1 2 = (n : Int) := by rw [zI_o]; exact a2
    rw [zq_end, kZ_end, lt_e, e2, if_neg q0, if_pos (by omega), zq_end_24, kZ_end_24, if_pos hγ, zbd_of ref_0, if_pos rfl, lt_e]
  · refine ⟨ar, pd, m9, A, P, T, nm, o, d, s.f fσ (s.1.2.2.2.2.2.1.f fσ), c.f fσ, q.f fρ fρ.pq, r.f fρ, ⟨by rw [zI_1]; omega, by rw [zI_1]; omega, by show x.toNat ≤ σ.2.2 2; omega, a4, a5, a6.le (by omega)⟩, ⟨by rw [zI_o, zI_o, zI_o]; exact i2.1, by rw [zI_o, zI_o, zI_o]; exact i2.2⟩, ⟨by rw [zI_o]; exact i3.1, by rw [zI_o, zI_o]; exact i3.2.1, i3.2.2⟩, i4⟩
theorem pout_ok {σ ρ : zS} {n : Nat} (h : TL qo σ ρ n) (h3 : σ.2.2 3000 = 0) {β γ : Nat} (hγ : 1 ≤ γ) {x : Int} : An qo (yE tP_CP_out β σ [x]) (zE tM_out γ ρ [x]) σ mTO n := by
  have hz := h.zr
  obtain ⟨ar, pd, m9, A, P, T, nm, o, d, s, c, q, r, ⟨i1, i2, ⟨b1, b2, b3⟩, i4⟩⟩ := id h
  have e3 : (zI ρ 4 0).1 3 = (o : Int) := by rw [zI_o]; exact b2
  have thr : x < 0 ∨ (o : Int) ≤ x → An qo (yE tP_CP_out β σ [x]) (zE tM_out γ ρ [x]) σ mTO n := fun hx => by
    refine An.th (c := 4) (r := 0) (κ := zI ρ 4 1) (s := 0) (by decide) ?_ ?_ zI_1 h.t
    · have e15 : yE tP_CP_out_p15 β σ [x] = some (zT σ 4, 0) := by rw [yq_CP_out_p15, kY_CP_out_p15, if_pos hz, lt_e]
      rw [yq_CP_out, kY_CP_out, b1]
      by_cases q0 : x < 0
      · rw [if_pos q0]; exact e15
      · rw [if_neg q0, if_neg (by omega)]; exact e15
    · have e19 : zE tM_out_19 γ (zI ρ 4 0) [x, 1] = some (zI ρ 4 1, 0) := by
        rw [zq_out_19, kZ_out_19, zq_out_24, kZ_out_24, if_pos hγ, zbd_of ref_1, if_neg (by decide), zI_zI]
      rw [zq_out, kZ_out, lt_e, e3]
      by_cases q0 : x < 0
      · rw [if_pos q0]; exact e19
      · rw [if_neg q0, if_neg (by omega)]; exact e19
  by_cases q0 : x < 0
  · exact thr (Or.inl q0)
  by_cases q1 : (o : Int) ≤ x
  · exact thr (Or.inr q1)
  refine An.ok (τ := σ) (κ := zI ρ 4 0) (r := σ.2.1 4 x) ?_ ?_ h3 zI_1 rfl Mg.refl h.t
  · rw [yq_CP_out, kY_CP_out, if_neg q0, b1, if_pos (by omega), if_pos (show zb x (σ.2.2 4) from ⟨by omega, by omega⟩)]
  · rw [zq_out, kZ_out, lt_e, e3, if_neg q0, if_pos (by omega), zq_out_24, kZ_out_24, if_pos hγ, zbd_of ref_0, if_pos rfl, if_pos (show zb x ((zI ρ 4 0).2.2 1) from ⟨by omega, by show x < (ρ.2.2 1 : Int); omega⟩), b3 x (by omega) (by omega)]
    rfl
theorem pflt_ok {σ ρ : zS} {n : Nat} (h : TL qo σ ρ n) {β γ : Nat} {x : Int} : ∃ r, yE tC_CP_fault β σ [x] = some (σ, r) ∧ zE tM_fault γ ρ [x] = some (zI ρ 4 0, r) := by
  obtain ⟨ar, pd, m9, A, P, T, nm, o, d, s, c, q, r, ⟨i1, ⟨b1, b2⟩, i3, i4⟩⟩ := id h
  rw [yq_CP_fault, kY_CP_fault, zq_fault, kZ_fault, lt_e]
  by_cases q0 : x = 0
  · refine ⟨σ.1 10, by rw [if_pos q0], ?_⟩
    rw [if_pos q0, zq_fault_29, kZ_fault_29, zI_o, b1]
  by_cases q1 : x = 1
  · refine ⟨σ.1 11, by rw [if_neg q0, if_pos q1, yq_CP_fault_p22, kY_CP_fault_p22], ?_⟩
    rw [if_neg q0, if_pos q1, zq_fault_29, kZ_fault_29, zI_o, b2]
  · exact ⟨-1, by rw [if_neg q0, if_neg q1, yq_CP_fault_p22, kY_CP_fault_p22], by rw [if_neg q0, if_neg q1, zq_fault_29, kZ_fault_29]⟩
