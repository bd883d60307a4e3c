/-! one LITERAL, an = -/
def sngL (C : List Lt) : Prop := ∃ a, C = [a] ∧ a.1 = 1
theorem single_ok {β : Nat} (hβ : 1 ≤ β) {σ : zS} {Cs : List CL} (hS : SC σ Cs) {k : Nat} {c : CL} (hc : Cs[k]? = some c) : yE tC_Sat_isSingle β σ [(k : Int)] = some (σ, b2 (sngL c.1)) := by
  have e38 : ∀ r : Int, (r = 0 ∨ r = 1) → yE tC_Sat_isSingle_p38 β σ [(k : Int), r] = some (σ, r) := fun r hr => by rw [yq_Sat_isSingle_p38, kY_Sat_isSingle_p38, if_pos hr]
  have e37 : yE tC_Sat_isSingle_p37 β σ [(k : Int)] = some (σ, 0) := by rw [yq_Sat_isSingle_p37, kY_Sat_isSingle_p37, e38 0 (Or.inl rfl)]
  rw [yq_Sat_isSingle, kY_Sat_isSingle, if_pos hβ, zbd_of (hS.f3 hc).1]
  by_cases h : (c.1.length : Int) = 1
  · obtain ⟨a, ha⟩ : ∃ a, c.1 = [a] := List.length_eq_one_iff.mp (by omega)
    have hl := hS.hl hc (i := 0) (a := a) (by rw [ha]; rfl)
    rw [hp_0] at hl
    rw [if_pos h, if_pos hβ, zbd_of (hS.f3 hc).2.1, if_pos hβ, zbd_of (pos_ok hl)]
    by_cases s : a.1 = 1
    · rw [b2_t s, if_neg (by decide), e38 1 (Or.inr rfl), b2_t ⟨a, ha, s⟩]
    · rw [b2_f s, if_pos rfl, e37, b2_f]
      rintro ⟨b, hb, hs⟩
      rw [ha] at hb
      cases hb
      exact s hs
  · rw [if_neg h, e37, b2_f]
    rintro ⟨b, hb, _⟩
    rw [hb] at h
    exact h rfl
