/-! is the GIVEN SUBSUMED -/
def subL (pd : Int → Prop) (C D : List Lt) : Prop := C.length ≤ D.length ∧ cov pd D (fun _ => none) C
theorem isd_p2 {ar : Int → Nat} {pd : Int → Prop} {m9 : Int} {β : Nat} (hβ : 15 ≤ β) {Cs : List CL} (wC : ∀ c ∈ Cs, Wc ar m9 c.1) {g : Nat} {G : CL} (hg : Cs[g]? = some G) : ∀ (m n : Nat) (σ : zS), Cx ar pd m9 σ → SC σ Cs → n + m = Cs.length →
    ∃ τ, VF σ τ ∧ yE tC_Sat_isSubsumed_p2 β σ [(g : Int), (n : Int)] = some (τ, b2 (∃ (i : Nat) (c : CL), n ≤ i ∧ Cs[i]? = some c ∧ cst c = 1 ∧ subL pd c.1 G.1))
  | 0, n, σ, hC, hS, hm => by
    have h2 := hS.2.1
    refine ⟨σ, FrC.refl, ?_⟩
    rw [yq_Sat_isSubsumed_p2, kY_Sat_isSubsumed_p2, if_pos (by omega), b2_f]
    rintro ⟨i, c, h1, h3, _⟩
    have := (List.getElem?_eq_some_iff.mp h3).1
    omega
  | m + 1, n, σ, hC, hS, hm => by
    have h2 := hS.2.1
    have h20 := hS.2.2.2.2.2.2.2
    obtain ⟨c, hc⟩ : ∃ c, Cs[n]? = some c := ⟨_, List.getElem?_eq_getElem (by omega)⟩
    have next : ∀ ρ : zS, VF σ ρ → ¬ (cst c = 1 ∧ subL pd c.1 G.1) → ∃ τ, VF σ τ ∧ yE tC_Sat_isSubsumed_p35 β ρ [(g : Int), (n : Int)] = some (τ, b2 (∃ (i : Nat) (c : CL), n ≤ i ∧ Cs[i]? = some c ∧ cst c = 1 ∧ subL pd c.1 G.1)) := fun ρ fρ hn => by
      obtain ⟨τ, t1, t2⟩ := isd_p2 hβ wC hg m (n + 1) ρ (hC.f fρ) (hS.f fρ) (by omega)
      refine ⟨τ, fρ.trans t1, ?_⟩
      rw [yq_Sat_isSubsumed_p35, kY_Sat_isSubsumed_p35, if_pos (by omega), show (n : Int) + 1 = ((n + 1 : Nat) : Int) by omega, t2]
      congr 2
      refine b2_c ⟨?_, ?_⟩
      · rintro ⟨i, b, u1, u2⟩; exact ⟨i, b, by omega, u2⟩
      · rintro ⟨i, b, u1, u2, u3⟩
        by_cases e : i = n
        · rw [e, hc] at u2
          obtain rfl : c = b := Option.some.inj u2
          exact absurd u3 hn
        · exact ⟨i, b, by omega, u2, u3⟩
    rw [yq_Sat_isSubsumed_p2, kY_Sat_isSubsumed_p2, if_neg (by omega), if_pos (by omega), zbd_of (proc_ok (β := β - 1) (by omega) hS hc)]
    by_cases q : cst c = 1
    · rw [b2_t q, if_neg (by decide), if_pos (by omega)]
      obtain ⟨σ1, f1, e1⟩ := sub_ok (pd := pd) (β := β - 1) (by omega) hC hS hc (wC c (List.mem_of_getElem? hc)) hg (wC G (List.mem_of_getElem? hg))
      have e1' : yE tC_Mat_subsumes (β - 1) σ [(n : Int), (g : Int)] = some (σ1, b2 (subL pd c.1 G.1)) := e1
      rw [zbd_of e1']
      by_cases h : subL pd c.1 G.1
      · rw [b2_t h, if_neg (by decide)]
        exact ⟨σ1, f1, by rw [b2_t ⟨n, c, Nat.le_refl _, hc, q, h⟩]⟩
      · rw [b2_f h, if_pos rfl]
        exact next σ1 f1 (fun z => h z.2)
    · rw [b2_f q, if_pos rfl]
      exact next σ FrC.refl (fun z => q z.1)
theorem isd_ok {ar : Int → Nat} {pd : Int → Prop} {m9 : Int} {β : Nat} (hβ : 15 ≤ β) {σ : zS} {Cs : List CL} (hC : Cx ar pd m9 σ) (hS : SC σ Cs) (wC : ∀ c ∈ Cs, Wc ar m9 c.1) {g : Nat} {G : CL} (hg : Cs[g]? = some G) : ∃ τ, VF σ τ ∧ yE tC_Sat_isSubsumed β σ [(g : Int)] = some (τ, b2 (∃ (i : Nat) (c : CL), Cs[i]? = some c ∧ cst c = 1 ∧ subL pd c.1 G.1)) := by
  obtain ⟨τ, t1, t2⟩ := isd_p2 (pd := pd) hβ wC hg Cs.length 0 σ hC hS (by omega)
  refine ⟨τ, t1, ?_⟩
  have t2' : yE tC_Sat_isSubsumed_p2 β σ [(g : Int), 0] = _ := t2
  rw [yq_Sat_isSubsumed, kY_Sat_isSubsumed, t2']
  congr 2
  exact b2_c ⟨fun ⟨i, c, _, h⟩ => ⟨i, c, h⟩, fun ⟨i, c, h⟩ => ⟨i, c, Nat.zero_le _, h⟩⟩
