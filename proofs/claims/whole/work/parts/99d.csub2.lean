/-! subsumes -/
theorem MtA0 {ar : Int → Nat} {m9 : Int} {g : Int → Int} {lim : Int} {σ : zS} (h : σ.1 6603 = 0) : MtA ar m9 g lim σ (fun _ => none) := ⟨by omega, fun v _ _ => ⟨by rw [h]; exact ⟨fun h => absurd h bt_0, fun h => absurd rfl h⟩, fun x hx => (by cases hx)⟩⟩
/-- each LITERAL alone -/
theorem sub_p45 {ar : Int → Nat} {pd : Int → Prop} {m9 : Int} {β : Nat} (hβ : 6 ≤ β) {Cs : List CL} {k kd : Nat} {c d : CL} (hc : Cs[k]? = some c) (wc : Wc ar m9 c.1) (hd : Cs[kd]? = some d) (wd : Wc ar m9 d.1) : ∀ (m n : Nat) (σ : zS) (p : Prop), Cx ar pd m9 σ → SC σ Cs → n + m = c.1.length →
    ∃ τ x4 x5, VF σ τ ∧ yE tC_Mat_subsumes_p45 β σ [(k : Int), (kd : Int), (c.1.length : Int), b2 p, hp (pos Cs k) c.1 n, (n : Int)] = yE tC_Mat_subsumes_p88 β τ [(k : Int), (kd : Int), (c.1.length : Int), b2 (p ∧ ∀ (i : Nat) (a : Lt), n ≤ i → c.1[i]? = some a → cov pd d.1 (fun _ => none) [a]), x4, x5]
  | 0, n, σ, p, hC, hS, hm => by
    refine ⟨σ, hp (pos Cs k) c.1 n, (n : Int), FrC.refl, ?_⟩
    rw [yq_Mat_subsumes_p45, kY_Mat_subsumes_p45, if_pos (by omega)]
    rw [b2_c (show p ↔ (p ∧ ∀ (i : Nat) (a : Lt), n ≤ i → c.1[i]? = some a → cov pd d.1 (fun _ => none) [a]) from ⟨fun h => ⟨h, fun i a h1 h2 => by have := (List.getElem?_eq_some_iff.mp h2).1; omega⟩, fun h => h.1⟩)]
  | m + 1, n, σ, p, hC, hS, hm => by
    rw [yq_Mat_subsumes_p45, kY_Mat_subsumes_p45, if_neg (by omega)]
    by_cases hp1 : p
    · rw [b2_t hp1, if_neg (by decide), lt_e]
      obtain ⟨a, ha⟩ : ∃ a, c.1[n]? = some a := ⟨_, List.getElem?_eq_getElem (by omega)⟩
      obtain ⟨σ1, hσ1⟩ : ∃ z, z = zI σ 6603 0 := ⟨_, rfl⟩
      have f1 : VF σ σ1 := by rw [hσ1]; exact FrC_I
      have e6 : σ1.1 6603 = 0 := by rw [hσ1]; exact zI_1
      have w8 := wc.1
      obtain ⟨σ2, t1, t2, _⟩ := cov_ok (pd := pd) hc wc hd wd 1 n (β - 1) σ1 (fun _ => none) (by omega) (by omega) (hC.f f1) (hS.f f1) (MtA0 e6)
      have eD : (c.1.drop n).take 1 = [a] := by
        have hlt : n < c.1.length := by omega
        rw [List.drop_eq_getElem_cons hlt, List.take_succ_cons, List.take_zero]
        have : c.1[n] = a := by
          have := List.getElem?_eq_getElem hlt
          rw [ha] at this; exact (Option.some.inj this).symm
        rw [this]
      rw [eD] at t1
      have t1' : yE tC_Mat_coversAll (β - 1) σ1 [hp (pos Cs k) c.1 n, 1, (kd : Int)] = _ := t1
      have f2 : VF σ σ2 := f1.trans t2
      obtain ⟨τ, x4, x5, u1, u2⟩ := sub_p45 hβ hc wc hd wd m (n + 1) σ2 (cov pd d.1 (fun _ => none) [a]) (hC.f f2) (hS.f f2) (by omega)
      refine ⟨τ, x4, x5, f2.trans u1, ?_⟩
      rw [← hσ1, if_pos (by omega), zbd_of t1', if_pos (by omega), zbd_of (behind_ok ((hS.f f2).hl hc ha)), if_pos (by omega), ← hp_s ha, show (n : Int) + 1 = ((n + 1 : Nat) : Int) by omega, u2]
      congr 5
      apply b2_c
      constructor
      · rintro ⟨h1, h2⟩
        refine ⟨hp1, fun i b hi hb => ?_⟩
        by_cases e : i = n
        · rw [e, ha] at hb
          obtain rfl : a = b := Option.some.inj hb
          exact h1
        · exact h2 i b (by omega) hb
      · rintro ⟨_, h2⟩
        exact ⟨h2 n a (Nat.le_refl _) ha, fun i b hi hb => h2 i b (by omega) hb⟩
    · rw [b2_f hp1, if_pos rfl]
      refine ⟨σ, hp (pos Cs k) c.1 n, (n : Int), FrC.refl, ?_⟩
      rw [b2_f (show ¬ (p ∧ ∀ (i : Nat) (a : Lt), n ≤ i → c.1[i]? = some a → cov pd d.1 (fun _ => none) [a]) from fun h => hp1 h.1)]
theorem sub_ok {ar : Int → Nat} {pd : Int → Prop} {m9 : Int} {β : Nat} (hβ : 14 ≤ β) {σ : zS} {Cs : List CL} (hC : Cx ar pd m9 σ) (hS : SC σ Cs) {k kd : Nat} {c d : CL} (hc : Cs[k]? = some c) (wc : Wc ar m9 c.1) (hd : Cs[kd]? = some d) (wd : Wc ar m9 d.1) : ∃ τ, VF σ τ ∧ yE tC_Mat_subsumes β σ [(k : Int), (kd : Int)] = some (τ, b2 (c.1.length ≤ d.1.length ∧ cov pd d.1 (fun _ => none) c.1)) := by
  have w8 := wc.1
  have N0 : NP pd (fun _ => none) := fun v x h => (by cases h)
  have e127 : ∀ (ρ : zS) (a1 a2 a3 a4 a5 a6 r : Int), (r = 0 ∨ r = 1) → yE tC_Mat_subsumes_p127 β ρ [a1, a2, a3, a4, a5, a6, r] = some (ρ, r) := fun ρ a1 a2 a3 a4 a5 a6 r hr => by rw [yq_Mat_subsumes_p127, kY_Mat_subsumes_p127, if_pos hr]
  have body : ∃ τ, VF σ τ ∧ yE tC_Mat_subsumes_p28 β σ [(k : Int), (kd : Int), (c.1.length : Int), b2 (c.1.length ≤ d.1.length)] = some (τ, b2 (c.1.length ≤ d.1.length ∧ cov pd d.1 (fun _ => none) c.1)) := by
    obtain ⟨σ1, x4, x5, f1, t1⟩ := sub_p45 (pd := pd) (β := β) (by omega) hc wc hd wd c.1.length 0 σ (c.1.length ≤ d.1.length) hC hS (by omega)
    rw [hp_0] at t1
    have t1' : yE tC_Mat_subsumes_p45 β σ [(k : Int), (kd : Int), (c.1.length : Int), b2 (c.1.length ≤ d.1.length), pos Cs k, 0] = _ := t1
    obtain ⟨σ2, hσ2⟩ : ∃ z, z = zI σ1 6603 0 := ⟨_, rfl⟩
    have g2 : VF σ1 σ2 := by rw [hσ2]; exact FrC_I
    have f2 : VF σ σ2 := f1.trans g2
    have e6 : σ2.1 6603 = 0 := by rw [hσ2]; exact zI_1
    rw [yq_Mat_subsumes_p28, kY_Mat_subsumes_p28, if_pos (by omega), zbd_of (hS.f3 hc).2.1, t1', yq_Mat_subsumes_p88, kY_Mat_subsumes_p88, lt_e, ← hσ2]
    by_cases h1 : c.1.length ≤ d.1.length ∧ ∀ (i : Nat) (a : Lt), 0 ≤ i → c.1[i]? = some a → cov pd d.1 (fun _ => none) [a]
    · rw [b2_t h1, if_neg (by decide)]
      by_cases h2 : (c.1.length : Int) = 1
      · rw [if_pos h2, yq_Mat_subsumes_p122, kY_Mat_subsumes_p122, e127 _ _ _ _ _ _ _ _ (Or.inr rfl)]
        refine ⟨σ2, f2, ?_⟩
        rw [b2_t]
        refine ⟨h1.1, ?_⟩
        obtain ⟨a, e⟩ : ∃ a, c.1 = [a] := List.length_eq_one_iff.mp (by omega)
        rw [e]
        exact h1.2 0 a (Nat.le_refl _) (by rw [e]; rfl)
      · rw [if_neg h2, if_pos (by omega), zbd_of ((hS.f f2).f3 hc).2.1, if_pos (by omega)]
        obtain ⟨τ, u1, u2, _⟩ := cov_ok (pd := pd) hc wc hd wd c.1.length 0 (β - 1) σ2 (fun _ => none) (by omega) (by omega) (hC.f f2) (hS.f f2) (MtA0 e6)
        rw [hp_0, List.drop_zero, List.take_length] at u1
        rw [zbd_of u1]
        by_cases h3 : cov pd d.1 (fun _ => none) c.1
        · rw [b2_t h3, if_neg (by decide), yq_Mat_subsumes_p122, kY_Mat_subsumes_p122, e127 _ _ _ _ _ _ _ _ (Or.inr rfl)]
          exact ⟨τ, f2.trans u2, by rw [b2_t ⟨h1.1, h3⟩]⟩
        · rw [b2_f h3, if_pos rfl, yq_Mat_subsumes_p126, kY_Mat_subsumes_p126, e127 _ _ _ _ _ _ _ _ (Or.inl rfl)]
          exact ⟨τ, f2.trans u2, by rw [b2_f (fun h => h3 h.2)]⟩
    · rw [b2_f h1, if_pos rfl, yq_Mat_subsumes_p126, kY_Mat_subsumes_p126, e127 _ _ _ _ _ _ _ _ (Or.inl rfl)]
      refine ⟨σ2, f2, ?_⟩
      rw [b2_f]
      rintro ⟨h2, h3⟩
      exact h1 ⟨h2, fun i a _ ha => cov_one N0 h3 a (List.mem_of_getElem? ha)⟩
  rw [yq_Mat_subsumes, kY_Mat_subsumes, if_pos (by omega), zbd_of (hS.f3 hc).1, if_pos (by omega), zbd_of (hS.f3 hd).1]
  by_cases h : c.1.length ≤ d.1.length
  · rw [if_neg (by omega)]
    rw [b2_t h] at body
    exact body
  · rw [if_pos (by omega)]
    rw [b2_f h] at body
    exact body
