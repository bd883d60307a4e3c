/-! the GIVEN is chosen -/
def chQ (o : Int) : List CL → Nat → Option (Nat × Nat) → Option Nat
  | [], _, b => b.map (fun z => z.1)
  | c :: X, k, b => if cst c = 0 then (if o = 0 then (match b with
      | none => chQ o X (k + 1) (some (k, wtL c.1))
      | some z => if z.2 ≤ wtL c.1 then chQ o X (k + 1) b else chQ o X (k + 1) (some (k, wtL c.1))) else some k) else chQ o X (k + 1) b
def no1 : Option Nat → Int
  | none => -1
  | some k => (k : Int)
theorem ch_p21 {β : Nat} (hβ : 1 ≤ β) {σ : zS} {Cs : List CL} (hS : SC σ Cs) {o : Int} : ∀ (X : List CL) (n : Nat) (b : Option (Nat × Nat)), Cs.drop n = X → (∀ z, b = some z → ∃ c, Cs[z.1]? = some c ∧ z.2 = wtL c.1) → yE tC_Sat_choose_p21 β σ [o, no1 (b.map (fun z => z.1)), (n : Int)] = some (σ, no1 (chQ o X n b))
  | [], n, b, hX, hb => by
    have h2 := hS.2.1
    have := List.drop_eq_nil_iff.mp hX
    rw [yq_Sat_choose_p21, kY_Sat_choose_p21, if_pos (by omega)]; rfl
  | c :: X, n, b, hX, hb => by
    have h2 := hS.2.1
    have h20 := hS.2.2.2.2.2.2.2
    have hlt : n < Cs.length := by
      have : ¬ Cs.length ≤ n := fun h => by rw [List.drop_eq_nil_iff.mpr h] at hX; cases hX
      omega
    have hcons := List.drop_eq_getElem_cons hlt
    rw [hX] at hcons
    injection hcons with e1 e2
    have hc : Cs[n]? = some c := by rw [List.getElem?_eq_getElem hlt, e1]
    have g := fun b9 h9 => ch_p21 hβ hS (o := o) X (n + 1) b9 e2.symm h9
    have e79 : ∀ x1 : Int, yE tC_Sat_choose_p79 β σ [o, x1, (n : Int)] = yE tC_Sat_choose_p21 β σ [o, x1, ((n + 1 : Nat) : Int)] := fun x1 => by rw [yq_Sat_choose_p79, kY_Sat_choose_p79, if_pos (by omega), show (n : Int) + 1 = ((n + 1 : Nat) : Int) by omega]
    have gn : yE tC_Sat_choose_p77 β σ [o, no1 (b.map (fun z => z.1)), (n : Int)] = some (σ, no1 (chQ o X (n + 1) (some (n, wtL c.1)))) := by
      rw [yq_Sat_choose_p77, kY_Sat_choose_p77, e79]
      exact g (some (n, wtL c.1)) (fun z hz => by cases hz; exact ⟨c, hc, rfl⟩)
    rw [yq_Sat_choose_p21, kY_Sat_choose_p21, if_neg (by omega), if_pos hβ, zbd_of (hS.f3 hc).2.2.1]
    unfold chQ
    by_cases q : cst c = 0
    · rw [if_pos q, if_pos q]
      by_cases qo : o = 0
      · rw [if_pos qo, if_pos qo]
        cases b with
        | none => rw [if_pos (by rfl)]; exact gn
        | some z =>
          obtain ⟨d, hd, hw⟩ := hb z rfl
          have e0 : no1 ((some z).map (fun z => z.1)) = (z.1 : Int) := rfl
          rw [e0] at gn ⊢
          rw [if_neg (by omega), if_pos hβ, zbd_of (hS.f3 hc).2.2.2, if_pos hβ, zbd_of (hS.f3 hd).2.2.2]
          dsimp only
          by_cases h : z.2 ≤ wtL c.1
          · rw [if_pos (by omega), if_pos h, e79]
            exact g (some z) hb
          · rw [if_neg (by omega), if_neg h]; exact gn
      · rw [if_neg qo, if_neg qo]; rfl
    · rw [if_neg q, if_neg q, e79]
      exact g b hb
theorem ch_ok {β : Nat} (hβ : 1 ≤ β) {σ : zS} {Cs : List CL} (hS : SC σ Cs) : yE tC_Sat_choose β σ [] = some (σ, no1 (chQ (if Int.tmod (zwa (σ.1 5301) 1) 5 = 0 then 1 else 0) Cs 0 none)) := by
  rw [yq_Sat_choose, kY_Sat_choose]
  by_cases h : Int.tmod (zwa (σ.1 5301) 1) 5 = 0
  · rw [if_pos h, if_pos h, yq_Sat_choose_p16, kY_Sat_choose_p16]
    exact ch_p21 hβ hS (o := 1) Cs 0 none List.drop_zero (fun z hz => (by cases hz))
  · rw [if_neg h, if_neg h, yq_Sat_choose_p16, kY_Sat_choose_p16]
    exact ch_p21 hβ hS (o := 0) Cs 0 none List.drop_zero (fun z hz => (by cases hz))
