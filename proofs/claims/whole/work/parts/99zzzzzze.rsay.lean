/-! what the reference shows: the TEXT of a TERM, of a LITERAL, of a CLAUSE -/
/-- σ is ρ with the TEXT L shown -/
def SO (ρ σ : zS) (L : List Int) : Prop := (σ.1 3 = (L.length : Int) ∧ (∀ j, j ≠ 3 → σ.1 j = ρ.1 j) ∧ (∀ j q, j ≠ 1 → σ.2.1 j q = ρ.2.1 j q) ∧ Fl (σ.2.1 1) 0 L ∧ ∀ i, -128 ≤ σ.2.1 1 i ∧ σ.2.1 1 i ≤ 127) ∧ (∀ j, j ≠ 1 → j ≠ 3001 → j ≠ 3002 → σ.2.2 j = ρ.2.2 j) ∧ (L.length ≤ σ.2.2 1 ∧ 17 ≤ ρ.2.2 1 ∧ ρ.2.2 1 ≤ σ.2.2 1 ∧ σ.2.2 1 ≤ 50000 ∧ ρ.2.2 1 + 17 * σ.2.2 3001 ≤ σ.2.2 1 ∧ 2 * ρ.2.2 1 + σ.2.2 3002 ≤ 2 * σ.2.2 1)
theorem zi2b_id {c : Int} (h : -128 ≤ c ∧ c ≤ 127) : zi2b c = c := by
  unfold zi2b
  rw [Int8.toInt_toInt32, Int32.toInt_toInt8, i32_to ⟨by omega, by omega⟩]
  exact Int.bmod_eq_of_le (by omega) (by omega)
theorem so_say {ρ σ : zS} {L : List Int} (h : SO ρ σ L) (hl : L.length ≤ 19999) {x : Int} (hx : -128 ≤ x ∧ x ≤ 127) : zsok σ ∧ SO ρ (zSay σ x) (L ++ [x]) := by
  obtain ⟨⟨a1, a2, a3, a4, a5⟩, b, c1, c2, c3, c4, c5, c6⟩ := h
  have ex : znb (zi2b x) = x := by rw [zi2b_id hx, znb_id hx]
  refine ⟨⟨⟨by omega, by omega, by omega, by omega, by omega, by omega⟩, fun i _ => a5 _⟩, ?_⟩
  unfold zSay
  rw [ex]
  by_cases q : σ.1 3 = (σ.2.2 1 : Int)
  · rw [if_pos q]
    have hN : L.length = σ.2.2 1 := by omega
    refine ⟨⟨?_, fun j hj => ?_, fun j q hj => ?_, ?_, fun i => ?_⟩, fun j h1 h2 h3 => ?_, ?_, c2, ?_, ?_, ?_, ?_⟩
    · show (if (3 : Nat) = 3 then σ.1 3 + 1 else σ.1 3) = _
      rw [if_pos rfl, a1]; simp
    · show (if j = 3 then _ else σ.1 j) = _
      rw [if_neg hj]; exact a2 j hj
    · show (if j = 1 then _ else σ.2.1 j q) = _
      rw [if_neg hj]; exact a3 j q hj
    · rw [Fl_app]
      refine ⟨Fl_q (fun p p0 p1 => ?_) a4, ?_, trivial⟩
      · show (if (1 : Nat) = 1 then (if p = (σ.2.2 1 : Int) then x else if p < (σ.2.2 1 : Int) then σ.2.1 1 p else 0) else σ.2.1 1 p) = _
        rw [if_pos rfl, if_neg (by omega), if_pos (by omega)]
      · show (if (1 : Nat) = 1 then (if (0 + (L.length : Int)) = (σ.2.2 1 : Int) then x else if (0 + (L.length : Int)) < (σ.2.2 1 : Int) then σ.2.1 1 (0 + (L.length : Int)) else 0) else σ.2.1 1 (0 + (L.length : Int))) = x
        rw [if_pos rfl, if_pos (by omega)]
    · show -128 ≤ (if (1 : Nat) = 1 then (if i = (σ.2.2 1 : Int) then x else if i < (σ.2.2 1 : Int) then σ.2.1 1 i else 0) else σ.2.1 1 i) ∧ (if (1 : Nat) = 1 then (if i = (σ.2.2 1 : Int) then x else if i < (σ.2.2 1 : Int) then σ.2.1 1 i else 0) else σ.2.1 1 i) ≤ 127
      rw [if_pos rfl]
      by_cases h1 : i = (σ.2.2 1 : Int)
      · rw [if_pos h1]; exact hx
      · rw [if_neg h1]
        by_cases h2 : i < (σ.2.2 1 : Int)
        · rw [if_pos h2]; exact a5 i
        · rw [if_neg h2]; decide
    · show (if j = 3002 then _ else if j = 3001 then _ else if j = 1 then _ else σ.2.2 j) = _
      rw [if_neg h3, if_neg h2, if_neg h1]; exact b j h1 h2 h3
    · show (L ++ [x]).length ≤ 2 * σ.2.2 1
      simp; omega
    · show ρ.2.2 1 ≤ 2 * σ.2.2 1
      omega
    · show 2 * σ.2.2 1 ≤ 50000
      omega
    · show ρ.2.2 1 + 17 * (σ.2.2 3001 + 1) ≤ 2 * σ.2.2 1
      omega
    · show 2 * ρ.2.2 1 + (σ.2.2 3002 + 2 * σ.2.2 1) ≤ 2 * (2 * σ.2.2 1)
      omega
  · rw [if_neg q]
    refine ⟨⟨?_, fun j hj => ?_, fun j q hj => ?_, ?_, fun i => ?_⟩, b, ?_, c2, c3, c4, c5, c6⟩
    · show (if (3 : Nat) = 3 then σ.1 3 + 1 else σ.1 3) = _
      rw [if_pos rfl, a1]; simp
    · show (if j = 3 then _ else σ.1 j) = _
      rw [if_neg hj]; exact a2 j hj
    · show (if j = 1 ∧ q = σ.1 3 then x else σ.2.1 j q) = _
      rw [if_neg (fun w => hj w.1)]; exact a3 j q hj
    · rw [Fl_app]
      refine ⟨Fl_q (fun p p0 p1 => ?_) a4, ?_, trivial⟩
      · show (if (1 : Nat) = 1 ∧ p = σ.1 3 then x else σ.2.1 1 p) = _
        rw [if_neg (fun w => by have := w.2; omega)]
      · show (if (1 : Nat) = 1 ∧ (0 + (L.length : Int)) = σ.1 3 then x else σ.2.1 1 (0 + (L.length : Int))) = x
        rw [if_pos ⟨rfl, by omega⟩]
    · show -128 ≤ (if (1 : Nat) = 1 ∧ i = σ.1 3 then x else σ.2.1 1 i) ∧ (if (1 : Nat) = 1 ∧ i = σ.1 3 then x else σ.2.1 1 i) ≤ 127
      by_cases h1 : (1 : Nat) = 1 ∧ i = σ.1 3
      · rw [if_pos h1]; exact hx
      · rw [if_neg h1]; exact a5 i
    · simp; omega
theorem so_n14 {β : Nat} {ρ σ : zS} {L : List Int} (h : SO ρ σ L) (hl : L.length ≤ 19999) {n : Nat} (hn : n < 1000) : ∃ τ, sE tS_sayNumber_14 β σ [(n : Int)] = some (τ, 0) ∧ SO ρ τ (L ++ [48 + ((n % 10 : Nat) : Int)]) := by
  have e : Int.tmod (n : Int) 10 = ((n % 10 : Nat) : Int) := by
    rw [Int.tmod_eq_emod_of_nonneg (by omega)]; omega
  obtain ⟨h1, h2⟩ := so_say (x := 48 + ((n % 10 : Nat) : Int)) h hl (by omega)
  refine ⟨_, ?_, h2⟩
  rw [sq_sayNumber_14, kV_sayNumber_14, e, if_pos (show zr (48 + ((n % 10 : Nat) : Int)) from ⟨by omega, by omega⟩), if_pos h1, lt_e]
theorem so_num1 {β : Nat} {ρ σ : zS} {L : List Int} (h : SO ρ σ L) (hl : L.length ≤ 19999) {n : Nat} (hn : n ≤ 9) : ∃ τ, sE tS_sayNumber β σ [(n : Int)] = some (τ, 0) ∧ SO ρ τ (L ++ [48 + (n : Int)]) := by
  obtain ⟨τ, t1, t2⟩ := so_n14 (β := β) h hl (n := n) (by omega)
  refine ⟨τ, ?_, ?_⟩
  · rw [sq_sayNumber, kV_sayNumber, if_pos (by omega)]; exact t1
  · rw [Nat.mod_eq_of_lt (by omega)] at t2; exact t2
theorem so_num2 {β : Nat} (hβ : 1 ≤ β) {ρ σ : zS} {L : List Int} (h : SO ρ σ L) (hl : L.length ≤ 19998) {n : Nat} (h0 : 9 < n) (hn : n ≤ 99) : ∃ τ, sE tS_sayNumber β σ [(n : Int)] = some (τ, 0) ∧ SO ρ τ (L ++ [48 + ((n / 10 : Nat) : Int), 48 + ((n % 10 : Nat) : Int)]) := by
  have e : Int.tdiv (n : Int) 10 = ((n / 10 : Nat) : Int) := by
    rw [Int.tdiv_eq_ediv_of_nonneg (by omega)]; omega
  obtain ⟨σ1, s1, s2⟩ := so_num1 (β := β - 1) h (by omega) (n := n / 10) (by omega)
  obtain ⟨τ, t1, t2⟩ := so_n14 (β := β) s2 (by simp; omega) (n := n) (by omega)
  refine ⟨τ, ?_, ?_⟩
  · rw [sq_sayNumber, kV_sayNumber, if_neg (by omega), e, if_pos (show zr ((n / 10 : Nat) : Int) from ⟨by omega, by omega⟩), if_pos hβ, zbd_of s1]; exact t1
  · rw [List.append_assoc] at t2; exact t2
theorem so_num {β : Nat} (hβ : 2 ≤ β) {ρ σ : zS} {L : List Int} (h : SO ρ σ L) (hl : L.length ≤ 19997) {n : Nat} (hn : n < 1000) : ∃ τ, sE tS_sayNumber β σ [(n : Int)] = some (τ, 0) ∧ SO ρ τ (L ++ txN n) := by
  unfold txN
  by_cases h9 : n ≤ 9
  · rw [if_pos h9]; exact so_num1 h (by omega) h9
  rw [if_neg h9]
  by_cases h99 : n ≤ 99
  · rw [if_pos h99]; exact so_num2 (by omega) h (by omega) (by omega) h99
  rw [if_neg h99]
  have e : Int.tdiv (n : Int) 10 = ((n / 10 : Nat) : Int) := by
    rw [Int.tdiv_eq_ediv_of_nonneg (by omega)]; omega
  obtain ⟨σ1, s1, s2⟩ := so_num2 (β := β - 1) (by omega) h (by omega) (n := n / 10) (by omega) (by omega)
  obtain ⟨τ, t1, t2⟩ := so_n14 (β := β) s2 (by simp; omega) (n := n) (by omega)
  refine ⟨τ, ?_, ?_⟩
  · rw [sq_sayNumber, kV_sayNumber, if_neg (by omega), e, if_pos (show zr ((n / 10 : Nat) : Int) from ⟨by omega, by omega⟩), if_pos (by omega), zbd_of s1]; exact t1
  · rw [List.append_assoc] at t2
    have e1 : n / 10 / 10 = n / 100 := by omega
    rw [e1] at t2; exact t2
