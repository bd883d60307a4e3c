/-! WORDS of the TEXT: what a position says, and how the reference finds it -/
def skp (T : Int → Int) (n : Int) : Nat → Bool → Int → Int
  | 0, _, p => p
  | k + 1, true, p => if n ≤ p then p else if T p = 10 then skp T n k false (p + 1) else skp T n k true (p + 1)
  | k + 1, false, p => if n ≤ p then p else if T p = 32 ∨ T p = 9 ∨ T p = 10 ∨ T p = 13 then skp T n k false (p + 1) else if T p = 37 then skp T n k true (p + 1) else p
/-- behind blanks and remarks -/
def sk (T : Int → Int) (n p : Int) : Int := skp T n (n - p).toNat false p
theorem skp_ge (T : Int → Int) (n : Int) : ∀ (k : Nat) (b : Bool) (p : Int), p ≤ skp T n k b p
  | 0, _, p => Int.le_refl _
  | k + 1, true, p => by
    unfold skp
    by_cases h : n ≤ p
    · rw [if_pos h]; exact Int.le_refl _
    · rw [if_neg h]
      have h1 := skp_ge T n k false (p + 1)
      have h2 := skp_ge T n k true (p + 1)
      split <;> omega
  | k + 1, false, p => by
    unfold skp
    by_cases h : n ≤ p
    · rw [if_pos h]; exact Int.le_refl _
    · rw [if_neg h]
      have h1 := skp_ge T n k false (p + 1)
      have h2 := skp_ge T n k true (p + 1)
      split
      · omega
      · split <;> omega
theorem skp_le (T : Int → Int) (n : Int) : ∀ (k : Nat) (b : Bool) (p : Int), p ≤ n → skp T n k b p ≤ n
  | 0, _, p, hp => hp
  | k + 1, true, p, hp => by
    unfold skp
    by_cases h : n ≤ p
    · rw [if_pos h]; exact hp
    · rw [if_neg h]
      have h1 := skp_le T n k false (p + 1) (by omega)
      have h2 := skp_le T n k true (p + 1) (by omega)
      split <;> omega
  | k + 1, false, p, hp => by
    unfold skp
    by_cases h : n ≤ p
    · rw [if_pos h]; exact hp
    · rw [if_neg h]
      have h1 := skp_le T n k false (p + 1) (by omega)
      have h2 := skp_le T n k true (p + 1) (by omega)
      split
      · omega
      · split <;> omega
theorem sk_ge (T : Int → Int) (n p : Int) : p ≤ sk T n p := skp_ge ..
theorem sk_le {T : Int → Int} {n p : Int} (h : p ≤ n) : sk T n p ≤ n := skp_le _ _ _ _ _ h
abbrev cLt (c : Int) : Prop := (97 ≤ c ∧ c ≤ 122) ∨ (65 ≤ c ∧ c ≤ 90)
abbrev cIw (c : Int) : Prop := cLt c ∨ (48 ≤ c ∧ c ≤ 57) ∨ c = 95
def wep (T : Int → Int) (n : Int) : Nat → Int → Int
  | 0, p => p
  | k + 1, p => if n ≤ p then p else if cIw (T p) then wep T n k (p + 1) else p
/-- where the letters that begin at p end -/
def we (T : Int → Int) (n p : Int) : Int := wep T n (n - p).toNat p
theorem wep_ge (T : Int → Int) (n : Int) : ∀ (k : Nat) (p : Int), p ≤ wep T n k p
  | 0, p => Int.le_refl _
  | k + 1, p => by
    unfold wep
    have h1 := wep_ge T n k (p + 1)
    split
    · omega
    · split <;> omega
theorem wep_le (T : Int → Int) (n : Int) : ∀ (k : Nat) (p : Int), p ≤ n → wep T n k p ≤ n
  | 0, p, hp => hp
  | k + 1, p, hp => by
    unfold wep
    by_cases h : n ≤ p
    · rw [if_pos h]; exact hp
    · rw [if_neg h]
      have h1 := wep_le T n k (p + 1) (by omega)
      split <;> omega
abbrev cAt (T : Int → Int) (n p c : Int) : Prop := p < n ∧ T p = c
/-- a sign at q: what it is, and where it ends -/
def sgn (T : Int → Int) (n q : Int) : Int × Int :=
  if T q = 33 then (if cAt T n (q + 1) 61 then (300, q + 2) else (33, q + 1))
  else if T q = 38 ∨ T q = 40 ∨ T q = 41 ∨ T q = 44 ∨ T q = 46 ∨ T q = 58 then (T q, q + 1)
  else if T q = 60 then (if cAt T n (q + 1) 61 ∧ cAt T n (q + 2) 62 then (302, q + 3) else (303, q + 1))
  else if T q = 61 then (if cAt T n (q + 1) 62 then (301, q + 2) else (61, q + 1))
  else if T q = 63 ∨ T q = 124 ∨ T q = 126 then (T q, q + 1)
  else (303, q + 1)
/-- the WORD or sign at q, which is no blank: what it is, and where it ends -/
def tok (T : Int → Int) (n q : Int) : Int × Int :=
  if n ≤ q then (0, q)
  else if cLt (T q) then ((if we T n q - q ≤ 31 then (if 97 ≤ T q then 2 else 1) else 303), we T n q)
  else sgn T n q
theorem sgn_e {T : Int → Int} {n q : Int} (h : q < n) : q < (sgn T n q).2 ∧ (sgn T n q).2 ≤ n := by
  unfold sgn
  repeat' split
  all_goals (constructor <;> simp_all <;> omega)
theorem tok_e {T : Int → Int} {n q : Int} (h : q < n) : q < (tok T n q).2 ∧ (tok T n q).2 ≤ n := by
  unfold tok
  rw [if_neg (by omega)]
  split
  · rename_i hl
    have h1 := wep_le T n (n - q).toNat q (by omega)
    have h2 : (n - q).toNat = (n - q - 1).toNat + 1 := by omega
    have h3 : q + 1 ≤ we T n q := by
      unfold we
      rw [h2]
      show q + 1 ≤ wep T n (_ + 1) q
      unfold wep
      rw [if_neg (by omega), if_pos (Or.inl hl)]
      exact wep_ge ..
    exact ⟨by omega, h1⟩
  · exact sgn_e h
theorem tok_0 {T : Int → Int} {n q : Int} (h : q < n) : (tok T n q).1 ≠ 0 := by
  unfold tok
  rw [if_neg (by omega)]
  split
  · split
    · split <;> simp
    · simp
  · unfold sgn
    repeat' split
    all_goals (simp_all <;> omega)
theorem zI_same {σ : zS} {k : Nat} {x : Int} (h : σ.1 k = x) : zI σ k x = σ := by
  subst h
  unfold zI
  refine Prod.ext (funext fun j => ?_) rfl
  show (if j = k then σ.1 k else σ.1 j) = σ.1 j
  by_cases hj : j = k
  · rw [if_pos hj, hj]
  · rw [if_neg hj]
theorem zI_zI {σ : zS} {k : Nat} {x y : Int} : zI (zI σ k x) k y = zI σ k y := by
  unfold zI
  refine Prod.ext (funext fun j => ?_) rfl
  show (if j = k then y else if j = k then x else σ.1 j) = (if j = k then y else σ.1 j)
  by_cases hj : j = k
  · rw [if_pos hj, if_pos hj]
  · rw [if_neg hj, if_neg hj, if_neg hj]
theorem pt_ok (β : Nat) (T : Int → Int) (n : Int) (hn : n ≤ 65536) : ∀ (k : Nat) (σ : zS) (p : Int), σ.2.1 0 = T → σ.1 2 = n → σ.1 7 = p → 0 ≤ p → p ≤ n → n - p = k → zE tM_parts_8 β σ [0] = some (zI σ 7 (skp T n k false p), 0) ∧ zE tM_parts_113 β σ [0] = some (zI σ 7 (skp T n k true p), 0)
  | 0, σ, p, hT, h2, h7, hp, hpn, hk => by
    have e8 : zE tM_parts_8 β σ [0] = some (σ, 0) := by
      rw [zq_parts_8, kZ_parts_8, if_pos (by omega), zq_parts_88, kZ_parts_88, if_pos (by omega), zq_parts_2, kZ_parts_2, if_pos rfl]
    have es : zI σ 7 p = σ := zI_same h7
    refine ⟨?_, ?_⟩
    · rw [e8]; show _ = some (zI σ 7 p, 0); rw [es]
    · rw [zq_parts_113, kZ_parts_113, if_pos (by omega), zq_parts_151, kZ_parts_151, zq_parts_2, kZ_parts_2, if_neg (by decide), e8]
      show _ = some (zI σ 7 p, 0); rw [es]
  | k + 1, σ, p, hT, h2, h7, hp, hpn, hk => by
    have hb : zb (σ.1 7) 65536 := ⟨by omega, by omega⟩
    have hlt : ¬ σ.1 2 ≤ σ.1 7 := by omega
    obtain ⟨i1, i2⟩ := pt_ok β T n hn k (zI σ 7 (p + 1)) (p + 1) hT (by rw [zI_o]; exact h2) zI_1 (by omega) (by omega) (by omega)
    rw [zI_zI] at i1 i2
    have e75 : zE tM_parts_75 β σ [0] = some (zI σ 7 (skp T n k false (p + 1)), 0) := by
      rw [zq_parts_75, kZ_parts_75, h7, if_pos ⟨by omega, by omega⟩]
      exact i1
    have eT : σ.2.1 0 (σ.1 7) = T p := by rw [hT, h7]
    have e8 : zE tM_parts_8 β σ [0] = some (zI σ 7 (skp T n (k + 1) false p), 0) := by
      rw [zq_parts_8, kZ_parts_8, if_neg hlt, if_pos hb, eT]
      show _ = some (zI σ 7 (if n ≤ p then p else if T p = 32 ∨ T p = 9 ∨ T p = 10 ∨ T p = 13 then skp T n k false (p + 1) else if T p = 37 then skp T n k true (p + 1) else p), 0)
      rw [if_neg (by omega : ¬ n ≤ p)]
      by_cases c1 : T p = 32
      · rw [if_pos c1, if_pos (Or.inl c1), e75]
      rw [if_neg c1]
      by_cases c2 : T p = 9
      · rw [if_pos c2, if_pos (Or.inr (Or.inl c2)), e75]
      rw [if_neg c2]
      by_cases c3 : T p = 10
      · rw [if_pos c3, if_pos (Or.inr (Or.inr (Or.inl c3))), e75]
      rw [if_neg c3]
      by_cases c4 : T p = 13
      · rw [if_pos c4, if_pos (Or.inr (Or.inr (Or.inr c4))), e75]
      rw [if_neg c4, if_neg (by omega : ¬ (T p = 32 ∨ T p = 9 ∨ T p = 10 ∨ T p = 13)), zq_parts_88, kZ_parts_88, if_neg hlt, if_pos hb, eT]
      by_cases c5 : T p = 37
      · rw [if_pos c5, if_pos c5, zq_parts_113, kZ_parts_113, if_neg hlt, if_pos hb, eT, if_neg (by omega), h7, if_pos ⟨by omega, by omega⟩]
        exact i2
      · rw [if_neg c5, if_neg c5, zq_parts_2, kZ_parts_2, if_pos rfl, zI_same h7]
    refine ⟨e8, ?_⟩
    rw [zq_parts_113, kZ_parts_113, if_neg hlt, if_pos hb, eT]
    show _ = some (zI σ 7 (if n ≤ p then p else if T p = 10 then skp T n k false (p + 1) else skp T n k true (p + 1)), 0)
    rw [if_neg (by omega : ¬ n ≤ p)]
    by_cases c3 : T p = 10
    · rw [if_pos c3, if_pos c3, zq_parts_151, kZ_parts_151, zq_parts_2, kZ_parts_2, if_neg (by decide), e8]
      show some (zI σ 7 (if n ≤ p then p else if T p = 32 ∨ T p = 9 ∨ T p = 10 ∨ T p = 13 then skp T n k false (p + 1) else if T p = 37 then skp T n k true (p + 1) else p), (0 : Int)) = _
      rw [if_neg (by omega : ¬ n ≤ p), if_pos (Or.inr (Or.inr (Or.inl c3)))]
    · rw [if_neg c3, if_neg c3, h7, if_pos ⟨by omega, by omega⟩]
      exact i2
theorem parts_ok {β : Nat} {σ : zS} (hn : σ.1 2 ≤ 65536) (h0 : 0 ≤ σ.1 7) (h1 : σ.1 7 ≤ σ.1 2) : zE tM_parts β σ [] = some (zI σ 7 (sk (σ.2.1 0) (σ.1 2) (σ.1 7)), 0) := by
  rw [zq_parts, kZ_parts, zq_parts_2, kZ_parts_2, if_neg (by decide)]
  exact (pt_ok β _ _ hn _ σ _ rfl rfl rfl h0 h1 (by omega)).1
theorem letter_ok {β : Nat} {σ : zS} {c : Int} : zE tM_letter β σ [c] = some (σ, b2 (cLt c)) := by
  have y : zE tM_letter_24 β σ [c] = some (σ, 1) := by rw [zq_letter_24, kZ_letter_24, zq_letter_29, kZ_letter_29, if_pos (Or.inr rfl)]
  have no : zE tM_letter_28 β σ [c] = some (σ, 0) := by rw [zq_letter_28, kZ_letter_28, zq_letter_29, kZ_letter_29, if_pos (Or.inl rfl)]
  have e12 : ¬ (97 ≤ c ∧ c ≤ 122) → zE tM_letter_12 β σ [c] = some (σ, b2 (cLt c)) := fun hh => by
    rw [zq_letter_12, kZ_letter_12]
    by_cases h1 : c < 65
    · rw [if_pos h1, no, b2_f (by unfold cLt; omega)]
    rw [if_neg h1]
    by_cases h2 : 90 < c
    · rw [if_pos h2, no, b2_f (by unfold cLt; omega)]
    · rw [if_neg h2, y, b2_t (by unfold cLt; omega)]
  rw [zq_letter, kZ_letter]
  by_cases h1 : c < 97
  · rw [if_pos h1]; exact e12 (by omega)
  rw [if_neg h1]
  by_cases h2 : c ≤ 122
  · rw [if_pos h2, y, b2_t (by unfold cLt; omega)]
  · rw [if_neg h2]; exact e12 (by omega)
theorem inWord_ok {β : Nat} (hβ : 1 ≤ β) {σ : zS} {c : Int} : zE tM_inWord β σ [c] = some (σ, b2 (cIw c)) := by
  have y : zE tM_inWord_26 β σ [c] = some (σ, 1) := by rw [zq_inWord_26, kZ_inWord_26, zq_inWord_31, kZ_inWord_31, if_pos (Or.inr rfl)]
  have e20 : ¬ cLt c → ¬ (48 ≤ c ∧ c ≤ 57) → zE tM_inWord_20 β σ [c] = some (σ, b2 (cIw c)) := fun h1 h2 => by
    rw [zq_inWord_20, kZ_inWord_20]
    by_cases h3 : c = 95
    · rw [if_pos h3, y, b2_t (Or.inr (Or.inr h3))]
    · rw [if_neg h3, zq_inWord_31, kZ_inWord_31, if_pos (Or.inl rfl), b2_f]
      rintro (h | h | h)
      · exact h1 h
      · exact h2 h
      · exact h3 h
  rw [zq_inWord, kZ_inWord, if_pos hβ, zbd_of letter_ok]
  by_cases hl : cLt c
  · rw [b2_t hl, if_neg (by decide), y, b2_t (Or.inl hl)]
  rw [b2_f hl, if_pos rfl]
  by_cases h1 : c < 48
  · rw [if_pos h1]; exact e20 hl (by omega)
  rw [if_neg h1]
  by_cases h2 : c ≤ 57
  · rw [if_pos h2, y, b2_t (Or.inr (Or.inl ⟨by omega, h2⟩))]
  · rw [if_neg h2]; exact e20 hl (by omega)
theorem at_ok {β : Nat} {σ : zS} {p c : Int} (hn : σ.1 2 ≤ 65536) (hp : 0 ≤ p) : zE tM_at β σ [p, c] = some (σ, b2 (cAt (σ.2.1 0) (σ.1 2) p c)) := by
  have no : zE tM_at_22 β σ [p, c] = some (σ, 0) := by rw [zq_at_22, kZ_at_22, zq_at_23, kZ_at_23, if_pos (Or.inl rfl)]
  rw [zq_at, kZ_at]
  by_cases h1 : σ.1 2 ≤ p
  · rw [if_pos h1, no, b2_f (by rintro ⟨h, _⟩; omega)]
  rw [if_neg h1, if_pos ⟨hp, by omega⟩]
  by_cases h2 : σ.2.1 0 p = c
  · rw [if_pos h2, zq_at_23, kZ_at_23, if_pos (Or.inr rfl), b2_t ⟨by omega, h2⟩]
  · rw [if_neg h2, no, b2_f (by rintro ⟨_, h⟩; exact h2 h)]
theorem sign_ok {β : Nat} (hβ : 1 ≤ β) {σ : zS} {T : Int → Int} {n q : Int} (hT : σ.2.1 0 = T) (h2 : σ.1 2 = n) (hq : σ.1 7 = q) (hn : n ≤ 65536) (h0 : 0 ≤ q) (h1 : q < n) : zE tM_sign β σ [T q] = some (zI σ 10 (sgn T n q).2, (sgn T n q).1) := by
  obtain ⟨ch, hc⟩ : ∃ c, c = T q := ⟨_, rfl⟩
  obtain ⟨σ1, hs1⟩ : ∃ s, s = zI σ 10 (q + 1) := ⟨_, rfl⟩
  have a1 : ∀ {p c : Int}, 0 ≤ p → zE tM_at (β - 1) σ1 [p, c] = some (σ1, b2 (cAt T n p c)) := fun {p c} hp => by
    have := at_ok (β := β - 1) (σ := σ1) (p := p) (c := c) (by rw [hs1, zI_o]; omega) hp
    rw [this]
    rw [hs1, zI_o, h2, zI_2, hT]
  have e7 : σ1.1 7 = q := by rw [hs1, zI_o, hq]
  have e10 : σ1.1 10 = q + 1 := by rw [hs1, zI_1]
  have hz : ∀ x : Int, zI σ1 10 x = zI σ 10 x := fun x => by rw [hs1, zI_zI]
  rw [← hc, zq_sign, kZ_sign, hq, if_pos ⟨by omega, by omega⟩, ← hs1]
  show (if ch = 33 then _ else _) = _
  unfold sgn
  rw [← hc]
  by_cases c1 : ch = 33
  · rw [if_pos c1, if_pos c1, e7, if_pos ⟨by omega, by omega⟩, if_pos hβ, zbd_of (a1 (by omega))]
    by_cases ha : cAt T n (q + 1) 61
    · rw [b2_t ha, if_neg (by decide), if_pos ha, e10, if_pos ⟨by omega, by omega⟩]
      show some (zI σ1 10 _, (300 : Int)) = _
      rw [hz, show q + 1 + 1 = q + 2 by omega]
    · rw [b2_f ha, if_pos rfl, if_neg ha, hs1, c1]
  rw [if_neg c1, if_neg c1]
  by_cases c2 : ch = 38 ∨ ch = 40 ∨ ch = 41 ∨ ch = 44 ∨ ch = 46 ∨ ch = 58
  · rw [if_pos c2]
    have : (if ch = 38 then some (σ1, ch) else if ch = 40 then some (σ1, ch) else if ch = 41 then some (σ1, ch) else if ch = 44 then some (σ1, ch) else if ch = 46 then some (σ1, ch) else if ch = 58 then some (σ1, ch) else none) = some (σ1, ch) := by
      repeat' split
      all_goals first | rfl | omega
    rcases c2 with c | c | c | c | c | c <;> (simp [c]; rw [hs1])
  rw [if_neg c2]
  have d1 : ¬ ch = 38 := fun h => c2 (by omega)
  have d2 : ¬ ch = 40 := fun h => c2 (by omega)
  have d3 : ¬ ch = 41 := fun h => c2 (by omega)
  have d4 : ¬ ch = 44 := fun h => c2 (by omega)
  have d5 : ¬ ch = 46 := fun h => c2 (by omega)
  have d6 : ¬ ch = 58 := fun h => c2 (by omega)
  rw [if_neg d1, if_neg d2, if_neg d3, if_neg d4, if_neg d5, if_neg d6]
  by_cases c3 : ch = 60
  · rw [if_pos c3, if_pos c3, e7, if_pos ⟨by omega, by omega⟩, if_pos hβ, zbd_of (a1 (by omega))]
    by_cases ha : cAt T n (q + 1) 61
    · rw [b2_t ha, if_neg (by decide), e7, if_pos ⟨by omega, by omega⟩, if_pos hβ, zbd_of (a1 (by omega))]
      by_cases hb : cAt T n (q + 2) 62
      · rw [b2_t hb, if_neg (by decide), e10, if_pos ⟨by omega, by omega⟩, if_pos ⟨ha, hb⟩]
        show some (zI σ1 10 _, (302 : Int)) = _
        rw [hz, show q + 1 + 2 = q + 3 by omega]
      · rw [b2_f hb, if_pos rfl, if_neg (fun h => hb h.2), zq_sign_210, kZ_sign_210, hs1]
    · rw [b2_f ha, if_pos rfl, if_neg (fun h => ha h.1), zq_sign_210, kZ_sign_210, hs1]
  rw [if_neg c3, if_neg c3]
  by_cases c4 : ch = 61
  · rw [if_pos c4, if_pos c4, e7, if_pos ⟨by omega, by omega⟩, if_pos hβ, zbd_of (a1 (by omega))]
    by_cases ha : cAt T n (q + 1) 62
    · rw [b2_t ha, if_neg (by decide), if_pos ha, e10, if_pos ⟨by omega, by omega⟩]
      show some (zI σ1 10 _, (301 : Int)) = _
      rw [hz, show q + 1 + 1 = q + 2 by omega]
    · rw [b2_f ha, if_pos rfl, if_neg ha, hs1, c4]
  rw [if_neg c4, if_neg c4]
  by_cases c5 : ch = 63 ∨ ch = 124 ∨ ch = 126
  · rw [if_pos c5]
    rcases c5 with c | c | c <;> (simp [c]; rw [hs1])
  · rw [if_neg c5, if_neg (fun h => c5 (by omega)), if_neg (fun h => c5 (by omega)), if_neg (fun h => c5 (by omega)), hs1]
