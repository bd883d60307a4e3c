/-! the class: how many TERMS each SYMBOL has (7) -/
def ArC (σ : zS) (ar : Int → Nat) (p : Int → Prop) : Prop := ∀ c, p c → 0 ≤ c → c < 551 ∧ σ.2.1 7 c = (ar c : Int)
theorem ArC.q {σ τ : zS} {ar : Int → Nat} {p : Int → Prop} (h : ArC σ ar p) (e : ∀ q, τ.2.1 7 q = σ.2.1 7 q) : ArC τ ar p := fun c h1 h2 => by rw [e]; exact h c h1 h2
theorem aft16_loop {ar : Int → Nat} {p : Int → Prop} {σ : zS} (hA : ArC σ ar p) (hL : ((((σ.2.2 16) : Nat) : Int) : Int) ≤ 100000000) : ∀ (m : Nat) (F : T) (β : Nat) (x0 q : Int), wt F ≤ m → Fl (σ.2.1 16) q (fl F) → wf ar p F → 0 ≤ q → q + (wt F : Int) ≤ (((σ.2.2 16) : Nat) : Int) → yE tC_Sym_after_16_p5 β σ [x0, (len F : Int), q] = some (σ, q + (wt F : Int))
  | m, .leaf (), β, x0, q, _, _, _, _, _ => by
    have e : q + ((wt (.leaf ()) : Nat) : Int) = q := by simp [wt]
    have e2 : ((len (.leaf ()) : Nat) : Int) = 0 := by simp [len]
    rw [yq_Sym_after_16_p5, kY_Sym_after_16_p5, e, e2]
    by_cases h : (((σ.2.2 16) : Nat) : Int) ≤ q
    · rw [if_pos h, yq_Sym_after_16_p47, kY_Sym_after_16_p47]
    · rw [if_neg h, if_pos (by omega), yq_Sym_after_16_p47, kY_Sym_after_16_p47]
  | 0, .branch n k s, β, x0, q, hm, _, _, _, _ => by simp only [wt] at hm; omega
  | m + 1, .branch n k s, β, x0, q, hm, hF, hw, h0, hq => by
    obtain ⟨h1, h2⟩ := hF
    have e9 : q + 1 + (wt (cat k s) : Int) = q + (wt (.branch n k s) : Int) := by rw [wt_cat]; simp only [wt]; omega
    have ih := aft16_loop hA hL m (cat k s) β x0 (q + 1) (by rw [wt_cat]; simp only [wt] at hm; omega) (by rw [fl_cat]; exact h2) (wf_cat hw.2.2.1 hw.2.2.2) (by omega) (by rw [e9]; exact hq)
    rw [e9] at ih
    have hl : (len (cat k s) : Int) = (len k : Int) + (len s : Int) := by rw [len_cat]; omega
    rw [hl] at ih
    have a1 := len_le_wt k
    have a2 := len_le_wt s
    have e3 : ((len (.branch n k s) : Nat) : Int) = 1 + (len s : Int) := by simp only [len]; omega
    have hq' := hq
    simp only [wt] at hq'
    rw [yq_Sym_after_16_p5, kY_Sym_after_16_p5, e3, if_neg (by omega), if_neg (by omega), if_pos (by omega), h1]
    have b3 := hw.1
    by_cases hc : 0 ≤ cl n
    · obtain ⟨b1, b2⟩ := hA _ hw.2.1 hc
      rw [if_neg (by omega)] at b3
      rw [if_pos hc, if_pos (by omega), b2, if_pos (by omega), yq_Sym_after_16_p39, kY_Sym_after_16_p39, if_pos (by omega), if_pos (by omega), show (1 + (len s : Int) + ((ar (cl n) : Int) - 1)) = (len k : Int) + (len s : Int) by omega]
      exact ih
    · rw [if_pos (by omega)] at b3
      rw [if_neg hc, yq_Sym_after_16_p39, kY_Sym_after_16_p39, if_pos (by omega), if_pos (by omega), show (1 + (len s : Int) + -1) = (len k : Int) + (len s : Int) by omega]
      exact ih
theorem aft16 {ar : Int → Nat} {p : Int → Prop} {σ : zS} (hA : ArC σ ar p) (hL : ((((σ.2.2 16) : Nat) : Int) : Int) ≤ 100000000) {x : Tm} {β : Nat} {q : Int} (hF : Fl (σ.2.1 16) q (fl (tt x))) (hw : wf ar p (tt x)) (h0 : 0 ≤ q) (hq : q + (tw x : Int) ≤ (((σ.2.2 16) : Nat) : Int)) : yE tC_Sym_after_16 β σ [q] = some (σ, q + (tw x : Int)) := by
  have e : (wt (tt x) : Int) = (tw x : Int) := by simp only [tt, tw, wt]; omega
  have := aft16_loop hA hL _ (tt x) β q q (Nat.le_refl _) hF hw h0 (by rw [e]; exact hq)
  rw [e] at this
  rw [yq_Sym_after_16, kY_Sym_after_16]
  have e1 : ((len (tt x) : Nat) : Int) = 1 := by simp [tt, len]
  rw [e1] at this
  exact this
theorem aft40_loop {ar : Int → Nat} {p : Int → Prop} {σ : zS} (hA : ArC σ ar p) (hL : (100 : Int) ≤ 100000000) : ∀ (m : Nat) (F : T) (β : Nat) (x0 q : Int), wt F ≤ m → Fl (σ.2.1 40) q (fl F) → wf ar p F → 0 ≤ q → q + (wt F : Int) ≤ 100 → yE tC_Sym_after_40_p5 β σ [x0, (len F : Int), q] = some (σ, q + (wt F : Int))
  | m, .leaf (), β, x0, q, _, _, _, _, _ => by
    have e : q + ((wt (.leaf ()) : Nat) : Int) = q := by simp [wt]
    have e2 : ((len (.leaf ()) : Nat) : Int) = 0 := by simp [len]
    rw [yq_Sym_after_40_p5, kY_Sym_after_40_p5, e, e2]
    by_cases h : 100 ≤ q
    · rw [if_pos h, yq_Sym_after_40_p47, kY_Sym_after_40_p47]
    · rw [if_neg h, if_pos (by omega), yq_Sym_after_40_p47, kY_Sym_after_40_p47]
  | 0, .branch n k s, β, x0, q, hm, _, _, _, _ => by simp only [wt] at hm; omega
  | m + 1, .branch n k s, β, x0, q, hm, hF, hw, h0, hq => by
    obtain ⟨h1, h2⟩ := hF
    have e9 : q + 1 + (wt (cat k s) : Int) = q + (wt (.branch n k s) : Int) := by rw [wt_cat]; simp only [wt]; omega
    have ih := aft40_loop hA hL m (cat k s) β x0 (q + 1) (by rw [wt_cat]; simp only [wt] at hm; omega) (by rw [fl_cat]; exact h2) (wf_cat hw.2.2.1 hw.2.2.2) (by omega) (by rw [e9]; exact hq)
    rw [e9] at ih
    have hl : (len (cat k s) : Int) = (len k : Int) + (len s : Int) := by rw [len_cat]; omega
    rw [hl] at ih
    have a1 := len_le_wt k
    have a2 := len_le_wt s
    have e3 : ((len (.branch n k s) : Nat) : Int) = 1 + (len s : Int) := by simp only [len]; omega
    have hq' := hq
    simp only [wt] at hq'
    rw [yq_Sym_after_40_p5, kY_Sym_after_40_p5, e3, if_neg (by omega), if_neg (by omega), if_pos (by omega), h1]
    have b3 := hw.1
    by_cases hc : 0 ≤ cl n
    · obtain ⟨b1, b2⟩ := hA _ hw.2.1 hc
      rw [if_neg (by omega)] at b3
      rw [if_pos hc, if_pos (by omega), b2, if_pos (by omega), yq_Sym_after_40_p39, kY_Sym_after_40_p39, if_pos (by omega), if_pos (by omega), show (1 + (len s : Int) + ((ar (cl n) : Int) - 1)) = (len k : Int) + (len s : Int) by omega]
      exact ih
    · rw [if_pos (by omega)] at b3
      rw [if_neg hc, yq_Sym_after_40_p39, kY_Sym_after_40_p39, if_pos (by omega), if_pos (by omega), show (1 + (len s : Int) + -1) = (len k : Int) + (len s : Int) by omega]
      exact ih
theorem aft40 {ar : Int → Nat} {p : Int → Prop} {σ : zS} (hA : ArC σ ar p) (hL : (100 : Int) ≤ 100000000) {x : Tm} {β : Nat} {q : Int} (hF : Fl (σ.2.1 40) q (fl (tt x))) (hw : wf ar p (tt x)) (h0 : 0 ≤ q) (hq : q + (tw x : Int) ≤ 100) : yE tC_Sym_after_40 β σ [q] = some (σ, q + (tw x : Int)) := by
  have e : (wt (tt x) : Int) = (tw x : Int) := by simp only [tt, tw, wt]; omega
  have := aft40_loop hA hL _ (tt x) β q q (Nat.le_refl _) hF hw h0 (by rw [e]; exact hq)
  rw [e] at this
  rw [yq_Sym_after_40, kY_Sym_after_40]
  have e1 : ((len (tt x) : Nat) : Int) = 1 := by simp [tt, len]
  rw [e1] at this
  exact this
theorem aft48_loop {ar : Int → Nat} {p : Int → Prop} {σ : zS} (hA : ArC σ ar p) (hL : ((((σ.2.2 48) : Nat) : Int) : Int) ≤ 100000000) : ∀ (m : Nat) (F : T) (β : Nat) (x0 q : Int), wt F ≤ m → Fl (σ.2.1 48) q (fl F) → wf ar p F → 0 ≤ q → q + (wt F : Int) ≤ (((σ.2.2 48) : Nat) : Int) → yE tC_Sym_after_48_p5 β σ [x0, (len F : Int), q] = some (σ, q + (wt F : Int))
  | m, .leaf (), β, x0, q, _, _, _, _, _ => by
    have e : q + ((wt (.leaf ()) : Nat) : Int) = q := by simp [wt]
    have e2 : ((len (.leaf ()) : Nat) : Int) = 0 := by simp [len]
    rw [yq_Sym_after_48_p5, kY_Sym_after_48_p5, e, e2]
    by_cases h : (((σ.2.2 48) : Nat) : Int) ≤ q
    · rw [if_pos h, yq_Sym_after_48_p47, kY_Sym_after_48_p47]
    · rw [if_neg h, if_pos (by omega), yq_Sym_after_48_p47, kY_Sym_after_48_p47]
  | 0, .branch n k s, β, x0, q, hm, _, _, _, _ => by simp only [wt] at hm; omega
  | m + 1, .branch n k s, β, x0, q, hm, hF, hw, h0, hq => by
    obtain ⟨h1, h2⟩ := hF
    have e9 : q + 1 + (wt (cat k s) : Int) = q + (wt (.branch n k s) : Int) := by rw [wt_cat]; simp only [wt]; omega
    have ih := aft48_loop hA hL m (cat k s) β x0 (q + 1) (by rw [wt_cat]; simp only [wt] at hm; omega) (by rw [fl_cat]; exact h2) (wf_cat hw.2.2.1 hw.2.2.2) (by omega) (by rw [e9]; exact hq)
    rw [e9] at ih
    have hl : (len (cat k s) : Int) = (len k : Int) + (len s : Int) := by rw [len_cat]; omega
    rw [hl] at ih
    have a1 := len_le_wt k
    have a2 := len_le_wt s
    have e3 : ((len (.branch n k s) : Nat) : Int) = 1 + (len s : Int) := by simp only [len]; omega
    have hq' := hq
    simp only [wt] at hq'
    rw [yq_Sym_after_48_p5, kY_Sym_after_48_p5, e3, if_neg (by omega), if_neg (by omega), if_pos (by omega), h1]
    have b3 := hw.1
    by_cases hc : 0 ≤ cl n
    · obtain ⟨b1, b2⟩ := hA _ hw.2.1 hc
      rw [if_neg (by omega)] at b3
      rw [if_pos hc, if_pos (by omega), b2, if_pos (by omega), yq_Sym_after_48_p39, kY_Sym_after_48_p39, if_pos (by omega), if_pos (by omega), show (1 + (len s : Int) + ((ar (cl n) : Int) - 1)) = (len k : Int) + (len s : Int) by omega]
      exact ih
    · rw [if_pos (by omega)] at b3
      rw [if_neg hc, yq_Sym_after_48_p39, kY_Sym_after_48_p39, if_pos (by omega), if_pos (by omega), show (1 + (len s : Int) + -1) = (len k : Int) + (len s : Int) by omega]
      exact ih
theorem aft48 {ar : Int → Nat} {p : Int → Prop} {σ : zS} (hA : ArC σ ar p) (hL : ((((σ.2.2 48) : Nat) : Int) : Int) ≤ 100000000) {x : Tm} {β : Nat} {q : Int} (hF : Fl (σ.2.1 48) q (fl (tt x))) (hw : wf ar p (tt x)) (h0 : 0 ≤ q) (hq : q + (tw x : Int) ≤ (((σ.2.2 48) : Nat) : Int)) : yE tC_Sym_after_48 β σ [q] = some (σ, q + (tw x : Int)) := by
  have e : (wt (tt x) : Int) = (tw x : Int) := by simp only [tt, tw, wt]; omega
  have := aft48_loop hA hL _ (tt x) β q q (Nat.le_refl _) hF hw h0 (by rw [e]; exact hq)
  rw [e] at this
  rw [yq_Sym_after_48, kY_Sym_after_48]
  have e1 : ((len (tt x) : Nat) : Int) = 1 := by simp [tt, len]
  rw [e1] at this
  exact this
theorem aft68_loop {ar : Int → Nat} {p : Int → Prop} {σ : zS} (hA : ArC σ ar p) (hL : (100 : Int) ≤ 100000000) : ∀ (m : Nat) (F : T) (β : Nat) (x0 q : Int), wt F ≤ m → Fl (σ.2.1 68) q (fl F) → wf ar p F → 0 ≤ q → q + (wt F : Int) ≤ 100 → yE tC_Sym_after_68_p5 β σ [x0, (len F : Int), q] = some (σ, q + (wt F : Int))
  | m, .leaf (), β, x0, q, _, _, _, _, _ => by
    have e : q + ((wt (.leaf ()) : Nat) : Int) = q := by simp [wt]
    have e2 : ((len (.leaf ()) : Nat) : Int) = 0 := by simp [len]
    rw [yq_Sym_after_68_p5, kY_Sym_after_68_p5, e, e2]
    by_cases h : 100 ≤ q
    · rw [if_pos h, yq_Sym_after_68_p47, kY_Sym_after_68_p47]
    · rw [if_neg h, if_pos (by omega), yq_Sym_after_68_p47, kY_Sym_after_68_p47]
  | 0, .branch n k s, β, x0, q, hm, _, _, _, _ => by simp only [wt] at hm; omega
  | m + 1, .branch n k s, β, x0, q, hm, hF, hw, h0, hq => by
    obtain ⟨h1, h2⟩ := hF
    have e9 : q + 1 + (wt (cat k s) : Int) = q + (wt (.branch n k s) : Int) := by rw [wt_cat]; simp only [wt]; omega
    have ih := aft68_loop hA hL m (cat k s) β x0 (q + 1) (by rw [wt_cat]; simp only [wt] at hm; omega) (by rw [fl_cat]; exact h2) (wf_cat hw.2.2.1 hw.2.2.2) (by omega) (by rw [e9]; exact hq)
    rw [e9] at ih
    have hl : (len (cat k s) : Int) = (len k : Int) + (len s : Int) := by rw [len_cat]; omega
    rw [hl] at ih
    have a1 := len_le_wt k
    have a2 := len_le_wt s
    have e3 : ((len (.branch n k s) : Nat) : Int) = 1 + (len s : Int) := by simp only [len]; omega
    have hq' := hq
    simp only [wt] at hq'
    rw [yq_Sym_after_68_p5, kY_Sym_after_68_p5, e3, if_neg (by omega), if_neg (by omega), if_pos (by omega), h1]
    have b3 := hw.1
    by_cases hc : 0 ≤ cl n
    · obtain ⟨b1, b2⟩ := hA _ hw.2.1 hc
      rw [if_neg (by omega)] at b3
      rw [if_pos hc, if_pos (by omega), b2, if_pos (by omega), yq_Sym_after_68_p39, kY_Sym_after_68_p39, if_pos (by omega), if_pos (by omega), show (1 + (len s : Int) + ((ar (cl n) : Int) - 1)) = (len k : Int) + (len s : Int) by omega]
      exact ih
    · rw [if_pos (by omega)] at b3
      rw [if_neg hc, yq_Sym_after_68_p39, kY_Sym_after_68_p39, if_pos (by omega), if_pos (by omega), show (1 + (len s : Int) + -1) = (len k : Int) + (len s : Int) by omega]
      exact ih
theorem aft68 {ar : Int → Nat} {p : Int → Prop} {σ : zS} (hA : ArC σ ar p) (hL : (100 : Int) ≤ 100000000) {x : Tm} {β : Nat} {q : Int} (hF : Fl (σ.2.1 68) q (fl (tt x))) (hw : wf ar p (tt x)) (h0 : 0 ≤ q) (hq : q + (tw x : Int) ≤ 100) : yE tC_Sym_after_68 β σ [q] = some (σ, q + (tw x : Int)) := by
  have e : (wt (tt x) : Int) = (tw x : Int) := by simp only [tt, tw, wt]; omega
  have := aft68_loop hA hL _ (tt x) β q q (Nat.le_refl _) hF hw h0 (by rw [e]; exact hq)
  rw [e] at this
  rw [yq_Sym_after_68, kY_Sym_after_68]
  have e1 : ((len (tt x) : Nat) : Int) = 1 := by simp [tt, len]
  rw [e1] at this
  exact this
theorem same40_40_loop {σ : zS} (hL : (100 : Int) ≤ 100000000) {β : Nat} {p q n : Int} (hp : 0 ≤ p) (hq : 0 ≤ q) (h1 : p + n ≤ 100) (h2 : q + n ≤ 100) : ∀ (m : Nat) (i : Int), 0 ≤ i → i + (m : Int) = n → yE tC_Sym_same_40_40_p25 β σ [p, q, n, i] = some (σ, b2 (∀ j, i ≤ j → j < n → σ.2.1 40 (p + j) = σ.2.1 40 (q + j)))
  | 0, i, h0, hm => by
    rw [yq_Sym_same_40_40_p25, kY_Sym_same_40_40_p25, if_pos (by omega), b2_t (fun j a b => by omega)]
  | m + 1, i, h0, hm => by
    rw [yq_Sym_same_40_40_p25, kY_Sym_same_40_40_p25, if_neg (by omega), if_pos (by omega), if_pos (by omega), if_pos (by omega), if_pos (by omega)]
    by_cases h : σ.2.1 40 (p + i) = σ.2.1 40 (q + i)
    · rw [if_pos h, if_pos (by omega), same40_40_loop hL hp hq h1 h2 m (i + 1) (by omega) (by omega)]
      congr 2
      refine b2_c ⟨fun w j a b => ?_, fun w j a b => w j (by omega) b⟩
      by_cases e : j = i
      · rw [e]; exact h
      · exact w j (by omega) b
    · rw [if_neg h, b2_f (fun w => h (w i (by omega) (by omega)))]
theorem same40_40 {ar : Int → Nat} {p : Int → Prop} {σ : zS} (hA : ArC σ ar p) (hL : (100 : Int) ≤ 100000000) {x y : Tm} {β : Nat} {q u : Int} (hβ : 1 ≤ β) (hx : Fl (σ.2.1 40) q (fl (tt x))) (hy : Fl (σ.2.1 40) u (fl (tt y))) (wx : wf ar p (tt x)) (wy : wf ar p (tt y)) (h0 : 0 ≤ q) (hq : q + (tw x : Int) ≤ 100) (h1 : 0 ≤ u) (hu : u + (tw y : Int) ≤ 100) : yE tC_Sym_same_40_40 β σ [q, u] = some (σ, b2 (x = y)) := by
  have tx : (fl (tt x)).length = tw x := by rw [fl_length]; simp only [tt, tw, wt]; omega
  have ty : (fl (tt y)).length = tw y := by rw [fl_length]; simp only [tt, tw, wt]; omega
  rw [yq_Sym_same_40_40, kY_Sym_same_40_40, if_pos hβ, zbd_of (aft40 hA hL hx wx h0 hq), show q + (tw x : Int) - q = (tw x : Int) by omega, if_pos (by omega), if_pos (by omega)]
  by_cases h : u + (tw x : Int) ≤ 100
  · rw [if_pos h, same40_40_loop hL h0 h1 hq h (tw x) 0 (by omega) (by omega)]
    congr 2
    refine b2_c ⟨fun w => ?_, fun w => ?_⟩
    · have hz : Fl (σ.2.1 40) u (fl (tt x)) := Fl_of (fun i c hi => by
        have hi2 : i < tw x := by
          have := (List.getElem?_eq_some_iff.mp hi).1
          omega
        rw [← w (i : Int) (by omega) (by omega)]
        exact Fl_get hx hi)
      have := Fl_det hz hy wx wy rfl
      injection this with e1 e2 e3
      exact Prod.ext e1 e2
    · subst w
      intro j a b
      obtain ⟨i, rfl⟩ := Int.eq_ofNat_of_zero_le a
      have hi : i < (fl (tt x)).length := by omega
      rw [Fl_get hx (List.getElem?_eq_getElem hi), Fl_get hy (List.getElem?_eq_getElem hi)]
  · rw [if_neg h, b2_f (fun w => by subst w; omega)]
theorem same48_48_loop {σ : zS} (hL : ((((σ.2.2 48) : Nat) : Int) : Int) ≤ 100000000) {β : Nat} {p q n : Int} (hp : 0 ≤ p) (hq : 0 ≤ q) (h1 : p + n ≤ (((σ.2.2 48) : Nat) : Int)) (h2 : q + n ≤ (((σ.2.2 48) : Nat) : Int)) : ∀ (m : Nat) (i : Int), 0 ≤ i → i + (m : Int) = n → yE tC_Sym_same_48_48_p25 β σ [p, q, n, i] = some (σ, b2 (∀ j, i ≤ j → j < n → σ.2.1 48 (p + j) = σ.2.1 48 (q + j)))
  | 0, i, h0, hm => by
    rw [yq_Sym_same_48_48_p25, kY_Sym_same_48_48_p25, if_pos (by omega), b2_t (fun j a b => by omega)]
  | m + 1, i, h0, hm => by
    rw [yq_Sym_same_48_48_p25, kY_Sym_same_48_48_p25, if_neg (by omega), if_pos (by omega), if_pos (by omega), if_pos (by omega), if_pos (by omega)]
    by_cases h : σ.2.1 48 (p + i) = σ.2.1 48 (q + i)
    · rw [if_pos h, if_pos (by omega), same48_48_loop hL hp hq h1 h2 m (i + 1) (by omega) (by omega)]
      congr 2
      refine b2_c ⟨fun w j a b => ?_, fun w j a b => w j (by omega) b⟩
      by_cases e : j = i
      · rw [e]; exact h
      · exact w j (by omega) b
    · rw [if_neg h, b2_f (fun w => h (w i (by omega) (by omega)))]
theorem same48_48 {ar : Int → Nat} {p : Int → Prop} {σ : zS} (hA : ArC σ ar p) (hL : ((((σ.2.2 48) : Nat) : Int) : Int) ≤ 100000000) {x y : Tm} {β : Nat} {q u : Int} (hβ : 1 ≤ β) (hx : Fl (σ.2.1 48) q (fl (tt x))) (hy : Fl (σ.2.1 48) u (fl (tt y))) (wx : wf ar p (tt x)) (wy : wf ar p (tt y)) (h0 : 0 ≤ q) (hq : q + (tw x : Int) ≤ (((σ.2.2 48) : Nat) : Int)) (h1 : 0 ≤ u) (hu : u + (tw y : Int) ≤ (((σ.2.2 48) : Nat) : Int)) : yE tC_Sym_same_48_48 β σ [q, u] = some (σ, b2 (x = y)) := by
  have tx : (fl (tt x)).length = tw x := by rw [fl_length]; simp only [tt, tw, wt]; omega
  have ty : (fl (tt y)).length = tw y := by rw [fl_length]; simp only [tt, tw, wt]; omega
  rw [yq_Sym_same_48_48, kY_Sym_same_48_48, if_pos hβ, zbd_of (aft48 hA hL hx wx h0 hq), show q + (tw x : Int) - q = (tw x : Int) by omega, if_pos (by omega), if_pos (by omega)]
  by_cases h : u + (tw x : Int) ≤ (((σ.2.2 48) : Nat) : Int)
  · rw [if_pos h, same48_48_loop hL h0 h1 hq h (tw x) 0 (by omega) (by omega)]
    congr 2
    refine b2_c ⟨fun w => ?_, fun w => ?_⟩
    · have hz : Fl (σ.2.1 48) u (fl (tt x)) := Fl_of (fun i c hi => by
        have hi2 : i < tw x := by
          have := (List.getElem?_eq_some_iff.mp hi).1
          omega
        rw [← w (i : Int) (by omega) (by omega)]
        exact Fl_get hx hi)
      have := Fl_det hz hy wx wy rfl
      injection this with e1 e2 e3
      exact Prod.ext e1 e2
    · subst w
      intro j a b
      obtain ⟨i, rfl⟩ := Int.eq_ofNat_of_zero_le a
      have hi : i < (fl (tt x)).length := by omega
      rw [Fl_get hx (List.getElem?_eq_getElem hi), Fl_get hy (List.getElem?_eq_getElem hi)]
  · rw [if_neg h, b2_f (fun w => by subst w; omega)]
theorem FD_ty : ∀ {F G : T} {o : Nat} {x y : Tm}, FD F G o x y → o + tw y ≤ wt G
  | .leaf (), _, o, x, y, h => by cases h
  | .branch n k s, .leaf (), o, x, y, h => by cases h
  | .branch n k s, .branch n2 k2 s2, o, x, y, h => by
    rcases h with ⟨a, b, c, d⟩ | ⟨a, o2, b, c⟩
    · subst d; subst b
      simp only [wt, tw]; omega
    · have := FD_ty c
      obtain ⟨rfl, rfl⟩ := a
      simp only [wt, tw] at this ⊢; omega

theorem hav48_48_1 {σ0 : zS} (hN : ((((σ0.2.2 48) : Nat) : Int) : Int) ≤ 100000000) {β : Nat} {p n q m : Int} (h0 : 0 ≤ p) (hp : p + n ≤ (((σ0.2.2 48) : Nat) : Int)) : ∀ (L : List Int) (σ : zS) (i : Int), Sa 13 σ0 σ → Fl (σ0.2.1 48) i L → (∀ c ∈ L, -6 ≤ c) → p ≤ i → i + (L.length : Int) = p + n → (∀ v, 0 ≤ v → v < 6 → 0 ≤ σ.2.1 13 v ∧ σ.2.1 13 v + (L.length : Int) ≤ 1000000) →
    ∃ τ, yE tC_Sym_hasAllVariables_48_48_p11 β σ [p, n, q, m, i] = yE tC_Sym_hasAllVariables_48_48_p51 β τ [p, n, q, m, q] ∧ Sa 13 σ0 τ ∧ ∀ v, 0 ≤ v → v < 6 → τ.2.1 13 v = σ.2.1 13 v + (cnt (-1 - v) L : Int)
  | [], σ, i, S, _, _, hi, hl, hb => by
    refine ⟨σ, ?_, S, fun v _ _ => by simp [cnt]⟩
    simp only [List.length_nil] at hl
    rw [yq_Sym_hasAllVariables_48_48_p11, kY_Sym_hasAllVariables_48_48_p11, if_pos (by omega), if_pos (by omega)]
  | c :: L, σ, i, S, hF, hc, hi, hl, hb => by
    have e1 : σ.2.1 48 i = c := by rw [S.2.2 48 i (by omega)]; exact hF.1
    have e2 : σ.2.2 48 = σ0.2.2 48 := by rw [S.2.1]
    simp only [List.length_cons] at hl hb
    have hc0 := hc c List.mem_cons_self
    have hc1 : ∀ d ∈ L, -6 ≤ d := fun d hd => hc d (List.mem_cons_of_mem _ hd)
    by_cases hn : 0 ≤ c
    · obtain ⟨τ, t1, t2, t3⟩ := hav48_48_1 hN h0 hp L σ (i + 1) S hF.2 hc1 (by omega) (by omega) (fun v a b => by have := hb v a b; omega)
      refine ⟨τ, ?_, t2, fun v a b => ?_⟩
      · rw [yq_Sym_hasAllVariables_48_48_p11, kY_Sym_hasAllVariables_48_48_p11, if_pos (by omega), if_neg (by omega), if_pos (by omega), e1, if_pos hn, yq_Sym_hasAllVariables_48_48_p41, kY_Sym_hasAllVariables_48_48_p41, if_pos (by omega)]
        exact t1
      · rw [t3 v a b]
        simp only [cnt]
        rw [if_neg (by omega)]; omega
    · have hv := hb (-1 - c) (by omega) (by omega)
      have S1 : Sa 13 σ0 (zA σ 13 (-1 - c) (σ.2.1 13 (-1 - c) + 1)) := S.trans Sa_A
      obtain ⟨τ, t1, t2, t3⟩ := hav48_48_1 hN h0 hp L (zA σ 13 (-1 - c) (σ.2.1 13 (-1 - c) + 1)) (i + 1) S1 hF.2 hc1 (by omega) (by omega) (fun v a b => by
        have := hb v a b
        by_cases e : v = -1 - c
        · subst e; simp [zA]; omega
        · simp [zA, e]; omega)
      refine ⟨τ, ?_, t2, fun v a b => ?_⟩
      · rw [yq_Sym_hasAllVariables_48_48_p11, kY_Sym_hasAllVariables_48_48_p11, if_pos (by omega), if_neg (by omega), if_pos (by omega), e1, if_neg hn, if_pos (by omega), if_pos (by omega)]
        show yE tC_Sym_hasAllVariables_48_48_p41 β (zA σ 13 (-1 - c) (σ.2.1 13 (-1 - c) + 1)) [p, n, q, m, i] = _
        rw [yq_Sym_hasAllVariables_48_48_p41, kY_Sym_hasAllVariables_48_48_p41, if_pos (by omega)]
        exact t1
      · rw [t3 v a b]
        simp only [cnt]
        by_cases e : v = -1 - c
        · subst e
          rw [if_pos (by omega)]
          simp [zA]; omega
        · rw [if_neg (by omega)]
          simp [zA, e]
theorem hav48_48_2 {σ0 : zS} (hN : ((((σ0.2.2 48) : Nat) : Int) : Int) ≤ 100000000) {β : Nat} {p n q m : Int} (h0 : 0 ≤ q) (hp : q + m ≤ (((σ0.2.2 48) : Nat) : Int)) : ∀ (L : List Int) (σ : zS) (i : Int), Sa 13 σ0 σ → Fl (σ0.2.1 48) i L → (∀ c ∈ L, -6 ≤ c) → q ≤ i → i + (L.length : Int) = q + m → (∀ v, 0 ≤ v → v < 6 → 0 ≤ σ.2.1 13 v ∧ σ.2.1 13 v ≤ 1000000) →
    ∃ τ, yE tC_Sym_hasAllVariables_48_48_p51 β σ [p, n, q, m, i] = some (τ, b2 (∀ v, 0 ≤ v → v < 6 → (cnt (-1 - v) L : Int) ≤ σ.2.1 13 v)) ∧ Sa 13 σ0 τ
  | [], σ, i, S, _, _, hi, hl, hb => by
    refine ⟨σ, ?_, S⟩
    simp only [List.length_nil] at hl
    rw [yq_Sym_hasAllVariables_48_48_p51, kY_Sym_hasAllVariables_48_48_p51, if_pos (by omega), if_pos (by omega), b2_t (fun v a b => by have := hb v a b; simp only [cnt]; omega)]
  | c :: L, σ, i, S, hF, hc, hi, hl, hb => by
    have e1 : σ.2.1 48 i = c := by rw [S.2.2 48 i (by omega)]; exact hF.1
    have e2 : σ.2.2 48 = σ0.2.2 48 := by rw [S.2.1]
    simp only [List.length_cons] at hl
    have hc0 := hc c List.mem_cons_self
    have hc1 : ∀ d ∈ L, -6 ≤ d := fun d hd => hc d (List.mem_cons_of_mem _ hd)
    by_cases hn : 0 ≤ c
    · obtain ⟨τ, t1, t2⟩ := hav48_48_2 hN h0 hp L σ (i + 1) S hF.2 hc1 (by omega) (by omega) hb
      refine ⟨τ, ?_, t2⟩
      rw [yq_Sym_hasAllVariables_48_48_p51, kY_Sym_hasAllVariables_48_48_p51, if_pos (by omega), if_neg (by omega), if_pos (by omega), e1, if_pos hn, yq_Sym_hasAllVariables_48_48_p91, kY_Sym_hasAllVariables_48_48_p91, if_pos (by omega), t1]
      congr 2
      refine b2_c ⟨fun w v a b => ?_, fun w v a b => ?_⟩
      · have := w v a b
        simp only [cnt]; rw [if_neg (by omega)]; omega
      · have := w v a b
        simp only [cnt] at this; rw [if_neg (by omega)] at this; omega
    · have hv := hb (-1 - c) (by omega) (by omega)
      have S1 : Sa 13 σ0 (zA σ 13 (-1 - c) (σ.2.1 13 (-1 - c) - 1)) := S.trans Sa_A
      by_cases hz : 0 ≤ σ.2.1 13 (-1 - c) - 1
      · obtain ⟨τ, t1, t2⟩ := hav48_48_2 hN h0 hp L (zA σ 13 (-1 - c) (σ.2.1 13 (-1 - c) - 1)) (i + 1) S1 hF.2 hc1 (by omega) (by omega) (fun v a b => by
          have := hb v a b
          by_cases e : v = -1 - c
          · subst e; simp [zA]; omega
          · simp [zA, e]; omega)
        refine ⟨τ, ?_, t2⟩
        rw [yq_Sym_hasAllVariables_48_48_p51, kY_Sym_hasAllVariables_48_48_p51, if_pos (by omega), if_neg (by omega), if_pos (by omega), e1, if_neg hn, if_pos (by omega), if_pos (by omega)]
        show (if 0 ≤ σ.2.1 13 (-1 - c) - 1 then yE tC_Sym_hasAllVariables_48_48_p91 β (zA σ 13 (-1 - c) (σ.2.1 13 (-1 - c) - 1)) [p, n, q, m, i] else _) = _
        rw [if_pos hz, yq_Sym_hasAllVariables_48_48_p91, kY_Sym_hasAllVariables_48_48_p91, if_pos (by omega), t1]
        congr 2
        refine b2_c ⟨fun w v a b => ?_, fun w v a b => ?_⟩
        · have := w v a b
          simp only [cnt]
          by_cases e : v = -1 - c
          · subst e; simp [zA] at this; rw [if_pos (by omega)]; omega
          · simp [zA, e] at this; rw [if_neg (by omega)]; omega
        · have := w v a b
          simp only [cnt] at this
          by_cases e : v = -1 - c
          · subst e; rw [if_pos (by omega)] at this; simp [zA]; omega
          · rw [if_neg (by omega)] at this; simp [zA, e]; omega
      · refine ⟨zA σ 13 (-1 - c) (σ.2.1 13 (-1 - c) - 1), ?_, S1⟩
        rw [yq_Sym_hasAllVariables_48_48_p51, kY_Sym_hasAllVariables_48_48_p51, if_pos (by omega), if_neg (by omega), if_pos (by omega), e1, if_neg hn, if_pos (by omega), if_pos (by omega)]
        show (if 0 ≤ σ.2.1 13 (-1 - c) - 1 then _ else some (zA σ 13 (-1 - c) (σ.2.1 13 (-1 - c) - 1), 0)) = _
        rw [if_neg hz, b2_f (fun w => ?_)]
        have := w (-1 - c) (by omega) (by omega)
        simp only [cnt] at this
        rw [if_pos (by omega)] at this
        omega
theorem hav48_48 {ar : Int → Nat} {σ : zS} {m9 : Int} (hN : ((((σ.2.2 48) : Nat) : Int) : Int) ≤ 100000000) (hM : ((((σ.2.2 48) : Nat) : Int) : Int) ≤ 100000000) {x y : Tm} {β : Nat} {p q : Int} (hx : Fl (σ.2.1 48) p (fl (tt x))) (hy : Fl (σ.2.1 48) q (fl (tt y))) (wx : wf ar (lb m9) (tt x)) (wy : wf ar (lb m9) (tt y)) (h0 : 0 ≤ p) (hp : p + (tw x : Int) ≤ (((σ.2.2 48) : Nat) : Int)) (h1 : 0 ≤ q) (hq : q + (tw y : Int) ≤ (((σ.2.2 48) : Nat) : Int)) (hs : tw x ≤ 100000) :
    ∃ τ, yE tC_Sym_hasAllVariables_48_48 β σ [p, (tw x : Int), q, (tw y : Int)] = some (τ, b2 (∀ v, 0 ≤ v → v < 8 → occ v (tt y) ≤ occ v (tt x))) ∧ Sa 13 σ τ := by
  have tx : (fl (tt x)).length = tw x := by rw [fl_length]; simp only [tt, tw, wt]; omega
  have ty : (fl (tt y)).length = tw y := by rw [fl_length]; simp only [tt, tw, wt]; omega
  have S0 : Sa 13 σ (zFl σ 13 0 6) := ⟨rfl, rfl, fun j w hj => by simp [zFl, hj]⟩
  have z0 : ∀ v, 0 ≤ v → v < 6 → (zFl σ 13 0 6).2.1 13 v = 0 := fun v a b => by
    show (if 13 = 13 ∧ 0 ≤ v ∧ v < ((6 : Nat) : Int) then 0 else _) = _
    rw [if_pos ⟨rfl, a, by omega⟩]
  have lx : ∀ c ∈ fl (tt x), -6 ≤ c := fun c hc => (wf_fl wx c hc).1
  have ly : ∀ c ∈ fl (tt y), -6 ≤ c := fun c hc => (wf_fl wy c hc).1
  obtain ⟨τ1, t1, t2, t3⟩ := hav48_48_1 (β := β) (n := (tw x : Int)) (q := q) (m := (tw y : Int)) hN h0 hp (fl (tt x)) (zFl σ 13 0 6) p S0 hx lx (by omega) (by rw [tx]) (fun v a b => by rw [z0 v a b]; omega)
  have cb : ∀ v, 0 ≤ v → v < 6 → τ1.2.1 13 v = (cnt (-1 - v) (fl (tt x)) : Int) := fun v a b => by rw [t3 v a b, z0 v a b]; omega
  obtain ⟨τ2, u1, u2⟩ := hav48_48_2 (β := β) (p := p) (n := (tw x : Int)) (m := (tw y : Int)) hM h1 hq (fl (tt y)) τ1 q t2 hy ly (by omega) (by rw [ty]) (fun v a b => by
    have := cnt_le (-1 - v) (fl (tt x))
    rw [cb v a b]; omega)
  refine ⟨τ2, ?_, u2⟩
  rw [yq_Sym_hasAllVariables_48_48, kY_Sym_hasAllVariables_48_48]
  show yE tC_Sym_hasAllVariables_48_48_p11 β (zFl σ 13 0 6) [p, (tw x : Int), q, (tw y : Int), p] = _
  rw [t1, u1]
  congr 2
  refine b2_c ⟨fun w v a b => ?_, fun w v a b => ?_⟩
  · rw [occ_cnt a wy, occ_cnt a wx]
    by_cases h6 : v < 6
    · have := w v a h6
      rw [cb v a h6] at this; omega
    · rw [cnt0 (L := fl (tt y)) (fun d hd e => by have := ly d hd; omega)]; omega
  · have := w v a (by omega)
    rw [occ_cnt a wy, occ_cnt a wx] at this
    rw [cb v a b]; omega
theorem tdf48_48_1 {σ : zS} (hN : ((((σ.2.2 48) : Nat) : Int) : Int) ≤ 100000000) (hM : ((((σ.2.2 48) : Nat) : Int) : Int) ≤ 100000000) {β : Nat} {p q n : Int} (h0 : 0 ≤ p) (h1 : 0 ≤ q) (hp : p + n ≤ (((σ.2.2 48) : Nat) : Int)) (hq : q + n ≤ (((σ.2.2 48) : Nat) : Int)) : ∀ (m : Nat) (i : Int), 0 ≤ i → i + (m : Int) = n → ∃ c, i ≤ c ∧ c ≤ n ∧ (∀ j, i ≤ j → j < c → σ.2.1 48 (p + j) = σ.2.1 48 (q + j)) ∧ (c < n → σ.2.1 48 (p + c) ≠ σ.2.1 48 (q + c)) ∧ yE tC_Sym_toDifference_48_48_p3 β σ [p, q, n, i] = yE tC_Sym_toDifference_48_48_p35 β σ [p, q, n, c, 1]
  | 0, i, hi, hm => ⟨i, by omega, by omega, fun j a b => by omega, fun w => by omega, by rw [yq_Sym_toDifference_48_48_p3, kY_Sym_toDifference_48_48_p3, if_pos (by omega), yq_Sym_toDifference_48_48_p32, kY_Sym_toDifference_48_48_p32]⟩
  | m + 1, i, hi, hm => by
    by_cases h : σ.2.1 48 (p + i) = σ.2.1 48 (q + i)
    · obtain ⟨c, c1, c2, c3, c4, c5⟩ := tdf48_48_1 hN hM h0 h1 hp hq m (i + 1) (by omega) (by omega)
      refine ⟨c, by omega, c2, fun j a b => ?_, c4, ?_⟩
      · by_cases e : j = i
        · rw [e]; exact h
        · exact c3 j (by omega) b
      · rw [yq_Sym_toDifference_48_48_p3, kY_Sym_toDifference_48_48_p3, if_neg (by omega), if_pos (by omega), if_pos (by omega), if_pos (by omega), if_pos (by omega), if_pos h, if_pos (by omega)]
        exact c5
    · refine ⟨i, by omega, by omega, fun j a b => by omega, fun _ => h, ?_⟩
      rw [yq_Sym_toDifference_48_48_p3, kY_Sym_toDifference_48_48_p3, if_neg (by omega), if_pos (by omega), if_pos (by omega), if_pos (by omega), if_pos (by omega), if_neg h, yq_Sym_toDifference_48_48_p32, kY_Sym_toDifference_48_48_p32]
theorem tdf48_48_2 {ar : Int → Nat} {lp : Int → Prop} {σ : zS} (hA : ArC σ ar lp) (hN : ((((σ.2.2 48) : Nat) : Int) : Int) ≤ 100000000) {β : Nat} (hβ : 1 ≤ β) {p q n c : Int} (h0 : 0 ≤ p) (hp : p + n ≤ (((σ.2.2 48) : Nat) : Int)) (hc : c < n) : ∀ (F G : T) (o : Nat) (x y : Tm) (i : Int), FD F G o x y → wf ar lp F → Fl (σ.2.1 48) (p + i) (fl F) → 0 ≤ i → i + (wt F : Int) ≤ n → i + (o : Int) ≤ c → c < i + (o : Int) + (tw x : Int) → yE tC_Sym_toDifference_48_48_p35 β σ [p, q, n, c, i] = some (σ, i + (o : Int))
  | .leaf (), _, o, x, y, i, d, _, _, _, _, _, _ => by cases d
  | .branch n1 k s, .leaf (), o, x, y, i, d, _, _, _, _, _, _ => by cases d
  | .branch n1 k s, .branch n2 k2 s2, o, x, y, i, d, w, hF, hi, hn, c1, c2 => by
    obtain ⟨f1, f2⟩ := Fl_app.mp hF.2
    rw [fl_length] at f2
    simp only [wt] at hn
    have hx : Fl (σ.2.1 48) (p + i) (fl (tt (n1, k))) := by simp only [tt, fl, List.append_nil]; exact ⟨hF.1, f1⟩
    have ha := aft48 (β := β - 1) hA hN (x := (n1, k)) hx ⟨w.1, w.2.1, w.2.2.1, trivial⟩ (by omega) (by simp only [tw]; omega)
    rw [yq_Sym_toDifference_48_48_p35, kY_Sym_toDifference_48_48_p35, if_neg (by omega), if_neg (by omega), if_pos (by omega), if_pos hβ, zbd_of ha, show p + i + ((tw (n1, k) : Nat) : Int) - p = i + 1 + (wt k : Int) by simp only [tw]; omega, if_pos (by omega)]
    rcases d with ⟨a, b, e1, e2⟩ | ⟨a, o2, b, e⟩
    · subst b; subst e1
      simp only [tw] at c2
      rw [if_neg (by omega), show i + ((0 : Nat) : Int) = i by omega]
    · subst b
      rw [if_pos (by omega), tdf48_48_2 hA hN hβ h0 hp hc s s2 o2 x y (i + 1 + (wt k : Int)) e w.2.2.2 (by rw [show p + (i + 1 + (wt k : Int)) = p + i + 1 + (wt k : Int) by omega]; exact f2) (by omega) (by omega) (by omega) (by omega)]
      congr 2
      omega
theorem gre48_48_loop {ar : Int → Nat} {m9 : Int} (hm9 : m9 ≤ 551) {x0 x1 : Int} : ∀ (m : Nat) (σ : zS) (x y : Tm) (β : Nat) (p q lv : Int), ArC σ ar (lb m9) → ((((σ.2.2 48) : Nat) : Int) : Int) ≤ 100000000 → ((((σ.2.2 48) : Nat) : Int) : Int) ≤ 100000000 → tw x ≤ m → 0 ≤ lv → lv + (tw x : Int) ≤ 101 → 2 ≤ β → Fl (σ.2.1 48) p (fl (tt x)) → Fl (σ.2.1 48) q (fl (tt y)) → wf ar (lb m9) (tt x) → wf ar (lb m9) (tt y) → 0 ≤ p → p + (tw x : Int) ≤ (((σ.2.2 48) : Nat) : Int) → 0 ≤ q → q + (tw y : Int) ≤ (((σ.2.2 48) : Nat) : Int) → ∃ τ, yE tC_Sym_greater_48_48_p10 β σ [x0, x1, p, q, lv] = some (τ, b2 (gT x.1 x.2 y.1 y.2)) ∧ Sa 13 σ τ
  | 0, σ, x, y, β, p, q, lv, _, _, _, hm, _, _, _, _, _, _, _, _, _, _, _ => by simp only [tw] at hm; omega
  | m + 1, σ, x, y, β, p, q, lv, hA, hN, hM, hm, l0, l1, hβ, hx, hy, wx, wy, p0, p1, q0, q1 => by
    have ax := aft48 (β := β - 1) hA hN hx wx p0 p1
    have ay := aft48 (β := β - 1) hA hM hy wy q0 q1
    have cx : σ.2.1 48 p = cl x.1 := hx.1
    have cy : σ.2.1 48 q = cl y.1 := hy.1
    have tx : 1 ≤ tw x := by simp only [tw]; omega
    have ty : 1 ≤ tw y := by simp only [tw]; omega
    have e72 : ∀ (τ : zS) (a b : Int), yE tC_Sym_greater_48_48_p72 β τ [x0, x1, p, q, lv, a, b] = some (τ, 0) := fun τ a b => by rw [yq_Sym_greater_48_48_p72, kY_Sym_greater_48_48_p72]
    rw [yq_Sym_greater_48_48_p10, kY_Sym_greater_48_48_p10, if_neg (by omega), if_pos (by omega), zbd_of ax, if_pos (by omega), zbd_of ay, if_pos (by omega), cx, show p + (tw x : Int) - p = (tw x : Int) by omega, show q + (tw y : Int) - q = (tw y : Int) by omega]
    by_cases hv : cl x.1 < 0
    · refine ⟨σ, ?_, Sa.refl⟩
      rw [if_pos hv, if_pos (by omega), if_pos (by omega), e72, b2_f (fun w => by have := w.1; omega)]
    · rw [if_neg hv, if_pos (by omega), if_pos (by omega)]
      by_cases hs : (tw x : Int) < (tw y : Int)
      · refine ⟨σ, ?_, Sa.refl⟩
        rw [if_pos hs, e72, b2_f (fun w => by have := w.2.2; simp only [tw] at hs; omega)]
      · rw [if_neg hs, if_pos (by omega)]
        obtain ⟨τ, t1, S⟩ := hav48_48 (β := β - 1) hN hM hx hy wx wy p0 p1 q0 q1 (by omega)
        have f7 : ArC τ ar (lb m9) := hA.q (fun i => S.2.2 7 i (by omega))
        have s2 : τ.2.2 48 = σ.2.2 48 := by rw [S.2.1]
        have gA : ∀ i, τ.2.1 48 i = σ.2.1 48 i := fun i => S.2.2 48 i (by omega)
        have gB : ∀ i, τ.2.1 48 i = σ.2.1 48 i := fun i => S.2.2 48 i (by omega)
        rw [zbd_of t1]
        by_cases ha : ∀ v, 0 ≤ v → v < 8 → occ v (tt y) ≤ occ v (tt x)
        · rw [b2_t ha, if_neg (by omega)]
          by_cases hg : (tw x : Int) ≤ (tw y : Int)
          · have hw : wt x.2 = wt y.2 := by simp only [tw] at hg hs; omega
            have hy0 : 0 ≤ cl y.1 := by
              by_cases h : 0 ≤ cl y.1
              · exact h
              · exfalso
                have k0 : y.2 = nl := len0 (by have := wy.1; rw [if_pos (by omega)] at this; exact this)
                have k1 : x.2 = nl := wt0 (by rw [hw, k0]; rfl)
                have := ha (-1 - cl y.1) (by omega) (by have := wy.2.1.1; omega)
                simp only [tt, occ, k0, k1] at this
                rw [if_pos (by omega), if_pos trivial, if_neg (by omega)] at this
                omega
            rw [if_pos hg, if_pos (by omega), if_pos (by omega), gA, gB, cx, cy]
            by_cases hn : cl x.1 = cl y.1
            · have hn' := cl_inj hn
              have fx : Fl (τ.2.1 48) (p + 1) (fl x.2) := by
                have := hx.2; simp only [List.append_nil, fl] at this
                exact Fl_q (fun i _ _ => gA i) this
              have fy : Fl (τ.2.1 48) (q + 1) (fl y.2) := by
                have := hy.2; simp only [List.append_nil, fl] at this
                exact Fl_q (fun i _ _ => gB i) this
              have wk : wf ar (lb m9) x.2 := wx.2.2.1
              have wk2 : wf ar (lb m9) y.2 := wy.2.2.1
              have hl : len x.2 = len y.2 := by rw [wx.1, wy.1, hn]
              have hN' : (((τ.2.2 48) : Nat) : Int) ≤ 100000000 := by omega
              have hM' : (((τ.2.2 48) : Nat) : Int) ≤ 100000000 := by omega
              have p1' : p + (tw x : Int) ≤ (((τ.2.2 48) : Nat) : Int) := by omega
              have q1' : q + (tw x : Int) ≤ (((τ.2.2 48) : Nat) : Int) := by omega
              rw [if_pos hn, if_pos (by omega), yq_Sym_toDifference_48_48, kY_Sym_toDifference_48_48]
              obtain ⟨c, c1, c2, c3, c4, c5⟩ := tdf48_48_1 (σ := τ) (β := β - 1) hN' hM' p0 q0 p1' q1' (tw x - 1) 1 (by omega) (by omega)
              have hgT : gT x.1 x.2 y.1 y.2 ↔ gF x.2 y.2 := by
                simp only [gT]
                constructor
                · rintro ⟨_, _, w | ⟨_, _, w | w⟩⟩
                  · omega
                  · omega
                  · exact w.2
                · intro w
                  exact ⟨by omega, ha, Or.inr ⟨hw, hy0, Or.inr ⟨hn', w⟩⟩⟩
              by_cases hk : x.2 = y.2
              · have hcn : c = (tw x : Int) := by
                  by_cases h : c < (tw x : Int)
                  · exfalso
                    obtain ⟨j, hj⟩ : ∃ j : Nat, c = 1 + (j : Int) := ⟨(c - 1).toNat, by omega⟩
                    have hj2 : j < (fl x.2).length := by rw [fl_length]; simp only [tw] at h; omega
                    have u1 := Fl_get fx (List.getElem?_eq_getElem hj2)
                    rw [← hk] at fy
                    have u2 := Fl_get fy (List.getElem?_eq_getElem hj2)
                    have := c4 h
                    rw [hj, show p + (1 + (j : Int)) = p + 1 + (j : Int) by omega, show q + (1 + (j : Int)) = q + 1 + (j : Int) by omega, u1, u2] at this
                    exact this rfl
                  · omega
                refine ⟨τ, ?_, S⟩
                have : yE tC_Sym_toDifference_48_48_p3 (β - 1) τ [p, q, (tw x : Int), 1] = some (τ, 0) := by
                  rw [c5, yq_Sym_toDifference_48_48_p35, kY_Sym_toDifference_48_48_p35, if_pos (by omega), yq_Sym_toDifference_48_48_p79, kY_Sym_toDifference_48_48_p79]
                rw [zbd_of this, if_pos rfl, b2_f (fun w => by have := hgT.mp w; rw [hk] at this; exact gF_self _ this)]
              · obtain ⟨o, x', y', d⟩ := FD_ex hl hk
                obtain ⟨d1, d2, d3, d4⟩ := FD_wf d wk wk2
                obtain ⟨d5, d6⟩ := FD_Fl d fx fy
                have d7 := FD_pre d fx fy
                have tx' : (fl (tt x')).length = tw x' := by rw [fl_length]; simp only [tt, tw, wt]; omega
                have hox : (o : Int) + (tw x' : Int) ≤ (wt x.2 : Int) := by omega
                have htx : (tw x : Int) = 1 + (wt x.2 : Int) := by simp only [tw]; omega
                have ca : 1 + (o : Int) ≤ c := by
                  by_cases h : 1 + (o : Int) ≤ c
                  · exact h
                  · exfalso
                    obtain ⟨j, hj⟩ : ∃ j : Nat, c = 1 + (j : Int) := ⟨(c - 1).toNat, by omega⟩
                    have := c4 (by omega)
                    rw [hj, show p + (1 + (j : Int)) = p + 1 + (j : Int) by omega, show q + (1 + (j : Int)) = q + 1 + (j : Int) by omega] at this
                    exact this (d7 j (by omega))
                have cb : c < 1 + (o : Int) + (tw x' : Int) := by
                  by_cases h : c < 1 + (o : Int) + (tw x' : Int)
                  · exact h
                  · exfalso
                    have hz : Fl (τ.2.1 48) (q + 1 + (o : Int)) (fl (tt x')) := Fl_of (fun i cc hi => by
                      have hi2 : i < tw x' := by have := (List.getElem?_eq_some_iff.mp hi).1; omega
                      have := c3 (1 + (o : Int) + (i : Int)) (by omega) (by omega)
                      rw [show q + 1 + (o : Int) + (i : Int) = q + (1 + (o : Int) + (i : Int)) by omega, ← this, show p + (1 + (o : Int) + (i : Int)) = p + 1 + (o : Int) + (i : Int) by omega]
                      exact Fl_get d5 hi)
                    have := Fl_det hz d6 d1 d2 rfl
                    injection this with e1 e2 e3
                    exact d4 (Prod.ext e1 e2)
                have : yE tC_Sym_toDifference_48_48_p3 (β - 1) τ [p, q, (tw x : Int), 1] = some (τ, 1 + (o : Int)) := by
                  rw [c5]
                  exact tdf48_48_2 f7 hN' (by omega) p0 p1' (by omega) x.2 y.2 o x' y' 1 d wk fx (by omega) (by omega) ca cb
                rw [zbd_of this, if_neg (by omega), if_pos (by omega), if_pos (by omega), if_pos (by omega)]
                have ty' : (tw y' : Int) + (o : Int) ≤ (wt y.2 : Int) := by
                  have := FD_ty d
                  omega
                have hN'' : (((τ.2.2 48) : Nat) : Int) ≤ 100000000 := hN'
                obtain ⟨τ2, r1, r2⟩ := gre48_48_loop hm9 m τ x' y' β (p + (1 + (o : Int))) (q + (1 + (o : Int))) (lv + 1) f7 hN' hM' (by omega) (by omega) (by omega) hβ (by rw [show p + (1 + (o : Int)) = p + 1 + (o : Int) by omega]; exact d5) (by rw [show q + (1 + (o : Int)) = q + 1 + (o : Int) by omega]; exact d6) d1 d2 (by omega) (by omega) (by omega) (by omega)
                refine ⟨τ2, ?_, S.trans r2⟩
                rw [r1]
                congr 2
                exact b2_c (by rw [hgT]; exact (gF_FD d).symm)
            · rw [if_neg hn]
              have e110 : ∀ (a b : Int) (r : Int), r = 0 ∨ r = 1 → yE tC_Sym_greater_48_48_p110 β τ [x0, x1, p, q, lv, a, b, r] = some (τ, r) := fun a b r hr => by rw [yq_Sym_greater_48_48_p110, kY_Sym_greater_48_48_p110, if_pos hr]
              refine ⟨τ, ?_, S⟩
              by_cases hle : cl x.1 ≤ cl y.1
              · rw [if_pos hle, e110 _ _ _ (Or.inl rfl), b2_f (fun w => ?_)]
                rcases w.2.2 with w | ⟨_, _, w | w⟩
                · omega
                · omega
                · exact hn (by rw [w.1])
              · rw [if_neg hle, e110 _ _ _ (Or.inr rfl), b2_t ⟨by omega, ha, Or.inr ⟨hw, hy0, Or.inl (by omega)⟩⟩]
          · refine ⟨τ, ?_, S⟩
            rw [if_neg hg, b2_t ⟨by omega, ha, Or.inl (by simp only [tw] at hg; omega)⟩]
        · refine ⟨τ, ?_, S⟩
          rw [b2_f ha, if_pos rfl, e72, b2_f (fun w => ha w.2.1)]
theorem gre48_48 {ar : Int → Nat} {m9 : Int} (hm9 : m9 ≤ 551) {σ : zS} {x y : Tm} {β : Nat} {p q : Int} (hA : ArC σ ar (lb m9)) (hN : ((((σ.2.2 48) : Nat) : Int) : Int) ≤ 100000000) (hM : ((((σ.2.2 48) : Nat) : Int) : Int) ≤ 100000000) (ht : tw x ≤ 101) (hβ : 2 ≤ β) (hx : Fl (σ.2.1 48) p (fl (tt x))) (hy : Fl (σ.2.1 48) q (fl (tt y))) (wx : wf ar (lb m9) (tt x)) (wy : wf ar (lb m9) (tt y)) (h0 : 0 ≤ p) (hp : p + (tw x : Int) ≤ (((σ.2.2 48) : Nat) : Int)) (h1 : 0 ≤ q) (hq : q + (tw y : Int) ≤ (((σ.2.2 48) : Nat) : Int)) : ∃ τ, yE tC_Sym_greater_48_48 β σ [p, q] = some (τ, b2 (gT x.1 x.2 y.1 y.2)) ∧ Sa 13 σ τ := by
  rw [yq_Sym_greater_48_48, kY_Sym_greater_48_48]
  exact gre48_48_loop hm9 _ σ x y β p q 0 hA hN hM (Nat.le_refl _) (by omega) (by omega) hβ hx hy wx wy h0 hp h1 hq
theorem hav48_68_1 {σ0 : zS} (hN : ((((σ0.2.2 48) : Nat) : Int) : Int) ≤ 100000000) {β : Nat} {p n q m : Int} (h0 : 0 ≤ p) (hp : p + n ≤ (((σ0.2.2 48) : Nat) : Int)) : ∀ (L : List Int) (σ : zS) (i : Int), Sa 13 σ0 σ → Fl (σ0.2.1 48) i L → (∀ c ∈ L, -6 ≤ c) → p ≤ i → i + (L.length : Int) = p + n → (∀ v, 0 ≤ v → v < 6 → 0 ≤ σ.2.1 13 v ∧ σ.2.1 13 v + (L.length : Int) ≤ 1000000) →
    ∃ τ, yE tC_Sym_hasAllVariables_48_68_p11 β σ [p, n, q, m, i] = yE tC_Sym_hasAllVariables_48_68_p51 β τ [p, n, q, m, q] ∧ Sa 13 σ0 τ ∧ ∀ v, 0 ≤ v → v < 6 → τ.2.1 13 v = σ.2.1 13 v + (cnt (-1 - v) L : Int)
  | [], σ, i, S, _, _, hi, hl, hb => by
    refine ⟨σ, ?_, S, fun v _ _ => by simp [cnt]⟩
    simp only [List.length_nil] at hl
    rw [yq_Sym_hasAllVariables_48_68_p11, kY_Sym_hasAllVariables_48_68_p11, if_pos (by omega), if_pos (by omega)]
  | c :: L, σ, i, S, hF, hc, hi, hl, hb => by
    have e1 : σ.2.1 48 i = c := by rw [S.2.2 48 i (by omega)]; exact hF.1
    have e2 : σ.2.2 48 = σ0.2.2 48 := by rw [S.2.1]
    simp only [List.length_cons] at hl hb
    have hc0 := hc c List.mem_cons_self
    have hc1 : ∀ d ∈ L, -6 ≤ d := fun d hd => hc d (List.mem_cons_of_mem _ hd)
    by_cases hn : 0 ≤ c
    · obtain ⟨τ, t1, t2, t3⟩ := hav48_68_1 hN h0 hp L σ (i + 1) S hF.2 hc1 (by omega) (by omega) (fun v a b => by have := hb v a b; omega)
      refine ⟨τ, ?_, t2, fun v a b => ?_⟩
      · rw [yq_Sym_hasAllVariables_48_68_p11, kY_Sym_hasAllVariables_48_68_p11, if_pos (by omega), if_neg (by omega), if_pos (by omega), e1, if_pos hn, yq_Sym_hasAllVariables_48_68_p41, kY_Sym_hasAllVariables_48_68_p41, if_pos (by omega)]
        exact t1
      · rw [t3 v a b]
        simp only [cnt]
        rw [if_neg (by omega)]; omega
    · have hv := hb (-1 - c) (by omega) (by omega)
      have S1 : Sa 13 σ0 (zA σ 13 (-1 - c) (σ.2.1 13 (-1 - c) + 1)) := S.trans Sa_A
      obtain ⟨τ, t1, t2, t3⟩ := hav48_68_1 hN h0 hp L (zA σ 13 (-1 - c) (σ.2.1 13 (-1 - c) + 1)) (i + 1) S1 hF.2 hc1 (by omega) (by omega) (fun v a b => by
        have := hb v a b
        by_cases e : v = -1 - c
        · subst e; simp [zA]; omega
        · simp [zA, e]; omega)
      refine ⟨τ, ?_, t2, fun v a b => ?_⟩
      · rw [yq_Sym_hasAllVariables_48_68_p11, kY_Sym_hasAllVariables_48_68_p11, if_pos (by omega), if_neg (by omega), if_pos (by omega), e1, if_neg hn, if_pos (by omega), if_pos (by omega)]
        show yE tC_Sym_hasAllVariables_48_68_p41 β (zA σ 13 (-1 - c) (σ.2.1 13 (-1 - c) + 1)) [p, n, q, m, i] = _
        rw [yq_Sym_hasAllVariables_48_68_p41, kY_Sym_hasAllVariables_48_68_p41, if_pos (by omega)]
        exact t1
      · rw [t3 v a b]
        simp only [cnt]
        by_cases e : v = -1 - c
        · subst e
          rw [if_pos (by omega)]
          simp [zA]; omega
        · rw [if_neg (by omega)]
          simp [zA, e]
theorem hav48_68_2 {σ0 : zS} (hN : (100 : Int) ≤ 100000000) {β : Nat} {p n q m : Int} (h0 : 0 ≤ q) (hp : q + m ≤ 100) : ∀ (L : List Int) (σ : zS) (i : Int), Sa 13 σ0 σ → Fl (σ0.2.1 68) i L → (∀ c ∈ L, -6 ≤ c) → q ≤ i → i + (L.length : Int) = q + m → (∀ v, 0 ≤ v → v < 6 → 0 ≤ σ.2.1 13 v ∧ σ.2.1 13 v ≤ 1000000) →
    ∃ τ, yE tC_Sym_hasAllVariables_48_68_p51 β σ [p, n, q, m, i] = some (τ, b2 (∀ v, 0 ≤ v → v < 6 → (cnt (-1 - v) L : Int) ≤ σ.2.1 13 v)) ∧ Sa 13 σ0 τ
  | [], σ, i, S, _, _, hi, hl, hb => by
    refine ⟨σ, ?_, S⟩
    simp only [List.length_nil] at hl
    rw [yq_Sym_hasAllVariables_48_68_p51, kY_Sym_hasAllVariables_48_68_p51, if_pos (by omega), if_pos (by omega), b2_t (fun v a b => by have := hb v a b; simp only [cnt]; omega)]
  | c :: L, σ, i, S, hF, hc, hi, hl, hb => by
    have e1 : σ.2.1 68 i = c := by rw [S.2.2 68 i (by omega)]; exact hF.1
    have e2 : σ.2.2 48 = σ0.2.2 48 := by rw [S.2.1]
    simp only [List.length_cons] at hl
    have hc0 := hc c List.mem_cons_self
    have hc1 : ∀ d ∈ L, -6 ≤ d := fun d hd => hc d (List.mem_cons_of_mem _ hd)
    by_cases hn : 0 ≤ c
    · obtain ⟨τ, t1, t2⟩ := hav48_68_2 hN h0 hp L σ (i + 1) S hF.2 hc1 (by omega) (by omega) hb
      refine ⟨τ, ?_, t2⟩
      rw [yq_Sym_hasAllVariables_48_68_p51, kY_Sym_hasAllVariables_48_68_p51, if_pos (by omega), if_neg (by omega), if_pos (by omega), e1, if_pos hn, yq_Sym_hasAllVariables_48_68_p91, kY_Sym_hasAllVariables_48_68_p91, if_pos (by omega), t1]
      congr 2
      refine b2_c ⟨fun w v a b => ?_, fun w v a b => ?_⟩
      · have := w v a b
        simp only [cnt]; rw [if_neg (by omega)]; omega
      · have := w v a b
        simp only [cnt] at this; rw [if_neg (by omega)] at this; omega
    · have hv := hb (-1 - c) (by omega) (by omega)
      have S1 : Sa 13 σ0 (zA σ 13 (-1 - c) (σ.2.1 13 (-1 - c) - 1)) := S.trans Sa_A
      by_cases hz : 0 ≤ σ.2.1 13 (-1 - c) - 1
      · obtain ⟨τ, t1, t2⟩ := hav48_68_2 hN h0 hp L (zA σ 13 (-1 - c) (σ.2.1 13 (-1 - c) - 1)) (i + 1) S1 hF.2 hc1 (by omega) (by omega) (fun v a b => by
          have := hb v a b
          by_cases e : v = -1 - c
          · subst e; simp [zA]; omega
          · simp [zA, e]; omega)
        refine ⟨τ, ?_, t2⟩
        rw [yq_Sym_hasAllVariables_48_68_p51, kY_Sym_hasAllVariables_48_68_p51, if_pos (by omega), if_neg (by omega), if_pos (by omega), e1, if_neg hn, if_pos (by omega), if_pos (by omega)]
        show (if 0 ≤ σ.2.1 13 (-1 - c) - 1 then yE tC_Sym_hasAllVariables_48_68_p91 β (zA σ 13 (-1 - c) (σ.2.1 13 (-1 - c) - 1)) [p, n, q, m, i] else _) = _
        rw [if_pos hz, yq_Sym_hasAllVariables_48_68_p91, kY_Sym_hasAllVariables_48_68_p91, if_pos (by omega), t1]
        congr 2
        refine b2_c ⟨fun w v a b => ?_, fun w v a b => ?_⟩
        · have := w v a b
          simp only [cnt]
          by_cases e : v = -1 - c
          · subst e; simp [zA] at this; rw [if_pos (by omega)]; omega
          · simp [zA, e] at this; rw [if_neg (by omega)]; omega
        · have := w v a b
          simp only [cnt] at this
          by_cases e : v = -1 - c
          · subst e; rw [if_pos (by omega)] at this; simp [zA]; omega
          · rw [if_neg (by omega)] at this; simp [zA, e]; omega
      · refine ⟨zA σ 13 (-1 - c) (σ.2.1 13 (-1 - c) - 1), ?_, S1⟩
        rw [yq_Sym_hasAllVariables_48_68_p51, kY_Sym_hasAllVariables_48_68_p51, if_pos (by omega), if_neg (by omega), if_pos (by omega), e1, if_neg hn, if_pos (by omega), if_pos (by omega)]
        show (if 0 ≤ σ.2.1 13 (-1 - c) - 1 then _ else some (zA σ 13 (-1 - c) (σ.2.1 13 (-1 - c) - 1), 0)) = _
        rw [if_neg hz, b2_f (fun w => ?_)]
        have := w (-1 - c) (by omega) (by omega)
        simp only [cnt] at this
        rw [if_pos (by omega)] at this
        omega
theorem hav48_68 {ar : Int → Nat} {σ : zS} {m9 : Int} (hN : ((((σ.2.2 48) : Nat) : Int) : Int) ≤ 100000000) (hM : (100 : Int) ≤ 100000000) {x y : Tm} {β : Nat} {p q : Int} (hx : Fl (σ.2.1 48) p (fl (tt x))) (hy : Fl (σ.2.1 68) q (fl (tt y))) (wx : wf ar (lb m9) (tt x)) (wy : wf ar (lb m9) (tt y)) (h0 : 0 ≤ p) (hp : p + (tw x : Int) ≤ (((σ.2.2 48) : Nat) : Int)) (h1 : 0 ≤ q) (hq : q + (tw y : Int) ≤ 100) (hs : tw x ≤ 100000) :
    ∃ τ, yE tC_Sym_hasAllVariables_48_68 β σ [p, (tw x : Int), q, (tw y : Int)] = some (τ, b2 (∀ v, 0 ≤ v → v < 8 → occ v (tt y) ≤ occ v (tt x))) ∧ Sa 13 σ τ := by
  have tx : (fl (tt x)).length = tw x := by rw [fl_length]; simp only [tt, tw, wt]; omega
  have ty : (fl (tt y)).length = tw y := by rw [fl_length]; simp only [tt, tw, wt]; omega
  have S0 : Sa 13 σ (zFl σ 13 0 6) := ⟨rfl, rfl, fun j w hj => by simp [zFl, hj]⟩
  have z0 : ∀ v, 0 ≤ v → v < 6 → (zFl σ 13 0 6).2.1 13 v = 0 := fun v a b => by
    show (if 13 = 13 ∧ 0 ≤ v ∧ v < ((6 : Nat) : Int) then 0 else _) = _
    rw [if_pos ⟨rfl, a, by omega⟩]
  have lx : ∀ c ∈ fl (tt x), -6 ≤ c := fun c hc => (wf_fl wx c hc).1
  have ly : ∀ c ∈ fl (tt y), -6 ≤ c := fun c hc => (wf_fl wy c hc).1
  obtain ⟨τ1, t1, t2, t3⟩ := hav48_68_1 (β := β) (n := (tw x : Int)) (q := q) (m := (tw y : Int)) hN h0 hp (fl (tt x)) (zFl σ 13 0 6) p S0 hx lx (by omega) (by rw [tx]) (fun v a b => by rw [z0 v a b]; omega)
  have cb : ∀ v, 0 ≤ v → v < 6 → τ1.2.1 13 v = (cnt (-1 - v) (fl (tt x)) : Int) := fun v a b => by rw [t3 v a b, z0 v a b]; omega
  obtain ⟨τ2, u1, u2⟩ := hav48_68_2 (β := β) (p := p) (n := (tw x : Int)) (m := (tw y : Int)) hM h1 hq (fl (tt y)) τ1 q t2 hy ly (by omega) (by rw [ty]) (fun v a b => by
    have := cnt_le (-1 - v) (fl (tt x))
    rw [cb v a b]; omega)
  refine ⟨τ2, ?_, u2⟩
  rw [yq_Sym_hasAllVariables_48_68, kY_Sym_hasAllVariables_48_68]
  show yE tC_Sym_hasAllVariables_48_68_p11 β (zFl σ 13 0 6) [p, (tw x : Int), q, (tw y : Int), p] = _
  rw [t1, u1]
  congr 2
  refine b2_c ⟨fun w v a b => ?_, fun w v a b => ?_⟩
  · rw [occ_cnt a wy, occ_cnt a wx]
    by_cases h6 : v < 6
    · have := w v a h6
      rw [cb v a h6] at this; omega
    · rw [cnt0 (L := fl (tt y)) (fun d hd e => by have := ly d hd; omega)]; omega
  · have := w v a (by omega)
    rw [occ_cnt a wy, occ_cnt a wx] at this
    rw [cb v a b]; omega
theorem tdf48_68_1 {σ : zS} (hN : ((((σ.2.2 48) : Nat) : Int) : Int) ≤ 100000000) (hM : (100 : Int) ≤ 100000000) {β : Nat} {p q n : Int} (h0 : 0 ≤ p) (h1 : 0 ≤ q) (hp : p + n ≤ (((σ.2.2 48) : Nat) : Int)) (hq : q + n ≤ 100) : ∀ (m : Nat) (i : Int), 0 ≤ i → i + (m : Int) = n → ∃ c, i ≤ c ∧ c ≤ n ∧ (∀ j, i ≤ j → j < c → σ.2.1 48 (p + j) = σ.2.1 68 (q + j)) ∧ (c < n → σ.2.1 48 (p + c) ≠ σ.2.1 68 (q + c)) ∧ yE tC_Sym_toDifference_48_68_p3 β σ [p, q, n, i] = yE tC_Sym_toDifference_48_68_p35 β σ [p, q, n, c, 1]
  | 0, i, hi, hm => ⟨i, by omega, by omega, fun j a b => by omega, fun w => by omega, by rw [yq_Sym_toDifference_48_68_p3, kY_Sym_toDifference_48_68_p3, if_pos (by omega), yq_Sym_toDifference_48_68_p32, kY_Sym_toDifference_48_68_p32]⟩
  | m + 1, i, hi, hm => by
    by_cases h : σ.2.1 48 (p + i) = σ.2.1 68 (q + i)
    · obtain ⟨c, c1, c2, c3, c4, c5⟩ := tdf48_68_1 hN hM h0 h1 hp hq m (i + 1) (by omega) (by omega)
      refine ⟨c, by omega, c2, fun j a b => ?_, c4, ?_⟩
      · by_cases e : j = i
        · rw [e]; exact h
        · exact c3 j (by omega) b
      · rw [yq_Sym_toDifference_48_68_p3, kY_Sym_toDifference_48_68_p3, if_neg (by omega), if_pos (by omega), if_pos (by omega), if_pos (by omega), if_pos (by omega), if_pos h, if_pos (by omega)]
        exact c5
    · refine ⟨i, by omega, by omega, fun j a b => by omega, fun _ => h, ?_⟩
      rw [yq_Sym_toDifference_48_68_p3, kY_Sym_toDifference_48_68_p3, if_neg (by omega), if_pos (by omega), if_pos (by omega), if_pos (by omega), if_pos (by omega), if_neg h, yq_Sym_toDifference_48_68_p32, kY_Sym_toDifference_48_68_p32]
theorem tdf48_68_2 {ar : Int → Nat} {lp : Int → Prop} {σ : zS} (hA : ArC σ ar lp) (hN : ((((σ.2.2 48) : Nat) : Int) : Int) ≤ 100000000) {β : Nat} (hβ : 1 ≤ β) {p q n c : Int} (h0 : 0 ≤ p) (hp : p + n ≤ (((σ.2.2 48) : Nat) : Int)) (hc : c < n) : ∀ (F G : T) (o : Nat) (x y : Tm) (i : Int), FD F G o x y → wf ar lp F → Fl (σ.2.1 48) (p + i) (fl F) → 0 ≤ i → i + (wt F : Int) ≤ n → i + (o : Int) ≤ c → c < i + (o : Int) + (tw x : Int) → yE tC_Sym_toDifference_48_68_p35 β σ [p, q, n, c, i] = some (σ, i + (o : Int))
  | .leaf (), _, o, x, y, i, d, _, _, _, _, _, _ => by cases d
  | .branch n1 k s, .leaf (), o, x, y, i, d, _, _, _, _, _, _ => by cases d
  | .branch n1 k s, .branch n2 k2 s2, o, x, y, i, d, w, hF, hi, hn, c1, c2 => by
    obtain ⟨f1, f2⟩ := Fl_app.mp hF.2
    rw [fl_length] at f2
    simp only [wt] at hn
    have hx : Fl (σ.2.1 48) (p + i) (fl (tt (n1, k))) := by simp only [tt, fl, List.append_nil]; exact ⟨hF.1, f1⟩
    have ha := aft48 (β := β - 1) hA hN (x := (n1, k)) hx ⟨w.1, w.2.1, w.2.2.1, trivial⟩ (by omega) (by simp only [tw]; omega)
    rw [yq_Sym_toDifference_48_68_p35, kY_Sym_toDifference_48_68_p35, if_neg (by omega), if_neg (by omega), if_pos (by omega), if_pos hβ, zbd_of ha, show p + i + ((tw (n1, k) : Nat) : Int) - p = i + 1 + (wt k : Int) by simp only [tw]; omega, if_pos (by omega)]
    rcases d with ⟨a, b, e1, e2⟩ | ⟨a, o2, b, e⟩
    · subst b; subst e1
      simp only [tw] at c2
      rw [if_neg (by omega), show i + ((0 : Nat) : Int) = i by omega]
    · subst b
      rw [if_pos (by omega), tdf48_68_2 hA hN hβ h0 hp hc s s2 o2 x y (i + 1 + (wt k : Int)) e w.2.2.2 (by rw [show p + (i + 1 + (wt k : Int)) = p + i + 1 + (wt k : Int) by omega]; exact f2) (by omega) (by omega) (by omega) (by omega)]
      congr 2
      omega
theorem gre48_68_loop {ar : Int → Nat} {m9 : Int} (hm9 : m9 ≤ 551) {x0 x1 : Int} : ∀ (m : Nat) (σ : zS) (x y : Tm) (β : Nat) (p q lv : Int), ArC σ ar (lb m9) → ((((σ.2.2 48) : Nat) : Int) : Int) ≤ 100000000 → (100 : Int) ≤ 100000000 → tw x ≤ m → 0 ≤ lv → lv + (tw x : Int) ≤ 101 → 2 ≤ β → Fl (σ.2.1 48) p (fl (tt x)) → Fl (σ.2.1 68) q (fl (tt y)) → wf ar (lb m9) (tt x) → wf ar (lb m9) (tt y) → 0 ≤ p → p + (tw x : Int) ≤ (((σ.2.2 48) : Nat) : Int) → 0 ≤ q → q + (tw y : Int) ≤ 100 → ∃ τ, yE tC_Sym_greater_48_68_p10 β σ [x0, x1, p, q, lv] = some (τ, b2 (gT x.1 x.2 y.1 y.2)) ∧ Sa 13 σ τ
  | 0, σ, x, y, β, p, q, lv, _, _, _, hm, _, _, _, _, _, _, _, _, _, _, _ => by simp only [tw] at hm; omega
  | m + 1, σ, x, y, β, p, q, lv, hA, hN, hM, hm, l0, l1, hβ, hx, hy, wx, wy, p0, p1, q0, q1 => by
    have ax := aft48 (β := β - 1) hA hN hx wx p0 p1
    have ay := aft68 (β := β - 1) hA hM hy wy q0 q1
    have cx : σ.2.1 48 p = cl x.1 := hx.1
    have cy : σ.2.1 68 q = cl y.1 := hy.1
    have tx : 1 ≤ tw x := by simp only [tw]; omega
    have ty : 1 ≤ tw y := by simp only [tw]; omega
    have e72 : ∀ (τ : zS) (a b : Int), yE tC_Sym_greater_48_68_p72 β τ [x0, x1, p, q, lv, a, b] = some (τ, 0) := fun τ a b => by rw [yq_Sym_greater_48_68_p72, kY_Sym_greater_48_68_p72]
    rw [yq_Sym_greater_48_68_p10, kY_Sym_greater_48_68_p10, if_neg (by omega), if_pos (by omega), zbd_of ax, if_pos (by omega), zbd_of ay, if_pos (by omega), cx, show p + (tw x : Int) - p = (tw x : Int) by omega, show q + (tw y : Int) - q = (tw y : Int) by omega]
    by_cases hv : cl x.1 < 0
    · refine ⟨σ, ?_, Sa.refl⟩
      rw [if_pos hv, if_pos (by omega), if_pos (by omega), e72, b2_f (fun w => by have := w.1; omega)]
    · rw [if_neg hv, if_pos (by omega), if_pos (by omega)]
      by_cases hs : (tw x : Int) < (tw y : Int)
      · refine ⟨σ, ?_, Sa.refl⟩
        rw [if_pos hs, e72, b2_f (fun w => by have := w.2.2; simp only [tw] at hs; omega)]
      · rw [if_neg hs, if_pos (by omega)]
        obtain ⟨τ, t1, S⟩ := hav48_68 (β := β - 1) hN hM hx hy wx wy p0 p1 q0 q1 (by omega)
        have f7 : ArC τ ar (lb m9) := hA.q (fun i => S.2.2 7 i (by omega))
        have s2 : τ.2.2 48 = σ.2.2 48 := by rw [S.2.1]
        have gA : ∀ i, τ.2.1 48 i = σ.2.1 48 i := fun i => S.2.2 48 i (by omega)
        have gB : ∀ i, τ.2.1 68 i = σ.2.1 68 i := fun i => S.2.2 68 i (by omega)
        rw [zbd_of t1]
        by_cases ha : ∀ v, 0 ≤ v → v < 8 → occ v (tt y) ≤ occ v (tt x)
        · rw [b2_t ha, if_neg (by omega)]
          by_cases hg : (tw x : Int) ≤ (tw y : Int)
          · have hw : wt x.2 = wt y.2 := by simp only [tw] at hg hs; omega
            have hy0 : 0 ≤ cl y.1 := by
              by_cases h : 0 ≤ cl y.1
              · exact h
              · exfalso
                have k0 : y.2 = nl := len0 (by have := wy.1; rw [if_pos (by omega)] at this; exact this)
                have k1 : x.2 = nl := wt0 (by rw [hw, k0]; rfl)
                have := ha (-1 - cl y.1) (by omega) (by have := wy.2.1.1; omega)
                simp only [tt, occ, k0, k1] at this
                rw [if_pos (by omega), if_pos trivial, if_neg (by omega)] at this
                omega
            rw [if_pos hg, if_pos (by omega), if_pos (by omega), gA, gB, cx, cy]
            by_cases hn : cl x.1 = cl y.1
            · have hn' := cl_inj hn
              have fx : Fl (τ.2.1 48) (p + 1) (fl x.2) := by
                have := hx.2; simp only [List.append_nil, fl] at this
                exact Fl_q (fun i _ _ => gA i) this
              have fy : Fl (τ.2.1 68) (q + 1) (fl y.2) := by
                have := hy.2; simp only [List.append_nil, fl] at this
                exact Fl_q (fun i _ _ => gB i) this
              have wk : wf ar (lb m9) x.2 := wx.2.2.1
              have wk2 : wf ar (lb m9) y.2 := wy.2.2.1
              have hl : len x.2 = len y.2 := by rw [wx.1, wy.1, hn]
              have hN' : (((τ.2.2 48) : Nat) : Int) ≤ 100000000 := by omega
              have hM' : (100 : Int) ≤ 100000000 := by omega
              have p1' : p + (tw x : Int) ≤ (((τ.2.2 48) : Nat) : Int) := by omega
              have q1' : q + (tw x : Int) ≤ (100 : Int) := by omega
              rw [if_pos hn, if_pos (by omega), yq_Sym_toDifference_48_68, kY_Sym_toDifference_48_68]
              obtain ⟨c, c1, c2, c3, c4, c5⟩ := tdf48_68_1 (σ := τ) (β := β - 1) hN' hM' p0 q0 p1' q1' (tw x - 1) 1 (by omega) (by omega)
              have hgT : gT x.1 x.2 y.1 y.2 ↔ gF x.2 y.2 := by
                simp only [gT]
                constructor
                · rintro ⟨_, _, w | ⟨_, _, w | w⟩⟩
                  · omega
                  · omega
                  · exact w.2
                · intro w
                  exact ⟨by omega, ha, Or.inr ⟨hw, hy0, Or.inr ⟨hn', w⟩⟩⟩
              by_cases hk : x.2 = y.2
              · have hcn : c = (tw x : Int) := by
                  by_cases h : c < (tw x : Int)
                  · exfalso
                    obtain ⟨j, hj⟩ : ∃ j : Nat, c = 1 + (j : Int) := ⟨(c - 1).toNat, by omega⟩
                    have hj2 : j < (fl x.2).length := by rw [fl_length]; simp only [tw] at h; omega
                    have u1 := Fl_get fx (List.getElem?_eq_getElem hj2)
                    rw [← hk] at fy
                    have u2 := Fl_get fy (List.getElem?_eq_getElem hj2)
                    have := c4 h
                    rw [hj, show p + (1 + (j : Int)) = p + 1 + (j : Int) by omega, show q + (1 + (j : Int)) = q + 1 + (j : Int) by omega, u1, u2] at this
                    exact this rfl
                  · omega
                refine ⟨τ, ?_, S⟩
                have : yE tC_Sym_toDifference_48_68_p3 (β - 1) τ [p, q, (tw x : Int), 1] = some (τ, 0) := by
                  rw [c5, yq_Sym_toDifference_48_68_p35, kY_Sym_toDifference_48_68_p35, if_pos (by omega), yq_Sym_toDifference_48_68_p79, kY_Sym_toDifference_48_68_p79]
                rw [zbd_of this, if_pos rfl, b2_f (fun w => by have := hgT.mp w; rw [hk] at this; exact gF_self _ this)]
              · obtain ⟨o, x', y', d⟩ := FD_ex hl hk
                obtain ⟨d1, d2, d3, d4⟩ := FD_wf d wk wk2
                obtain ⟨d5, d6⟩ := FD_Fl d fx fy
                have d7 := FD_pre d fx fy
                have tx' : (fl (tt x')).length = tw x' := by rw [fl_length]; simp only [tt, tw, wt]; omega
                have hox : (o : Int) + (tw x' : Int) ≤ (wt x.2 : Int) := by omega
                have htx : (tw x : Int) = 1 + (wt x.2 : Int) := by simp only [tw]; omega
                have ca : 1 + (o : Int) ≤ c := by
                  by_cases h : 1 + (o : Int) ≤ c
                  · exact h
                  · exfalso
                    obtain ⟨j, hj⟩ : ∃ j : Nat, c = 1 + (j : Int) := ⟨(c - 1).toNat, by omega⟩
                    have := c4 (by omega)
                    rw [hj, show p + (1 + (j : Int)) = p + 1 + (j : Int) by omega, show q + (1 + (j : Int)) = q + 1 + (j : Int) by omega] at this
                    exact this (d7 j (by omega))
                have cb : c < 1 + (o : Int) + (tw x' : Int) := by
                  by_cases h : c < 1 + (o : Int) + (tw x' : Int)
                  · exact h
                  · exfalso
                    have hz : Fl (τ.2.1 68) (q + 1 + (o : Int)) (fl (tt x')) := Fl_of (fun i cc hi => by
                      have hi2 : i < tw x' := by have := (List.getElem?_eq_some_iff.mp hi).1; omega
                      have := c3 (1 + (o : Int) + (i : Int)) (by omega) (by omega)
                      rw [show q + 1 + (o : Int) + (i : Int) = q + (1 + (o : Int) + (i : Int)) by omega, ← this, show p + (1 + (o : Int) + (i : Int)) = p + 1 + (o : Int) + (i : Int) by omega]
                      exact Fl_get d5 hi)
                    have := Fl_det hz d6 d1 d2 rfl
                    injection this with e1 e2 e3
                    exact d4 (Prod.ext e1 e2)
                have : yE tC_Sym_toDifference_48_68_p3 (β - 1) τ [p, q, (tw x : Int), 1] = some (τ, 1 + (o : Int)) := by
                  rw [c5]
                  exact tdf48_68_2 f7 hN' (by omega) p0 p1' (by omega) x.2 y.2 o x' y' 1 d wk fx (by omega) (by omega) ca cb
                rw [zbd_of this, if_neg (by omega), if_pos (by omega), if_pos (by omega), if_pos (by omega)]
                have ty' : (tw y' : Int) + (o : Int) ≤ (wt y.2 : Int) := by
                  have := FD_ty d
                  omega
                have hN'' : (((τ.2.2 48) : Nat) : Int) ≤ 100000000 := hN'
                obtain ⟨τ2, r1, r2⟩ := gre48_68_loop hm9 m τ x' y' β (p + (1 + (o : Int))) (q + (1 + (o : Int))) (lv + 1) f7 hN' hM' (by omega) (by omega) (by omega) hβ (by rw [show p + (1 + (o : Int)) = p + 1 + (o : Int) by omega]; exact d5) (by rw [show q + (1 + (o : Int)) = q + 1 + (o : Int) by omega]; exact d6) d1 d2 (by omega) (by omega) (by omega) (by omega)
                refine ⟨τ2, ?_, S.trans r2⟩
                rw [r1]
                congr 2
                exact b2_c (by rw [hgT]; exact (gF_FD d).symm)
            · rw [if_neg hn]
              have e110 : ∀ (a b : Int) (r : Int), r = 0 ∨ r = 1 → yE tC_Sym_greater_48_68_p110 β τ [x0, x1, p, q, lv, a, b, r] = some (τ, r) := fun a b r hr => by rw [yq_Sym_greater_48_68_p110, kY_Sym_greater_48_68_p110, if_pos hr]
              refine ⟨τ, ?_, S⟩
              by_cases hle : cl x.1 ≤ cl y.1
              · rw [if_pos hle, e110 _ _ _ (Or.inl rfl), b2_f (fun w => ?_)]
                rcases w.2.2 with w | ⟨_, _, w | w⟩
                · omega
                · omega
                · exact hn (by rw [w.1])
              · rw [if_neg hle, e110 _ _ _ (Or.inr rfl), b2_t ⟨by omega, ha, Or.inr ⟨hw, hy0, Or.inl (by omega)⟩⟩]
          · refine ⟨τ, ?_, S⟩
            rw [if_neg hg, b2_t ⟨by omega, ha, Or.inl (by simp only [tw] at hg; omega)⟩]
        · refine ⟨τ, ?_, S⟩
          rw [b2_f ha, if_pos rfl, e72, b2_f (fun w => ha w.2.1)]
theorem gre48_68 {ar : Int → Nat} {m9 : Int} (hm9 : m9 ≤ 551) {σ : zS} {x y : Tm} {β : Nat} {p q : Int} (hA : ArC σ ar (lb m9)) (hN : ((((σ.2.2 48) : Nat) : Int) : Int) ≤ 100000000) (hM : (100 : Int) ≤ 100000000) (ht : tw x ≤ 101) (hβ : 2 ≤ β) (hx : Fl (σ.2.1 48) p (fl (tt x))) (hy : Fl (σ.2.1 68) q (fl (tt y))) (wx : wf ar (lb m9) (tt x)) (wy : wf ar (lb m9) (tt y)) (h0 : 0 ≤ p) (hp : p + (tw x : Int) ≤ (((σ.2.2 48) : Nat) : Int)) (h1 : 0 ≤ q) (hq : q + (tw y : Int) ≤ 100) : ∃ τ, yE tC_Sym_greater_48_68 β σ [p, q] = some (τ, b2 (gT x.1 x.2 y.1 y.2)) ∧ Sa 13 σ τ := by
  rw [yq_Sym_greater_48_68, kY_Sym_greater_48_68]
  exact gre48_68_loop hm9 _ σ x y β p q 0 hA hN hM (Nat.le_refl _) (by omega) (by omega) hβ hx hy wx wy h0 hp h1 hq
theorem hav40_68_1 {σ0 : zS} (hN : (100 : Int) ≤ 100000000) {β : Nat} {p n q m : Int} (h0 : 0 ≤ p) (hp : p + n ≤ 100) : ∀ (L : List Int) (σ : zS) (i : Int), Sa 13 σ0 σ → Fl (σ0.2.1 40) i L → (∀ c ∈ L, -6 ≤ c) → p ≤ i → i + (L.length : Int) = p + n → (∀ v, 0 ≤ v → v < 6 → 0 ≤ σ.2.1 13 v ∧ σ.2.1 13 v + (L.length : Int) ≤ 1000000) →
    ∃ τ, yE tC_Sym_hasAllVariables_40_68_p11 β σ [p, n, q, m, i] = yE tC_Sym_hasAllVariables_40_68_p51 β τ [p, n, q, m, q] ∧ Sa 13 σ0 τ ∧ ∀ v, 0 ≤ v → v < 6 → τ.2.1 13 v = σ.2.1 13 v + (cnt (-1 - v) L : Int)
  | [], σ, i, S, _, _, hi, hl, hb => by
    refine ⟨σ, ?_, S, fun v _ _ => by simp [cnt]⟩
    simp only [List.length_nil] at hl
    rw [yq_Sym_hasAllVariables_40_68_p11, kY_Sym_hasAllVariables_40_68_p11, if_pos (by omega), if_pos (by omega)]
  | c :: L, σ, i, S, hF, hc, hi, hl, hb => by
    have e1 : σ.2.1 40 i = c := by rw [S.2.2 40 i (by omega)]; exact hF.1
    have e2 : σ.2.2 48 = σ0.2.2 48 := by rw [S.2.1]
    simp only [List.length_cons] at hl hb
    have hc0 := hc c List.mem_cons_self
    have hc1 : ∀ d ∈ L, -6 ≤ d := fun d hd => hc d (List.mem_cons_of_mem _ hd)
    by_cases hn : 0 ≤ c
    · obtain ⟨τ, t1, t2, t3⟩ := hav40_68_1 hN h0 hp L σ (i + 1) S hF.2 hc1 (by omega) (by omega) (fun v a b => by have := hb v a b; omega)
      refine ⟨τ, ?_, t2, fun v a b => ?_⟩
      · rw [yq_Sym_hasAllVariables_40_68_p11, kY_Sym_hasAllVariables_40_68_p11, if_pos (by omega), if_neg (by omega), if_pos (by omega), e1, if_pos hn, yq_Sym_hasAllVariables_40_68_p41, kY_Sym_hasAllVariables_40_68_p41, if_pos (by omega)]
        exact t1
      · rw [t3 v a b]
        simp only [cnt]
        rw [if_neg (by omega)]; omega
    · have hv := hb (-1 - c) (by omega) (by omega)
      have S1 : Sa 13 σ0 (zA σ 13 (-1 - c) (σ.2.1 13 (-1 - c) + 1)) := S.trans Sa_A
      obtain ⟨τ, t1, t2, t3⟩ := hav40_68_1 hN h0 hp L (zA σ 13 (-1 - c) (σ.2.1 13 (-1 - c) + 1)) (i + 1) S1 hF.2 hc1 (by omega) (by omega) (fun v a b => by
        have := hb v a b
        by_cases e : v = -1 - c
        · subst e; simp [zA]; omega
        · simp [zA, e]; omega)
      refine ⟨τ, ?_, t2, fun v a b => ?_⟩
      · rw [yq_Sym_hasAllVariables_40_68_p11, kY_Sym_hasAllVariables_40_68_p11, if_pos (by omega), if_neg (by omega), if_pos (by omega), e1, if_neg hn, if_pos (by omega), if_pos (by omega)]
        show yE tC_Sym_hasAllVariables_40_68_p41 β (zA σ 13 (-1 - c) (σ.2.1 13 (-1 - c) + 1)) [p, n, q, m, i] = _
        rw [yq_Sym_hasAllVariables_40_68_p41, kY_Sym_hasAllVariables_40_68_p41, if_pos (by omega)]
        exact t1
      · rw [t3 v a b]
        simp only [cnt]
        by_cases e : v = -1 - c
        · subst e
          rw [if_pos (by omega)]
          simp [zA]; omega
        · rw [if_neg (by omega)]
          simp [zA, e]
theorem hav40_68_2 {σ0 : zS} (hN : (100 : Int) ≤ 100000000) {β : Nat} {p n q m : Int} (h0 : 0 ≤ q) (hp : q + m ≤ 100) : ∀ (L : List Int) (σ : zS) (i : Int), Sa 13 σ0 σ → Fl (σ0.2.1 68) i L → (∀ c ∈ L, -6 ≤ c) → q ≤ i → i + (L.length : Int) = q + m → (∀ v, 0 ≤ v → v < 6 → 0 ≤ σ.2.1 13 v ∧ σ.2.1 13 v ≤ 1000000) →
    ∃ τ, yE tC_Sym_hasAllVariables_40_68_p51 β σ [p, n, q, m, i] = some (τ, b2 (∀ v, 0 ≤ v → v < 6 → (cnt (-1 - v) L : Int) ≤ σ.2.1 13 v)) ∧ Sa 13 σ0 τ
  | [], σ, i, S, _, _, hi, hl, hb => by
    refine ⟨σ, ?_, S⟩
    simp only [List.length_nil] at hl
    rw [yq_Sym_hasAllVariables_40_68_p51, kY_Sym_hasAllVariables_40_68_p51, if_pos (by omega), if_pos (by omega), b2_t (fun v a b => by have := hb v a b; simp only [cnt]; omega)]
  | c :: L, σ, i, S, hF, hc, hi, hl, hb => by
    have e1 : σ.2.1 68 i = c := by rw [S.2.2 68 i (by omega)]; exact hF.1
    have e2 : σ.2.2 48 = σ0.2.2 48 := by rw [S.2.1]
    simp only [List.length_cons] at hl
    have hc0 := hc c List.mem_cons_self
    have hc1 : ∀ d ∈ L, -6 ≤ d := fun d hd => hc d (List.mem_cons_of_mem _ hd)
    by_cases hn : 0 ≤ c
    · obtain ⟨τ, t1, t2⟩ := hav40_68_2 hN h0 hp L σ (i + 1) S hF.2 hc1 (by omega) (by omega) hb
      refine ⟨τ, ?_, t2⟩
      rw [yq_Sym_hasAllVariables_40_68_p51, kY_Sym_hasAllVariables_40_68_p51, if_pos (by omega), if_neg (by omega), if_pos (by omega), e1, if_pos hn, yq_Sym_hasAllVariables_40_68_p91, kY_Sym_hasAllVariables_40_68_p91, if_pos (by omega), t1]
      congr 2
      refine b2_c ⟨fun w v a b => ?_, fun w v a b => ?_⟩
      · have := w v a b
        simp only [cnt]; rw [if_neg (by omega)]; omega
      · have := w v a b
        simp only [cnt] at this; rw [if_neg (by omega)] at this; omega
    · have hv := hb (-1 - c) (by omega) (by omega)
      have S1 : Sa 13 σ0 (zA σ 13 (-1 - c) (σ.2.1 13 (-1 - c) - 1)) := S.trans Sa_A
      by_cases hz : 0 ≤ σ.2.1 13 (-1 - c) - 1
      · obtain ⟨τ, t1, t2⟩ := hav40_68_2 hN h0 hp L (zA σ 13 (-1 - c) (σ.2.1 13 (-1 - c) - 1)) (i + 1) S1 hF.2 hc1 (by omega) (by omega) (fun v a b => by
          have := hb v a b
          by_cases e : v = -1 - c
          · subst e; simp [zA]; omega
          · simp [zA, e]; omega)
        refine ⟨τ, ?_, t2⟩
        rw [yq_Sym_hasAllVariables_40_68_p51, kY_Sym_hasAllVariables_40_68_p51, if_pos (by omega), if_neg (by omega), if_pos (by omega), e1, if_neg hn, if_pos (by omega), if_pos (by omega)]
        show (if 0 ≤ σ.2.1 13 (-1 - c) - 1 then yE tC_Sym_hasAllVariables_40_68_p91 β (zA σ 13 (-1 - c) (σ.2.1 13 (-1 - c) - 1)) [p, n, q, m, i] else _) = _
        rw [if_pos hz, yq_Sym_hasAllVariables_40_68_p91, kY_Sym_hasAllVariables_40_68_p91, if_pos (by omega), t1]
        congr 2
        refine b2_c ⟨fun w v a b => ?_, fun w v a b => ?_⟩
        · have := w v a b
          simp only [cnt]
          by_cases e : v = -1 - c
          · subst e; simp [zA] at this; rw [if_pos (by omega)]; omega
          · simp [zA, e] at this; rw [if_neg (by omega)]; omega
        · have := w v a b
          simp only [cnt] at this
          by_cases e : v = -1 - c
          · subst e; rw [if_pos (by omega)] at this; simp [zA]; omega
          · rw [if_neg (by omega)] at this; simp [zA, e]; omega
      · refine ⟨zA σ 13 (-1 - c) (σ.2.1 13 (-1 - c) - 1), ?_, S1⟩
        rw [yq_Sym_hasAllVariables_40_68_p51, kY_Sym_hasAllVariables_40_68_p51, if_pos (by omega), if_neg (by omega), if_pos (by omega), e1, if_neg hn, if_pos (by omega), if_pos (by omega)]
        show (if 0 ≤ σ.2.1 13 (-1 - c) - 1 then _ else some (zA σ 13 (-1 - c) (σ.2.1 13 (-1 - c) - 1), 0)) = _
        rw [if_neg hz, b2_f (fun w => ?_)]
        have := w (-1 - c) (by omega) (by omega)
        simp only [cnt] at this
        rw [if_pos (by omega)] at this
        omega
theorem hav40_68 {ar : Int → Nat} {σ : zS} {m9 : Int} (hN : (100 : Int) ≤ 100000000) (hM : (100 : Int) ≤ 100000000) {x y : Tm} {β : Nat} {p q : Int} (hx : Fl (σ.2.1 40) p (fl (tt x))) (hy : Fl (σ.2.1 68) q (fl (tt y))) (wx : wf ar (lb m9) (tt x)) (wy : wf ar (lb m9) (tt y)) (h0 : 0 ≤ p) (hp : p + (tw x : Int) ≤ 100) (h1 : 0 ≤ q) (hq : q + (tw y : Int) ≤ 100) (hs : tw x ≤ 100000) :
    ∃ τ, yE tC_Sym_hasAllVariables_40_68 β σ [p, (tw x : Int), q, (tw y : Int)] = some (τ, b2 (∀ v, 0 ≤ v → v < 8 → occ v (tt y) ≤ occ v (tt x))) ∧ Sa 13 σ τ := by
  have tx : (fl (tt x)).length = tw x := by rw [fl_length]; simp only [tt, tw, wt]; omega
  have ty : (fl (tt y)).length = tw y := by rw [fl_length]; simp only [tt, tw, wt]; omega
  have S0 : Sa 13 σ (zFl σ 13 0 6) := ⟨rfl, rfl, fun j w hj => by simp [zFl, hj]⟩
  have z0 : ∀ v, 0 ≤ v → v < 6 → (zFl σ 13 0 6).2.1 13 v = 0 := fun v a b => by
    show (if 13 = 13 ∧ 0 ≤ v ∧ v < ((6 : Nat) : Int) then 0 else _) = _
    rw [if_pos ⟨rfl, a, by omega⟩]
  have lx : ∀ c ∈ fl (tt x), -6 ≤ c := fun c hc => (wf_fl wx c hc).1
  have ly : ∀ c ∈ fl (tt y), -6 ≤ c := fun c hc => (wf_fl wy c hc).1
  obtain ⟨τ1, t1, t2, t3⟩ := hav40_68_1 (β := β) (n := (tw x : Int)) (q := q) (m := (tw y : Int)) hN h0 hp (fl (tt x)) (zFl σ 13 0 6) p S0 hx lx (by omega) (by rw [tx]) (fun v a b => by rw [z0 v a b]; omega)
  have cb : ∀ v, 0 ≤ v → v < 6 → τ1.2.1 13 v = (cnt (-1 - v) (fl (tt x)) : Int) := fun v a b => by rw [t3 v a b, z0 v a b]; omega
  obtain ⟨τ2, u1, u2⟩ := hav40_68_2 (β := β) (p := p) (n := (tw x : Int)) (m := (tw y : Int)) hM h1 hq (fl (tt y)) τ1 q t2 hy ly (by omega) (by rw [ty]) (fun v a b => by
    have := cnt_le (-1 - v) (fl (tt x))
    rw [cb v a b]; omega)
  refine ⟨τ2, ?_, u2⟩
  rw [yq_Sym_hasAllVariables_40_68, kY_Sym_hasAllVariables_40_68]
  show yE tC_Sym_hasAllVariables_40_68_p11 β (zFl σ 13 0 6) [p, (tw x : Int), q, (tw y : Int), p] = _
  rw [t1, u1]
  congr 2
  refine b2_c ⟨fun w v a b => ?_, fun w v a b => ?_⟩
  · rw [occ_cnt a wy, occ_cnt a wx]
    by_cases h6 : v < 6
    · have := w v a h6
      rw [cb v a h6] at this; omega
    · rw [cnt0 (L := fl (tt y)) (fun d hd e => by have := ly d hd; omega)]; omega
  · have := w v a (by omega)
    rw [occ_cnt a wy, occ_cnt a wx] at this
    rw [cb v a b]; omega
theorem tdf40_68_1 {σ : zS} (hN : (100 : Int) ≤ 100000000) (hM : (100 : Int) ≤ 100000000) {β : Nat} {p q n : Int} (h0 : 0 ≤ p) (h1 : 0 ≤ q) (hp : p + n ≤ 100) (hq : q + n ≤ 100) : ∀ (m : Nat) (i : Int), 0 ≤ i → i + (m : Int) = n → ∃ c, i ≤ c ∧ c ≤ n ∧ (∀ j, i ≤ j → j < c → σ.2.1 40 (p + j) = σ.2.1 68 (q + j)) ∧ (c < n → σ.2.1 40 (p + c) ≠ σ.2.1 68 (q + c)) ∧ yE tC_Sym_toDifference_40_68_p3 β σ [p, q, n, i] = yE tC_Sym_toDifference_40_68_p35 β σ [p, q, n, c, 1]
  | 0, i, hi, hm => ⟨i, by omega, by omega, fun j a b => by omega, fun w => by omega, by rw [yq_Sym_toDifference_40_68_p3, kY_Sym_toDifference_40_68_p3, if_pos (by omega), yq_Sym_toDifference_40_68_p32, kY_Sym_toDifference_40_68_p32]⟩
  | m + 1, i, hi, hm => by
    by_cases h : σ.2.1 40 (p + i) = σ.2.1 68 (q + i)
    · obtain ⟨c, c1, c2, c3, c4, c5⟩ := tdf40_68_1 hN hM h0 h1 hp hq m (i + 1) (by omega) (by omega)
      refine ⟨c, by omega, c2, fun j a b => ?_, c4, ?_⟩
      · by_cases e : j = i
        · rw [e]; exact h
        · exact c3 j (by omega) b
      · rw [yq_Sym_toDifference_40_68_p3, kY_Sym_toDifference_40_68_p3, if_neg (by omega), if_pos (by omega), if_pos (by omega), if_pos (by omega), if_pos (by omega), if_pos h, if_pos (by omega)]
        exact c5
    · refine ⟨i, by omega, by omega, fun j a b => by omega, fun _ => h, ?_⟩
      rw [yq_Sym_toDifference_40_68_p3, kY_Sym_toDifference_40_68_p3, if_neg (by omega), if_pos (by omega), if_pos (by omega), if_pos (by omega), if_pos (by omega), if_neg h, yq_Sym_toDifference_40_68_p32, kY_Sym_toDifference_40_68_p32]
theorem tdf40_68_2 {ar : Int → Nat} {lp : Int → Prop} {σ : zS} (hA : ArC σ ar lp) (hN : (100 : Int) ≤ 100000000) {β : Nat} (hβ : 1 ≤ β) {p q n c : Int} (h0 : 0 ≤ p) (hp : p + n ≤ 100) (hc : c < n) : ∀ (F G : T) (o : Nat) (x y : Tm) (i : Int), FD F G o x y → wf ar lp F → Fl (σ.2.1 40) (p + i) (fl F) → 0 ≤ i → i + (wt F : Int) ≤ n → i + (o : Int) ≤ c → c < i + (o : Int) + (tw x : Int) → yE tC_Sym_toDifference_40_68_p35 β σ [p, q, n, c, i] = some (σ, i + (o : Int))
  | .leaf (), _, o, x, y, i, d, _, _, _, _, _, _ => by cases d
  | .branch n1 k s, .leaf (), o, x, y, i, d, _, _, _, _, _, _ => by cases d
  | .branch n1 k s, .branch n2 k2 s2, o, x, y, i, d, w, hF, hi, hn, c1, c2 => by
    obtain ⟨f1, f2⟩ := Fl_app.mp hF.2
    rw [fl_length] at f2
    simp only [wt] at hn
    have hx : Fl (σ.2.1 40) (p + i) (fl (tt (n1, k))) := by simp only [tt, fl, List.append_nil]; exact ⟨hF.1, f1⟩
    have ha := aft40 (β := β - 1) hA hN (x := (n1, k)) hx ⟨w.1, w.2.1, w.2.2.1, trivial⟩ (by omega) (by simp only [tw]; omega)
    rw [yq_Sym_toDifference_40_68_p35, kY_Sym_toDifference_40_68_p35, if_neg (by omega), if_neg (by omega), if_pos (by omega), if_pos hβ, zbd_of ha, show p + i + ((tw (n1, k) : Nat) : Int) - p = i + 1 + (wt k : Int) by simp only [tw]; omega, if_pos (by omega)]
    rcases d with ⟨a, b, e1, e2⟩ | ⟨a, o2, b, e⟩
    · subst b; subst e1
      simp only [tw] at c2
      rw [if_neg (by omega), show i + ((0 : Nat) : Int) = i by omega]
    · subst b
      rw [if_pos (by omega), tdf40_68_2 hA hN hβ h0 hp hc s s2 o2 x y (i + 1 + (wt k : Int)) e w.2.2.2 (by rw [show p + (i + 1 + (wt k : Int)) = p + i + 1 + (wt k : Int) by omega]; exact f2) (by omega) (by omega) (by omega) (by omega)]
      congr 2
      omega
theorem gre40_68_loop {ar : Int → Nat} {m9 : Int} (hm9 : m9 ≤ 551) {x0 x1 : Int} : ∀ (m : Nat) (σ : zS) (x y : Tm) (β : Nat) (p q lv : Int), ArC σ ar (lb m9) → (100 : Int) ≤ 100000000 → (100 : Int) ≤ 100000000 → tw x ≤ m → 0 ≤ lv → lv + (tw x : Int) ≤ 101 → 2 ≤ β → Fl (σ.2.1 40) p (fl (tt x)) → Fl (σ.2.1 68) q (fl (tt y)) → wf ar (lb m9) (tt x) → wf ar (lb m9) (tt y) → 0 ≤ p → p + (tw x : Int) ≤ 100 → 0 ≤ q → q + (tw y : Int) ≤ 100 → ∃ τ, yE tC_Sym_greater_40_68_p10 β σ [x0, x1, p, q, lv] = some (τ, b2 (gT x.1 x.2 y.1 y.2)) ∧ Sa 13 σ τ
  | 0, σ, x, y, β, p, q, lv, _, _, _, hm, _, _, _, _, _, _, _, _, _, _, _ => by simp only [tw] at hm; omega
  | m + 1, σ, x, y, β, p, q, lv, hA, hN, hM, hm, l0, l1, hβ, hx, hy, wx, wy, p0, p1, q0, q1 => by
    have ax := aft40 (β := β - 1) hA hN hx wx p0 p1
    have ay := aft68 (β := β - 1) hA hM hy wy q0 q1
    have cx : σ.2.1 40 p = cl x.1 := hx.1
    have cy : σ.2.1 68 q = cl y.1 := hy.1
    have tx : 1 ≤ tw x := by simp only [tw]; omega
    have ty : 1 ≤ tw y := by simp only [tw]; omega
    have e72 : ∀ (τ : zS) (a b : Int), yE tC_Sym_greater_40_68_p72 β τ [x0, x1, p, q, lv, a, b] = some (τ, 0) := fun τ a b => by rw [yq_Sym_greater_40_68_p72, kY_Sym_greater_40_68_p72]
    rw [yq_Sym_greater_40_68_p10, kY_Sym_greater_40_68_p10, if_neg (by omega), if_pos (by omega), zbd_of ax, if_pos (by omega), zbd_of ay, if_pos (by omega), cx, show p + (tw x : Int) - p = (tw x : Int) by omega, show q + (tw y : Int) - q = (tw y : Int) by omega]
    by_cases hv : cl x.1 < 0
    · refine ⟨σ, ?_, Sa.refl⟩
      rw [if_pos hv, if_pos (by omega), if_pos (by omega), e72, b2_f (fun w => by have := w.1; omega)]
    · rw [if_neg hv, if_pos (by omega), if_pos (by omega)]
      by_cases hs : (tw x : Int) < (tw y : Int)
      · refine ⟨σ, ?_, Sa.refl⟩
        rw [if_pos hs, e72, b2_f (fun w => by have := w.2.2; simp only [tw] at hs; omega)]
      · rw [if_neg hs, if_pos (by omega)]
        obtain ⟨τ, t1, S⟩ := hav40_68 (β := β - 1) hN hM hx hy wx wy p0 p1 q0 q1 (by omega)
        have f7 : ArC τ ar (lb m9) := hA.q (fun i => S.2.2 7 i (by omega))
        have s2 : τ.2.2 48 = σ.2.2 48 := by rw [S.2.1]
        have gA : ∀ i, τ.2.1 40 i = σ.2.1 40 i := fun i => S.2.2 40 i (by omega)
        have gB : ∀ i, τ.2.1 68 i = σ.2.1 68 i := fun i => S.2.2 68 i (by omega)
        rw [zbd_of t1]
        by_cases ha : ∀ v, 0 ≤ v → v < 8 → occ v (tt y) ≤ occ v (tt x)
        · rw [b2_t ha, if_neg (by omega)]
          by_cases hg : (tw x : Int) ≤ (tw y : Int)
          · have hw : wt x.2 = wt y.2 := by simp only [tw] at hg hs; omega
            have hy0 : 0 ≤ cl y.1 := by
              by_cases h : 0 ≤ cl y.1
              · exact h
              · exfalso
                have k0 : y.2 = nl := len0 (by have := wy.1; rw [if_pos (by omega)] at this; exact this)
                have k1 : x.2 = nl := wt0 (by rw [hw, k0]; rfl)
                have := ha (-1 - cl y.1) (by omega) (by have := wy.2.1.1; omega)
                simp only [tt, occ, k0, k1] at this
                rw [if_pos (by omega), if_pos trivial, if_neg (by omega)] at this
                omega
            rw [if_pos hg, if_pos (by omega), gA, gB, cx, cy]
            by_cases hn : cl x.1 = cl y.1
            · have hn' := cl_inj hn
              have fx : Fl (τ.2.1 40) (p + 1) (fl x.2) := by
                have := hx.2; simp only [List.append_nil, fl] at this
                exact Fl_q (fun i _ _ => gA i) this
              have fy : Fl (τ.2.1 68) (q + 1) (fl y.2) := by
                have := hy.2; simp only [List.append_nil, fl] at this
                exact Fl_q (fun i _ _ => gB i) this
              have wk : wf ar (lb m9) x.2 := wx.2.2.1
              have wk2 : wf ar (lb m9) y.2 := wy.2.2.1
              have hl : len x.2 = len y.2 := by rw [wx.1, wy.1, hn]
              have hN' : (100 : Int) ≤ 100000000 := by omega
              have hM' : (100 : Int) ≤ 100000000 := by omega
              have p1' : p + (tw x : Int) ≤ (100 : Int) := by omega
              have q1' : q + (tw x : Int) ≤ (100 : Int) := by omega
              rw [if_pos hn, if_pos (by omega), yq_Sym_toDifference_40_68, kY_Sym_toDifference_40_68]
              obtain ⟨c, c1, c2, c3, c4, c5⟩ := tdf40_68_1 (σ := τ) (β := β - 1) hN' hM' p0 q0 p1' q1' (tw x - 1) 1 (by omega) (by omega)
              have hgT : gT x.1 x.2 y.1 y.2 ↔ gF x.2 y.2 := by
                simp only [gT]
                constructor
                · rintro ⟨_, _, w | ⟨_, _, w | w⟩⟩
                  · omega
                  · omega
                  · exact w.2
                · intro w
                  exact ⟨by omega, ha, Or.inr ⟨hw, hy0, Or.inr ⟨hn', w⟩⟩⟩
              by_cases hk : x.2 = y.2
              · have hcn : c = (tw x : Int) := by
                  by_cases h : c < (tw x : Int)
                  · exfalso
                    obtain ⟨j, hj⟩ : ∃ j : Nat, c = 1 + (j : Int) := ⟨(c - 1).toNat, by omega⟩
                    have hj2 : j < (fl x.2).length := by rw [fl_length]; simp only [tw] at h; omega
                    have u1 := Fl_get fx (List.getElem?_eq_getElem hj2)
                    rw [← hk] at fy
                    have u2 := Fl_get fy (List.getElem?_eq_getElem hj2)
                    have := c4 h
                    rw [hj, show p + (1 + (j : Int)) = p + 1 + (j : Int) by omega, show q + (1 + (j : Int)) = q + 1 + (j : Int) by omega, u1, u2] at this
                    exact this rfl
                  · omega
                refine ⟨τ, ?_, S⟩
                have : yE tC_Sym_toDifference_40_68_p3 (β - 1) τ [p, q, (tw x : Int), 1] = some (τ, 0) := by
                  rw [c5, yq_Sym_toDifference_40_68_p35, kY_Sym_toDifference_40_68_p35, if_pos (by omega), yq_Sym_toDifference_40_68_p79, kY_Sym_toDifference_40_68_p79]
                rw [zbd_of this, if_pos rfl, b2_f (fun w => by have := hgT.mp w; rw [hk] at this; exact gF_self _ this)]
              · obtain ⟨o, x', y', d⟩ := FD_ex hl hk
                obtain ⟨d1, d2, d3, d4⟩ := FD_wf d wk wk2
                obtain ⟨d5, d6⟩ := FD_Fl d fx fy
                have d7 := FD_pre d fx fy
                have tx' : (fl (tt x')).length = tw x' := by rw [fl_length]; simp only [tt, tw, wt]; omega
                have hox : (o : Int) + (tw x' : Int) ≤ (wt x.2 : Int) := by omega
                have htx : (tw x : Int) = 1 + (wt x.2 : Int) := by simp only [tw]; omega
                have ca : 1 + (o : Int) ≤ c := by
                  by_cases h : 1 + (o : Int) ≤ c
                  · exact h
                  · exfalso
                    obtain ⟨j, hj⟩ : ∃ j : Nat, c = 1 + (j : Int) := ⟨(c - 1).toNat, by omega⟩
                    have := c4 (by omega)
                    rw [hj, show p + (1 + (j : Int)) = p + 1 + (j : Int) by omega, show q + (1 + (j : Int)) = q + 1 + (j : Int) by omega] at this
                    exact this (d7 j (by omega))
                have cb : c < 1 + (o : Int) + (tw x' : Int) := by
                  by_cases h : c < 1 + (o : Int) + (tw x' : Int)
                  · exact h
                  · exfalso
                    have hz : Fl (τ.2.1 68) (q + 1 + (o : Int)) (fl (tt x')) := Fl_of (fun i cc hi => by
                      have hi2 : i < tw x' := by have := (List.getElem?_eq_some_iff.mp hi).1; omega
                      have := c3 (1 + (o : Int) + (i : Int)) (by omega) (by omega)
                      rw [show q + 1 + (o : Int) + (i : Int) = q + (1 + (o : Int) + (i : Int)) by omega, ← this, show p + (1 + (o : Int) + (i : Int)) = p + 1 + (o : Int) + (i : Int) by omega]
                      exact Fl_get d5 hi)
                    have := Fl_det hz d6 d1 d2 rfl
                    injection this with e1 e2 e3
                    exact d4 (Prod.ext e1 e2)
                have : yE tC_Sym_toDifference_40_68_p3 (β - 1) τ [p, q, (tw x : Int), 1] = some (τ, 1 + (o : Int)) := by
                  rw [c5]
                  exact tdf40_68_2 f7 hN' (by omega) p0 p1' (by omega) x.2 y.2 o x' y' 1 d wk fx (by omega) (by omega) ca cb
                rw [zbd_of this, if_neg (by omega), if_pos (by omega), if_pos (by omega), if_pos (by omega)]
                have ty' : (tw y' : Int) + (o : Int) ≤ (wt y.2 : Int) := by
                  have := FD_ty d
                  omega
                have hN'' : (100 : Int) ≤ 100000000 := hN'
                obtain ⟨τ2, r1, r2⟩ := gre40_68_loop hm9 m τ x' y' β (p + (1 + (o : Int))) (q + (1 + (o : Int))) (lv + 1) f7 hN' hM' (by omega) (by omega) (by omega) hβ (by rw [show p + (1 + (o : Int)) = p + 1 + (o : Int) by omega]; exact d5) (by rw [show q + (1 + (o : Int)) = q + 1 + (o : Int) by omega]; exact d6) d1 d2 (by omega) (by omega) (by omega) (by omega)
                refine ⟨τ2, ?_, S.trans r2⟩
                rw [r1]
                congr 2
                exact b2_c (by rw [hgT]; exact (gF_FD d).symm)
            · rw [if_neg hn]
              have e110 : ∀ (a b : Int) (r : Int), r = 0 ∨ r = 1 → yE tC_Sym_greater_40_68_p110 β τ [x0, x1, p, q, lv, a, b, r] = some (τ, r) := fun a b r hr => by rw [yq_Sym_greater_40_68_p110, kY_Sym_greater_40_68_p110, if_pos hr]
              refine ⟨τ, ?_, S⟩
              by_cases hle : cl x.1 ≤ cl y.1
              · rw [if_pos hle, e110 _ _ _ (Or.inl rfl), b2_f (fun w => ?_)]
                rcases w.2.2 with w | ⟨_, _, w | w⟩
                · omega
                · omega
                · exact hn (by rw [w.1])
              · rw [if_neg hle, e110 _ _ _ (Or.inr rfl), b2_t ⟨by omega, ha, Or.inr ⟨hw, hy0, Or.inl (by omega)⟩⟩]
          · refine ⟨τ, ?_, S⟩
            rw [if_neg hg, b2_t ⟨by omega, ha, Or.inl (by simp only [tw] at hg; omega)⟩]
        · refine ⟨τ, ?_, S⟩
          rw [b2_f ha, if_pos rfl, e72, b2_f (fun w => ha w.2.1)]
theorem gre40_68 {ar : Int → Nat} {m9 : Int} (hm9 : m9 ≤ 551) {σ : zS} {x y : Tm} {β : Nat} {p q : Int} (hA : ArC σ ar (lb m9)) (hN : (100 : Int) ≤ 100000000) (hM : (100 : Int) ≤ 100000000) (ht : tw x ≤ 101) (hβ : 2 ≤ β) (hx : Fl (σ.2.1 40) p (fl (tt x))) (hy : Fl (σ.2.1 68) q (fl (tt y))) (wx : wf ar (lb m9) (tt x)) (wy : wf ar (lb m9) (tt y)) (h0 : 0 ≤ p) (hp : p + (tw x : Int) ≤ 100) (h1 : 0 ≤ q) (hq : q + (tw y : Int) ≤ 100) : ∃ τ, yE tC_Sym_greater_40_68 β σ [p, q] = some (τ, b2 (gT x.1 x.2 y.1 y.2)) ∧ Sa 13 σ τ := by
  rw [yq_Sym_greater_40_68, kY_Sym_greater_40_68]
  exact gre40_68_loop hm9 _ σ x y β p q 0 hA hN hM (Nat.le_refl _) (by omega) (by omega) hβ hx hy wx wy h0 hp h1 hq
