/-! the reference shows TERMS and LITERALS -/
/-- the NAMES as the reference has them -/
def NW (ρ : zS) (nm : PN) : Prop := RNs ρ nm ∧ nm.length ≤ 250 ∧ (∀ x ∈ nm, x.1.length ≤ 31) ∧ ∀ x ∈ nm, ∀ c ∈ x.1, -128 ≤ c ∧ c ≤ 127
theorem txW_len {ρ : zS} {nm : PN} (h : NW ρ nm) (c : Int) : (txW nm c).length ≤ 31 := by
  unfold txW
  split
  · have := txN_len (n := (-1 - c).toNat); rw [List.length_cons]; omega
  · split
    · have := txN_len (n := (c - (nm.length : Int) - 1).toNat); rw [List.length_cons]; omega
    · split
      · next x hx => exact h.2.2.1 x (List.mem_of_getElem? hx)
      · simp
theorem txB_len {ρ : zS} {nm : PN} (h : NW ρ nm) : ∀ (F : T) (b : Int), (txB nm b F).length ≤ 34 * wt F
  | .leaf _, b => by simp [txB]
  | .branch l k s, b => by
    have h1 := txB_len h k 40
    have h2 := txB_len h s 44
    have h3 := txW_len h (cl l)
    simp only [txB, wt]
    by_cases hk : wt k = 0
    · rw [if_pos hk]; simp; omega
    · rw [if_neg hk]; simp; omega
theorem so_nm {β : Nat} {ρ : zS} {nm : PN} (hN : NW ρ nm) {i : Nat} {x : List Int × Int × Int} (hi : nm[i]? = some x) {t : Int} (t0 : zb t 420000) (ht : ρ.2.1 43 t = (i : Int) + 1) : ∀ (m j : Nat) (σ : zS) (L : List Int), j + m = x.1.length → SO ρ σ L → L.length + m ≤ 19990 → ∃ τ, sE tS_sayTerm_69 β σ [t, (j : Int)] = sE tS_sayTerm_112 β τ [t] ∧ SO ρ τ (L ++ x.1.drop j)
  | 0, j, σ, L, hj, hS, hl => by
    obtain ⟨⟨_, a2, a3, _, _⟩, _⟩ := id hS
    have hil := (List.getElem?_eq_some_iff.mp hi).1
    have e43 : σ.2.1 43 t = (i : Int) + 1 := by rw [a3 43 _ (by decide)]; exact ht
    have e14 : σ.2.1 14 ((i : Int) + 1) = (x.1.length : Int) := by rw [a3 14 _ (by decide)]; exact (hN.1.2 i x hi).1
    have := hN.2.1
    refine ⟨σ, ?_, ?_⟩
    · rw [sq_sayTerm_69, kV_sayTerm_69, if_pos t0, e43, if_pos (show zb ((i : Int) + 1) 900 from ⟨by omega, by omega⟩), e14, if_pos (by omega)]
    · rw [List.drop_eq_nil_of_le (by omega), List.append_nil]; exact hS
  | m + 1, j, σ, L, hj, hS, hl => by
    obtain ⟨⟨_, a2, a3, _, _⟩, _⟩ := id hS
    have hil := (List.getElem?_eq_some_iff.mp hi).1
    have e43 : σ.2.1 43 t = (i : Int) + 1 := by rw [a3 43 _ (by decide)]; exact ht
    obtain ⟨r1, r2, r3⟩ := hN.1.2 i x hi
    have e14 : σ.2.1 14 ((i : Int) + 1) = (x.1.length : Int) := by rw [a3 14 _ (by decide)]; exact r1
    have e13 : σ.2.1 13 ((i : Int) + 1) = (nmL (nm.take i) : Int) := by rw [a3 13 _ (by decide)]; exact r2
    have h250 := hN.2.1
    have hjl : j < x.1.length := by omega
    obtain ⟨c, hc⟩ : ∃ c, x.1[j]? = some c := ⟨_, List.getElem?_eq_getElem hjl⟩
    have e17 : σ.2.1 17 ((nmL (nm.take i) : Int) + (j : Int)) = c := by rw [a3 17 _ (by decide)]; exact (r3 j c hc).1
    have hp := nmL_part hi
    have hle := nmL_le hN.2.2.1
    have hcb := hN.2.2.2 x (List.mem_of_getElem? hi) c (List.mem_of_getElem? hc)
    obtain ⟨k1, k2⟩ := so_say hS (by omega) hcb
    obtain ⟨τ, t1, t2⟩ := so_nm (β := β) hN hi t0 ht m (j + 1) (zSay σ c) (L ++ [c]) (by omega) k2 (by simp; omega)
    refine ⟨τ, ?_, ?_⟩
    · rw [sq_sayTerm_69, kV_sayTerm_69, if_pos t0, e43, if_pos (show zb ((i : Int) + 1) 900 from ⟨by omega, by omega⟩), e14, if_neg (by omega), e13, if_pos (show zr ((nmL (nm.take i) : Int) + (j : Int)) from ⟨by omega, by omega⟩), if_pos (show zb ((nmL (nm.take i) : Int) + (j : Int)) 9000 from ⟨by omega, by omega⟩), if_pos k1, e17, lt_e, if_pos (show zr ((j : Int) + 1) from ⟨by omega, by omega⟩)]
      have ej : (((j + 1 : Nat)) : Int) = (j : Int) + 1 := by omega
      rw [← ej]; exact t1
    · have ed : x.1.drop j = c :: x.1.drop (j + 1) := by
        rw [List.drop_eq_getElem_cons hjl]
        rw [List.getElem?_eq_getElem hjl] at hc
        cases hc; rfl
      rw [ed]
      rw [List.append_assoc] at t2; exact t2
/-- a WORD, and then what is in ( ) -/
theorem so_wd {β : Nat} (hβ : 3 ≤ β) {ρ : zS} {nm : PN} (hN : NW ρ nm) {σ : zS} {L : List Int} (hS : SO ρ σ L) (hl : L.length ≤ 19900) {c t : Int} (t0 : zb t 420000) (ht : ρ.2.1 43 t = c) (h0 : c ≠ 0) (h1 : -300 ≤ c) (h2 : c < 900) : ∃ τ, SO ρ τ (L ++ txW nm c) ∧ (c < 0 → sE tS_sayTerm β σ [t] = some (τ, 0)) ∧ (0 < c → sE tS_sayTerm β σ [t] = sE tS_sayTerm_112 β τ [t]) := by
  obtain ⟨⟨_, a2, a3, _, _⟩, _⟩ := id hS
  have e43 : σ.2.1 43 t = c := by rw [a3 43 _ (by decide)]; exact ht
  have e20 : σ.1 20 = (nm.length : Int) := by rw [a2 20 (by decide)]; exact hN.1.1
  have h250 := hN.2.1
  unfold txW
  by_cases c0 : c < 0
  · rw [if_pos c0]
    obtain ⟨k1, k2⟩ := so_say (x := 88) hS (by omega) (by decide)
    have e43' : (zSay σ 88).2.1 43 t = c := by rw [k2.1.2.2.1 43 _ (by decide)]; exact ht
    have en : ((-1 - c).toNat : Int) = -1 - c := by omega
    obtain ⟨τ, t1, t2⟩ := so_num (β := β - 1) (by omega) k2 (by simp; omega) (n := (-1 - c).toNat) (by omega)
    refine ⟨τ, ?_, fun _ => ?_, fun q => absurd q (by omega)⟩
    · rw [List.append_assoc] at t2; exact t2
    · rw [en] at t1
      rw [sq_sayTerm, kV_sayTerm, if_pos t0, e43, if_neg (by omega), if_pos k1, lt_e, e43', if_pos (show zr ((-1) - c) from ⟨by omega, by omega⟩), if_pos (by omega), zbd_of t1]
  · rw [if_neg c0]
    by_cases c1 : (nm.length : Int) < c
    · rw [if_pos c1]
      obtain ⟨k1, k2⟩ := so_say (x := 119) hS (by omega) (by decide)
      have e43' : (zSay σ 119).2.1 43 t = c := by rw [k2.1.2.2.1 43 _ (by decide)]; exact ht
      have e20' : (zSay σ 119).1 20 = (nm.length : Int) := by rw [k2.1.2.1 20 (by decide)]; exact hN.1.1
      have en : ((c - (nm.length : Int) - 1).toNat : Int) = c - (nm.length : Int) - 1 := by omega
      obtain ⟨τ, t1, t2⟩ := so_num (β := β - 1) (by omega) k2 (by simp; omega) (n := (c - (nm.length : Int) - 1).toNat) (by omega)
      refine ⟨τ, ?_, fun q => absurd q c0, fun _ => ?_⟩
      · rw [List.append_assoc] at t2; exact t2
      · rw [en] at t1
        rw [sq_sayTerm, kV_sayTerm, if_pos t0, e43, if_pos (by omega), e20, if_neg (by omega), if_pos k1, lt_e, e43', e20', if_pos (show zr (c - (nm.length : Int)) from ⟨by omega, by omega⟩), if_pos (show zr (c - (nm.length : Int) - 1) from ⟨by omega, by omega⟩), if_pos (by omega), zbd_of t1]
    · rw [if_neg c1]
      have hlt : (c - 1).toNat < nm.length := by omega
      obtain ⟨x, hx⟩ : ∃ x, nm[(c - 1).toNat]? = some x := ⟨_, List.getElem?_eq_getElem hlt⟩
      rw [hx]
      have h31 := hN.2.2.1 x (List.mem_of_getElem? hx)
      obtain ⟨τ, t1, t2⟩ := so_nm (β := β) hN hx t0 (by rw [ht]; omega) x.1.length 0 σ L (by omega) hS (by omega)
      refine ⟨τ, t2, fun q => absurd q c0, fun _ => ?_⟩
      rw [sq_sayTerm, kV_sayTerm, if_pos t0, e43, if_pos (by omega), e20, if_pos (by omega)]
      exact t1
/-- TERMS beside each other -/
theorem so_tb {ρ : zS} {nm : PN} (hN : NW ρ nm) : ∀ (F : T) (β : Nat), 2 * ht F + 4 ≤ β → ∀ (σ : zS) (L : List Int) (x0 b p : Int), SO ρ σ L → -128 ≤ b ∧ b ≤ 127 → SW F → Pc ρ F p → p + (wt F : Int) ≤ 420000 → L.length + 34 * wt F ≤ 19800 → ∃ τ, sE tS_sayTerm_132 β σ [x0, b, p] = some (τ, 0) ∧ SO ρ τ (L ++ txB nm b F ++ [41])
  | .leaf _, β, hβ, σ, L, x0, b, p, hS, hb, hw, hp, hq, hl => by
    obtain ⟨k1, k2⟩ := so_say (x := 41) hS (by omega) (by decide)
    refine ⟨zSay σ 41, ?_, ?_⟩
    · rw [sq_sayTerm_132, kV_sayTerm_132, if_pos (show p < 0 from hp), if_pos k1, lt_e]
    · simp only [txB, List.append_nil]; exact k2
  | .branch l k s, β, hβ, σ, L, x0, b, p, hS, hb, hw, hp, hq, hl => by
    obtain ⟨⟨w1, w2, w3, w4⟩, wk, ws⟩ := hw
    obtain ⟨p0, p1, p2, p3, p4, p5, p6⟩ := hp
    simp only [wt] at hq hl
    simp only [ht] at hβ
    have hbk := Pc_bd p3
    have hbs := Pc_bd p5
    have p420 : zb p 420000 := ⟨p0, by omega⟩
    obtain ⟨k1, k2⟩ := so_say hS (by omega) hb
    -- the TERM
    have term : ∃ τ, sE tS_sayTerm (β - 1) (zSay σ b) [p] = some (τ, 0) ∧ SO ρ τ (L ++ [b] ++ (txW nm (cl l) ++ (if wt k = 0 then [] else txB nm 40 k ++ [41]))) := by
      obtain ⟨τ1, t1, t2, t3⟩ := so_wd (β := β - 1) (by omega) hN k2 (by simp; omega) p420 p1 w1 w2 w3
      have e44 : τ1.2.1 44 p = ρ.2.1 44 p := t1.1.2.2.1 44 _ (by decide)
      have hW := txW_len hN (cl l)
      by_cases hk : wt k = 0
      · rw [if_pos hk, List.append_nil]
        by_cases c0 : cl l < 0
        · exact ⟨τ1, t2 c0, t1⟩
        · refine ⟨τ1, ?_, t1⟩
          rw [t3 (by omega), sq_sayTerm_112, kV_sayTerm_112, if_pos p420, e44, if_neg (by omega)]
      · rw [if_neg hk]
        have c0 : ¬ cl l < 0 := fun q => hk (w4 q)
        obtain ⟨τ, u1, u2⟩ := so_tb hN k (β - 1) (by omega) τ1 (L ++ [b] ++ txW nm (cl l)) p 40 (ρ.2.1 44 p) t1 (by decide) wk p3 (by rw [p4 (by omega)]; omega) (by simp; omega)
        refine ⟨τ, ?_, ?_⟩
        · rw [t3 (by omega), sq_sayTerm_112, kV_sayTerm_112, if_pos p420, e44, if_pos (by omega)]; exact u1
        · simp only [List.append_assoc] at u2 ⊢; exact u2
    obtain ⟨τ1, t1, t2⟩ := term
    have e45 : τ1.2.1 45 p = ρ.2.1 45 p := t2.1.2.2.1 45 _ (by decide)
    have hBk := txB_len hN k 40
    have hW := txW_len hN (cl l)
    have hln : (L ++ [b] ++ (txW nm (cl l) ++ (if wt k = 0 then [] else txB nm 40 k ++ [41]))).length ≤ L.length + 34 * (1 + wt k) := by
      by_cases hk : wt k = 0
      · rw [if_pos hk]; simp; omega
      · rw [if_neg hk]; simp; omega
    have hq2 : ρ.2.1 45 p + (wt s : Int) ≤ 420000 := by
      rcases hbs with z | z
      · omega
      · have := p6 z.1
        omega
    obtain ⟨τ, v1, v2⟩ := so_tb hN s β (by omega) τ1 _ x0 44 (ρ.2.1 45 p) t2 (by decide) ws p5 hq2 (by omega)
    refine ⟨τ, ?_, ?_⟩
    · rw [sq_sayTerm_132, kV_sayTerm_132, if_neg (by omega), if_pos k1, lt_e, if_pos (by omega), zbd_of t1, if_pos p420, e45]; exact v1
    · simp only [txB]
      simp only [List.append_assoc, List.singleton_append, List.cons_append, List.nil_append] at v2 ⊢
      exact v2
