/-! the present WORD of the reference -/
theorem pk_104 (β : Nat) (hβ : 2 ≤ β) (T : Int → Int) (n q c : Int) (hn : n ≤ 65536) : ∀ (k : Nat) (σ : zS) (e : Int), σ.2.1 0 = T → σ.1 2 = n → σ.1 9 = q → σ.1 10 = e → 0 ≤ e → e ≤ n → n - e = k → zE tM_peek_104 β σ [c] = zE tM_peek_144 β (zI σ 10 (wep T n k e)) [c]
  | 0, σ, e, hT, h2, h9, h10, h0, hen, hk => by
    rw [zq_peek_104, kZ_peek_104, if_pos (by omega)]
    show _ = zE tM_peek_144 β (zI σ 10 e) [c]
    rw [zI_same h10]
  | k + 1, σ, e, hT, h2, h9, h10, h0, hen, hk => by
    rw [zq_peek_104, kZ_peek_104, if_neg (by omega), if_pos ⟨by omega, by omega⟩, if_pos (by omega), zbd_of (inWord_ok (by omega)), hT, h10]
    show _ = zE tM_peek_144 β (zI σ 10 (if n ≤ e then e else if cIw (T e) then wep T n k (e + 1) else e)) [c]
    rw [if_neg (by omega : ¬ n ≤ e)]
    by_cases hw : cIw (T e)
    · rw [b2_t hw, if_neg (by decide), if_pos hw, if_pos ⟨by omega, by omega⟩]
      have i1 := pk_104 β hβ T n q c hn k (zI σ 10 (e + 1)) (e + 1) hT (by rw [zI_o]; exact h2) (by rw [zI_o]; exact h9) zI_1 (by omega) (by omega) (by omega)
      rw [zI_zI] at i1
      exact i1
    · rw [b2_f hw, if_pos rfl, if_neg hw, zI_same h10]
/-- where the reference stands in the TEXT: the present WORD not yet looked at, or looked at -/
def tq (T : Int → Int) (n p : Int) : Int := sk T n p
def tk (T : Int → Int) (n p : Int) : Int := (tok T n (sk T n p)).1
def te (T : Int → Int) (n p : Int) : Int := (tok T n (sk T n p)).2
def TkU (T : Int → Int) (n : Int) (σ : zS) (p : Int) : Prop := σ.1 11 = 0 ∧ σ.1 7 = p ∧ 0 ≤ σ.1 12 ∧ σ.1 12 ≤ p
def TkS (T : Int → Int) (n : Int) (σ : zS) (p : Int) : Prop := σ.1 11 = 1 ∧ σ.1 7 = tq T n p ∧ σ.1 9 = tq T n p ∧ σ.1 8 = tk T n p ∧ σ.1 10 = te T n p ∧ 0 ≤ σ.1 12 ∧ σ.1 12 ≤ te T n p
def TkA (T : Int → Int) (n : Int) (σ : zS) (p : Int) : Prop := (σ.2.1 0 = T ∧ σ.1 2 = n ∧ 0 ≤ p ∧ p ≤ n ∧ n ≤ 20000) ∧ (TkU T n σ p ∨ TkS T n σ p)
def FrT (σ τ : zS) : Prop := τ.2 = σ.2 ∧ ∀ j, ¬ (7 ≤ j ∧ j ≤ 12) → τ.1 j = σ.1 j
theorem FrT.rf {σ : zS} : FrT σ σ := ⟨rfl, fun _ _ => rfl⟩
theorem FrT.tr {σ τ ρ : zS} (h : FrT σ τ) (h2 : FrT τ ρ) : FrT σ ρ := ⟨h2.1.trans h.1, fun j hj => (h2.2 j hj).trans (h.2 j hj)⟩
theorem te_le {T : Int → Int} {n p : Int} (h : p ≤ n) : te T n p ≤ n := by
  have h1 := sk_le (T := T) h
  unfold te
  by_cases h2 : sk T n p < n
  · exact (tok_e h2).2
  · unfold tok; rw [if_pos (by omega)]; omega
theorem te_ge {T : Int → Int} {n p : Int} : p ≤ te T n p := by
  have h1 := sk_ge T n p
  unfold te
  by_cases h2 : sk T n p < n
  · have := (tok_e (T := T) h2).1; omega
  · unfold tok; rw [if_pos (by omega)]; exact h1
theorem tq_le {T : Int → Int} {n p : Int} (h : p ≤ n) : tq T n p ≤ n := sk_le h
theorem tq_ge {T : Int → Int} {n p : Int} : p ≤ tq T n p := sk_ge ..
theorem tk_0 {T : Int → Int} {n p : Int} (hp : p ≤ n) : tk T n p = 0 ↔ tq T n p = n := by
  have h1 := tq_le (T := T) hp
  constructor
  · intro h
    have : ¬ tq T n p < n := fun hh => tok_0 hh h
    omega
  · intro h
    unfold tk tok
    rw [if_pos (by have : sk T n p = n := h; omega)]
theorem te_gt {T : Int → Int} {n p : Int} (h : tk T n p ≠ 0) (hp : p ≤ n) : tq T n p < te T n p := by
  have h1 := tq_le (T := T) hp
  have h2 : tq T n p ≠ n := fun hh => h ((tk_0 hp).mpr hh)
  exact (tok_e (T := T) (by have : tq T n p = sk T n p := rfl; omega)).1
theorem tk_304 {T : Int → Int} {n p : Int} : tk T n p ≠ 304 := by
  unfold tk tok
  split
  · simp
  · split
    · split
      · split <;> simp
      · simp
    · unfold sgn
      repeat' split
      all_goals (simp_all <;> omega)
theorem peek_ok {T : Int → Int} {n : Int} {β : Nat} (hβ : 3 ≤ β) {σ : zS} {p : Int} (h : TkA T n σ p) : ∃ τ, zE tM_peek β σ [] = some (τ, tk T n p) ∧ TkA T n τ p ∧ TkS T n τ p ∧ FrT σ τ := by
  obtain ⟨⟨hT, h2, h0, hpn, hn⟩, hU | hS⟩ := id h
  · obtain ⟨u11, u7, u12, u12'⟩ := hU
    have q1 := tq_le (T := T) hpn
    have q0 := tq_ge (T := T) (n := n) (p := p)
    have hpa := parts_ok (β := β - 1) (σ := σ) (by omega) (by omega) (by omega)
    rw [hT, h2, u7] at hpa
    obtain ⟨q, hq⟩ : ∃ q, q = tq T n p := ⟨_, rfl⟩
    have hq' : sk T n p = q := hq.symm
    rw [hq'] at hpa
    rw [← hq] at q1 q0
    obtain ⟨σ4, hs4⟩ : ∃ s, s = zI (zI (zI (zI σ 7 q) 11 1) 9 q) 10 q := ⟨_, rfl⟩
    have f7 : σ4.1 7 = q := by rw [hs4, zI_o, zI_o, zI_o, zI_1]
    have f2 : σ4.1 2 = n := by rw [hs4, zI_o, zI_o, zI_o, zI_o, h2]
    have f9 : σ4.1 9 = q := by rw [hs4, zI_o, zI_1]
    have f10 : σ4.1 10 = q := by rw [hs4, zI_1]
    have f11 : σ4.1 11 = 1 := by rw [hs4, zI_o, zI_o, zI_1]
    have f12 : σ4.1 12 = σ.1 12 := by rw [hs4, zI_o, zI_o, zI_o, zI_o]
    have fA : σ4.2 = σ.2 := by rw [hs4]; rfl
    have fr : ∀ j, ¬ (7 ≤ j ∧ j ≤ 12) → σ4.1 j = σ.1 j := fun j hj => by rw [hs4, zI_o (by omega), zI_o (by omega), zI_o (by omega), zI_o (by omega)]
    rw [zq_peek, kZ_peek, if_pos u11, if_pos (by omega), zbd_of hpa]
    show ∃ τ, (lt_ (zI (zI σ 7 q) 11 1) _) = _ ∧ _
    have e0 : ∀ (K : zS → Option zR), lt_ (zI (zI σ 7 q) 11 1) (fun σ2 => lt_ (zI σ2 9 (σ2.1 7)) (fun σ3 => lt_ (zI σ3 10 (σ3.1 7)) K)) = K σ4 := fun K => by
      show K (zI (zI (zI (zI σ 7 q) 11 1) 9 ((zI (zI σ 7 q) 11 1).1 7)) 10 ((zI (zI (zI σ 7 q) 11 1) 9 ((zI (zI σ 7 q) 11 1).1 7)).1 7)) = K σ4
      rw [zI_o (k := 11) (j := 7), zI_1, zI_o (k := 9) (j := 7), zI_o (k := 11) (j := 7), zI_1, hs4]
    rw [e0]
    by_cases hend : q = n
    · rw [if_pos (by omega)]
      refine ⟨zI σ4 8 0, ?_, ?_⟩
      · rw [(tk_0 hpn).mpr (by rw [← hq]; exact hend)]; rfl
      · have ete : te T n p = n := by
          have := te_le (T := T) hpn
          unfold te tok
          rw [hq', if_pos (by omega)]; exact hend
        have S : TkS T n (zI σ4 8 0) p := ⟨by rw [zI_o, f11], by rw [zI_o, f7, hq], by rw [zI_o, f9, hq], by rw [zI_1, (tk_0 hpn).mpr (by rw [← hq]; exact hend)], by rw [zI_o, f10, ete]; exact hend, by rw [zI_o, f12]; exact u12, by rw [zI_o, f12, ete]; omega⟩
        exact ⟨⟨⟨by rw [zI_2, fA, hT], by rw [zI_o, f2], h0, hpn, hn⟩, Or.inr S⟩, S, by rw [zI_2, fA], fun j hj => by rw [zI_o (by omega)]; exact fr j hj⟩
    · rw [if_neg (by omega), if_pos ⟨by omega, by omega⟩]
      obtain ⟨σ6, hs6⟩ : ∃ s, s = zI (zI σ4 12 (σ4.1 12 + 1)) 8 304 := ⟨_, rfl⟩
      have g7 : σ6.1 7 = q := by rw [hs6, zI_o, zI_o, f7]
      have g2 : σ6.1 2 = n := by rw [hs6, zI_o, zI_o, f2]
      have g9 : σ6.1 9 = q := by rw [hs6, zI_o, zI_o, f9]
      have g10 : σ6.1 10 = q := by rw [hs6, zI_o, zI_o, f10]
      have g11 : σ6.1 11 = 1 := by rw [hs6, zI_o, zI_o, f11]
      have g12 : σ6.1 12 = σ.1 12 + 1 := by rw [hs6, zI_o, zI_1, f12]
      have gA : σ6.2 = σ.2 := by rw [hs6]; exact fA
      have gr : ∀ j, ¬ (7 ≤ j ∧ j ≤ 12) → σ6.1 j = σ.1 j := fun j hj => by rw [hs6, zI_o (by omega), zI_o (by omega)]; exact fr j hj
      have gT : σ6.2.1 0 = T := by rw [gA, hT]
      have e1 : ∀ (K : zS → Option zR), lt_ (zI σ4 12 (σ4.1 12 + 1)) (fun σ5 => lt_ (zI σ5 8 304) K) = K σ6 := fun K => by rw [hs6]; rfl
      rw [e1, if_pos (by omega), if_pos ⟨by omega, by omega⟩, if_pos (by omega), gT, g7, zbd_of letter_ok]
      have fin : ∀ (e k : Int), te T n p = e → tk T n p = k → q < e → ∃ τ, some (zI (zI σ6 10 e) 8 k, k) = some (τ, tk T n p) ∧ TkA T n τ p ∧ TkS T n τ p ∧ FrT σ τ := fun e k he hk hlt => by
        have S : TkS T n (zI (zI σ6 10 e) 8 k) p := ⟨by rw [zI_o, zI_o, g11], by rw [zI_o, zI_o, g7, hq], by rw [zI_o, zI_o, g9, hq], by rw [zI_1, hk], by rw [zI_o, zI_1, he], by rw [zI_o, zI_o, g12]; omega, by rw [zI_o, zI_o, g12, he]; omega⟩
        exact ⟨_, by rw [hk], ⟨⟨by rw [zI_2, zI_2, gT], by rw [zI_o, zI_o, g2], h0, hpn, hn⟩, Or.inr S⟩, S, by rw [zI_2, zI_2, gA], fun j hj => by rw [zI_o (by omega), zI_o (by omega)]; exact gr j hj⟩
      have htk : tk T n p = (tok T n q).1 := by unfold tk; rw [hq']
      have hte : te T n p = (tok T n q).2 := by unfold te; rw [hq']
      have hto := tok_e (T := T) (n := n) (q := q) (by omega)
      by_cases hl : cLt (T q)
      · rw [b2_t hl, if_neg (by decide)]
        have etok : tok T n q = ((if we T n q - q ≤ 31 then (if 97 ≤ T q then 2 else 1) else 303), we T n q) := by
          unfold tok; rw [if_neg (by omega), if_pos hl]
        rw [etok] at htk hte hto
        rw [pk_104 β (by omega) T n q (T q) (by omega) _ σ6 q gT g2 g9 g10 (by omega) (by omega) (by omega : n - q = ((n - q).toNat : Int))]
        show ∃ τ, zE tM_peek_144 β (zI σ6 10 (we T n q)) [T q] = _ ∧ _
        obtain ⟨w, hw⟩ : ∃ w, w = we T n q := ⟨_, rfl⟩
        rw [← hw] at htk hte hto ⊢
        rw [zq_peek_144, kZ_peek_144, zI_1, zI_o, g9, if_pos ⟨by omega, by omega⟩]
        by_cases h31 : w - q ≤ 31
        · rw [if_pos h31] at htk
          rw [if_pos h31]
          by_cases h97 : 97 ≤ T q
          · rw [if_pos h97] at htk
            rw [if_pos h97, zq_peek_176, kZ_peek_176]
            show ∃ τ, some (zI (zI σ6 10 w) 8 2, (zI (zI σ6 10 w) 8 2).1 8) = _ ∧ _
            rw [zI_1]
            exact fin w 2 hte htk hto.1
          · rw [if_neg h97] at htk
            rw [if_neg h97, zq_peek_176, kZ_peek_176]
            show ∃ τ, some (zI (zI σ6 10 w) 8 1, (zI (zI σ6 10 w) 8 1).1 8) = _ ∧ _
            rw [zI_1]
            exact fin w 1 hte htk hto.1
        · rw [if_neg h31] at htk
          rw [if_neg h31, zq_peek_176, kZ_peek_176]
          show ∃ τ, some (zI (zI σ6 10 w) 8 303, (zI (zI σ6 10 w) 8 303).1 8) = _ ∧ _
          rw [zI_1]
          exact fin w 303 hte htk hto.1
      · rw [b2_f hl, if_pos rfl, if_pos (by omega)]
        have etok : tok T n q = sgn T n q := by
          unfold tok; rw [if_neg (by omega), if_neg hl]
        rw [etok] at htk hte hto
        rw [zbd_of (sign_ok (β := β - 1) (by omega) gT g2 g7 (by omega) (by omega) (by omega))]
        show ∃ τ, some (zI (zI σ6 10 (sgn T n q).2) 8 (sgn T n q).1, (zI (zI σ6 10 (sgn T n q).2) 8 (sgn T n q).1).1 8) = _ ∧ _
        rw [zI_1]
        exact fin _ _ hte htk hto.1
  · rw [zq_peek, kZ_peek, if_neg (by rw [hS.1]; decide)]
    exact ⟨σ, by rw [hS.2.2.2.1], h, hS, FrT.rf⟩
theorem take_ok {T : Int → Int} {n : Int} {β : Nat} (hβ : 4 ≤ β) {σ : zS} {p : Int} (h : TkA T n σ p) : ∃ τ, zE tM_take β σ [] = some (τ, 0) ∧ TkA T n τ (te T n p) ∧ FrT σ τ := by
  obtain ⟨τ, e1, hA, hS, hF⟩ := peek_ok (β := β - 1) (by omega) h
  obtain ⟨⟨a1, a2, a3, a4, a5⟩, _⟩ := hA
  obtain ⟨s11, s7, s9, s8, s10, s12, s12'⟩ := hS
  refine ⟨zI (zI τ 7 (τ.1 10)) 11 0, ?_, ⟨⟨a1, by rw [zI_o, zI_o, a2], by have := te_ge (T := T) (n := n) (p := p); omega, te_le a4, a5⟩, Or.inl ⟨zI_1, by rw [zI_o, zI_1, s10], by rw [zI_o, zI_o]; exact s12, by rw [zI_o, zI_o]; exact s12'⟩⟩, hF.1, fun j hj => by rw [zI_o (by omega), zI_o (by omega)]; exact hF.2 j hj⟩
  rw [zq_take, kZ_take, if_pos (by omega), zbd_of e1]
  rfl
