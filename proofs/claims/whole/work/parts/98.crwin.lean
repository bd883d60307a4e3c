/-! is there a place in a CLAUSE where a single = could REWRITE -/
def rwP (pd : Int → Prop) (b : Lt) (y : Tm) : Prop := ¬ cl y.1 < 0 ∧ (rwI pd b.2.1 b.2.2 y ≠ none ∨ rwI pd b.2.2 b.2.1 y ≠ none)
def lF (d : Lt) : T := cat (tt d.2.1) (tt d.2.2)
theorem lF_wt (d : Lt) : wt (lF d) = tw d.2.1 + tw d.2.2 := by unfold lF; rw [wt_cat]; simp only [tt, wt, tw]; omega
theorem wtL_mm : ∀ {C : List Lt} {a : Lt}, a ∈ C → lwt a ≤ wtL C := fun {C a} h => by
  induction C with
  | nil => cases h
  | cons b C ih =>
    rcases List.mem_cons.mp h with rfl | h
    · simp only [wtL, lwt]; omega
    · have := ih h; simp only [wtL]; omega
abbrev RF (σ τ : zS) : Prop := FrC [6603, 6605] [13, 67, 68] σ τ
theorem rin_p61 {ar : Int → Nat} {pd : Int → Prop} {m9 : Int} {β : Nat} (hβ : 5 ≤ β) {Cs : List CL} {k : Nat} {c : CL} (hc : Cs[k]? = some c) (wc : Wc ar m9 c.1) {b : Lt} (hb : c.1[0]? = some b) {F : T} (wF : wf ar (lb m9) F) (w1 : wt F ≤ 100) {P x1 x2 x3 : Int} (P0 : 0 ≤ P) (z3 : zr (x3 + 1)) : ∀ (m o : Nat) (σ : zS), Cx ar pd m9 σ → SC σ Cs → Fl (σ.2.1 48) P (fl F) → P + (wt F : Int) ≤ σ.1 4701 → o + m = wt F →
    ∃ τ, RF σ τ ∧ (((∃ o' y, o ≤ o' ∧ sbF o' F = some y ∧ rwP pd b y) ∧ yE tC_Mat_rewritesIn_p61 β σ [(k : Int), x1, x2, x3, P + (wt F : Int), P + (o : Int)] = some (τ, 1)) ∨ ((¬ ∃ o' y, o ≤ o' ∧ sbF o' F = some y ∧ rwP pd b y) ∧ yE tC_Mat_rewritesIn_p61 β σ [(k : Int), x1, x2, x3, P + (wt F : Int), P + (o : Int)] = yE tC_Mat_rewritesIn_p26 β τ [(k : Int), x1, P + (wt F : Int), x3 + 1]))
  | 0, o, σ, hC, hS, hF, hP, hm => by
    refine ⟨σ, FrC.refl, Or.inr ⟨?_, ?_⟩⟩
    · rintro ⟨o', y, h1, h2, _⟩
      have := (sb_wf wF h2).2
      have := tw_pos y
      omega
    · rw [yq_Mat_rewritesIn_p61, kY_Mat_rewritesIn_p61, if_pos (by omega), if_pos z3]
  | m + 1, o, σ, hC, hS, hF, hP, hm => by
    obtain ⟨c1, c2, c3, c4, c5, c6⟩ := id hC
    obtain ⟨y, hy⟩ := sb_ex (F := F) (o := o) (by omega)
    obtain ⟨q1, q2⟩ := sb_Fl hF hy
    have wy := (sb_wf wF hy).1
    have ty := tw_pos y
    have ey : σ.2.1 48 (P + (o : Int)) = cl y.1 := q1.1
    have step : ∀ ρ : zS, RF σ ρ → ¬ rwP pd b y → ∃ τ, RF σ τ ∧ (((∃ o' y, o ≤ o' ∧ sbF o' F = some y ∧ rwP pd b y) ∧ yE tC_Mat_rewritesIn_p104 β ρ [(k : Int), x1, x2, x3, P + (wt F : Int), P + (o : Int)] = some (τ, 1)) ∨ ((¬ ∃ o' y, o ≤ o' ∧ sbF o' F = some y ∧ rwP pd b y) ∧ yE tC_Mat_rewritesIn_p104 β ρ [(k : Int), x1, x2, x3, P + (wt F : Int), P + (o : Int)] = yE tC_Mat_rewritesIn_p26 β τ [(k : Int), x1, P + (wt F : Int), x3 + 1])) := fun ρ fρ hn => by
      have e47 : ρ.1 4701 = σ.1 4701 := fρ.i 4701
      obtain ⟨τ, t1, t2⟩ := rin_p61 hβ hc wc hb wF w1 (x1 := x1) (x2 := x2) P0 z3 m (o + 1) ρ (hC.f fρ) (hS.f fρ) (Fl_q (fun j _ _ => fρ.a 48 j) hF) (by omega) (by omega)
      have ex : (∃ o' y, o ≤ o' ∧ sbF o' F = some y ∧ rwP pd b y) ↔ ∃ o' y, o + 1 ≤ o' ∧ sbF o' F = some y ∧ rwP pd b y := by
        constructor
        · rintro ⟨o', z, h1, h2, h3⟩
          by_cases e : o' = o
          · subst e; rw [hy] at h2; cases h2; exact absurd h3 hn
          · exact ⟨o', z, by omega, h2, h3⟩
        · rintro ⟨o', z, h1, h2, h3⟩
          exact ⟨o', z, by omega, h2, h3⟩
      refine ⟨τ, fρ.trans t1, ?_⟩
      rw [yq_Mat_rewritesIn_p104, kY_Mat_rewritesIn_p104, if_pos (by omega), ex, show P + (o : Int) + 1 = P + ((o + 1 : Nat) : Int) by omega]
      exact t2
    rw [yq_Mat_rewritesIn_p61, kY_Mat_rewritesIn_p61, if_neg (by omega), if_pos ⟨by omega, by omega⟩, ey]
    by_cases n1 : cl y.1 < 0
    · rw [if_pos n1]; exact step σ FrC.refl (fun h => h.1 n1)
    · rw [if_neg n1, if_pos (by omega)]
      obtain ⟨σ1, r1, r2, _⟩ := rw48_ok (β := β - 1) (by omega) hC hS hc wc hb (s := 0) (Or.inl rfl) q1 wy (by omega) (by omega) (by omega)
      have e1 : sdT b (1 - 0) = b.2.2 := rfl
      have e0 : sdT b 0 = b.2.1 := rfl
      have e3 : sdT b (1 - 1) = b.2.1 := rfl
      have e2 : sdT b 1 = b.2.2 := rfl
      rw [e1, e0] at r1
      rw [zbd_of r1]
      have yes : ∀ ρ : zS, RF σ ρ → rwP pd b y → ∃ τ, RF σ τ ∧ (((∃ o' y, o ≤ o' ∧ sbF o' F = some y ∧ rwP pd b y) ∧ yE tC_Mat_rewritesIn_p102 β ρ [(k : Int), x1, x2, x3, P + (wt F : Int), P + (o : Int)] = some (τ, 1)) ∨ ((¬ ∃ o' y, o ≤ o' ∧ sbF o' F = some y ∧ rwP pd b y) ∧ yE tC_Mat_rewritesIn_p102 β ρ [(k : Int), x1, x2, x3, P + (wt F : Int), P + (o : Int)] = yE tC_Mat_rewritesIn_p26 β τ [(k : Int), x1, P + (wt F : Int), x3 + 1])) := fun ρ fρ h =>
        ⟨ρ, fρ, Or.inl ⟨⟨o, y, Nat.le_refl _, hy, h⟩, by rw [yq_Mat_rewritesIn_p102, kY_Mat_rewritesIn_p102]⟩⟩
      by_cases g1 : rwI pd b.2.1 b.2.2 y ≠ none
      · rw [b2_t g1, if_neg (by decide)]; exact yes σ1 r2 ⟨n1, Or.inl g1⟩
      · rw [b2_f g1, if_pos rfl, if_pos (by omega)]
        have e47 : σ1.1 4701 = σ.1 4701 := r2.i 4701
        have l48 : σ1.2.2 48 = σ.2.2 48 := r2.2.2.1 48 (by decide) (by decide) (by decide)
        obtain ⟨σ2, p1, p2, _⟩ := rw48_ok (β := β - 1) (by omega) (hC.f r2) (hS.f r2) hc wc hb (s := 1) (Or.inr rfl) (Fl_q (fun j _ _ => r2.a 48 j) q1) wy (by omega) (by omega) (by omega)
        rw [e3, e2] at p1
        rw [zbd_of p1]
        by_cases g2 : rwI pd b.2.2 b.2.1 y ≠ none
        · rw [b2_t g2, if_neg (by decide)]; exact yes σ2 (r2.trans p2) ⟨n1, Or.inr g2⟩
        · rw [b2_f g2, if_pos rfl]
          exact step σ2 (r2.trans p2) (fun h => h.2.elim g1 g2)
theorem rin_p26 {ar : Int → Nat} {pd : Int → Prop} {m9 : Int} {β : Nat} (hβ : 5 ≤ β) {Cs : List CL} {k kd : Nat} {c d : CL} (hc : Cs[k]? = some c) (wc : Wc ar m9 c.1) {b : Lt} (hb : c.1[0]? = some b) (hd : Cs[kd]? = some d) (wd : Wc ar m9 d.1) : ∀ (m n : Nat) (σ : zS), Cx ar pd m9 σ → SC σ Cs → n + m = d.1.length →
    ∃ τ, RF σ τ ∧ yE tC_Mat_rewritesIn_p26 β σ [(k : Int), (kd : Int), hp (pos Cs kd) d.1 n, (n : Int)] = some (τ, b2 (∃ i a, n ≤ i ∧ d.1[i]? = some a ∧ ∃ o y, sbF o (lF a) = some y ∧ rwP pd b y))
  | 0, n, σ, hC, hS, hm => by
    refine ⟨σ, FrC.refl, ?_⟩
    rw [yq_Mat_rewritesIn_p26, kY_Mat_rewritesIn_p26, if_pos (by omega), zbd_of (hS.f3 hd).1, if_pos (by omega), b2_f]
    rintro ⟨i, a, h1, h2, _⟩
    have := (List.getElem?_eq_some_iff.mp h2).1
    omega
  | m + 1, n, σ, hC, hS, hm => by
    obtain ⟨a, ha⟩ : ∃ a, d.1[n]? = some a := ⟨_, List.getElem?_eq_getElem (by omega)⟩
    have hl := hS.hl hd ha
    obtain ⟨w8, w100, _, _, wl⟩ := id wd
    obtain ⟨_, wa1, wa2⟩ := wl a (List.mem_of_getElem? ha)
    have lwm : lwt a ≤ wtL d.1 := wtL_mm (List.mem_of_getElem? ha)
    simp only [lwt] at lwm
    obtain ⟨_, _, _, h4, h5, h6, h7, h8, h9⟩ := id hl
    have ew : (fl (tt a.2.1)).length = tw a.2.1 := by rw [fl_length]; simp only [tt, wt, tw]; omega
    have hF : Fl (σ.2.1 48) (hp (pos Cs kd) d.1 n + 5) (fl (lF a)) := by
      unfold lF
      rw [fl_cat, Fl_app, ew]; exact ⟨h4, h5⟩
    have hw := lF_wt a
    obtain ⟨τ, t1, t2⟩ := rin_p61 (pd := pd) hβ hc wc hb (F := lF a) (wf_cat wa1 wa2) (by omega) (P := hp (pos Cs kd) d.1 n + 5) (x1 := (kd : Int)) (x2 := hp (pos Cs kd) d.1 n) (x3 := (n : Int)) (by omega) (by omega) (wt (lF a)) 0 σ hC hS hF (by omega) (by omega)
    rw [yq_Mat_rewritesIn_p26, kY_Mat_rewritesIn_p26, if_pos (by omega), zbd_of (hS.f3 hd).1, if_neg (by omega), if_pos (by omega), zbd_of (behind_ok hl), if_pos (by omega), zbd_of (side_ok hl (Or.inl rfl))]
    rw [show hp (pos Cs kd) d.1 n + 5 + (tw a.2.1 : Int) + (tw a.2.2 : Int) = hp (pos Cs kd) d.1 n + 5 + (wt (lF a) : Int) by omega, show sdp (hp (pos Cs kd) d.1 n) a 0 = hp (pos Cs kd) d.1 n + 5 + ((0 : Nat) : Int) by show hp (pos Cs kd) d.1 n + 5 = _; simp]
    rcases t2 with ⟨⟨o, y, _, g2, g3⟩, e⟩ | ⟨hn, e⟩
    · rw [e]
      exact ⟨τ, t1, by rw [b2_t ⟨n, a, Nat.le_refl _, ha, o, y, g2, g3⟩]⟩
    · rw [e]
      obtain ⟨κ, k1, k2⟩ := rin_p26 (pd := pd) hβ hc wc hb hd wd m (n + 1) τ (hC.f t1) (hS.f t1) (by omega)
      rw [hp_s ha, show hp (pos Cs kd) d.1 n + 5 + (tw a.2.1 : Int) + (tw a.2.2 : Int) = hp (pos Cs kd) d.1 n + 5 + (wt (lF a) : Int) by omega] at k2
      refine ⟨κ, t1.trans k1, ?_⟩
      rw [show (n : Int) + 1 = ((n + 1 : Nat) : Int) by omega, k2]
      congr 2
      refine b2_c ⟨?_, ?_⟩
      · rintro ⟨i, a', h1, h2⟩; exact ⟨i, a', by omega, h2⟩
      · rintro ⟨i, a', u1, u2, o, y, u3, u4⟩
        by_cases e : i = n
        · rw [e, ha] at u2
          obtain rfl : a = a' := Option.some.inj u2
          exact absurd ⟨o, y, Nat.zero_le _, u3, u4⟩ hn
        · exact ⟨i, a', by omega, u2, o, y, u3, u4⟩
theorem rin_ok {ar : Int → Nat} {pd : Int → Prop} {m9 : Int} {β : Nat} (hβ : 5 ≤ β) {σ : zS} {Cs : List CL} (hC : Cx ar pd m9 σ) (hS : SC σ Cs) {k kd : Nat} {c d : CL} (hc : Cs[k]? = some c) (wc : Wc ar m9 c.1) {b : Lt} (hb : c.1[0]? = some b) (hd : Cs[kd]? = some d) (wd : Wc ar m9 d.1) : ∃ τ, RF σ τ ∧ yE tC_Mat_rewritesIn β σ [(k : Int), (kd : Int)] = some (τ, b2 (∃ (i : Nat) (a : Lt), d.1[i]? = some a ∧ ∃ o y, sbF o (lF a) = some y ∧ rwP pd b y)) := by
  obtain ⟨τ, t1, t2⟩ := rin_p26 (pd := pd) hβ hc wc hb hd wd d.1.length 0 σ hC hS (by omega)
  refine ⟨τ, t1, ?_⟩
  rw [hp_0] at t2
  rw [yq_Mat_rewritesIn, kY_Mat_rewritesIn, if_pos (by omega), zbd_of (hS.f3 hd).2.1]
  have t2' : yE tC_Mat_rewritesIn_p26 β σ [(k : Int), (kd : Int), pos Cs kd, 0] = _ := t2
  rw [t2']
  congr 2
  exact b2_c ⟨fun ⟨i, a, _, h⟩ => ⟨i, a, h⟩, fun ⟨i, a, h⟩ => ⟨i, a, Nat.zero_le _, h⟩⟩
