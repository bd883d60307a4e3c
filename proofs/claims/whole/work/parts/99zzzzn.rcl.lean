/-! the reference: CLAUSES of two FORMULAS -/
theorem CLf.ex {σ τ : zS} (f : CLf σ τ) : EX σ τ := by
  obtain ⟨a1, a2, a3, _⟩ := f
  refine ⟨⟨by rw [a1 37 (by decide) (by decide) (by decide) (by decide)]; exact Int.le_refl _, by rw [a1 38 (by decide) (by decide) (by decide) (by decide)]; exact Int.le_refl _, by rw [a1 40 (by decide) (by decide) (by decide) (by decide)]; exact Int.le_refl _⟩, fun i _ _ => ⟨a3 34 i (by decide), a3 35 i (by decide), a3 36 i (by decide)⟩, fun i _ _ => ⟨a3 30 i (by decide), a3 31 i (by decide), a3 32 i (by decide), a3 33 i (by decide)⟩, fun i _ _ => ⟨a3 41 i (by decide), a3 42 i (by decide)⟩⟩
theorem CLf.ef {σ τ ρ : zS} (f : CLf σ τ) (g : EF (σ.1 65) τ ρ) : CLf σ ρ := by
  obtain ⟨a1, a2, a3, a4, a5, a6, a7⟩ := f
  obtain ⟨b1, b2, b3, b4, b5⟩ := g
  refine ⟨fun j x1 x2 x3 x4 => by rw [b1 j x3 x4, a1 j x1 x2 x3 x4], by rw [b2, a2], fun j q hj => ?_, fun k q hq hk => by rw [b3 k q (by omega) (by omega), a4 k q hq hk], by rw [b1 47 (by decide) (by decide)]; exact a5, fun q hq => by rw [b4 q hq, a6 q hq], fun q hq => by rw [b5 q hq, a7 q hq]⟩
  rw [b3 j q (fun e => by subst e; exact absurd hj (by decide)) (fun e => by subst e; exact absurd hj (by decide)), a3 j q hj]
theorem REv.ef {w : Nat → Nat} {r : Int} {σ τ : zS} {E : VE} (h : REv w σ E) (f : EF r σ τ) : REv w τ E := ⟨by rw [f.1 62 (by decide) (by decide)]; exact h.1, h.2.1, fun i x hx => by rw [f.2.2.1 59 _ (by decide) (by decide), f.2.2.1 60 _ (by decide) (by decide), f.2.2.1 61 _ (by decide) (by decide), f.2.2.1 23 _ (by decide) (by decide)]; exact h.2.2 i x hx⟩
theorem REv.z {w : Nat → Nat} {σ τ : zS} {E : VE} (h : REv w σ E) (h1 : ∀ j, j ≠ 3000 → τ.1 j = σ.1 j) (h2 : τ.2 = σ.2) : REv w τ E := ⟨by rw [h1 62 (by decide)]; exact h.1, h.2.1, fun i x hx => by rw [h2]; exact h.2.2 i x hx⟩
theorem CLf.z {σ τ ρ : zS} (f : CLf σ τ) (h1 : ∀ j, j ≠ 3000 → ρ.1 j = τ.1 j) (h2 : ρ.2 = τ.2) : CLf σ ρ := by
  obtain ⟨a1, a2, a3, a4, a5, a6, a7⟩ := f
  exact ⟨fun j x1 x2 x3 x4 => by rw [h1 j x4]; exact a1 j x1 x2 x3 x4, by rw [h2]; exact a2, fun j q hj => by rw [h2]; exact a3 j q hj, fun k q hq hk => by rw [h2]; exact a4 k q hq hk, by rw [h1 47 (by decide)]; exact a5, fun q hq => by rw [h2]; exact a6 q hq, fun q hq => by rw [h2]; exact a7 q hq⟩
theorem RRs.z {σ τ : zS} {r : Int} {A : List (List Lt)} (h : RRs σ r A) (h1 : ∀ j, j ≠ 3000 → τ.1 j = σ.1 j) (h2 : τ.2 = σ.2) : RRs τ r A := fun i c hc => (h i c hc).m (fun k q _ _ => by rw [h2]) (by rw [h1 47 (by decide)]; exact Int.le_refl _) (fun q _ _ => by rw [h2]) (by rw [h2])
def COk (w : Nat → Nat) (σ τ : zS) (E : VE) (A : List (List Lt)) : Prop := τ.1 3000 = 0 ∧ CLf σ τ ∧ REv w τ E ∧ RRs τ (σ.1 65) A ∧ τ.1 65 = σ.1 65 + (A.length : Int) ∧ τ.1 47 ≤ σ.1 47 + 100 * (lsz A : Int) ∧ ∀ c ∈ A, c.length ≤ 8
def CBad (σ τ : zS) (A : List (List Lt)) : Prop := τ.1 3000 = 2 ∧ CLf σ τ ∧ Bd A
theorem COk.z {w : Nat → Nat} {σ τ : zS} {E : VE} {A : List (List Lt)} (h : COk w σ τ E A) : COk w σ (zI τ 3000 0) E A := by
  obtain ⟨a, b, c, d, e, f, g⟩ := h
  have h1 : ∀ j, j ≠ 3000 → (zI τ 3000 0).1 j = τ.1 j := fun j hj => by simp [zI, hj]
  exact ⟨by simp [zI], b.z h1 rfl, c.z h1 rfl, d.z h1 rfl, by rw [h1 65 (by decide)]; exact e, by rw [h1 47 (by decide)]; exact f, g⟩
/-- CLAUSES of one FORMULA: how they come out -/
def CLs (w : Nat → Nat) (nm : PN) (h : Nat) (f : Tm) (is : Bool) : Prop := ∀ (a : Int) (E : VE) (σ : zS) (β : Nat), RFm σ h f a → REv w σ E → WFo1 nm f (fun v => ∃ x ∈ E, (x.1 : Int) = v) → (∀ v, bnF (tt f) v → v ∉ keysE E) → wK (fun v => 0 ≤ cl (w v) ∧ σ.2.1 23 (v : Int) = cl (w v)) f is → 205000 ≤ σ.1 47 → σ.1 47 + 800 * ((nF f is + rF f is + eF f : Nat) : Int) ≤ 420000 → 0 ≤ σ.1 65 → σ.1 65 + ((3 * nF f is + rF f is + eF f : Nat) : Int) ≤ 1200 → σ.1 37 ≤ 20100 ∧ σ.1 38 ≤ 20100 ∧ σ.1 40 ≤ 20100 → 2 * h + 300 ≤ β → ∃ τ, xE tX_clauses β σ [a, bi is] = some (τ, 0) ∧ (COk w σ τ E (cFm w f E is) ∨ CBad σ τ (cFm w f E is))
theorem ab3 {a b : Nat} (h1 : 1 ≤ a) (h2 : 1 ≤ b) : a + 3 * b ≤ 3 * (a * b) + 1 := by
  obtain ⟨c, rfl⟩ : ∃ c, a = c + 1 := ⟨a - 1, by omega⟩
  have e : (c + 1) * b = c * b + b := by rw [Nat.add_mul, Nat.one_mul]
  have : c ≤ c * b := Nat.le_mul_of_pos_right c h2
  omega
theorem jnd_ok {w : Nat → Nat} {nm : PN} {h : Nat} {g k : Tm} {s t all : Bool} (fg : FS (tt g)) (fk : FS (tt k)) (ig : CLs w nm h g s) (ik : CLs w nm h k t) {a1 a2 : Int} {E : VE} {σ : zS} {β : Nat} (r1 : RFm σ h g a1) (r2 : RFm σ h k a2) (hE : REv w σ E) (w1 : WFo1 nm g (fun v => ∃ x ∈ E, (x.1 : Int) = v)) (w2 : WFo1 nm k (fun v => ∃ x ∈ E, (x.1 : Int) = v)) (b1 : ∀ v, bnF (tt g) v → v ∉ keysE E) (b2' : ∀ v, bnF (tt k) v → v ∉ keysE E)
    (k1 : wK (fun v => 0 ≤ cl (w v) ∧ σ.2.1 23 (v : Int) = cl (w v)) g s) (k2 : wK (fun v => 0 ≤ cl (w v) ∧ σ.2.1 23 (v : Int) = cl (w v)) k t) (h47 : 205000 ≤ σ.1 47) (m1 : σ.1 47 + 800 * ((nF g s + rF g s + eF g : Nat) : Int) ≤ 420000) (m2 : σ.1 47 + 800 * ((nF g s + nF k t + rF k t + eF k : Nat) : Int) ≤ 420000) (h65 : 0 ≤ σ.1 65) (n1 : σ.1 65 + ((3 * nF g s + rF g s + eF g : Nat) : Int) ≤ 1200) (n2 : σ.1 65 + ((nF g s + 3 * nF k t + rF k t + eF k : Nat) : Int) ≤ 1200) (n3 : all = false → σ.1 65 + ((nF g s + nF k t + nF g s * nF k t : Nat) : Int) ≤ 1200) (h20 : σ.1 37 ≤ 20100 ∧ σ.1 38 ≤ 20100 ∧ σ.1 40 ≤ 20100) (hβ : 2 * h + 301 ≤ β) :
    ∃ τ, xE tX_joined2 β σ [a1, a2, bi s, bi t, bi all] = some (τ, 0) ∧ (COk w σ τ E (jn all (cFm w g E s) (cFm w k E t)) ∨ CBad σ τ (jn all (cFm w g E s) (cFm w k E t))) := by
  have la := cFm_len (w := w) g fg E s
  have lb := cFm_len (w := w) k fk E t
  have pa := nF_1 g fg s
  have pb' := nF_1 k fk t
  obtain ⟨σ1, e1, o1⟩ := ig a1 E σ (β - 1) r1 hE w1 b1 k1 h47 m1 h65 n1 h20 (by omega)
  have begin_ : xE tX_joined2 β σ [a1, a2, bi s, bi t, bi all] = (if (σ1.1 3000) = 0 then (zbd (xE tX_clauses (β - 1) σ1 [a2, bi t]) (fun σ2 r2 => if (σ2.1 3000) = 0 then (if bi all = 0 then (if 1 ≤ β then (zbd (xE tX_either (β - 1) σ2 [(σ.1 65), (σ1.1 65)]) (fun σ3 r3 => if (σ3.1 3000) = 0 then (xE tX_joined2_38 β σ3 [a1, a2, bi s, bi t, bi all, (σ.1 65), (σ1.1 65)]) else (some (σ3, 0)))) else none) else (xE tX_joined2_38 β σ2 [a1, a2, bi s, bi t, bi all, (σ.1 65), (σ1.1 65)])) else (some (σ2, 0)))) else (some (σ1, 0))) := by
    rw [xq_joined2, kW_joined2, if_pos (show 1 ≤ β by omega), zbd_of e1]
    by_cases c0 : σ1.1 3000 = 0
    · rw [if_pos c0, if_pos c0, if_pos (show 1 ≤ β by omega)]
    · rw [if_neg c0, if_neg c0]
  rw [begin_]
  have e38 : ∀ (ρ : zS) (p q u v x y z : Int), xE tX_joined2_38 β ρ [p, q, u, v, x, y, z] = some (zI ρ 3000 0, 0) := fun ρ p q u v x y z => by rw [xq_joined2_38, kW_joined2_38, lt_e]
  rcases o1 with o1 | ⟨c1, c2, c3⟩
  · obtain ⟨c1, c2, c3, c4, c5, c6, c7⟩ := o1
    rw [if_pos c1]
    have hl8 := lsz_8 c7
    rw [la] at hl8 c5
    have ex1 := c2.ex
    have i37 := c2.1 37 (by decide) (by decide) (by decide) (by decide)
    have i38 := c2.1 38 (by decide) (by decide) (by decide) (by decide)
    have i40 := c2.1 40 (by decide) (by decide) (by decide) (by decide)
    have ck2 : wK (fun v => 0 ≤ cl (w v) ∧ σ1.2.1 23 (v : Int) = cl (w v)) k t := by
      rw [show (fun v : Nat => 0 ≤ cl (w v) ∧ σ1.2.1 23 (v : Int) = cl (w v)) = (fun v : Nat => 0 ≤ cl (w v) ∧ σ.2.1 23 (v : Int) = cl (w v)) from funext (fun v => by rw [c2.2.2.1 23 _ (by decide)])]
      exact k2
    obtain ⟨σ2, e2, o2⟩ := ik a2 E σ1 (β - 1) (r2.x ex1) c3 w2 b2' ck2 (by have := c2.2.2.2.2.1; omega) (by omega) (by omega) (by omega) (by rw [i37, i38, i40]; exact h20) (by omega)
    rw [zbd_of e2]
    rcases o2 with o2 | ⟨d1, d2, d3⟩
    · obtain ⟨d1, d2, d3, d4, d5, d6, d7⟩ := o2
      rw [if_pos d1]
      have hl82 := lsz_8 d7
      rw [lb] at hl82 d5
      have fσ2 : CLf σ σ2 := c2.tr d2 (by omega)
      have hA2 : RRs σ2 (σ.1 65) (cFm w g E s) := c4.c d2 (by rw [la]; omega)
      have hB2 : RRs σ2 (σ.1 65 + (nF g s : Int)) (cFm w k E t) := by rw [← c5]; exact d4
      cases all
      · have n3 := n3 rfl
        have eal : (eaE (cFm w g E s) (cFm w k E t)).length = nF g s * nF k t := by rw [eaE_len, la, lb]
        have ejn : jn false (cFm w g E s) (cFm w k E t) = eaE (cFm w g E s) (cFm w k E t) := rfl
        rw [ejn, if_pos (show bi false = 0 from rfl), if_pos (by omega), c5]
        obtain ⟨y1, y2⟩ := ei_ok (β := β - 1) (r0 := σ.1 65) (σ := σ2) (A := cFm w g E s) (B := cFm w k E t) h65 hA2 (by rw [la]; exact hB2) (by rw [la, lb]; omega) (by rw [la, lb]; omega) (by rw [la]; exact pa) (by rw [lb]; exact pb')
        rw [la] at y1 y2
        by_cases hall : ∀ c ∈ cFm w g E s, ∀ d ∈ cFm w k E t, c.length + d.length ≤ 8
        · obtain ⟨σ3, t1, t2, t3, t4, t5⟩ := y1 hall
          rw [zbd_of t1, if_pos t2, e38]
          refine ⟨_, rfl, Or.inl (COk.z ⟨t2, fσ2.ef t3, d3.ef t3, t4, t5, ?_, fun c hc => ?_⟩)⟩
          · rw [t3.1 47 (by decide) (by decide)]
            have := lsz_ea1 (A := cFm w g E s) (B := cFm w k E t) (by rw [la]; exact pa) (by rw [lb]; exact pb')
            omega
          · obtain ⟨x, hx, hm⟩ := List.mem_flatMap.mp hc
            obtain ⟨y, hy, e⟩ := List.mem_map.mp hm
            rw [← e, List.length_append]
            exact hall x hx y hy
        · have hex : ∃ c ∈ cFm w g E s, ∃ d ∈ cFm w k E t, 8 < c.length + d.length := by
            obtain ⟨c, hc⟩ := Classical.not_forall.mp hall
            have hc := Classical.not_imp.mp hc
            obtain ⟨d, hd⟩ := Classical.not_forall.mp hc.2
            have hd := Classical.not_imp.mp hd
            exact ⟨c, hc.1, d, hd.1, by omega⟩
          obtain ⟨σ3, t1, t2, t3, t4⟩ := y2 hex
          rw [zbd_of t1, if_neg (by rw [t2]; decide)]
          obtain ⟨c, hc, d, hd, h9⟩ := hex
          exact ⟨σ3, rfl, Or.inr ⟨t2, fσ2.ef t3, c ++ d, eaE_mem hc hd, Or.inl (by rw [List.length_append]; exact h9)⟩⟩
      · have ejn : jn true (cFm w g E s) (cFm w k E t) = cFm w g E s ++ cFm w k E t := rfl
        rw [ejn, if_neg (show ¬ bi true = 0 by decide), e38]
        refine ⟨_, rfl, Or.inl (COk.z ⟨d1, fσ2, d3, fun i c hc => ?_, ?_, ?_, fun c hc => ?_⟩)⟩
        · by_cases ci : i < nF g s
          · rw [List.getElem?_append_left (by rw [la]; exact ci)] at hc
            exact hA2 i c hc
          · rw [List.getElem?_append_right (by rw [la]; omega), la] at hc
            have := hB2 _ c hc
            rw [show σ.1 65 + (nF g s : Int) + ((i - nF g s : Nat) : Int) = σ.1 65 + (i : Int) by omega] at this
            exact this
        · rw [List.length_append, la, lb]; omega
        · rw [lsz_app]; omega
        · rcases List.mem_append.mp hc with hc | hc
          · exact c7 c hc
          · exact d7 c hc
    · rw [if_neg (by rw [d1]; decide)]
      refine ⟨σ2, rfl, Or.inr ⟨d1, c2.tr d2 (by omega), ?_⟩⟩
      cases all
      · exact Bd_er d3 (by rw [la]; exact pa)
      · exact Bd_ar d3
  · rw [if_neg (by rw [c1]; decide)]
    refine ⟨σ1, rfl, Or.inr ⟨c1, c2, ?_⟩⟩
    cases all
    · exact Bd_el c3 (by rw [lb]; exact pb')
    · exact Bd_al c3
