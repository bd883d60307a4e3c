/-! the reference: an INFERENCE -/
abbrev FIn (σ τ : zS) : Prop := FrC [47, 72, 84, 87, 90, 91, 94, 98, 101, 105, 112, 113, 114] [43, 44, 45, 46, 66, 67, 68, 69, 70, 71, 73, 74, 75, 76, 77, 78, 79, 80, 81, 82, 95, 96, 97, 100, 102, 103, 104, 106, 107, 108, 109, 110, 111] σ τ
/-- what goes before the CONCLUSION -/
abbrev FPr (σ τ : zS) : Prop := FrC [112, 113, 114] [106, 107, 108, 109, 110, 111] σ τ
def adr (Cs : List CL) (k : Nat) (C : List Lt) (j : Nat) (b : Lt) (t : Int) : Int := (wpF (Cs.take k) : Int) + (wtL (C.take j) : Int) + (if t = 0 then 0 else (tw b.2.1 : Int))
section sup2
variable {ar : Int → Nat} {pd : Int → Prop} {m9 : Int}
theorem sd_at {σ : zS} {A : PA} (hI : RI ar pd m9 σ A) {k j : Nat} {d : CL} {b : Lt} (hc : A.1[k]? = some d) (hb : d.1[j]? = some b) {t : Int} (ht : t = 0 ∨ t = 1) {x : Int} (hx : x = 0 ∨ x = 6) : AT ar m9 σ (if t = 0 then σ.2.1 66 (lpos A.1 k + (j : Int)) else σ.2.1 67 (lpos A.1 k + (j : Int))) x (sdT b t) ∧ (if t = 0 then σ.2.1 66 (lpos A.1 k + (j : Int)) else σ.2.1 67 (lpos A.1 k + (j : Int))) = adr A.1 k d.1 j b t := by
  obtain ⟨h1, h2⟩ := lb_of hI.1 hc (hI.2.2.2.2.2 d (List.mem_of_getElem? hc)) hb hx
  obtain ⟨_, _, z1, z2⟩ := hI.2.1.2 k d hc j b hb
  unfold adr sdT
  rcases ht with rfl | rfl
  · rw [if_pos rfl, if_pos rfl, if_pos rfl]; exact ⟨h1, by omega⟩
  · rw [if_neg (by decide), if_neg (by decide), if_neg (by decide)]; exact ⟨h2, by omega⟩
theorem sd_at' {σ : zS} {A : PA} (hI : RI ar pd m9 σ A) {k j : Nat} {d : CL} {b : Lt} (hc : A.1[k]? = some d) (hb : d.1[j]? = some b) {t : Int} (ht : t = 0 ∨ t = 1) {x : Int} (hx : x = 0 ∨ x = 6) : AT ar m9 σ (if t = 1 then σ.2.1 66 (lpos A.1 k + (j : Int)) else σ.2.1 67 (lpos A.1 k + (j : Int))) x (sdT b (1 - t)) := by
  have := (sd_at hI hc hb (t := 1 - t) (by omega) hx).1
  rcases ht with rfl | rfl
  · exact this
  · exact this
/-- the TERM at o of a side -/
theorem sbo_at {σ : zS} {A : PA} (hI : RI ar pd m9 σ A) {k j o : Nat} {d : CL} {b : Lt} (hc : A.1[k]? = some d) (hb : d.1[j]? = some b) {t : Int} (ht : t = 0 ∨ t = 1) {y : Tm} (hy : sbF o (tt (sdT b t)) = some y) : AT ar m9 σ (adr A.1 k d.1 j b t + (o : Int)) 6 y := by
  obtain ⟨h1, h2⟩ := sd_at hI hc hb ht (x := 6) (Or.inr rfl)
  rw [h2] at h1
  obtain ⟨p1, p2, _, p4⟩ := h1
  obtain ⟨w1, w2⟩ := sb_wf p2 hy
  rw [tt_wt] at w2
  have e1 : tw y = 1 + wt y.2 := rfl
  have e2 : tw (sdT b t) = 1 + wt (sdT b t).2 := rfl
  have := p1.2
  exact ⟨⟨Px_sb p1.1 hy, by omega⟩, w1, Or.inr rfl, by omega⟩
/-- values that make them the same, from nothing -/
theorem uu_ok {β : Nat} (hβ : 1440 ≤ β) {σ : zS} {A : PA} (hI : RI ar pd m9 σ A) {t1 b1 t2 b2 : Int} {x y : Tm} (hx : AT ar m9 σ t1 b1 x) (hy : AT ar m9 σ t2 b2 y) : ∃ (τ0 τ : zS) (r : Int), zE tM_unbind β σ [] = some (τ0, 0) ∧ zE tM_unify β τ0 [t1, b1, t2, b2] = some (τ, r) ∧ VB σ τ0 ∧ VB σ τ ∧ ((r = 1 ∧ ∃ B, EB ar pd m9 τ B ∧ MW ar pd m9 (shT b1 x) (shT b2 y) (rs B)) ∨ (r = 0 ∧ ∀ θ, ¬ Sl pd (shT b1 x) (shT b2 y) θ)) := by
  obtain ⟨τ0, u1, u2, u3⟩ := ub_ok (β := β) (σ := σ)
  obtain ⟨τ, r, v1, v2, v3⟩ := ru_ok hβ (hI.2.2.1.f u2) hI.2.2.2.2.1 u3 (hx.f u2) (hy.f u2)
  exact ⟨τ0, τ, r, u1, v1, u2, u2.trans v2, v3⟩
theorem po_h {Cs : List CL} {k : Nat} {c : CL} {i j : Nat} {x2 x3 : Int} (h2 : x2 = lpos Cs k + (i : Int) ∨ (x2 < 0 ∧ c.1.length ≤ i)) (h3 : x3 = lpos Cs k + (j : Int) ∨ (x3 < 0 ∧ c.1.length ≤ j)) (h0 : 0 ≤ lpos Cs k) : ∀ n : Nat, n < c.1.length → (lpos Cs k + (n : Int) = x2 ∨ lpos Cs k + (n : Int) = x3 ↔ n = i ∨ n = j) := fun n hn => by omega
theorem si_ok {β : Nat} (hβ : 1542 ≤ β) {σ : zS} {A : PA} (hI : RI ar pd m9 σ A) {k1 k2 i j o : Nat} {d1 d2 : CL} {a b : Lt} {s t : Int} (hc1 : A.1[k1]? = some d1) (hc2 : A.1[k2]? = some d2) (ha : d1.1[i]? = some a) (hb : d2.1[j]? = some b) (hs : s = 0 ∨ s = 1) (ht : t = 0 ∨ t = 1) {y : Tm} (hy : sbF o (tt (sdT b t)) = some y) (cy : ¬ cl y.1 < 0) (h0 : A.2 87 = 0) {x4 : Int} :
    ∃ τ, zE tM_into β σ [(k1 : Int), (k2 : Int), lpos A.1 k1 + (i : Int), s, x4, adr A.1 k2 d2.1 j b t + (o : Int)] = zE tM_into_88 β τ [(k1 : Int), (k2 : Int), lpos A.1 k1 + (i : Int), s, x4, adr A.1 k2 d2.1 j b t + (o : Int)] ∧ RI ar pd m9 τ (infA ar pd m9 1 (k1 : Int) (k2 : Int) (sdT a s) (shT 6 y) (oth i d1.1.length 0 d1.1 ++ rpL (sdT a (1 - s)) j t o 0 d2.1) A) ∧ FIn σ τ := by
  obtain ⟨q, hq⟩ : ∃ q, q = lpos A.1 k1 + (i : Int) := ⟨_, rfl⟩
  obtain ⟨x5, hx5⟩ : ∃ x, x = adr A.1 k2 d2.1 j b t + (o : Int) := ⟨_, rfl⟩
  have hm1 := List.mem_of_getElem? hc1
  have hm2 := List.mem_of_getElem? hc2
  have wc1 := hI.2.2.2.2.2 d1 hm1
  have wc2 := hI.2.2.2.2.2 d2 hm2
  obtain ⟨hk1, g1, g2, g3, g4, g5⟩ := hI.1.k hc1
  obtain ⟨hk2, e1, e2, e3, e4, e5⟩ := hI.1.k hc2
  have il := (List.getElem?_eq_some_iff.mp ha).1
  have S1 := (sd_at hI hc1 ha hs (x := 0) (Or.inl rfl)).1
  have Y := sbo_at hI hc2 hb ht hy
  rw [← hq] at S1 ⊢
  rw [← hx5] at Y ⊢
  have y43 := Y.1.1.2.1
  have y0 := Y.1.1.1
  have y1 := Y.1.2
  have k87 : σ.1 87 = 0 := by rw [hI.2.2.2.1.1]; exact h0
  obtain ⟨σ1, σ3, rr, u1, u2, u3, u4, u5⟩ := uu_ok (β := β - 1) (by omega) hI S1 Y
  rw [shT_0] at u5
  have eS : ∀ (ρ : zS) (o : Int), (o = 0 ∨ o = 1) → zE tM_side2 (β - 1) ρ [q, s, o] = some (ρ, if s = o then ρ.2.1 66 q else ρ.2.1 67 q) := fun ρ o ho => rside_ok (by omega) (by omega) hs ho
  have start : zE tM_into β σ [(k1 : Int), (k2 : Int), q, s, x4, x5] = if rr = 0 then zE tM_into_88 β σ3 [(k1 : Int), (k2 : Int), q, s, x4, x5] else zbd (zE tM_begin (β - 1) σ3 []) (fun σ4 _ => zbd (zE tM_planOthers (β - 1) σ4 [(k1 : Int), 0, q, -1]) (fun σ5 _ => zbd (zE tM_planOthers (β - 1) σ5 [(k2 : Int), 6, -1, -1]) (fun σ6 _ => zbd (zE tM_side2 (β - 1) (zI σ6 113 x5) [q, s, 1]) (fun σ8 r8 => zbd (zE tM_conclude (β - 1) (zI σ8 114 r8) [1, (k1 : Int), (k2 : Int)]) (fun σ10 _ => zE tM_into_88 β σ10 [(k1 : Int), (k2 : Int), q, s, x4, x5]))))) := by
    have e1' : (if s = 0 then σ1.2.1 66 q else σ1.2.1 67 q) = if s = 0 then σ.2.1 66 q else σ.2.1 67 q := by rw [u3.a 66, u3.a 67]
    rw [zq_into, kZ_into, if_pos (by omega), y43, if_neg cy, if_pos k87, if_pos (by omega), zbd_of u1, if_pos (by omega), zbd_of (eS σ1 0 (Or.inl rfl)), if_pos (by omega), e1', zbd_of u2]
    by_cases w : rr = 0
    · rw [if_pos w, if_pos w]
    · have h1 : 1 ≤ β := by omega
      rw [if_neg w, if_neg w]
      simp only [h1, if_true, lt_e]
  rcases u5.symm with ⟨v1, v2⟩ | ⟨v1, B, v2, v3⟩
  · refine ⟨σ3, by rw [start, if_pos v1], ?_, u4.w⟩
    rw [infA_no v2]
    exact hI.f u4 u4.pq
  · obtain ⟨σ4, b1, b2, b3, b4⟩ := begin_ok (ar := ar) (m9 := m9) (β := β - 1) (σ := σ3)
    have I3 : RI ar pd m9 σ3 A := hI.f u4 u4.pq
    have I4 : RI ar pd m9 σ4 A := I3.f b2 b2.pq
    obtain ⟨σ5, c1', c2', c3'⟩ := po_ok (ar := ar) (m9 := m9) (β := β - 1) (by omega) I4.1 hc1 wc1 (b := 0) (Or.inl rfl) (po_h (i := i) (j := d1.1.length) (x2 := q) (x3 := -1) (Or.inl hq) (Or.inr ⟨by omega, Nat.le_refl _⟩) g1) b3 (by simp)
    have I5 : RI ar pd m9 σ5 A := I4.f c2' c2'.pq
    rw [List.nil_append] at c3'
    obtain ⟨σ6, d1', d2', d3'⟩ := po_ok (ar := ar) (m9 := m9) (β := β - 1) (by omega) I5.1 hc2 wc2 (b := 6) (Or.inr rfl) (po_h (i := d2.1.length) (j := d2.1.length) (x2 := -1) (x3 := -1) (Or.inr ⟨by omega, Nat.le_refl _⟩) (Or.inr ⟨by omega, Nat.le_refl _⟩) e1) c3' (by have := poE_len (σ := σ4) (p := lpos A.1 k1) (b := 0) (i := i) (j := d1.1.length) d1.1 0; omega)
    obtain ⟨x8, hx8⟩ : ∃ x, x = if s = 1 then σ.2.1 66 q else σ.2.1 67 q := ⟨_, rfl⟩
    obtain ⟨σ9, hσ9⟩ : ∃ z, z = zI (zI σ6 113 x5) 114 x8 := ⟨_, rfl⟩
    have f9 : FPr σ3 σ9 := by
      have z : FPr σ6 (zI σ6 113 x5) := FrC_I
      rw [hσ9]
      exact ((b2.w.trans c2'.w).trans d2'.w).trans (z.trans FrC_I)
    have fA : FPr σ σ9 := u4.w.trans f9
    have I9 : RI ar pd m9 σ9 A := hI.f fA fA.pq
    have gg : FrC [113, 114] [] σ6 σ9 := by
      have z : FrC [113, 114] [] σ6 (zI σ6 113 x5) := FrC_I
      rw [hσ9]; exact z.trans FrC_I
    have g46 : FrC [112] [108, 109, 110, 111] σ4 σ6 := c2'.trans d2'
    have g34 := b2
    have B9 : EB ar pd m9 σ9 B := by
      refine v2.lo ⟨f9.pq, fun v => ⟨?_, ?_⟩⟩
      · rw [gg.a 106, g46.a 106, b2.a 106]
      · rw [gg.a 107, g46.a 107, b2.a 107]
    have L9 := d3'.f gg gg.pq
    have i113 : σ9.1 113 = x5 := by rw [hσ9, zI_o, zI_1]
    have i114 : σ9.1 114 = x8 := by rw [hσ9, zI_1]
    have S2 := sd_at' hI hc1 ha hs (x := 0) (Or.inl rfl)
    rw [← hq, ← hx8] at S2
    have wl1 : WL ar (lb m9) d1.1 := wc1.2.2.2.2
    have wl2 : WL ar (lb m9) d2.1 := wc2.2.2.2.2
    have hol := sb_lt hy
    rw [tt_wt] at hol
    -- what it is made of
    have eR : cR (sdT a (1 - s)) (σ9.1 113) (poE σ4 (lpos A.1 k1) 0 i d1.1.length 0 d1.1 ++ poE σ5 (lpos A.1 k2) 6 d2.1.length d2.1.length 0 d2.1) = oth i d1.1.length 0 d1.1 ++ rpL (sdT a (1 - s)) j t o 0 d2.1 := by
      rw [i113, cR_app]
      congr 1
      · refine cR_0 d1.1 0 (fun m z hz => ?_)
        obtain ⟨l1, l2, _⟩ := I4.1.l hc1 hz
        rw [Nat.zero_add]
        exact ⟨l1.1.1, l2.1.1⟩
      · rw [hx5]
        unfold adr
        exact cR_6 (q := (wpF (A.1.take k2) : Int)) (fun n z hz => by
          obtain ⟨_, _, z1, z2⟩ := I5.2.1.2 k2 d2 hc2 n z hz
          exact ⟨z1, z2⟩) hb ht hol d2.1 [] rfl
    have wR : WL ar (lw 12 m9) (oth i d1.1.length 0 d1.1 ++ rpL (sdT a (1 - s)) j t o 0 d2.1) := by
      have wr : wf ar (lb m9) (tt (sdT a (1 - s))) := by
        obtain ⟨_, w1, w2⟩ := wl1 a (List.mem_of_getElem? ha)
        exact (sd_wf w1 w2 (1 - s)).1
      refine WL_app (oth_wf wl1) (rpL_wf wr wl2 (fun m z hz e => ?_))
      have : m = j := by omega
      subst this
      rw [hb] at hz
      obtain rfl := Option.some.inj hz
      exact ⟨fun w => by subst w; exact hol, fun w => by subst w; exact hol⟩
    obtain ⟨τ, t1, t2, t3⟩ := rc_ok (β := β - 1) (r := sdT a (1 - s)) (x0 := 1) (x1 := (k1 : Int)) (x2 := (k2 : Int)) (by omega) I9 B9 L9 (fun _ => by rw [i114]; exact S2.p fA.pq) (by rw [eR]; exact wR)
    rw [eR, ← infA_of v3 wR] at t2
    refine ⟨τ, ?_, t2, fA.w.trans t3.w⟩
    have e8 : (if s = 1 then (zI σ6 113 x5).2.1 66 q else (zI σ6 113 x5).2.1 67 q) = x8 := by
      have z66 : (zI σ6 113 x5).2.1 66 q = σ.2.1 66 q := by rw [zI_2, g46.a 66, b2.a 66, u4.a 66]
      have z67 : (zI σ6 113 x5).2.1 67 q = σ.2.1 67 q := by rw [zI_2, g46.a 67, b2.a 67, u4.a 67]
      rw [z66, z67, hx8]
    have s8 := eS (zI σ6 113 x5) 1 (Or.inr rfl)
    rw [e8] at s8
    rw [start, if_neg (by omega), zbd_of b1, zbd_of c1', zbd_of d1', zbd_of s8, ← hσ9, zbd_of t1]
end sup2
