/-! the reference: the CLAUSE of an ATOM -/
theorem c1k_100 {a b : Nat} : c1k a + c1k b ≤ 100 ↔ a + b ≤ 100 := by
  unfold c1k
  split <;> split <;> omega
theorem atq_ok {β : Nat} (hβ : 300 ≤ β) {σ : zS} {w : Nat → Nat} {E : VE} {x y : Tm} {a : Int} {is : Bool} (ha : 0 ≤ a ∧ a < 20100) (h38 : σ.1 38 ≤ 20100) (hx : RTr σ x.1 x.2 (σ.2.1 31 a)) (hy : RTr σ y.1 y.2 (σ.2.1 32 a)) (vx : VO E (tt x)) (vy : VO E (tt y)) (hh : ht x.2 ≤ 100 ∧ ht y.2 ≤ 100) (hE : REv w σ E) (h47 : 205000 ≤ σ.1 47 ∧ σ.1 47 + 100 ≤ 420000) (h65 : 0 ≤ σ.1 65 ∧ σ.1 65 < 1200) :
    (tw (st (eV E) x) + tw (st (eV E) y) ≤ 100 → ∃ τ, xE tX_atom2 β σ [a, bi is] = some (τ, 0) ∧ τ.1 3000 = 0 ∧ CLf σ τ ∧ REv w τ E ∧ τ.1 65 = σ.1 65 + 1 ∧ τ.1 47 ≤ σ.1 47 + 100 ∧ RRw τ (σ.1 65) [(bi is, st (eV E) x, st (eV E) y)]) ∧
    (100 < tw (st (eV E) x) + tw (st (eV E) y) → ∃ τ, xE tX_atom2 β σ [a, bi is] = some (τ, 0) ∧ τ.1 3000 = 2 ∧ CLf σ τ) := by
  have hy0 := hy.1
  have w1 := wof_1 (β := β - 1) hE hx h38 vx (by omega)
  have w2 := wof_1 (β := β - 1) hE hy h38 vy (by omega)
  have b1 := c1k_b (tw (st (eV E) x))
  have b2' := c1k_b (tw (st (eV E) y))
  have start : xE tX_atom2 β σ [a, bi is] = xE tX_atom2_84 β σ [a, bi is, c1k (tw (st (eV E) x)) + c1k (tw (st (eV E) y))] := by
    rw [xq_atom2, kW_atom2, if_pos ⟨by omega, by omega⟩, if_neg (by omega), if_pos (by omega), zbd_of w1, if_pos (by omega), zbd_of w2, if_pos ⟨by omega, by omega⟩]
  rw [start, xq_atom2_84, kW_atom2_84]
  refine ⟨fun hw => ?_, fun hw => ?_⟩
  · have hwx : tw (st (eV E) x) ≤ 100 := by omega
    have hwy : tw (st (eV E) y) ≤ 100 := by omega
    obtain ⟨σa, t1, t2, t3, t4⟩ := blt1_ok (β := β - 1) hx h38 vx hE (by omega) (by omega) (by have := ht_le100 hwx; omega)
    obtain ⟨σb, hsb⟩ : ∃ z, z = zA σa 63 (24 * σ.1 65) (σ.1 47) := ⟨_, rfl⟩
    have gb : ∀ j q, j ≠ 63 → σb.2.1 j q = σa.2.1 j q := fun j q hj => by rw [hsb, zA_o hj]
    have ib : ∀ j, σb.1 j = σa.1 j := fun j => by rw [hsb]; rfl
    have ia : ∀ j, j ≠ 47 → σa.1 j = σ.1 j := t2.2.1
    have aa : ∀ j q, ¬ (j = 43 ∨ j = 44 ∨ j = 45 ∨ j = 46) → σa.2.1 j q = σ.2.1 j q := fun j q hj => t2.2.2.2 j q (Or.inr hj)
    have hEb : REv w σb E := by
      have := hE.gs t2.gs
      exact ⟨by rw [ib]; exact this.1, this.2.1, fun i z hz => by rw [gb 59 _ (by decide), gb 60 _ (by decide), gb 61 _ (by decide), gb 23 _ (by decide)]; exact this.2.2 i z hz⟩
    have hyb : RTr σb y.1 y.2 (σ.2.1 32 a) := by
      obtain ⟨q0, q1, q2, q3⟩ := hy
      refine ⟨q0, by rw [ib, ia 38 (by decide)]; exact q1, by rw [gb 34 _ (by decide), aa 34 _ (by decide)]; exact q2, ?_⟩
      rw [gb 35 _ (by decide), aa 35 _ (by decide)]
      exact q3.ext (fun i _ _ _ => ⟨by rw [gb 34 _ (by decide), aa 34 _ (by decide)], by rw [gb 35 _ (by decide), aa 35 _ (by decide)], by rw [gb 36 _ (by decide), aa 36 _ (by decide)]⟩)
    have a47 : σb.1 47 = σ.1 47 + (tw (st (eV E) x) : Int) := by rw [ib]; exact t2.1
    obtain ⟨σc, u1, u2, u3, u4⟩ := blt1_ok (β := β - 1) hyb (by rw [ib, ia 38 (by decide)]; exact h38) vy hEb (by omega) (by omega) (by have := ht_le100 hwy; omega)
    have c63 : σc.2.1 63 (24 * σ.1 65) = σ.1 47 := by rw [u2.2.2.2 63 _ (Or.inr (by decide)), hsb, zA_s]
    have fab : CLf σ σb := by
      obtain ⟨q1, q2, q3, q4, q5, q6, q7⟩ := t2.cl
      refine ⟨fun j x1 x2 x3 x4 => by rw [ib]; exact q1 j x1 x2 x3 x4, by rw [hsb]; exact q2, fun j q hj => by rw [gb j q (fun e => by subst e; exact absurd hj (by decide))]; exact q3 j q hj, fun k q hq hk => by rw [gb k q (by omega)]; exact q4 k q hq hk, by rw [ib]; exact q5, fun q hq => by rw [hsb, zA_i (by omega)]; exact q6 q hq, fun q hq => by rw [gb 64 _ (by decide)]; exact q7 q hq⟩
    have f65 : σb.1 65 = σ.1 65 := by rw [ib, ia 65 (by decide)]
    have fc : CLf σ σc := fab.tr u2.cl (by omega)
    have hpx : PT σc (st (eV E) x) (σ.1 47) := by
      have p0 : PT σb (st (eV E) x) (σ.1 47) := ⟨Pt_q (fun k q _ _ hk => gb k q (by omega)) t3, by omega, by omega⟩
      exact p0.m (fun k q hq hk => u2.2.2.2 k q (Or.inl hq)) (by rw [u2.1]; omega)
    have hpy : PT σc (st (eV E) y) (σb.1 47) := ⟨u3, by omega, by rw [u2.1]; omega⟩
    obtain ⟨τ, v1, v2, v3, v4, v5, v6, v7⟩ := atm_end (β := β) (a := a) (W := c1k (tw (st (eV E) x)) + c1k (tw (st (eV E) y))) (is := is) hE h65.1 h65.2 fc (fun j hj => by rw [u2.2.1 j hj, ib, ia j hj]) (fun j q hj => by
      by_cases c : j = 43 ∨ j = 44 ∨ j = 45 ∨ j = 46
      · rcases c with c | c | c | c
        · exact Or.inl c
        · exact Or.inr (Or.inl c)
        · exact Or.inr (Or.inr (Or.inl c))
        · exact Or.inr (Or.inr (Or.inr (Or.inl c)))
      · exact Or.inr (Or.inr (Or.inr (Or.inr (by rw [u2.2.2.2 j q (Or.inr c), gb j q hj, aa j q c]))))) c63 hpx hpy hw
    refine ⟨τ, ?_, v2, v3, v4, v5, by rw [v6, u2.1, a47]; omega, v7⟩
    rw [if_pos (c1k_100.mpr hw), if_pos ⟨by omega, by omega⟩, if_neg (by omega), if_pos (by omega), zbd_of t1, if_pos ⟨by omega, by omega⟩, xq_atom2_161, kW_atom2_161, if_pos ⟨by omega, by omega⟩, lt_e, ← hsb, if_pos ⟨by omega, by omega⟩, gb 32 _ (by decide), aa 32 _ (by decide), if_neg (by omega), if_pos (by omega), zbd_of u1, if_pos ⟨by omega, by omega⟩]
    exact v1
  · rw [if_neg (fun h => by have := c1k_100.mp h; omega), lt_e]
    refine ⟨zI σ 3000 2, rfl, by simp [zI], ⟨fun j _ _ _ h => by simp [zI, h], rfl, fun _ _ _ => rfl, fun _ _ _ _ => rfl, Int.le_refl _, fun _ _ => rfl, fun _ _ => rfl⟩⟩
/-- weights behind a PREDICATE -/
theorem at49_ok {w : Nat → Nat} {E : VE} {β : Nat} (hβ : 1 ≤ β) {σ : zS} (h : REv w σ E) {x0 x1 : Int} : ∀ {F : T} {lo hi t : Int} {a : Nat}, RTm σ F lo hi t → hi ≤ 20100 → VO E F → ht F ≤ β → xE tX_atom2_49 β σ [x0, x1, c1k a, t] = xE tX_atom2_84 β σ [x0, x1, c1k (a + wt (su (eV E) F)) + 1]
  | .leaf _, lo, hi, t, a, hR, hh, hv, hb => by
    have hR : t = -1 := hR
    have b1 := c1k_b a
    rw [xq_atom2_49, kW_atom2_49, if_pos (by omega), if_pos ⟨by omega, by omega⟩]
    rfl
  | .branch l k s, lo, hi, t, a, hR, hh, hv, hb => by
    obtain ⟨g0, g1, g2, g3, g4, g5⟩ := id hR
    simp only [ht] at hb
    have vt1 : VO E (tt (l, k)) := ⟨hv.1, hv.2.1, trivial⟩
    have one : zE tM_weightOf (β - 1) σ [t] = some (σ, c1k (tw (st (eV E) (l, k)))) := by
      rw [zq_weightOf, kZ_weightOf, if_pos ⟨by omega, by omega⟩, g3]
      show _ = some (σ, c1k (tw (sbT (eV E) l (su (eV E) k))))
      unfold sbT
      obtain ⟨v1, v2, v3⟩ := hv
      by_cases c : cl l < 0
      · rw [if_pos c, if_neg (by omega)]
        obtain ⟨_, x, hx, e⟩ := v1 c
        obtain ⟨i, hi2⟩ := List.getElem?_of_mem hx
        rw [← e, h.ev hi2]
        exact wof_v h (t := t) ⟨by omega, by omega⟩ hi2 (by rw [g3]; omega) i 0 (by omega)
      · clear v1
        rw [if_neg c, if_pos (by omega)]
        have := wof_ok h (F := k) (x0 := t) (a := 1) g4 (by omega) v2 (β := β - 1) (by omega)
        rw [c1k_1] at this
        exact this
    have v3 := hv.2.2
    clear vt1 hv
    have b1 := c1k_b a
    have b2' := c1k_b (tw (st (eV E) (l, k)))
    rw [xq_atom2_49, kW_atom2_49, if_neg (by omega), if_pos hβ, zbd_of one, if_pos ⟨by omega, by omega⟩, if_pos ⟨by omega, by omega⟩, c1k_add]
    have := at49_ok hβ h (x0 := x0) (x1 := x1) (F := s) (a := a + tw (st (eV E) (l, k))) g5 hh v3 (by omega)
    have ew : a + tw (st (eV E) (l, k)) + wt (su (eV E) s) = a + wt (su (eV E) (.branch l k s)) := by
      show a + tw (sbT (eV E) l (su (eV E) k)) + wt (su (eV E) s) = a + (1 + wt (sbT (eV E) l (su (eV E) k)).2 + wt (su (eV E) s))
      simp only [tw]
      omega
    rw [this, ew]
theorem atp_ok {β : Nat} (hβ : 300 ≤ β) {σ : zS} {w : Nat → Nat} {E : VE} {l : Nat} {k : T} {a : Int} {is : Bool} (ha : 0 ≤ a ∧ a < 20100) (h38 : σ.1 38 ≤ 20100) (h32 : σ.2.1 32 a = -1) (h31 : 0 ≤ σ.2.1 31 a ∧ σ.2.1 31 a < 20100) (h41 : σ.2.1 41 (σ.2.1 31 a) = cl l) (hk : RTm σ k 0 (σ.1 38) (σ.2.1 42 (σ.2.1 31 a))) (vk : VO E k) (hh : ht k ≤ 100) (hE : REv w σ E) (h47 : 205000 ≤ σ.1 47 ∧ σ.1 47 + 100 ≤ 420000) (h65 : 0 ≤ σ.1 65 ∧ σ.1 65 < 1200) :
    (tw (l, su (eV E) k) + tw ((0, nl) : Tm) ≤ 100 → ∃ τ, xE tX_atom2 β σ [a, bi is] = some (τ, 0) ∧ τ.1 3000 = 0 ∧ CLf σ τ ∧ REv w τ E ∧ τ.1 65 = σ.1 65 + 1 ∧ τ.1 47 ≤ σ.1 47 + 100 ∧ RRw τ (σ.1 65) [(bi is, (l, su (eV E) k), (0, nl))]) ∧
    (100 < tw (l, su (eV E) k) + tw ((0, nl) : Tm) → ∃ τ, xE tX_atom2 β σ [a, bi is] = some (τ, 0) ∧ τ.1 3000 = 2 ∧ CLf σ τ) := by
  have e1 : tw ((0, nl) : Tm) = 1 := rfl
  have e2 : tw (l, su (eV E) k) = 1 + wt (su (eV E) k) := rfl
  rw [e1, e2]
  have b1 := c1k_b (1 + wt (su (eV E) k))
  have start : xE tX_atom2 β σ [a, bi is] = xE tX_atom2_84 β σ [a, bi is, c1k (1 + wt (su (eV E) k)) + 1] := by
    have := at49_ok (β := β) (by omega) hE (x0 := a) (x1 := bi is) (a := 1) hk h38 vk (by omega)
    rw [c1k_1] at this
    rw [xq_atom2, kW_atom2, if_pos ⟨by omega, by omega⟩, if_pos (by omega), if_pos ⟨by omega, by omega⟩]
    exact this
  rw [start, xq_atom2_84, kW_atom2_84]
  have hc : c1k (1 + wt (su (eV E) k)) + 1 ≤ 100 ↔ 1 + wt (su (eV E) k) + 1 ≤ 100 := by
    have := c1k_100 (a := 1 + wt (su (eV E) k)) (b := 1)
    rw [c1k_1] at this
    exact this
  refine ⟨fun hw => ?_, fun hw => ?_⟩
  · obtain ⟨σa, t1, t2, t3, t4⟩ := blt2_ok (l := l) (β := β - 1) hk h38 vk hE (by omega) (by omega) (by have := ht_su100 (F := su (eV E) k) (by omega); omega)
    obtain ⟨σb, hsb⟩ : ∃ z, z = zA σa 63 (24 * σ.1 65) (σ.1 47) := ⟨_, rfl⟩
    have gb : ∀ j q, j ≠ 63 → σb.2.1 j q = σa.2.1 j q := fun j q hj => by rw [hsb, zA_o hj]
    have ib : ∀ j, σb.1 j = σa.1 j := fun j => by rw [hsb]; rfl
    have ia : ∀ j, j ≠ 47 → σa.1 j = σ.1 j := t2.2.1
    have aa : ∀ j q, ¬ (j = 43 ∨ j = 44 ∨ j = 45 ∨ j = 46) → σa.2.1 j q = σ.2.1 j q := fun j q hj => t2.2.2.2 j q (Or.inr hj)
    have a47 : σb.1 47 = σ.1 47 + 1 + (wt (su (eV E) k) : Int) := by rw [ib, t2.1]; omega
    obtain ⟨σc, u1, u2, f1, f2, f3, f4⟩ := fresh_ok (σ := σb) (β := β - 1) (c := 0) (by omega) (by omega)
    obtain ⟨G, P, _⟩ := Lp_root (n := 0) (by omega) u2 f1 f2 f3 f4 (k := nl) Lp_nil
    have c63 : σc.2.1 63 (24 * σ.1 65) = σ.1 47 := by rw [u2.2.2.2 63 _ (Or.inr (by decide)), hsb, zA_s]
    have fab : CLf σ σb := by
      obtain ⟨q1, q2, q3, q4, q5, q6, q7⟩ := t2.cl
      refine ⟨fun j x1 x2 x3 x4 => by rw [ib]; exact q1 j x1 x2 x3 x4, by rw [hsb]; exact q2, fun j q hj => by rw [gb j q (fun e => by subst e; exact absurd hj (by decide))]; exact q3 j q hj, fun k q hq hk => by rw [gb k q (by omega)]; exact q4 k q hq hk, by rw [ib]; exact q5, fun q hq => by rw [hsb, zA_i (by omega)]; exact q6 q hq, fun q hq => by rw [gb 64 _ (by decide)]; exact q7 q hq⟩
    have f65 : σb.1 65 = σ.1 65 := by rw [ib, ia 65 (by decide)]
    have fc : CLf σ σc := fab.tr u2.cl (by omega)
    have c47 : σc.1 47 = σb.1 47 + 1 := u2.1
    have hpx : PT σc (l, su (eV E) k) (σ.1 47) := by
      have p0 : PT σb (l, su (eV E) k) (σ.1 47) := ⟨Pt_q (fun k q _ _ hk => gb k q (by omega)) t3, by omega, by rw [e2]; omega⟩
      exact p0.m (fun k q hq hk => u2.2.2.2 k q (Or.inl hq)) (by omega)
    have hpy : PT σc (0, nl) (σb.1 47) := ⟨P, by omega, by rw [e1]; omega⟩
    obtain ⟨τ, v1, v2, v3, v4, v5, v6, v7⟩ := atm_end (β := β) (a := a) (W := c1k (1 + wt (su (eV E) k)) + 1) (is := is) hE h65.1 h65.2 fc (fun j hj => by rw [u2.2.1 j hj, ib, ia j hj]) (fun j q hj => by
      by_cases c : j = 43 ∨ j = 44 ∨ j = 45 ∨ j = 46
      · rcases c with c | c | c | c
        · exact Or.inl c
        · exact Or.inr (Or.inl c)
        · exact Or.inr (Or.inr (Or.inl c))
        · exact Or.inr (Or.inr (Or.inr (Or.inl c)))
      · exact Or.inr (Or.inr (Or.inr (Or.inr (by rw [u2.2.2.2 j q (Or.inr c), gb j q hj, aa j q c]))))) c63 hpx hpy (by rw [e1, e2]; exact hw)
    refine ⟨τ, ?_, v2, v3, v4, v5, by rw [v6, c47, a47]; omega, v7⟩
    rw [if_pos (hc.mpr hw), if_pos ⟨by omega, by omega⟩, if_pos (by omega), if_pos ⟨by omega, by omega⟩, if_pos (by omega), h41, zbd_of t1, if_pos ⟨by omega, by omega⟩, xq_atom2_161, kW_atom2_161, if_pos ⟨by omega, by omega⟩, lt_e, ← hsb, if_pos ⟨by omega, by omega⟩, gb 32 _ (by decide), aa 32 _ (by decide), if_pos (by omega), if_pos (by omega), zbd_of u1, if_pos ⟨by omega, by omega⟩]
    exact v1
  · rw [if_neg (fun h => by have := hc.mp h; omega), lt_e]
    refine ⟨zI σ 3000 2, rfl, by simp [zI], ⟨fun j _ _ _ h => by simp [zI, h], rfl, fun _ _ _ => rfl, fun _ _ _ _ => rfl, Int.le_refl _, fun _ _ => rfl, fun _ _ => rfl⟩⟩
