/-! the reference: a TERM, with another one in the place found -/
def rpA (z : Tm) (P x : Int) (S : T) : T := if x ≤ P ∧ P < x + (wt S : Int) then rpF z (P - x).toNat S else S
theorem rpA_nl {z : Tm} {P x : Int} : rpA z P x nl = nl := by
  unfold rpA
  rw [if_neg (by simp only [wt]; omega)]
theorem rpA_0 {z : Tm} {P x y : Int} {S : T} (h : 0 < wt S → x = y) : rpA z P x S = rpA z P y S := by
  by_cases q : 0 < wt S
  · rw [h q]
  · have := wt0 (F := S) (by omega)
    subst this
    rw [rpA_nl, rpA_nl]
theorem rpA_nd {z : Tm} {P x : Int} {n : Nat} {k s : T} : rpA z P x (nd n k s) = if P = x then nd z.1 z.2 s else nd n (rpA z P (x + 1) k) (rpA z P (x + 1 + (wt k : Int)) s) := by
  have ew : wt (nd n k s) = 1 + wt k + wt s := rfl
  unfold rpA
  rw [ew]
  by_cases e : P = x
  · rw [if_pos e, if_pos (by omega), show (P - x).toNat = 0 by omega]; rfl
  · rw [if_neg e]
    by_cases q1 : x + 1 ≤ P ∧ P < x + 1 + (wt k : Int)
    · obtain ⟨o, ho⟩ : ∃ o, o = (P - (x + 1)).toNat := ⟨_, rfl⟩
      rw [if_pos q1, if_pos (by omega), if_neg (by omega), ← ho, show (P - x).toNat = o + 1 by omega]
      show (if o + 1 = 0 then _ else if o + 1 ≤ wt k then nd n (rpF z (o + 1 - 1) k) s else _) = _
      rw [if_neg (by omega), if_pos (by omega), Nat.add_sub_cancel]
    · rw [if_neg q1]
      by_cases q2 : x + 1 + (wt k : Int) ≤ P ∧ P < x + 1 + (wt k : Int) + (wt s : Int)
      · obtain ⟨o, ho⟩ : ∃ o, o = (P - (x + 1 + (wt k : Int))).toNat := ⟨_, rfl⟩
        rw [if_pos q2, if_pos (by omega), ← ho, show (P - x).toNat = 1 + wt k + o by omega]
        show (if 1 + wt k + o = 0 then _ else if 1 + wt k + o ≤ wt k then _ else nd n k (rpF z (1 + wt k + o - 1 - wt k) s)) = _
        rw [if_neg (by omega), if_neg (by omega), show 1 + wt k + o - 1 - wt k = o by omega]
      · rw [if_neg q2, if_neg (by omega)]
theorem rpi_loop {z : Tm} {H : Nat} : ∀ (S : T) (σ : zS) (β : Nat) (hi x0 x1 x2 x3 : Int), x3 + (wt S : Int) ≤ hi → hi ≤ σ.1 47 → Pc σ S x3 → hi ≤ x1 → 0 ≤ x1 → x1 < σ.1 47 → (x2 < 0 ∨ hi ≤ x2) → x2 < σ.1 47 → σ.1 47 + (wt (rpA z (σ.1 116) x3 S) : Int) ≤ 420000 → 0 ≤ σ.2.1 46 x1 → σ.2.1 46 x1 + (wt (rpA z (σ.1 116) x3 S) : Int) ≤ 2000000 → Px σ z (σ.1 117) → σ.1 117 + (tw z : Int) ≤ hi → ht z.2 ≤ H → ht S + H + 2 ≤ β →
    ∃ τ, zE tM_replacedIn_38 β σ [x0, x1, x2, x3] = some (τ, x1) ∧ Lp σ τ x1 x2 (rpA z (σ.1 116) x3 S)
  | .leaf (), σ, β, hi, x0, x1, x2, x3, hb, hh, hS, _, _, _, _, _, _, _, _, _, _, _, _ => by
    have h1 : x3 < 0 := hS
    rw [rpA_nl]
    exact ⟨σ, by rw [zq_replacedIn_38, kZ_replacedIn_38, if_pos h1], Lp_nil⟩
  | .branch n k s, σ, β, hi, x0, x1, x2, x3, hb, hh, hS, g1, g2, g3, g4, g5, g6, g7, g8, hz, hzb, hzh, hd => by
    have hi0 : 0 ≤ hi := by have := hS.1; simp only [wt] at hb; omega
    have k1 := Pc_kid hS hb hi0
    have s1 := Pc_bes hS hb hi0
    obtain ⟨a1, a2, a3, a4, a5, a6, a7⟩ := hS
    simp only [ht] at hd
    simp only [wt] at hb
    have ez : tw z = 1 + wt z.2 := rfl
    -- the TERM at x3 becomes y
    obtain ⟨y, hy, key⟩ : ∃ y : Tm, rpA z (σ.1 116) x3 (.branch n k s) = nd y.1 y.2 (rpA z (σ.1 116) (σ.2.1 45 x3) s) ∧ ∃ τ, zE tM_replacedIn (β - 1) σ [x3] = some (τ, σ.1 47) ∧ Grow σ τ (1 + wt y.2) ∧ Pt τ y.1 y.2 (σ.1 47) ∧ τ.2.1 45 (σ.1 47) = -1 := by
      have eN : rpA z (σ.1 116) x3 (.branch n k s) = _ := rpA_nd (z := z) (P := σ.1 116) (x := x3) (n := n) (k := k) (s := s)
      have eS : rpA z (σ.1 116) (x3 + 1 + (wt k : Int)) s = rpA z (σ.1 116) (σ.2.1 45 x3) s := rpA_0 (fun h => (a7 h).symm)
      have eK : rpA z (σ.1 116) (x3 + 1) k = rpA z (σ.1 116) (σ.2.1 44 x3) k := rpA_0 (fun h => (a5 h).symm)
      rw [eS, eK] at eN
      by_cases hc : σ.1 116 = x3
      · rw [if_pos hc] at eN
        have eS2 : rpA z (σ.1 116) (σ.2.1 45 x3) s = s := by
          rw [← eS]; unfold rpA
          rw [if_neg (by omega)]
        rw [eN, ] at g6
        simp only [wt] at g6
        obtain ⟨τ, e, G, P, b⟩ := copy_ok (β := β - 1 - 1) hz.1 (by omega) (by omega) (by omega)
        refine ⟨z, by rw [eN, eS2], τ, ?_, G, P, b⟩
        rw [zq_replacedIn, kZ_replacedIn, if_pos hc.symm, if_pos (by omega), zbd_of e]
      · rw [if_neg hc] at eN
        rw [eN] at g6
        simp only [wt] at g6
        obtain ⟨τ1, e1, G1, f1, f2, f3, f4⟩ := fresh_ok (σ := σ) (β := β - 1 - 1) (c := σ.2.1 43 x3) (by omega) (by omega)
        have t1 : τ1.1 47 = σ.1 47 + 1 := G1.1
        have i6 : τ1.1 116 = σ.1 116 := G1.2.1 116 (by decide)
        have i7 : τ1.1 117 = σ.1 117 := G1.2.1 117 (by decide)
        have q1 := G1.pq (lo := 0) (hi := hi) hh
        have kk : τ1.2.1 44 x3 = σ.2.1 44 x3 := q1 44 x3 a1 (by omega) (by simp)
        obtain ⟨τ2, e2, L2⟩ := rpi_loop (z := z) k τ1 (β - 1) hi x3 (σ.1 47) (-1) (σ.2.1 44 x3) k1 (by omega) (Pc_hi q1 a4 k1) (by omega) (by omega) (by omega) (by omega) (by omega) (by rw [i6]; omega) (by omega) (by rw [i6]; omega) (by rw [i7]; exact ⟨Pt_hi q1 hz.1 (by omega), hz.2⟩) (by rw [i7]; exact hzb) hzh (by omega)
        rw [i6] at L2
        obtain ⟨G, P, b⟩ := Lp_root (n := n) (by omega) G1 (by rw [f1, a2]) f2 f3 f4 L2
        refine ⟨(n, rpA z (σ.1 116) (σ.2.1 44 x3) k), eN, τ2, ?_, G, P, b⟩
        rw [zq_replacedIn, kZ_replacedIn, if_neg (fun w => hc w.symm), if_pos (by omega), if_pos (by omega), zbd_of e1, kk]; exact e2
    obtain ⟨τ1, e1, G1, P1, b1⟩ := key
    rw [hy] at g6 g8
    simp only [wt] at g6 g8
    have t1 : τ1.1 47 = σ.1 47 + 1 + (wt y.2 : Int) := by rw [G1.1]; omega
    have q3 := hng_pq (x1 := x1) (x2 := x2) G1 hh g1 g4
    have w1 : τ1.2.1 46 x1 = σ.2.1 46 x1 := G1.2.2.2 46 x1 (Or.inl (by omega))
    have wy : τ1.2.1 46 (σ.1 47) = 1 + (wt y.2 : Int) := P1.2.2.1
    have t3 : (hng τ1 x1 x2 (σ.1 47)).1 47 = σ.1 47 + 1 + (wt y.2 : Int) := by rw [hng_i]; exact t1
    have i6 : (hng τ1 x1 x2 (σ.1 47)).1 116 = σ.1 116 := by rw [hng_i]; exact G1.2.1 116 (by decide)
    have i7 : (hng τ1 x1 x2 (σ.1 47)).1 117 = σ.1 117 := by rw [hng_i]; exact G1.2.1 117 (by decide)
    obtain ⟨τ4, e4, L4⟩ := rpi_loop (z := z) s (hng τ1 x1 x2 (σ.1 47)) β hi x0 x1 (σ.1 47) (σ.2.1 45 x3) s1 (by omega) (Pc_hi q3 a6 s1) g1 g2 (by omega) (by omega) (by omega) (by rw [i6]; omega) (by rw [hng_w, w1, wy]; omega) (by rw [hng_w, w1, wy, i6]; omega) (by rw [i7]; exact ⟨Pt_hi q3 hz.1 (by omega), hz.2⟩) (by rw [i7]; exact hzb) hzh (by omega)
    rw [i6] at L4
    refine ⟨τ4, ?_, by rw [hy]; exact Lp_cons G1 P1 b1 g2 g3 g5 L4⟩
    have eb : (hng τ1 x1 x2 (σ.1 47)).2.1 45 x3 = σ.2.1 45 x3 := q3 45 x3 a1 (by omega) (by simp)
    have e84 : ∀ τ2 : zS, zA τ2 46 x1 (τ2.2.1 46 x1 + τ2.2.1 46 (σ.1 47)) = hng τ1 x1 x2 (σ.1 47) → zr (τ2.2.1 46 x1 + τ2.2.1 46 (σ.1 47)) → zE tM_replacedIn_74 β τ2 [x0, x1, x2, x3, σ.1 47] = zE tM_replacedIn_38 β (hng τ1 x1 x2 (σ.1 47)) [x0, x1, σ.1 47, σ.2.1 45 x3] := fun τ2 h9 hz' => by
      rw [zq_replacedIn_74, kZ_replacedIn_74, if_pos (by omega), if_pos (by omega), if_pos hz']
      show (if zb x3 420000 then (zE tM_replacedIn_38 β (zA τ2 46 x1 (τ2.2.1 46 x1 + τ2.2.1 46 (σ.1 47))) [x0, x1, σ.1 47, (zA τ2 46 x1 (τ2.2.1 46 x1 + τ2.2.1 46 (σ.1 47))).2.1 45 x3]) else none) = _
      rw [if_pos (by omega), h9, eb]
    rw [← e4, zq_replacedIn_38, kZ_replacedIn_38, if_neg (by omega), if_pos (by omega), zbd_of e1]
    by_cases hx : 0 ≤ x2
    · rw [if_pos hx, if_pos (by omega)]
      have c5 : ∀ q, (zA τ1 45 x2 (σ.1 47)).2.1 46 q = τ1.2.1 46 q := fun q => by simp [zA]
      refine e84 (zA τ1 45 x2 (σ.1 47)) ?_ (by rw [c5, c5, w1, wy]; omega)
      rw [c5, c5]; unfold hng; rw [if_pos hx]
    · rw [if_neg hx, if_pos (by omega)]
      have c5 : ∀ q, (zA τ1 44 x1 (σ.1 47)).2.1 46 q = τ1.2.1 46 q := fun q => by simp [zA]
      refine e84 (zA τ1 44 x1 (σ.1 47)) ?_ (by rw [c5, c5, w1, wy]; omega)
      rw [c5, c5]; unfold hng; rw [if_neg hx]
/-- the whole TERM -/
theorem rpi_t {ar : Int → Nat} {p : Int → Prop} {z x y : Tm} {β o : Nat} {σ : zS} {t : Int} (hx : Px σ x t) (wx : wf ar p (tt x)) (ho : sbF o (tt x) = some y) (hP : σ.1 116 = t + (o : Int)) (hz : Px σ z (σ.1 117)) (hzb : σ.1 117 + (tw z : Int) ≤ σ.1 47) (hxb : t + (tw x : Int) ≤ σ.1 47) (hzy : tw z ≤ tw y) (tx : tw x ≤ 100) (h47 : σ.1 47 + 100 ≤ 420000) (hβ : 210 ≤ β) : ∃ τ, zE tM_replacedIn β σ [t] = some (τ, σ.1 47) ∧ Grow σ τ (tw (rpT z o x)) ∧ Pt τ (rpT z o x).1 (rpT z o x).2 (σ.1 47) := by
  have ex : tw x = 1 + wt x.2 := rfl
  have ez : tw z = 1 + wt z.2 := rfl
  have hl := sb_lt ho
  rw [tt_wt] at hl
  have hly := (sb_wf wx ho).2
  rw [tt_wt] at hly
  have rw' := rp_w (r := z) wx ho
  rw [rp_tt (by omega), tt_wt, tt_wt] at rw'
  have hx2 := ht_le_wt x.2
  have hz2 := ht_le_wt z.2
  have t0 := hx.1.1
  have z0 := hz.1.1
  have kb := Pt_kid (b := σ.1 47) hx.1 (by omega) (by omega)
  obtain ⟨⟨a1, a2, a3, a4, a5⟩, hi⟩ := hx
  by_cases hc : o = 0
  · subst hc
    have er : rpT z 0 x = z := rfl
    rw [er] at rw' ⊢
    obtain ⟨τ, e, G, P, b⟩ := copy_ok (β := β - 1) hz.1 (by omega) (by omega) (by omega)
    refine ⟨τ, ?_, G, P⟩
    rw [zq_replacedIn, kZ_replacedIn, if_pos (by omega), if_pos (by omega), zbd_of e]
  · have er : rpT z o x = (x.1, rpF z (o - 1) x.2) := by unfold rpT; rw [if_neg hc]
    rw [er] at rw' ⊢
    have ew : tw ((x.1, rpF z (o - 1) x.2) : Tm) = 1 + wt (rpF z (o - 1) x.2) := rfl
    have eA : rpA z (σ.1 116) (σ.2.1 44 t) x.2 = rpF z (o - 1) x.2 := by
      rw [a5 (by omega)]
      unfold rpA
      rw [if_pos (by omega), show (σ.1 116 - (t + 1)).toNat = o - 1 by omega]
    obtain ⟨τ1, e1, G1, f1, f2, f3, f4⟩ := fresh_ok (σ := σ) (β := β - 1) (c := σ.2.1 43 t) (by omega) (by omega)
    have t1 : τ1.1 47 = σ.1 47 + 1 := G1.1
    have i6 : τ1.1 116 = σ.1 116 := G1.2.1 116 (by decide)
    have i7 : τ1.1 117 = σ.1 117 := G1.2.1 117 (by decide)
    have q1 := G1.pq (lo := 0) (hi := σ.1 47) (Int.le_refl _)
    have kk : τ1.2.1 44 t = σ.2.1 44 t := q1 44 t a1 (by omega) (by simp)
    obtain ⟨τ2, e2, L2⟩ := rpi_loop (z := z) (H := 100) x.2 τ1 β (σ.1 47) t (σ.1 47) (-1) (σ.2.1 44 t) kb (by omega) (Pc_hi q1 a4 kb) (by omega) (by omega) (by omega) (by omega) (by omega) (by rw [i6, eA]; omega) (by omega) (by rw [i6, eA]; omega) (by rw [i7]; exact ⟨Pt_hi q1 hz.1 (by omega), hz.2⟩) (by rw [i7]; exact hzb) (by omega) (by omega)
    rw [i6, eA] at L2
    obtain ⟨G, P, b⟩ := Lp_root (n := x.1) (by omega) G1 (by rw [f1, a2]) f2 f3 f4 L2
    refine ⟨τ2, ?_, G, P⟩
    rw [zq_replacedIn, kZ_replacedIn, if_neg (by omega), if_pos (by omega), if_pos (by omega), zbd_of e1, kk]; exact e2
