/-! the nodes of a FORMULA, from its root downwards -/
theorem RPk.go {β : Nat} {NN : List N6} {σ ρ : zS} {hi h2 lo : Nat} {S R S2 R2 : Nat → Prop} (e : yE tC_For_makeWitnesses_p83 β σ [(hi : Int) - 1] = yE tC_For_makeWitnesses_p83 β ρ [(h2 : Int) - 1]) (f : FrC [] [19, 27] σ ρ) (hr : ∀ i : Nat, i < lo → ρ.2.1 19 ((i : Int) * 7 + 6) = σ.2.1 19 ((i : Int) * 7 + 6)) (h : RPk β NN ρ h2 lo S R) (hS : ∀ v, S v → S2 v) (hR : ∀ v, S v → (R v ↔ R2 v)) (h27 : ∀ v, S2 v → S v ∨ (¬ S v ∧ ρ.2.1 27 (v : Int) = b2 (R2 v))) (hu : ∀ u : Int, (∀ v : Nat, S2 v → (v : Int) ≠ u) → ρ.2.1 27 u = σ.2.1 27 u) : RPk β NN σ hi lo S2 R2 := by
  obtain ⟨τ, t1, t2, t3, t4, t5, t6⟩ := h
  refine ⟨τ, e.trans t1, f.trans t2, t3, fun i hi => by rw [t4 i hi, hr i hi], fun v hv => ?_, fun u hu2 => ?_⟩
  · rcases h27 v hv with h | ⟨h, h9⟩
    · rw [t5 v h]; exact congrArg b2 (propext (hR v h))
    · have hne : ∀ u : Nat, S u → (u : Int) ≠ (v : Int) := fun u hs e => by
        have e2 : u = v := by omega
        rw [e2] at hs
        exact h hs
      rw [t6 (v : Int) hne]
      exact h9
  · rw [t6 u (fun v hs => hu2 v (hS v hs)), hu u hu2]
theorem fA {σ : zS} {i x : Int} : FrC [] [19, 27] σ (zA σ 19 i x) := by
  have : FrC [] [19] σ (zA σ 19 i x) := FrC_A
  exact this.w
theorem rp_two {β : Nat} {NN : List N6} {TT : List Int} {sn : Int} {b : Nat} {σ0 : zS} {C : List Int} {lo vlo vhi : Nat} {g h : Tm} (fg : FS (tt g)) (fh : FS (tt h)) {w1 w2 : Nat} (h1 : w1 = 1 ∨ w1 = 2 ∨ w1 = 3) (h2 : w2 = 1 ∨ w2 = 2 ∨ w2 = 3)
    (ig : ∀ (w : Nat), w = 1 ∨ w = 2 ∨ w = 3 → ∀ (C : List Int) (lo : Nat) (σ0 σ : zS) (vlo vhi : Nat), CFs σ0 b NN TT sn (tt g) C lo → NdW σ NN → UQs (tt g) vlo vhi → vhi ≤ 300 → σ.2.1 19 (((lo + szn g.1 g.2 - 1 : Nat) : Int) * 7 + 6) = (w : Int) → (∀ i : Nat, lo ≤ i → i < lo + szn g.1 g.2 - 1 → σ.2.1 19 ((i : Int) * 7 + 6) = 0) → RPk β NN σ (lo + szn g.1 g.2) lo (bnF (tt g)) (rqF g w))
    (ih : ∀ (w : Nat), w = 1 ∨ w = 2 ∨ w = 3 → ∀ (C : List Int) (lo : Nat) (σ0 σ : zS) (vlo vhi : Nat), CFs σ0 b NN TT sn (tt h) C lo → NdW σ NN → UQs (tt h) vlo vhi → vhi ≤ 300 → σ.2.1 19 (((lo + szn h.1 h.2 - 1 : Nat) : Int) * 7 + 6) = (w : Int) → (∀ i : Nat, lo ≤ i → i < lo + szn h.1 h.2 - 1 → σ.2.1 19 ((i : Int) * 7 + 6) = 0) → RPk β NN σ (lo + szn h.1 h.2) lo (bnF (tt h)) (rqF h w))
    (cg : CFs σ0 b NN TT sn (tt g) C lo) (ch : CFs σ0 b NN TT sn (tt h) C (lo + szn g.1 g.2)) {σ : zS} (hN : NdW σ NN) {mid : Nat} (ug : UQs (tt g) vlo mid) (uh : UQs (tt h) mid vhi) (hv : vhi ≤ 300) (hz : ∀ i : Nat, lo ≤ i → i < lo + szn g.1 g.2 + szn h.1 h.2 → σ.2.1 19 ((i : Int) * 7 + 6) = 0) {l : Nat} (l4 : 4 ≤ l) (l7 : l ≤ 7) {R : Nat → Prop} (hR : ∀ v, R v ↔ (rqF g w1 v ∨ rqF h w2 v))
    (hp : yE tC_For_makeWitnesses_p83 β σ [((lo + (szn g.1 g.2 + szn h.1 h.2 + 1) : Nat) : Int) - 1] = yE tC_For_makeWitnesses_p83 β (zA (zA σ 19 (((lo + szn g.1 g.2 - 1 : Nat) : Int) * 7 + 6) (w1 : Int)) 19 (((lo + szn g.1 g.2 + szn h.1 h.2 - 1 : Nat) : Int) * 7 + 6) (w2 : Int)) [((lo + szn g.1 g.2 + szn h.1 h.2 : Nat) : Int) - 1]) :
    RPk β NN σ (lo + (szn g.1 g.2 + szn h.1 h.2 + 1)) lo (bnF (tt (mk2 l g h))) R := by
  have s1 := szn_1 (l := g.1) (k := g.2)
  have s2 := szn_1 (l := h.1) (k := h.2)
  obtain ⟨ρ, hρ⟩ : ∃ x, x = zA (zA σ 19 (((lo + szn g.1 g.2 - 1 : Nat) : Int) * 7 + 6) (w1 : Int)) 19 (((lo + szn g.1 g.2 + szn h.1 h.2 - 1 : Nat) : Int) * 7 + 6) (w2 : Int) := ⟨_, rfl⟩
  have fρ : FrC [] [19, 27] σ ρ := by rw [hρ]; exact fA.trans fA
  have c19 : ∀ i : Nat, i ≠ lo + szn g.1 g.2 - 1 → i ≠ lo + szn g.1 g.2 + szn h.1 h.2 - 1 → ρ.2.1 19 ((i : Int) * 7 + 6) = σ.2.1 19 ((i : Int) * 7 + 6) := fun i i1 i2 => by rw [hρ, zA_i (by omega), zA_i (by omega)]
  have c27 : ∀ u, ρ.2.1 27 u = σ.2.1 27 u := fun u => by rw [hρ]; simp [zA]
  have Nρ : NdW ρ NN := by rw [hρ]; exact hN.z.z
  rw [← hρ] at hp
  have o2 := ih w2 h2 C (lo + szn g.1 g.2) σ0 ρ mid vhi ch Nρ uh hv (by rw [hρ, zA_s]) (fun i i1 i2 => by rw [c19 i (by omega) (by omega)]; exact hz i (by omega) (by omega))
  obtain ⟨τ, t1, t2, t3, t4, t5, t6⟩ := o2
  have o1 := ig w1 h1 C lo σ0 τ vlo mid cg t3 ug (by have := uh.le; omega) (by rw [t4 _ (by omega), hρ, zA_i (by omega), zA_s]) (fun i i1 i2 => by rw [t4 i (by omega), c19 i (by omega) (by omega)]; exact hz i (by omega) (by omega))
  have dis : ∀ v, bnF (tt h) v → ¬ bnF (tt g) v := fun v a b => by
    have := ug.b b
    have := uh.b a
    omega
  refine RPk.go (hp.trans t1) (fρ.trans t2) (fun i hi => by rw [t4 i (by omega), c19 i (by omega) (by omega)]) o1 (fun v hv => bnF_m2 (by omega) (Or.inl hv)) (fun v hv => ?_) (fun v hv => ?_) (fun u hu => ?_)
  · rw [hR v]
    refine ⟨Or.inl, fun q => ?_⟩
    rcases q with q | q
    · exact q
    · exact absurd hv (dis v (rqF_b h fh _ _ q))
  · rcases bnF_m2i l7 hv with q | q
    · exact Or.inl q
    · refine Or.inr ⟨dis v q, ?_⟩
      rw [t5 v q]
      refine congrArg b2 (propext ?_)
      rw [hR v]
      refine ⟨Or.inr, fun q2 => ?_⟩
      rcases q2 with q2 | q2
      · exact absurd (rqF_b g fg _ _ q2) (dis v q)
      · exact q2
  · rw [t6 u (fun v q => hu v (bnF_m2 (by omega) (Or.inr q))), c27]
theorem rp_ok {β : Nat} (hβ : 3 ≤ β) {NN : List N6} {TT : List Int} {sn : Int} {b : Nat} : ∀ f, FS (tt f) → ∀ (w : Nat), w = 1 ∨ w = 2 ∨ w = 3 → ∀ (C : List Int) (lo : Nat) (σ0 σ : zS) (vlo vhi : Nat), CFs σ0 b NN TT sn (tt f) C lo → NdW σ NN → UQs (tt f) vlo vhi → vhi ≤ 300 → σ.2.1 19 (((lo + szn f.1 f.2 - 1 : Nat) : Int) * 7 + 6) = (w : Int) → (∀ i : Nat, lo ≤ i → i < lo + szn f.1 f.2 - 1 → σ.2.1 19 ((i : Int) * 7 + 6) = 0) → RPk β NN σ (lo + szn f.1 f.2) lo (bnF (tt f)) (rqF f w) := by
  have atom : ∀ (l : Nat) (k : T), l ≤ 2 → FS (tt (l, k)) → ∀ (w : Nat), w = 1 ∨ w = 2 ∨ w = 3 → ∀ (C : List Int) (lo : Nat) (σ0 σ : zS) (vlo vhi : Nat), CFs σ0 b NN TT sn (tt (l, k)) C lo → NdW σ NN → UQs (tt (l, k)) vlo vhi → vhi ≤ 300 → σ.2.1 19 (((lo + szn l k - 1 : Nat) : Int) * 7 + 6) = (w : Int) → (∀ i : Nat, lo ≤ i → i < lo + szn l k - 1 → σ.2.1 19 ((i : Int) * 7 + 6) = 0) → RPk β NN σ (lo + szn l k) lo (bnF (tt (l, k))) (rqF (l, k) w) := by
    intro l k hl hf w hw C lo σ0 σ vlo vhi hF hN hU hv h1 h2
    have hsz : szn l k = 1 := by unfold szn; rw [if_pos hl]
    obtain ⟨i', j', e1, _⟩ := hF.nd hf
    have hn := (List.getElem?_eq_some_iff.mp e1).1
    have e1 : NN[lo + szn l k - 1]? = some (kk l, i', j', hgt (l, k), cp1 (nF (l, k) false), cp1 (nF (l, k) true)) := e1
    have hn : lo + szn l k - 1 < NN.length := hn
    rw [hsz] at h1 hn e1 ⊢
    have hk : kk l < 11 := by
      unfold kk
      split
      · omega
      · rw [if_pos (by omega)]; decide
    have nb : ∀ v, ¬ bnF (tt (l, k)) v := fun v h => by
      rcases h with ⟨h, _⟩ | h
      · have h : 2 < l := h
        omega
      · exact h
    refine ⟨σ, ?_, FrC.refl, hN, fun i hi => rfl, fun v hv => absurd hv (nb v), fun u hu => rfl⟩
    have := p83_ok (β := β) (by omega) hN (hi := lo + 1) (by omega) (by omega) h1 (rq_get (by omega) hN e1 _ (by rw [if_pos (by omega), rq_180]))
    rw [this]
    congr 2
  refine FO_ind ?_ ?_ ?_ ?_ ?_
  · intro l1 k1 l2 k2 l hl
    exact atom l _ (by omega) (by
      refine ⟨?_, trivial⟩
      show (if l ≤ 1 then len (nd l1 k1 (nd l2 k2 nl)) = 2 else _)
      rw [if_pos hl]; rfl)
  · intro h g
    exact atom 2 _ (by omega) ⟨rfl, trivial⟩
  · intro g fg ih w hw C lo σ0 σ vlo vhi hF hN hU hv h1 h2
    have s1 := szn_1 (l := g.1) (k := g.2)
    rw [szn_m1 (by omega)] at h1 h2 ⊢
    obtain ⟨i', j', e1, e2⟩ := hF.nd ⟨⟨rfl, fg⟩, trivial⟩
    have e2 : len (nd g.1 g.2 nl) = 1 ∧ i' = ((lo + szs (nd g.1 g.2 nl) : Nat) : Int) - 1 ∧ CFs σ0 b NN TT sn (tt g) C lo := e2
    obtain ⟨_, e3, e4⟩ := e2
    have e3 : i' = ((lo + szn g.1 g.2 - 1 : Nat) : Int) := by
      rw [e3, szs_nd]
      show ((lo + (szn g.1 g.2 + 0) : Nat) : Int) - 1 = _
      omega
    rw [szn_m1 (by omega), e3] at e1
    have e1 : NN[lo + (szn g.1 g.2 + 1) - 1]? = some (kk 3, ((lo + szn g.1 g.2 - 1 : Nat) : Int), j', hgt (mk1 3 g), cp1 (nF (mk1 3 g) false), cp1 (nF (mk1 3 g) true)) := e1
    have hn := (List.getElem?_eq_some_iff.mp e1).1
    obtain ⟨mid, u1, u2⟩ := hU
    have u1 : UQs (tt g) vlo mid := u1
    have u2 : mid ≤ vhi := u2
    have z0 : σ.2.1 19 (((lo + szn g.1 g.2 - 1 : Nat) : Int) * 7 + 6) = 0 := h2 _ (by omega) (by omega)
    have hp := p83_ok (β := β) (τ := zA σ 19 (((lo + szn g.1 g.2 - 1 : Nat) : Int) * 7 + 6) ((tw3 w : Nat) : Int)) (by omega) hN (hi := lo + (szn g.1 g.2 + 1)) (by omega) (by omega) h1 (rq_get (by omega) hN e1 _ (by
      rw [if_neg (show ¬ (kk 3 < 11 ∨ 17 < kk 3) by decide), if_pos (show kk 3 = 11 from rfl), if_pos (by omega), turn_w hw, zbd_of (reach_ok hN (by omega)), rq_180, z0, zor_0w (tw3_w hw)]))
    rw [show lo + (szn g.1 g.2 + 1) - 1 = lo + szn g.1 g.2 by omega] at hp
    have o := ih (tw3 w) (tw3_w hw) C lo σ0 _ vlo mid e4 (hN.z (n := lo + szn g.1 g.2 - 1) (x := ((tw3 w : Nat) : Int))) u1 (by omega) zA_s (fun i i1 i2 => by rw [zA_i (by omega)]; exact h2 i i1 (by omega))
    refine RPk.go hp fA (fun i hi => by rw [zA_i (by omega)]) o (fun v hv => bnF_m1 hv (by omega)) (fun v hv => Iff.rfl) (fun v hv => ?_) (fun u hu => by simp [zA])
    rcases bnF_m1i hv with ⟨q, _⟩ | q
    · omega
    · exact Or.inl q
  · intro l g h l4 l7 fg fh ig ih w hw C lo σ0 σ vlo vhi hF hN hU hv h1 h2
    have s1 := szn_1 (l := g.1) (k := g.2)
    have s2 := szn_1 (l := h.1) (k := h.2)
    rw [szn_m2 (by omega)] at h1 h2 ⊢
    have hFS : FS (tt (mk2 l g h)) := by
      refine ⟨?_, trivial⟩
      show (if l ≤ 1 then _ else if l = 2 then _ else if l ≤ 3 then _ else if l ≤ 7 then len (nd g.1 g.2 (nd h.1 h.2 nl)) = 2 ∧ FS (nd g.1 g.2 (nd h.1 h.2 nl)) else _)
      rw [if_neg (by omega), if_neg (by omega), if_neg (by omega), if_pos l7]
      exact ⟨rfl, fg.1, fh⟩
    obtain ⟨i', j', e1, e2⟩ := hF.nd hFS
    have e2 : (if l ≤ 1 then _ else if l = 2 then _ else if l = 3 then _ else if l ≤ 7 then (∃ l1 k1 l2 k2, (nd g.1 g.2 (nd h.1 h.2 nl)) = nd l1 k1 (nd l2 k2 nl) ∧ i' = ((lo + szn l1 k1 : Nat) : Int) - 1 ∧ j' = ((lo + szs (nd g.1 g.2 (nd h.1 h.2 nl)) : Nat) : Int) - 1) ∧ CFs σ0 b NN TT sn (nd g.1 g.2 (nd h.1 h.2 nl)) C lo else _) := e2
    rw [if_neg (by omega), if_neg (by omega), if_neg (by omega), if_pos l7] at e2
    obtain ⟨⟨_, _, _, _, e3, e4, e5⟩, e6⟩ := e2
    cases e3
    have cg : CFs σ0 b NN TT sn (tt g) C lo := ⟨e6.1, trivial⟩
    have ch : CFs σ0 b NN TT sn (tt h) C (lo + szn g.1 g.2) := e6.2
    have e4 : i' = ((lo + szn g.1 g.2 - 1 : Nat) : Int) := by rw [e4]; omega
    have e5 : j' = ((lo + szn g.1 g.2 + szn h.1 h.2 - 1 : Nat) : Int) := by
      rw [e5, szs_nd, szs_nd]
      show ((lo + (szn g.1 g.2 + (szn h.1 h.2 + 0)) : Nat) : Int) - 1 = _
      omega
    rw [szn_m2 (by omega), e4, e5] at e1
    have e1 : NN[lo + (szn g.1 g.2 + szn h.1 h.2 + 1) - 1]? = some (kk l, ((lo + szn g.1 g.2 - 1 : Nat) : Int), ((lo + szn g.1 g.2 + szn h.1 h.2 - 1 : Nat) : Int), hgt (mk2 l g h), cp1 (nF (mk2 l g h) false), cp1 (nF (mk2 l g h) true)) := e1
    have hn := (List.getElem?_eq_some_iff.mp e1).1
    obtain ⟨mid, u1, u2⟩ := hU
    have u1 : (if l ≤ 2 then _ else if l ≤ 7 then UQs (nd g.1 g.2 (nd h.1 h.2 nl)) vlo mid else _) := u1
    rw [if_neg (by omega), if_pos l7] at u1
    have u2 : mid ≤ vhi := u2
    obtain ⟨m1, v1, v2⟩ := u1
    have ug : UQs (tt g) vlo m1 := ⟨m1, v1, Nat.le_refl _⟩
    have uh : UQs (tt h) m1 mid := v2
    have z1 : σ.2.1 19 (((lo + szn g.1 g.2 - 1 : Nat) : Int) * 7 + 6) = 0 := h2 _ (by omega) (by omega)
    have z2 : σ.2.1 19 (((lo + szn g.1 g.2 + szn h.1 h.2 - 1 : Nat) : Int) * 7 + 6) = 0 := h2 _ (by omega) (by omega)
    -- both parts are reached
    have two : ∀ w1 w2 : Nat, (w1 = 1 ∨ w1 = 2 ∨ w1 = 3) → (w2 = 1 ∨ w2 = 2 ∨ w2 = 3) → zbd (yE tC_For_reach (β - 1 - 1) σ [((lo + szn g.1 g.2 - 1 : Nat) : Int), (w1 : Int)]) (fun σ9 _ => if 1 ≤ β - 1 then (zbd (yE tC_For_reach (β - 1 - 1) σ9 [((lo + szn g.1 g.2 + szn h.1 h.2 - 1 : Nat) : Int), (w2 : Int)]) (fun σ10 _ => yE tC_For_reachParts_p180 (β - 1) σ10 [((lo + (szn g.1 g.2 + szn h.1 h.2 + 1) - 1 : Nat) : Int), (w : Int), ((tw3 w : Nat) : Int), ((lo + szn g.1 g.2 - 1 : Nat) : Int), ((lo + szn g.1 g.2 + szn h.1 h.2 - 1 : Nat) : Int)])) else none) = some (zA (zA σ 19 (((lo + szn g.1 g.2 - 1 : Nat) : Int) * 7 + 6) (w1 : Int)) 19 (((lo + szn g.1 g.2 + szn h.1 h.2 - 1 : Nat) : Int) * 7 + 6) (w2 : Int), 0) := fun w1 w2 q1 q2 => by
      rw [zbd_of (reach_ok hN (by omega)), if_pos (by omega), z1, zor_0w q1, zbd_of (reach_ok (hN.z (n := lo + szn g.1 g.2 - 1)) (by omega)), rq_180, zA_i (by omega), z2, zor_0w q2]
    have fin : ∀ w1 w2 : Nat, (w1 = 1 ∨ w1 = 2 ∨ w1 = 3) → (w2 = 1 ∨ w2 = 2 ∨ w2 = 3) → (∀ v, rqF (mk2 l g h) w v ↔ (rqF g w1 v ∨ rqF h w2 v)) → yE tC_For_reachParts (β - 1) σ [((lo + (szn g.1 g.2 + szn h.1 h.2 + 1) - 1 : Nat) : Int), (w : Int)] = some (zA (zA σ 19 (((lo + szn g.1 g.2 - 1 : Nat) : Int) * 7 + 6) (w1 : Int)) 19 (((lo + szn g.1 g.2 + szn h.1 h.2 - 1 : Nat) : Int) * 7 + 6) (w2 : Int), 0) → RPk β NN σ (lo + (szn g.1 g.2 + szn h.1 h.2 + 1)) lo (bnF (tt (mk2 l g h))) (rqF (mk2 l g h) w) := fun w1 w2 q1 q2 hR hr => by
      have hp := p83_ok (β := β) (by omega) hN (hi := lo + (szn g.1 g.2 + szn h.1 h.2 + 1)) (by omega) (by omega) h1 hr
      rw [show lo + (szn g.1 g.2 + szn h.1 h.2 + 1) - 1 = lo + szn g.1 g.2 + szn h.1 h.2 by omega] at hp
      exact rp_two fg fh q1 q2 ig ih cg ch hN ug uh (by omega) (fun i i1 i2 => h2 i i1 (by omega)) l4 l7 hR hp
    have hl : l = 4 ∨ l = 5 ∨ l = 6 ∨ l = 7 := by omega
    rcases hl with e | e | e | e
    · subst e
      refine fin w w hw hw (fun v => by rw [rqF_45 (by omega) (by omega)]) (rq_get (by omega) hN e1 _ ?_)
      rw [if_neg (show ¬ (kk 4 < 11 ∨ 17 < kk 4) by decide), if_neg (show ¬ kk 4 = 11 by decide), if_neg (show ¬ kk 4 = 12 by decide), if_neg (show ¬ kk 4 = 13 by decide), if_pos (show kk 4 = 14 from rfl), if_pos (by omega), turn_w hw]
      exact two w w hw hw
    · subst e
      refine fin w w hw hw (fun v => by rw [rqF_45 (by omega) (by omega)]) (rq_get (by omega) hN e1 _ ?_)
      rw [if_neg (show ¬ (kk 5 < 11 ∨ 17 < kk 5) by decide), if_neg (show ¬ kk 5 = 11 by decide), if_neg (show ¬ kk 5 = 12 by decide), if_neg (show ¬ kk 5 = 13 by decide), if_neg (show ¬ kk 5 = 14 by decide), if_pos (show kk 5 = 15 from rfl), if_pos (by omega), turn_w hw]
      exact two w w hw hw
    · subst e
      refine fin (tw3 w) w (tw3_w hw) hw (fun v => by rw [rqF_6]) (rq_get (by omega) hN e1 _ ?_)
      rw [if_neg (show ¬ (kk 6 < 11 ∨ 17 < kk 6) by decide), if_neg (show ¬ kk 6 = 11 by decide), if_neg (show ¬ kk 6 = 12 by decide), if_neg (show ¬ kk 6 = 13 by decide), if_neg (show ¬ kk 6 = 14 by decide), if_neg (show ¬ kk 6 = 15 by decide), if_pos (show kk 6 = 16 from rfl), if_pos (by omega), turn_w hw]
      exact two (tw3 w) w (tw3_w hw) hw
    · subst e
      refine fin 3 3 (by omega) (by omega) (fun v => by rw [rqF_7]) (rq_get (by omega) hN e1 _ ?_)
      rw [if_neg (show ¬ (kk 7 < 11 ∨ 17 < kk 7) by decide), if_neg (show ¬ kk 7 = 11 by decide), if_neg (show ¬ kk 7 = 12 by decide), if_neg (show ¬ kk 7 = 13 by decide), if_neg (show ¬ kk 7 = 14 by decide), if_neg (show ¬ kk 7 = 15 by decide), if_neg (show ¬ kk 7 = 16 by decide), if_pos (by omega), turn_w hw]
      exact two 3 3 (by omega) (by omega)
  · intro l g l8 fg ih w hw C lo σ0 σ vlo vhi hF hN hU hv h1 h2
    have s1 := szn_1 (l := g.1) (k := g.2)
    rw [szn_m1 (by omega)] at h1 h2 ⊢
    have hFS : FS (tt (mk1 l g)) := by
      refine ⟨?_, trivial⟩
      show (if l ≤ 1 then _ else if l = 2 then _ else if l ≤ 3 then _ else if l ≤ 7 then _ else len (nd g.1 g.2 nl) = 1 ∧ FS (nd g.1 g.2 nl))
      rw [if_neg (by omega), if_neg (by omega), if_neg (by omega), if_neg (by omega)]
      exact ⟨rfl, fg⟩
    obtain ⟨i', j', e1, e2⟩ := hF.nd hFS
    have e2 : (if l ≤ 1 then _ else if l = 2 then _ else if l = 3 then _ else if l ≤ 7 then _ else len (nd g.1 g.2 nl) = 1 ∧ i' = ((lo + szs (nd g.1 g.2 nl) : Nat) : Int) - 1 ∧ j' = (((l - 8) / 2 : Nat) : Int) ∧ j' < (b : Int) ∧ chn σ0 (j' :: C) j' ∧ σ0.2.1 25 j' = sn ∧ CFs σ0 b NN TT sn (tt g) (j' :: C) lo) := e2
    rw [if_neg (by omega), if_neg (by omega), if_neg (by omega), if_neg (by omega)] at e2
    obtain ⟨_, e3, e4, _, e5, e6, e7⟩ := e2
    have e3 : i' = ((lo + szn g.1 g.2 - 1 : Nat) : Int) := by
      rw [e3, szs_nd]
      show ((lo + (szn g.1 g.2 + 0) : Nat) : Int) - 1 = _
      omega
    rw [szn_m1 (by omega), e3, e4] at e1
    have e1 : NN[lo + (szn g.1 g.2 + 1) - 1]? = some (kk l, ((lo + szn g.1 g.2 - 1 : Nat) : Int), (((l - 8) / 2 : Nat) : Int), hgt (mk1 l g), cp1 (nF (mk1 l g) false), cp1 (nF (mk1 l g) true)) := e1
    have hn := (List.getElem?_eq_some_iff.mp e1).1
    obtain ⟨mid, u1, u2⟩ := hU
    have u1 : (if l ≤ 2 then _ else if l ≤ 7 then _ else vlo ≤ (l - 8) / 2 ∧ UQs (tt g) ((l - 8) / 2 + 1) mid) := u1
    rw [if_neg (by omega), if_neg (by omega)] at u1
    have u2 : mid ≤ vhi := u2
    have ule := u1.2.le
    have z0 : σ.2.1 19 (((lo + szn g.1 g.2 - 1 : Nat) : Int) * 7 + 6) = 0 := h2 _ (by omega) (by omega)
    obtain ⟨ρ, hρ⟩ : ∃ x, x = zA (zA σ 19 (((lo + szn g.1 g.2 - 1 : Nat) : Int) * 7 + 6) (w : Int)) 27 (((l - 8) / 2 : Nat) : Int) (b2 (hitW l w)) := ⟨_, rfl⟩
    have N1 : NdW (zA σ 19 (((lo + szn g.1 g.2 - 1 : Nat) : Int) * 7 + 6) (w : Int)) NN := hN.z
    have f1 : FrC [] [27] (zA σ 19 (((lo + szn g.1 g.2 - 1 : Nat) : Int) * 7 + 6) (w : Int)) ρ := by rw [hρ]; exact FrC_A
    have ek : kk l = if l % 2 = 0 then 12 else 13 := by
      unfold kk
      rw [if_neg (by omega), if_neg (by omega), if_neg (by omega), if_neg (by omega)]
    have e125 : yE tC_For_reachParts_p125 (β - 1) (zA σ 19 (((lo + szn g.1 g.2 - 1 : Nat) : Int) * 7 + 6) (w : Int)) [((lo + (szn g.1 g.2 + 1) - 1 : Nat) : Int), (w : Int), ((tw3 w : Nat) : Int), ((lo + szn g.1 g.2 - 1 : Nat) : Int), (((l - 8) / 2 : Nat) : Int), b2 (hitW l w), (((l - 8) / 2 : Nat) : Int)] = some (ρ, 0) := by
      have hb : b2 (hitW l w) = 0 ∨ b2 (hitW l w) = 1 := by
        by_cases q : hitW l w
        · exact Or.inr (b2_t q)
        · exact Or.inl (b2_f q)
      rw [yq_For_reachParts_p125, kY_For_reachParts_p125, if_pos ⟨by omega, by omega⟩, if_pos hb, lt_e, ← hρ, rq_180]
    have e116 : ∀ y : Int, y = (if l % 2 = 0 then 1 else 2) → yE tC_For_reachParts_p116 (β - 1) (zA σ 19 (((lo + szn g.1 g.2 - 1 : Nat) : Int) * 7 + 6) (w : Int)) [((lo + (szn g.1 g.2 + 1) - 1 : Nat) : Int), (w : Int), ((tw3 w : Nat) : Int), ((lo + szn g.1 g.2 - 1 : Nat) : Int), (((l - 8) / 2 : Nat) : Int), y, (w : Int), (((l - 8) / 2 : Nat) : Int)] = some (ρ, 0) := fun y hy => by
      rw [yq_For_reachParts_p116, kY_For_reachParts_p116, hy]
      by_cases q : hitW l w
      · rw [b2_t q] at e125
        rw [if_neg]
        · exact e125
        · unfold hitW at q
          rcases q with q | ⟨q, q2⟩ | ⟨q, q2⟩
          · subst q; split <;> decide
          · subst q; rw [if_pos q2]; decide
          · subst q; rw [if_neg (by omega)]; decide
      · rw [b2_f q] at e125
        rw [if_pos]
        · exact e125
        · unfold hitW at q
          rcases hw with q1 | q1 | q1
          · subst q1
            rw [if_neg (fun h => q (Or.inr (Or.inl ⟨rfl, h⟩)))]; decide
          · subst q1
            rw [if_pos (by
              rcases Nat.mod_two_eq_zero_or_one l with h | h
              · exact h
              · exact absurd (Or.inr (Or.inr ⟨rfl, h⟩)) q)]; decide
          · exact absurd (Or.inl q1) q
    have hr : yE tC_For_reachParts (β - 1) σ [((lo + (szn g.1 g.2 + 1) - 1 : Nat) : Int), (w : Int)] = some (ρ, 0) := by
      refine rq_get (by omega) hN e1 _ ?_
      have g0 : yE tC_For_get (β - 1 - 1) (zA σ 19 (((lo + szn g.1 g.2 - 1 : Nat) : Int) * 7 + 6) (w : Int)) [((lo + (szn g.1 g.2 + 1) - 1 : Nat) : Int), 0] = some (zA σ 19 (((lo + szn g.1 g.2 - 1 : Nat) : Int) * 7 + 6) (w : Int), kk l) := get_ok N1 e1 (j := 0) (by omega) rfl
      have rr := reach_ok (β := β - 1 - 1) hN (n := lo + szn g.1 g.2 - 1) (by omega) (w := (w : Int))
      rw [z0, zor_0w hw] at rr
      rw [turn_w hw]
      by_cases q : l % 2 = 0
      · rw [if_pos q] at ek
        rw [ek, if_neg (by decide), if_neg (by decide), if_pos rfl, if_pos (by omega), zbd_of rr, if_pos (by omega), zbd_of g0, ek, if_neg (by decide)]
        exact e116 1 (by rw [if_pos q])
      · rw [if_neg q] at ek
        rw [ek, if_neg (by decide), if_neg (by decide), if_neg (by decide), if_pos rfl, if_pos (by omega), zbd_of rr, if_pos (by omega), zbd_of g0, ek, if_pos rfl]
        exact e116 2 (by rw [if_neg q])
    have hp := p83_ok (β := β) (by omega) hN (hi := lo + (szn g.1 g.2 + 1)) (by omega) (by omega) h1 hr
    rw [show lo + (szn g.1 g.2 + 1) - 1 = lo + szn g.1 g.2 by omega] at hp
    have c19 : ∀ i : Nat, i ≠ lo + szn g.1 g.2 - 1 → ρ.2.1 19 ((i : Int) * 7 + 6) = σ.2.1 19 ((i : Int) * 7 + 6) := fun i hi => by rw [f1.a 19, zA_i (by omega)]
    have o := ih w hw (((((l - 8) / 2 : Nat) : Int)) :: C) lo σ0 ρ ((l - 8) / 2 + 1) mid (by rw [← e4]; exact e7) (N1.f f1) u1.2 (by omega) (by rw [f1.a 19, zA_s]) (fun i i1 i2 => by rw [c19 i (by omega)]; exact h2 i i1 (by omega))
    have nv : ∀ v, bnF (tt g) v → v ≠ (l - 8) / 2 := fun v q => by have := u1.2.b q; omega
    refine RPk.go hp (fA.trans f1.w) (fun i hi => c19 i (by omega)) o (fun v hv => bnF_m1 hv (by omega)) (fun v hv => ?_) (fun v hv => ?_) (fun u hu => ?_)
    · rw [rqF_q l8]
      exact ⟨Or.inr, fun q => q.resolve_left (fun q => nv v hv q.1)⟩
    · rcases bnF_m1i hv with ⟨_, q⟩ | q
      · refine Or.inr ⟨fun q2 => nv v q2 q, ?_⟩
        rw [q, hρ, zA_s]
        refine congrArg b2 (propext ?_)
        rw [rqF_q l8]
        exact ⟨fun q2 => Or.inl ⟨rfl, q2⟩, fun q2 => by
          rcases q2 with q2 | q2
          · exact q2.2
          · exact absurd rfl (nv _ (rqF_b g fg _ _ q2))⟩
      · exact Or.inl q
    · have hne : u ≠ (((l - 8) / 2 : Nat) : Int) := fun e => hu ((l - 8) / 2) (Or.inl ⟨by show 2 < l; omega, Or.inl ⟨l8, rfl⟩⟩) e.symm
      rw [hρ, zA_i hne]
      simp [zA]
