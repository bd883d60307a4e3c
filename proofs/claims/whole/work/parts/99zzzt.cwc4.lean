/-! CLAUSE i, all FORMULAS -/
theorem szn_m1 {l : Nat} {g : Tm} (h : 3 ≤ l) : szn (mk1 l g).1 (mk1 l g).2 = szn g.1 g.2 + 1 := by
  show (if l ≤ 2 then 1 else 1 + szs (nd g.1 g.2 nl)) = _
  rw [if_neg (by omega), szs_nd]
  show 1 + (szn g.1 g.2 + 0) = _
  omega
theorem szn_m2 {l : Nat} {g h : Tm} (h3 : 3 ≤ l) : szn (mk2 l g h).1 (mk2 l g h).2 = szn g.1 g.2 + szn h.1 h.2 + 1 := by
  show (if l ≤ 2 then 1 else 1 + szs (nd g.1 g.2 (nd h.1 h.2 nl))) = _
  rw [if_neg (by omega), szs_nd, szs_nd]
  show 1 + (szn g.1 g.2 + (szn h.1 h.2 + 0)) = _
  omega
theorem CE.ext {σ0 σ τ : zS} {E : VE} {vs : List Int} {v : Nat} {w : Nat → Nat} {stay : Bool} (h : CE σ E) (hE : E.map (fun x => (x.1 : Int)) = vs) (f1 : FrC WIc WAc σ0 σ) (f2 : FrC WIc WAc σ0 τ) (hk : ∀ u ∈ vs, τ.2.1 27 u = σ.2.1 27 u) (hv : τ.2.1 27 (v : Int) = bi (!stay)) (hq : stay = false → 0 ≤ σ0.2.1 26 (v : Int) ∧ w v = cu (σ0.2.1 26 (v : Int))) : CE τ (bE w E v stay) := fun i x hx => by
  have h1 := h.k hE f1 f2 hk
  unfold bE at hx ⊢
  by_cases c : i < E.length
  · rw [List.getElem?_append_left c] at hx
    rw [List.take_append_of_le_length (by omega)]
    exact h1 i x hx
  · have hi : i = E.length := by
      have := (List.getElem?_eq_some_iff.mp hx).1
      rw [List.length_append] at this
      simp at this
      omega
    subst hi
    rw [List.getElem?_append_right (Nat.le_refl _), Nat.sub_self] at hx
    cases hx
    rw [List.take_left]
    cases stay
    · obtain ⟨q1, q2⟩ := hq rfl
      refine Or.inr ⟨hv, ?_, by rw [f2.a 26]; exact q1⟩
      show (w v, eT E) = (cu (τ.2.1 26 (v : Int)), eT E)
      rw [f2.a 26, q2]
    · exact Or.inl ⟨hv, rfl⟩
theorem CVs.ext {σ : zS} {sn : Int} {F0 : Nat} {fr C : List Int} {j : Int} (h : CVs σ sn F0 fr C) (h1 : chn σ (j :: C) j) (h2 : σ.2.1 25 j = sn) : CVs σ sn F0 fr (j :: C) := by
  obtain ⟨a, b, c, d, e⟩ := h
  refine ⟨a, b, c, ⟨j, h1⟩, fun v hv => ?_⟩
  rcases List.mem_cons.mp hv with hv | hv
  · rw [hv]; exact h2
  · exact e v hv
theorem CVs.new {σ : zS} {sn : Int} {F0 : Nat} {fr C : List Int} {j u : Int} (h : CVs σ sn F0 fr (j :: C)) (hu : u ∈ fr ++ C.reverse) : u ≠ j := by
  intro e
  subst e
  obtain ⟨i, hi⟩ := mem_at hu
  have hil := (List.getElem?_eq_some_iff.mp hi).1
  have e1 : fr ++ (u :: C).reverse = (fr ++ C.reverse) ++ [u] := by rw [List.reverse_cons, List.append_assoc]
  have h1 : (fr ++ (u :: C).reverse)[i]? = some u := by rw [e1, List.getElem?_append_left hil]; exact hi
  have h2 : (fr ++ (u :: C).reverse)[(fr ++ C.reverse).length]? = some u := by rw [e1, List.getElem?_append_right (Nat.le_refl _), Nat.sub_self]; rfl
  have := h.inj h1 h2
  omega
theorem CVs.mem {σ : zS} {sn : Int} {F0 : Nat} {fr C : List Int} {u : Int} (h : CVs σ sn F0 fr C) (hu : u ∈ fr ++ C.reverse) : 0 ≤ u ∧ u < 300 := by
  obtain ⟨i, hi⟩ := mem_at hu
  exact ⟨(h.at hi).1, (h.at hi).2.1⟩
section CWP
variable {β : Nat} {σ0 : zS} {NN : List N6} {TT : List Int} {sn : Int} {F0 : Nat} {fr : List Int} {b : Nat} {w : Nat → Nat} {ar : Int → Nat} {p : Int → Prop} {nm : PN} {x0 x1 x2 : Int}
theorem cw_jn (hβ : 70 ≤ β) {β2 : Nat} (hβ2 : 2 ≤ β2) (h0 : WS0 σ0 NN TT ar p nm) {g h : Tm} {both s t is : Bool} (hg : FS (tt g)) (hh : FS (tt h)) (ig : CWs β σ0 NN TT sn F0 fr b w nm x0 x1 x2 g s) (ih : CWs β σ0 NN TT sn F0 fr b w nm x0 x1 x2 h t)
    {i i2 : Nat} {E : VE} {C : List Int} {l1 l2 n : Nat} {σ : zS} {PP : List Int} {Q : List QL} {m : Nat} {c : List Lt}
    (c1 : CFs σ0 b NN TT sn (tt g) C l1) (c2 : CFs σ0 b NN TT sn (tt h) C l2) (hV : CVs σ0 sn F0 fr C) (hE : E.map (fun x => (x.1 : Int)) = fr ++ C.reverse) (hC : CE σ E) (w1 : WFo1 nm g (fun v => v ∈ fr ++ C.reverse)) (w2 : WFo1 nm h (fun v => v ∈ fr ++ C.reverse))
    (k1 : wK (fun v => 0 ≤ σ0.2.1 26 (v : Int) ∧ w v = cu (σ0.2.1 26 (v : Int))) g s) (k2 : wK (fun v => 0 ≤ σ0.2.1 26 (v : Int) ∧ w v = cu (σ0.2.1 26 (v : Int))) h t) (m1 : nF g s ≤ 200) (m2 : nF h t ≤ 200) (hc : (jn both (cFm w g E s) (cFm w h E t))[i2]? = some c)
    (hwp : ∀ ρ τ : zS, NdW ρ NN → yE tG_For_joined β2 ρ [bi both, ((l1 + szn g.1 g.2 - 1 : Nat) : Int), bi s, ((l2 + szn h.1 h.2 - 1 : Nat) : Int), bi t, (i2 : Int)] = some (τ, 0) → yE tG_For_writePart (β - 1) ρ [(n : Int), bi is, (i : Int)] = some (τ, 0))
    (hS : WSt σ0 σ (PP ++ [(n : Int), bi is, (i : Int)]) (some Q)) (hP : PP.length + 6 * (szn g.1 g.2 + szn h.1 h.2 + 1) ≤ 123900) (hCl : C.length + (szn g.1 g.2 + szn h.1 h.2 + 1) ≤ 90000) (hm : m + (szn g.1 g.2 + szn h.1 h.2 + 1) ≤ 900000) :
    WOut β σ0 x0 x1 x2 σ m (szn g.1 g.2 + szn h.1 h.2 + 1) PP (qaddL (some Q) (toQ c)) (KV σ0 (fr ++ C.reverse)) := by
  refine pop_go (by omega) hS (by omega) (fun hS1 => ?_)
  obtain ⟨z1, _⟩ := id h0
  obtain ⟨s1, s2, s3, s4, s5, s6⟩ := id hS1
  obtain ⟨i1, j1, e1, _⟩ := c1.nd hg
  obtain ⟨i3, j3, e3, _⟩ := c2.nd hh
  have a1 := nF_1 g hg s
  have a2 := nF_1 h hh t
  have hil := (List.getElem?_eq_some_iff.mp hc).1
  have hi2 : i2 ≤ 100000 := by
    rw [jn_len, cFm_len g hg, cFm_len h hh] at hil
    have : nF g s * nF h t ≤ 200 * 200 := Nat.mul_le_mul m1 m2
    split at hil <;> omega
  obtain ⟨τ, t1, t2, t3, t4, t5⟩ := cjoined_ok (β := β2) hβ2 (z1.f s1) s4 (by omega) s2 s3 e1 e3 both s t (i := i2) (c1 := nF g s) (c2 := nF h t) (fun _ => by unfold nc; cases s <;> exact cp1_e (by omega)) (fun _ => by unfold nc; cases t <;> exact cp1_e (by omega)) a1 a2 (by omega) (by omega) hi2
  have hW := FrC.w2 hS1 t3 t4 t5 t2
  refine ⟨τ, hwp _ τ (z1.f s1) t1, ?_, fun v _ => by rw [t3.a 27]; rfl⟩
  have fI : FrC [2901] [] σ (zI σ 2901 (PP.length : Int)) := FrC_I
  exact jn_out hg hh ig ih c1 c2 hV hE ((hC.f fI).f t3) w1 w2 k1 k2 m1 m2 hc hW hP hCl (by omega)
theorem cwc_ok (hβ : 70 ≤ β) (h0 : WS0 σ0 NN TT ar p nm) : ∀ f, FS (tt f) → ∀ is, CWs β σ0 NN TT sn F0 fr b w nm x0 x1 x2 f is := by
  obtain ⟨z1, z2, z3, z4, z5⟩ := id h0
  refine FO_ind ?_ ?_ ?_ ?_ ?_
  · intro l1 k1 l2 k2 l hl is i E C lo σ PP Q g c hF hV hE hC hW hK hn hc hS hP hCl hg
    have hsz : szn l (nd l1 k1 (nd l2 k2 nl)) = 1 := by unfold szn; rw [if_pos (by omega)]
    obtain ⟨i', j', e1, e2⟩ := hF.nd (by
      refine ⟨?_, trivial⟩
      show (if l ≤ 1 then len (nd l1 k1 (nd l2 k2 nl)) = 2 else _)
      rw [if_pos hl]; rfl)
    have e2 : (if l ≤ 1 then ∃ l1' k1' l2' k2', (nd l1 k1 (nd l2 k2 nl)) = nd l1' k1' (nd l2' k2' nl) ∧ TTa TT i' (fl (nd l1' k1' nl)) ∧ TTa TT j' (fl (nd l2' k2' nl)) else _) := e2
    rw [if_pos hl] at e2
    obtain ⟨_, _, _, _, e3, e4, e5⟩ := e2
    cases e3
    have hW1 := hW.1
    have hW1 : (if l ≤ 1 then len (nd l1 k1 (nd l2 k2 nl)) = 2 ∧ WT nm (fun v => v ∈ fr ++ C.reverse) (nd l1 k1 (nd l2 k2 nl)) else _) := hW1
    rw [if_pos hl] at hW1
    have wt1 := hW1.2
    have hVp : ∀ v, v ∈ fr ++ C.reverse → p (-1 - v) := fun v hv => z5 v (hV.mem hv).1 (hV.mem hv).2
    obtain ⟨a1, a2⟩ := WT_wf z4 hVp (F := nd l1 k1 nl) ⟨wt1.1, wt1.2.1, trivial⟩
    obtain ⟨b1, b2⟩ := WT_wf z4 hVp (F := nd l2 k2 nl) wt1.2.2
    rw [cFm_at (by omega)] at hc
    have hi0 : i = 0 := by
      have := (List.getElem?_eq_some_iff.mp hc).1
      simp at this; omega
    subst hi0
    cases hc
    have o := cw_lit (x0 := x0) (x1 := x1) (x2 := x2) (g := g) (x := (l1, k1)) (y := (l2, k2)) hβ h0 (by omega) e1 hV hE hC (by omega) a1 a2 e4 (Or.inr ⟨e5, b1, b2⟩) hS (by rw [show szn (l, nd l1 k1 (nd l2 k2 nl)).1 (l, nd l1 k1 (nd l2 k2 nl)).2 = 1 from hsz] at hg; omega)
    rw [show szn (l, nd l1 k1 (nd l2 k2 nl)).1 (l, nd l1 k1 (nd l2 k2 nl)).2 = 1 from hsz]
    have ec : clt (eV E) l (nd l1 k1 (nd l2 k2 nl)) is = ((if is = (l != 1) then 1 else 0), st (eV E) (l1, k1), st (eV E) (l2, k2)) := by
      unfold clt
      rw [if_pos hl, if_pos hl]
      rfl
    rw [ec]
    exact o
  · intro h g' is i E C lo σ PP Q g c hF hV hE hC hW hK hn hc hS hP hCl hg
    obtain ⟨i', j', e1, e2⟩ := hF.nd ⟨rfl, trivial⟩
    have e2 : ∃ h' g'', (nd h g' nl) = nd h' g'' nl ∧ j' = -1 ∧ TTa TT i' (cl h' :: fl g'') := e2
    obtain ⟨_, _, e3, e4, e5⟩ := e2
    cases e3
    have hW1 : ∃ h' g'' x, (nd h g' nl) = nd h' g'' nl ∧ 1 ≤ cl h' ∧ nm[(cl h' - 1).toNat]? = some x ∧ x.2.1 = 1 ∧ x.2.2 = (len g'' : Int) ∧ WT nm (fun v => v ∈ fr ++ C.reverse) g'' := hW.1
    obtain ⟨_, _, x, e6, p1, p2, p3, p4, p5⟩ := hW1
    cases e6
    have hVp : ∀ v, v ∈ fr ++ C.reverse → p (-1 - v) := fun v hv => z5 v (hV.mem hv).1 (hV.mem hv).2
    obtain ⟨a1, a2⟩ := WT_wf z4 hVp p5
    obtain ⟨d1, d2⟩ := z4 _ x p2 (Or.inl p3)
    rw [show (((cl h - 1).toNat : Nat) : Int) + 1 = cl h by omega] at d1 d2
    rw [cFm_at (by omega)] at hc
    have hi0 : i = 0 := by
      have := (List.getElem?_eq_some_iff.mp hc).1
      simp at this; omega
    subst hi0
    cases hc
    have efl : fl (tt (h, g')) = cl h :: fl g' := by
      show cl h :: (fl g' ++ []) = _
      rw [List.append_nil]
    have hw : wf ar p (tt (h, g')) := ⟨by show len g' = (if cl h < 0 then 0 else ar (cl h)); rw [if_neg (by omega)]; omega, d2, a1, trivial⟩
    have o := cw_lit (x0 := x0) (x1 := x1) (x2 := x2) (g := g) (x := (h, g')) (y := (0, nl)) hβ h0 (l := 2) (by omega) e1 hV hE hC (by omega) hw (fun c hc h0 => by
      rw [efl] at hc
      rcases List.mem_cons.mp hc with e | hc
      · have e : c = cl h := e
        omega
      · exact a2 c hc h0) (by rw [efl]; exact e5) (Or.inl ⟨e4, rfl⟩) hS (by have : g + 1 ≤ 900000 := hg; exact this)
    have es : st (eV E) (h, g') = (h, su (eV E) g') := by
      show sbT (eV E) h (su (eV E) g') = _
      unfold sbT
      rw [if_neg (by omega)]
    have e0 : st (eV E) (0, nl) = (0, nl) := by
      show sbT (eV E) 0 nl = _
      unfold sbT
      rw [if_neg (by decide)]
    rw [es, e0] at o
    exact o
  · intro g fg ih is i E C lo σ PP Q m c hF hV hE hC hW hK hn hc hS hP hCl hm
    rw [szn_m1 (by omega)] at hS hP hCl hm ⊢
    obtain ⟨i', j', e1, e2⟩ := hF.nd ⟨⟨rfl, fg⟩, trivial⟩
    have e2 : len (nd g.1 g.2 nl) = 1 ∧ i' = ((lo + szs (nd g.1 g.2 nl) : Nat) : Int) - 1 ∧ CFs σ0 b NN TT sn (tt g) C lo := e2
    obtain ⟨_, e3, e4⟩ := e2
    have e3 : i' = ((lo + szn g.1 g.2 - 1 : Nat) : Int) := by
      rw [e3, szs_nd]
      have := szn_1 (l := g.1) (k := g.2)
      show ((lo + (szn g.1 g.2 + 0) : Nat) : Int) - 1 = _
      omega
    rw [szn_m1 (by omega)] at e1
    have e1 : NN[lo + (szn g.1 g.2 + 1) - 1]? = some (kk 3, i', j', hgt (mk1 3 g), cp1 (nF (mk1 3 g) false), cp1 (nF (mk1 3 g) true)) := e1
    refine pop_go (by omega) hS (by omega) (fun hS1 => ?_)
    obtain ⟨s1, s2, s3, s4, s5, s6⟩ := id hS1
    obtain ⟨τ, t1, t2, t3, t4, t5⟩ := later_ok (β := β - 1 - 1) s4 s2 s3 (by omega) (a := i') (c := (i : Int)) (s := !is)
    have hW1 := FrC.w2 hS1 t3 t4 t5 t2
    have fI : FrC [2901] [] σ (zI σ 2901 (PP.length : Int)) := FrC_I
    refine ⟨τ, ?_, ?_, fun v _ => by rw [t3.a 27]; rfl⟩
    · have e80 : ∀ y, y = bi (!is) → yE tG_For_writePart_p80 (β - 1) (zI σ 2901 (PP.length : Int)) [((lo + (szn g.1 g.2 + 1) - 1 : Nat) : Int), bi is, (i : Int), kk 3, i', j', y, i'] = some (τ, 0) := fun y hy => by
        rw [yq_For_writePart_p80, kY_For_writePart_p80, if_pos (by omega), hy, zbd_of t1, wp_240]
      rw [wp_get (by omega) (z1.f s1) e1, if_neg (by show ¬ ((11 : Int) < 11 ∨ 17 < (11 : Int)); decide), if_pos (show kk 3 = 11 from rfl)]
      cases is
      · rw [if_pos (show bi false = 0 from rfl)]; exact e80 1 rfl
      · rw [if_neg (show ¬ bi true = 0 by decide)]; exact e80 0 rfl
    · rw [e3] at hW1
      exact ih (!is) i E C lo τ PP Q (m + 1) c e4 hV hE ((hC.f fI).f t3) hW.1.2 hK hn hc hW1 (by omega) (by omega) (by omega)
  · intro l g h l4 l7 fg fh ig ih is i E C lo σ PP Q m c hF hV hE hC hW hK hn hc hS hP hCl hm
    rw [szn_m2 (by omega)] at hS hP hCl hm ⊢
    have hFS : FS (tt (mk2 l g h)) := by
      refine ⟨?_, trivial⟩
      show (if l ≤ 1 then _ else if l = 2 then _ else if l ≤ 3 then _ else if l ≤ 7 then len (nd g.1 g.2 (nd h.1 h.2 nl)) = 2 ∧ FS (nd g.1 g.2 (nd h.1 h.2 nl)) else _)
      rw [if_neg (by omega), if_neg (by omega), if_neg (by omega), if_pos l7]
      exact ⟨rfl, fg.1, fh⟩
    obtain ⟨i', j', e1, e2⟩ := hF.nd hFS
    have e2 : (if l ≤ 1 then _ else if l = 2 then _ else if l = 3 then _ else if l ≤ 7 then (∃ l1 k1 l2 k2, (nd g.1 g.2 (nd h.1 h.2 nl)) = nd l1 k1 (nd l2 k2 nl) ∧ i' = ((lo + szn l1 k1 : Nat) : Int) - 1 ∧ j' = ((lo + szs (nd g.1 g.2 (nd h.1 h.2 nl)) : Nat) : Int) - 1) ∧ CFs σ0 b NN TT sn (nd g.1 g.2 (nd h.1 h.2 nl)) C lo else _) := e2
    rw [if_neg (by omega), if_neg (by omega), if_neg (by omega), if_pos l7] at e2
    obtain ⟨⟨_, _, _, _, e3, e4, e5⟩, e6⟩ := e2
    cases e3
    have cg : CFs σ0 b NN TT sn (tt g) C lo := ⟨e6.1, trivial⟩
    have ch : CFs σ0 b NN TT sn (tt h) C (lo + szn g.1 g.2) := e6.2
    have p1 := szn_1 (l := g.1) (k := g.2)
    have p2 := szn_1 (l := h.1) (k := h.2)
    have e4 : i' = ((lo + szn g.1 g.2 - 1 : Nat) : Int) := by rw [e4]; omega
    have e5 : j' = ((lo + szn g.1 g.2 + szn h.1 h.2 - 1 : Nat) : Int) := by
      rw [e5, szs_nd, szs_nd]
      show ((lo + (szn g.1 g.2 + (szn h.1 h.2 + 0)) : Nat) : Int) - 1 = _
      omega
    rw [szn_m2 (by omega), e4, e5] at e1
    have e1 : NN[lo + (szn g.1 g.2 + szn h.1 h.2 + 1) - 1]? = some (kk l, ((lo + szn g.1 g.2 - 1 : Nat) : Int), ((lo + szn g.1 g.2 + szn h.1 h.2 - 1 : Nat) : Int), hgt (mk2 l g h), cp1 (nF (mk2 l g h) false), cp1 (nF (mk2 l g h) true)) := e1
    have hW1 : (if l ≤ 1 then _ else if l = 2 then _ else if l = 3 then _ else if l ≤ 7 then len (nd g.1 g.2 (nd h.1 h.2 nl)) = 2 ∧ WFo nm (nd g.1 g.2 (nd h.1 h.2 nl)) (fun v => v ∈ fr ++ C.reverse) else _) := hW.1
    rw [if_neg (by omega), if_neg (by omega), if_neg (by omega), if_pos l7] at hW1
    have wg : WFo1 nm g (fun v => v ∈ fr ++ C.reverse) := ⟨hW1.2.1, trivial⟩
    have wh : WFo1 nm h (fun v => v ∈ fr ++ C.reverse) := hW1.2.2
    have ag := nF_1 g fg
    have ah := nF_1 h fh
    have mg : ∀ s t, nF g s ≤ nF g s * nF h t := fun s t => Nat.le_mul_of_pos_right _ (ah t)
    have mh : ∀ s t, nF h t ≤ nF g s * nF h t := fun s t => Nat.le_mul_of_pos_left _ (ag s)
    rw [nF_bin l4 l7] at hn
    rw [cFm_bin l4 l7] at hc
    have ek : kk l = 10 + (l : Int) := by
      unfold kk
      rw [if_neg (by omega), if_neg (by omega), if_neg (by omega), if_pos l7]
    have hl : l = 4 ∨ l = 5 ∨ l = 6 ∨ l = 7 := by omega
    rcases hl with e | e | e | e
    · subst e
      rw [wK_45 (by omega) (by omega)] at hK
      have hn : (if is = true then nF g is + nF h is else nF g is * nF h is) ≤ 200 := hn
      have b1 := mg is is
      have b2 := mh is is
      refine cw_jn (both := is) (s := is) (t := is) (i2 := i) hβ (β2 := β - 1 - 1) (by omega) h0 fg fh (ig is) (ih is) cg ch hV hE hC wg wh hK.1 hK.2 (by split at hn <;> omega) (by split at hn <;> omega) hc (fun ρ τ hN hj => ?_) hS hP hCl hm
      have e150 : yE tG_For_writePart_p150 (β - 1) ρ [((lo + (szn g.1 g.2 + szn h.1 h.2 + 1) - 1 : Nat) : Int), bi is, (i : Int), kk 4, ((lo + szn g.1 g.2 - 1 : Nat) : Int), ((lo + szn g.1 g.2 + szn h.1 h.2 - 1 : Nat) : Int), bi is] = some (τ, 0) := by
        rw [yq_For_writePart_p150, kY_For_writePart_p150, if_pos (by omega), zbd_of hj, wp_240]
      rw [wp_get (by omega) hN e1, if_neg (by show ¬ ((14 : Int) < 11 ∨ 17 < (14 : Int)); decide), if_neg (show ¬ kk 4 = 11 by decide), if_neg (show ¬ kk 4 = 12 by decide), if_neg (show ¬ kk 4 = 13 by decide), if_pos (show kk 4 = 14 from rfl), if_pos (show kk 4 = 14 from rfl), yq_For_writePart_p141, kY_For_writePart_p141]
      cases is
      · rw [if_neg (by decide)]; exact e150
      · rw [if_pos (show 1 = bi true from rfl)]; exact e150
    · subst e
      rw [wK_45 (by omega) (by omega)] at hK
      have hn : (if is = true then nF g is * nF h is else nF g is + nF h is) ≤ 200 := hn
      have b1 := mg is is
      have b2 := mh is is
      refine cw_jn (both := !is) (s := is) (t := is) (i2 := i) hβ (β2 := β - 1 - 1) (by omega) h0 fg fh (ig is) (ih is) cg ch hV hE hC wg wh hK.1 hK.2 (by split at hn <;> omega) (by split at hn <;> omega) hc (fun ρ τ hN hj => ?_) hS hP hCl hm
      have e150 : yE tG_For_writePart_p150 (β - 1) ρ [((lo + (szn g.1 g.2 + szn h.1 h.2 + 1) - 1 : Nat) : Int), bi is, (i : Int), kk 5, ((lo + szn g.1 g.2 - 1 : Nat) : Int), ((lo + szn g.1 g.2 + szn h.1 h.2 - 1 : Nat) : Int), bi (!is)] = some (τ, 0) := by
        rw [yq_For_writePart_p150, kY_For_writePart_p150, if_pos (by omega), zbd_of hj, wp_240]
      rw [wp_get (by omega) hN e1, if_neg (by show ¬ ((15 : Int) < 11 ∨ 17 < (15 : Int)); decide), if_neg (show ¬ kk 5 = 11 by decide), if_neg (show ¬ kk 5 = 12 by decide), if_neg (show ¬ kk 5 = 13 by decide), if_neg (show ¬ kk 5 = 14 by decide), if_pos (show kk 5 = 15 from rfl), if_neg (show ¬ kk 5 = 14 by decide), yq_For_writePart_p141, kY_For_writePart_p141]
      cases is
      · rw [if_pos (show 0 = bi false from rfl)]; exact e150
      · rw [if_neg (by decide)]; exact e150
    · subst e
      rw [wK_6] at hK
      have hn : (if is = true then nF g (!is) * nF h is else nF g (!is) + nF h is) ≤ 200 := hn
      have b1 := mg (!is) is
      have b2 := mh (!is) is
      refine cw_jn (both := !is) (s := !is) (t := is) (i2 := i) hβ (β2 := β - 1 - 1) (by omega) h0 fg fh (ig (!is)) (ih is) cg ch hV hE hC wg wh hK.1 hK.2 (by split at hn <;> omega) (by split at hn <;> omega) hc (fun ρ τ hN hj => ?_) hS hP hCl hm
      have e185 : yE tG_For_writePart_p185 (β - 1) ρ [((lo + (szn g.1 g.2 + szn h.1 h.2 + 1) - 1 : Nat) : Int), bi is, (i : Int), kk 6, ((lo + szn g.1 g.2 - 1 : Nat) : Int), ((lo + szn g.1 g.2 + szn h.1 h.2 - 1 : Nat) : Int), bi (!is), ((lo + szn g.1 g.2 - 1 : Nat) : Int), bi (!is)] = some (τ, 0) := by
        rw [yq_For_writePart_p185, kY_For_writePart_p185, if_pos (by omega), zbd_of hj, wp_240]
      rw [wp_get (by omega) hN e1, if_neg (by show ¬ ((16 : Int) < 11 ∨ 17 < (16 : Int)); decide), if_neg (show ¬ kk 6 = 11 by decide), if_neg (show ¬ kk 6 = 12 by decide), if_neg (show ¬ kk 6 = 13 by decide), if_neg (show ¬ kk 6 = 14 by decide), if_neg (show ¬ kk 6 = 15 by decide), if_pos (show kk 6 = 16 from rfl)]
      cases is
      · rw [if_pos (show bi false = 0 from rfl), yq_For_writePart_p174, kY_For_writePart_p174, if_pos (show bi false = 0 from rfl)]; exact e185
      · rw [if_neg (show ¬ bi true = 0 by decide), yq_For_writePart_p174, kY_For_writePart_p174, if_neg (show ¬ bi true = 0 by decide)]; exact e185
    · subst e
      rw [wK_7] at hK
      have hn : nF g (!is) * nF h true + (if is = true then nF h false * nF g true else nF g false * nF h false) ≤ 200 := hn
      have hc : (eaE (cFm w g E (!is)) (cFm w h E true) ++ (if is = true then eaE (cFm w h E false) (cFm w g E true) else eaE (cFm w g E false) (cFm w h E false)))[i]? = some c := hc
      have b1 := mg (!is) true
      have b2 := mh (!is) true
      have b3 := mg true false
      have b4 := mh true false
      have b5 := mg false false
      have b6 := mh false false
      rw [Nat.mul_comm (nF h false)] at hn
      have hn2 : nF g (!is) ≤ 200 ∧ nF h true ≤ 200 := by split at hn <;> omega
      have l1 : (eaE (cFm w g E (!is)) (cFm w h E true)).length = nF g (!is) * nF h true := by rw [eaE_len, cFm_len g fg, cFm_len h fh]
      have hi9 : i ≤ 100000 := by
        have h5 := (List.getElem?_eq_some_iff.mp hc).1
        rw [List.length_append, l1] at h5
        cases is
        · rw [if_neg (by decide)] at h5 hn
          rw [eaE_len, cFm_len g fg, cFm_len h fh] at h5
          omega
        · rw [if_pos rfl] at h5 hn
          rw [eaE_len, cFm_len h fh, cFm_len g fg, Nat.mul_comm (nF h false)] at h5
          omega
      -- the two numbers
      have half : ∀ (ρ : zS), NdW ρ NN → ∀ (τ : zS), ((i < nF g (!is) * nF h true → yE tG_For_joined (β - 1 - 1 - 1) ρ [0, ((lo + szn g.1 g.2 - 1 : Nat) : Int), bi (!is), ((lo + szn g.1 g.2 + szn h.1 h.2 - 1 : Nat) : Int), 1, (i : Int)] = some (τ, 0)) ∧ (nF g (!is) * nF h true ≤ i → is = false → yE tG_For_joined (β - 1 - 1 - 1) ρ [0, ((lo + szn g.1 g.2 - 1 : Nat) : Int), 0, ((lo + szn g.1 g.2 + szn h.1 h.2 - 1 : Nat) : Int), 0, ((i - nF g (!is) * nF h true : Nat) : Int)] = some (τ, 0)) ∧ (nF g (!is) * nF h true ≤ i → is = true → yE tG_For_joined (β - 1 - 1 - 1) ρ [0, ((lo + szn g.1 g.2 + szn h.1 h.2 - 1 : Nat) : Int), 0, ((lo + szn g.1 g.2 - 1 : Nat) : Int), 1, ((i - nF g (!is) * nF h true : Nat) : Int)] = some (τ, 0))) → yE tG_For_writePart (β - 1) ρ [((lo + (szn g.1 g.2 + szn h.1 h.2 + 1) - 1 : Nat) : Int), bi is, (i : Int)] = some (τ, 0) := fun ρ hN τ hj => by
        obtain ⟨i1, j1, y1, _⟩ := cg.nd fg
        obtain ⟨i3, j3, y3, _⟩ := ch.nd fh
        rw [wp_get (by omega) hN e1, if_neg (by show ¬ ((17 : Int) < 11 ∨ 17 < (17 : Int)); decide), if_neg (show ¬ kk 7 = 11 by decide), if_neg (show ¬ kk 7 = 12 by decide), if_neg (show ¬ kk 7 = 13 by decide), if_neg (show ¬ kk 7 = 14 by decide), if_neg (show ¬ kk 7 = 15 by decide), if_neg (show ¬ kk 7 = 16 by decide)]
        have r1 : yE tC_For_clausesOf (β - 1 - 1 - 1) ρ [((lo + szn g.1 g.2 - 1 : Nat) : Int), bi (!is)] = some (ρ, (nF g (!is) : Int)) := by
          have hcp := cp1_e (n := nF g (!is)) (by omega)
          rw [cof_ok (by omega) hN y1]
          unfold nc
          cases is
          · exact congrArg (fun z => some (ρ, z)) hcp
          · exact congrArg (fun z => some (ρ, z)) hcp
        have r2 : yE tC_For_clausesOf (β - 1 - 1 - 1) ρ [((lo + szn g.1 g.2 + szn h.1 h.2 - 1 : Nat) : Int), 1] = some (ρ, (nF h true : Int)) := by
          rw [show (1 : Int) = bi true from rfl, cof_ok (by omega) hN y3]
          exact congrArg (fun z => some (ρ, z)) (cp1_e (by omega))
        have eq : yE tG_For_equivalent (β - 1 - 1) ρ [((lo + szn g.1 g.2 - 1 : Nat) : Int), ((lo + szn g.1 g.2 + szn h.1 h.2 - 1 : Nat) : Int), bi is, (i : Int)] = some (τ, 0) := by
          have p11 : yE tG_For_equivalent_p11 (β - 1 - 1) ρ [((lo + szn g.1 g.2 - 1 : Nat) : Int), ((lo + szn g.1 g.2 + szn h.1 h.2 - 1 : Nat) : Int), bi is, (i : Int), bi (!is), ((lo + szn g.1 g.2 - 1 : Nat) : Int)] = some (τ, 0) := by
            have hmm : (nF g (!is) : Int) * (nF h true : Int) = ((nF g (!is) * nF h true : Nat) : Int) := by rw [Int.natCast_mul]
            rw [yq_For_equivalent_p11, kY_For_equivalent_p11, if_pos (by omega), zbd_of r1, if_pos (by omega), zbd_of r2, hmm]
            generalize nF g (!is) * nF h true = N at *
            rw [if_pos ⟨by omega, by split at hn <;> omega⟩]
            by_cases c9 : (N : Int) ≤ (i : Int)
            · rw [if_pos c9]
              rw [show (i : Int) - (N : Int) = ((i - N : Nat) : Int) by omega]
              cases is
              · rw [if_pos (show bi false = 0 from rfl), if_pos ⟨by omega, by omega⟩, if_pos (by omega), zbd_of (hj.2.1 (by omega) rfl), eq87]
              · rw [if_neg (show ¬ bi true = 0 by decide), if_pos ⟨by omega, by omega⟩, if_pos (by omega), zbd_of (hj.2.2 (by omega) rfl), eq87]
            · rw [if_neg c9]
              have k42 : ∀ y, y = bi (!is) → yE tG_For_equivalent_p42 (β - 1 - 1) ρ [((lo + szn g.1 g.2 - 1 : Nat) : Int), ((lo + szn g.1 g.2 + szn h.1 h.2 - 1 : Nat) : Int), bi is, (i : Int), (N : Int), y, ((lo + szn g.1 g.2 - 1 : Nat) : Int), 0] = some (τ, 0) := fun y hy => by
                rw [yq_For_equivalent_p42, kY_For_equivalent_p42, if_pos (by omega), hy, zbd_of (hj.1 (by omega)), eq87]
              cases is
              · rw [if_pos (show bi false = 0 from rfl)]; exact k42 1 rfl
              · rw [if_neg (show ¬ bi true = 0 by decide)]; exact k42 0 rfl
          rw [yq_For_equivalent, kY_For_equivalent]
          cases is
          · rw [if_pos (show bi false = 0 from rfl)]; exact p11
          · rw [if_neg (show ¬ bi true = 0 by decide)]; exact p11
        rw [zbd_of eq, wp_240]
      by_cases ci : i < nF g (!is) * nF h true
      · rw [List.getElem?_append_left (by rw [l1]; exact ci)] at hc
        exact cw_jn (both := false) (s := !is) (t := true) (i2 := i) hβ (β2 := β - 1 - 1 - 1) (by omega) h0 fg fh (ig _) (ih _) cg ch hV hE hC wg wh (hK.1 _) (hK.2 _) hn2.1 hn2.2 hc (fun ρ τ hN hj => half ρ hN τ ⟨fun _ => hj, fun h => absurd h (by omega), fun h => absurd h (by omega)⟩) hS hP hCl hm
      · rw [List.getElem?_append_right (by rw [l1]; omega), l1] at hc
        cases is
        · rw [if_neg (by decide)] at hc hn
          exact cw_jn (both := false) (s := false) (t := false) (i2 := i - nF g (!false) * nF h true) hβ (β2 := β - 1 - 1 - 1) (by omega) h0 fg fh (ig _) (ih _) cg ch hV hE hC wg wh (hK.1 _) (hK.2 _) (by omega) (by omega) hc (fun ρ τ hN hj => half ρ hN τ ⟨fun h => absurd h ci, fun _ _ => hj, fun _ h => by cases h⟩) hS hP hCl hm
        · rw [if_pos rfl] at hc hn
          have o := cw_jn (m := m) (both := false) (s := false) (t := true) (i2 := i - nF g (!true) * nF h true) hβ (β2 := β - 1 - 1 - 1) (by omega) h0 fh fg (ih _) (ig _) ch cg hV hE hC wh wg (hK.2 _) (hK.1 _) (by omega) (by omega) hc (fun ρ τ hN hj => half ρ hN τ ⟨fun h => absurd h ci, fun _ h => (by cases h), fun _ _ => hj⟩) hS (by omega) (by omega) (by omega)
          rw [Nat.add_comm (szn h.1 h.2)] at o
          exact o
  · intro l g l8 fg ih is i E C lo σ PP Q m c hF hV hE hC hW hK hn hc hS hP hCl hm
    rw [szn_m1 (by omega)] at hS hP hCl hm ⊢
    have hFS : FS (tt (mk1 l g)) := by
      refine ⟨?_, trivial⟩
      show (if l ≤ 1 then _ else if l = 2 then _ else if l ≤ 3 then _ else if l ≤ 7 then _ else len (nd g.1 g.2 nl) = 1 ∧ FS (nd g.1 g.2 nl))
      rw [if_neg (by omega), if_neg (by omega), if_neg (by omega), if_neg (by omega)]
      exact ⟨rfl, fg⟩
    obtain ⟨i', j', e1, e2⟩ := hF.nd hFS
    have e2 : (if l ≤ 1 then _ else if l = 2 then _ else if l = 3 then _ else if l ≤ 7 then _ else len (nd g.1 g.2 nl) = 1 ∧ i' = ((lo + szs (nd g.1 g.2 nl) : Nat) : Int) - 1 ∧ j' = (((l - 8) / 2 : Nat) : Int) ∧ j' < (b : Int) ∧ chn σ0 (j' :: C) j' ∧ σ0.2.1 25 j' = sn ∧ CFs σ0 b NN TT sn (tt g) (j' :: C) lo) := e2
    rw [if_neg (by omega), if_neg (by omega), if_neg (by omega), if_neg (by omega)] at e2
    obtain ⟨_, e3, e4, _, e5, e6, e7⟩ := e2
    have p1 := szn_1 (l := g.1) (k := g.2)
    have e3 : i' = ((lo + szn g.1 g.2 - 1 : Nat) : Int) := by
      rw [e3, szs_nd]
      show ((lo + (szn g.1 g.2 + 0) : Nat) : Int) - 1 = _
      omega
    rw [szn_m1 (by omega)] at e1
    have e1 : NN[lo + (szn g.1 g.2 + 1) - 1]? = some (kk l, i', j', hgt (mk1 l g), cp1 (nF (mk1 l g) false), cp1 (nF (mk1 l g) true)) := e1
    have hV2 := hV.ext e5 e6
    have hW1 : (if l ≤ 1 then _ else if l = 2 then _ else if l = 3 then _ else if l ≤ 7 then _ else len (nd g.1 g.2 nl) = 1 ∧ WFo nm (nd g.1 g.2 nl) (fun u => u ∈ fr ++ C.reverse ∨ u = (((l - 8) / 2 : Nat) : Int))) := hW.1
    rw [if_neg (by omega), if_neg (by omega), if_neg (by omega), if_neg (by omega)] at hW1
    have emem : ∀ u, u ∈ fr ++ (j' :: C).reverse ↔ u ∈ fr ++ C.reverse ∨ u = j' := fun u => by
      rw [List.reverse_cons, ← List.append_assoc, List.mem_append, List.mem_singleton]
    have wg : WFo1 nm g (fun v => v ∈ fr ++ (j' :: C).reverse) := WFo.mono NmE.rf (fun u hu => (emem u).mpr (by rw [e4]; exact hu)) hW1.2
    rw [wK_q l8] at hK
    rw [nF_q l8] at hn
    rw [cFm_q l8] at hc
    refine pop_go (by omega) hS (by omega) (fun hS1 => ?_)
    obtain ⟨s1, s2, s3, s4, s5, s6⟩ := id hS1
    obtain ⟨stay, hst⟩ : ∃ x, x = (is == (l % 2 == 0)) := ⟨_, rfl⟩
    rw [← hst] at hK hc
    obtain ⟨σ2, hs2⟩ : ∃ x, x = zA (zI σ 2901 (PP.length : Int)) 27 j' (bi (!stay)) := ⟨_, rfl⟩
    have f2 : FrC [] [27] (zI σ 2901 (PP.length : Int)) σ2 := by rw [hs2]; exact FrC_A
    have fI : FrC [2901] [] σ (zI σ 2901 (PP.length : Int)) := FrC_I
    have hj0 := hV2.mem ((emem j').mpr (Or.inr rfl))
    have hM2 : Mb σ2 ∧ RL σ2 := ⟨s2.1.m f2.2.2.2, s2.2.f f2⟩
    obtain ⟨τ, t1, t2, t3, t4, t5⟩ := later_ok (β := β - 1 - 1) (s4.f f2) hM2 (by rw [f2.l 30]; exact s3) (by omega) (a := i') (c := (i : Int)) (s := is)
    have hS2 : WSt σ0 σ2 PP (some Q) := ⟨s1.trans f2.w, hM2, by rw [f2.l 30]; exact s3, s4.f f2, s5.f f2, by rw [f2.i 3905]; exact s6⟩
    have hW2 := FrC.w2 hS2 t3 t4 t5 t2
    have k27 : ∀ u, KV σ0 (fr ++ C.reverse) u → τ.2.1 27 u = σ.2.1 27 u := fun u hu => by
      have hne : u ≠ j' := by
        rcases hu with hu | hu
        · exact hV2.new hu
        · intro e
          rw [e] at hu
          exact chn_17 e5 hu
      rw [t3.a 27, hs2, zA_i hne]
      rfl
    have k27j : τ.2.1 27 j' = bi (!stay) := by rw [t3.a 27, hs2, zA_s]
    refine ⟨τ, ?_, ?_, k27⟩
    · have e115 : yE tG_For_writePart_p115 (β - 1) (zI σ 2901 (PP.length : Int)) [((lo + (szn g.1 g.2 + 1) - 1 : Nat) : Int), bi is, (i : Int), kk l, i', j', bi (!stay), j'] = some (τ, 0) := by
        rw [yq_For_writePart_p115, kY_For_writePart_p115, if_pos ⟨by omega, by omega⟩, if_pos (by cases stay <;> simp [bi]), lt_e, if_pos (by omega), ← hs2, zbd_of t1, wp_240]
      have e106 : ∀ y, y = bi (l % 2 == 1) → yE tG_For_writePart_p106 (β - 1) (zI σ 2901 (PP.length : Int)) [((lo + (szn g.1 g.2 + 1) - 1 : Nat) : Int), bi is, (i : Int), kk l, i', j', y, j'] = some (τ, 0) := fun y hy => by
        rw [yq_For_writePart_p106, kY_For_writePart_p106, hy]
        have h2 : l % 2 = 0 ∨ l % 2 = 1 := by omega
        rcases h2 with h2 | h2 <;> rw [h2] at hst ⊢ <;> cases is <;> (have hst : stay = _ := hst.trans rfl) <;> subst hst
        · rw [if_pos (show bi (0 == 1) = bi false from rfl)]; exact e115
        · rw [if_neg (show ¬ bi (0 == 1) = bi true by decide)]; exact e115
        · rw [if_neg (show ¬ bi (1 == 1) = bi false by decide)]; exact e115
        · rw [if_pos (show bi (1 == 1) = bi true from rfl)]; exact e115
      have ek : kk l = if l % 2 = 0 then 12 else 13 := by
        unfold kk
        rw [if_neg (by omega), if_neg (by omega), if_neg (by omega), if_neg (by omega)]
      rw [wp_get (by omega) (z1.f s1) e1]
      by_cases h2 : l % 2 = 0
      · rw [if_pos h2] at ek
        have hy : (0 : Int) = bi (l % 2 == 1) := by rw [h2]; rfl
        rw [if_neg (by omega), if_neg (by omega), if_pos ek, if_neg (by omega)]
        exact e106 0 hy
      · rw [if_neg h2] at ek
        have hy : (1 : Int) = bi (l % 2 == 1) := by rw [show l % 2 = 1 by omega]; rfl
        rw [if_neg (by omega), if_neg (by omega), if_neg (by omega), if_pos ek, if_pos ek]
        exact e106 1 hy
    · rw [e3] at hW2
      have hE2 : (bE w E ((l - 8) / 2) stay).map (fun x => (x.1 : Int)) = fr ++ (j' :: C).reverse := by
        unfold bE
        rw [List.map_append, hE, List.reverse_cons, List.append_assoc, e4]
        rfl
      have hC2 : CE τ (bE w E ((l - 8) / 2) stay) := CE.ext hC hE (by have := hS.1; exact this) hW2.1 (fun u hu => k27 u (Or.inl hu)) (by rw [← e4]; exact k27j) (fun h => by have := hK.1 h; exact this)
      have o := ih is i (bE w E ((l - 8) / 2) stay) (j' :: C) lo τ PP Q (m + 1) c e7 hV2 hE2 hC2 wg hK.2 hn hc hW2 (by omega) (by rw [List.length_cons]; omega) (by omega)
      exact o.pre rfl (Nat.le_refl _) (fun v hv => ⟨hv.imp (fun h => (emem v).mpr (Or.inl h)) id, rfl⟩)
end CWP
