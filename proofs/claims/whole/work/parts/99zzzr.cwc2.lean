/-! a CLAUSE of a FORMULA, part by part -/
abbrev WIc : List Nat := [2901, 3904, 3905, 3907, 3911]
abbrev WAc : List Nat := [27, 30, 40, 41, 42, 43, 44, 46]
def WS0 (σ0 : zS) (NN : List N6) (TT : List Int) (ar : Int → Nat) (p : Int → Prop) (nm : PN) : Prop := NdW σ0 NN ∧ (RowC σ0 1501 16 TT ∧ σ0.2.2 16 ≤ 1000000) ∧ ArC σ0 ar p ∧ (∀ (j : Nat) x, nm[j]? = some x → x.2.1 = 1 ∨ x.2.1 = 2 → x.2.2 = (ar ((j : Int) + 1) : Int) ∧ p ((j : Int) + 1)) ∧ ∀ v, 0 ≤ v → v < 300 → p (-1 - v)
def WSt (σ0 σ : zS) (PP : List Int) (Q : Option (List QL)) : Prop := FrC WIc WAc σ0 σ ∧ (Mb σ ∧ RL σ) ∧ σ.2.2 30 ≤ 250000 ∧ RowC σ 2901 30 PP ∧ DQ σ Q ∧ 0 ≤ σ.1 3905 ∧ σ.1 3905 ≤ 8
def WSe (σ0 σ : zS) : Prop := FrC WIc WAc σ0 σ ∧ (Mb σ ∧ RL σ) ∧ (16 ≤ σ.2.2 30 ∧ σ.2.2 30 ≤ 250000) ∧ DQ σ none ∧ 0 ≤ σ.1 3905 ∧ σ.1 3905 ≤ 8
/-- those around, and all free ones -/
def KV (σ0 : zS) (L : List Int) (v : Int) : Prop := v ∈ L ∨ σ0.2.1 17 v = -2
def WOut (β : Nat) (σ0 : zS) (x0 x1 x2 : Int) (σ : zS) (g m : Nat) (PP : List Int) (Q : Option (List QL)) (vs : Int → Prop) : Prop :=
  (Q = none ∧ ∃ τ, yE tG_For_writeClause_p23 β σ [x0, x1, x2, (g : Int)] = some (τ, 0) ∧ WSe σ0 τ) ∨
  (Q ≠ none ∧ ∃ (τ : zS) (g2 : Nat), yE tG_For_writeClause_p23 β σ [x0, x1, x2, (g : Int)] = yE tG_For_writeClause_p23 β τ [x0, x1, x2, (g2 : Int)] ∧ g2 ≤ g + m ∧ WSt σ0 τ PP Q ∧ ∀ v, vs v → τ.2.1 27 v = σ.2.1 27 v)
theorem WOut.pre {β : Nat} {σ0 : zS} {x0 x1 x2 : Int} {σ σ1 : zS} {g g1 m m1 : Nat} {PP : List Int} {Q : Option (List QL)} {vs vs1 : Int → Prop} (h : WOut β σ0 x0 x1 x2 σ1 g1 m1 PP Q vs1) (e : yE tG_For_writeClause_p23 β σ [x0, x1, x2, (g : Int)] = yE tG_For_writeClause_p23 β σ1 [x0, x1, x2, (g1 : Int)]) (hm : g1 + m1 ≤ g + m) (hv : ∀ v, vs v → vs1 v ∧ σ1.2.1 27 v = σ.2.1 27 v) : WOut β σ0 x0 x1 x2 σ g m PP Q vs := by
  rcases h with ⟨h1, τ, h2, h3⟩ | ⟨h1, τ, g2, h2, h3, h4, h5⟩
  · exact Or.inl ⟨h1, τ, e.trans h2, h3⟩
  · exact Or.inr ⟨h1, τ, g2, e.trans h2, by omega, h4, fun v hv1 => (h5 v (hv v hv1).1).trans (hv v hv1).2⟩
theorem qaddL_no : ∀ L : List QL, qaddL none L = none
  | [] => rfl
  | a :: L => qaddL_no L
theorem qaddL_ap (Q : Option (List QL)) (A B : List QL) : qaddL Q (A ++ B) = qaddL (qaddL Q A) B := by unfold qaddL; rw [List.foldl_append]
theorem toQ_ap (A B : List Lt) : toQ (A ++ B) = toQ A ++ toQ B := by unfold toQ; rw [List.map_append]
theorem DQ.c0 {σ : zS} {Q : List QL} (h : DQ σ (some Q)) : σ.1 3907 = 0 := by
  obtain ⟨h1, h2, h3, _⟩ := h
  rw [(dq_some h2).1] at h3
  exact h3.1
theorem WSt.pop {β : Nat} {σ0 σ : zS} {PP : List Int} {a c : Int} {s : Bool} {Q : List QL} (h : WSt σ0 σ (PP ++ [a, bi s, c]) (some Q)) {x0 x1 x2 : Int} {g : Nat} (hg : g < 1000000) (hβ : 1 ≤ β) : WSt σ0 (zI σ 2901 (PP.length : Int)) PP (some Q) ∧ yE tG_For_writeClause_p23 β σ [x0, x1, x2, (g : Int)] = zbd (yE tG_For_writePart (β - 1) (zI σ 2901 (PP.length : Int)) [a, bi s, c]) (fun σ1 _ => if zr ((g : Int) + 1) then yE tG_For_writeClause_p23 β σ1 [x0, x1, x2, (g : Int) + 1] else none) := by
  obtain ⟨h1, h2, h3, h4, h5, h6⟩ := h
  obtain ⟨r1, r2, r3, r4⟩ := id h4
  rw [List.length_append] at r1 r2
  have r1 : σ.1 2901 = (PP.length : Int) + 3 := by rw [r1]; simp
  have r2 : PP.length + 3 ≤ σ.2.2 30 := by simpa using r2
  rw [Fl_app] at r4
  obtain ⟨q1, q2, q3, q4, _⟩ := r4
  have q2 : σ.2.1 30 (0 + (PP.length : Int)) = a := q2
  have q3 : σ.2.1 30 (0 + (PP.length : Int) + 1) = bi s := q3
  have q4 : σ.2.1 30 (0 + (PP.length : Int) + 1 + 1) = c := q4
  rw [Int.zero_add] at q2 q3 q4
  have fI : FrC [2901] [] σ (zI σ 2901 (PP.length : Int)) := FrC_I
  have hr : RowC (zI σ 2901 (PP.length : Int)) 2901 30 PP := ⟨zI_1, by show PP.length ≤ σ.2.2 30; omega, r3, q1⟩
  refine ⟨⟨h1.trans fI.w, ⟨h2.1.m fI.2.2.2, h2.2⟩, h3, hr, h5.f fI, by rw [fI.i 3905]; exact h6⟩, ?_⟩
  rw [yq_For_writeClause_p23, kY_For_writeClause_p23, if_neg (by omega), if_neg (by omega), if_pos h5.c0, if_pos ⟨by omega, by omega⟩, show σ.1 2901 - 3 = (PP.length : Int) by omega, lt_e, zI_1]
  have e1 : (zI σ 2901 (PP.length : Int)).2.2 30 = σ.2.2 30 := rfl
  have e2 : ∀ q, (zI σ 2901 (PP.length : Int)).2.1 30 q = σ.2.1 30 q := fun q => rfl
  rw [e1, e2, e2, q2, q3, if_pos ⟨by omega, by omega⟩, if_pos ⟨by omega, by omega⟩, if_pos ⟨by omega, by omega⟩]
  have k : ∀ y, y = bi s → yE tG_For_writeClause_p103 β (zI σ 2901 (PP.length : Int)) [x0, x1, x2, (g : Int), a, y] = zbd (yE tG_For_writePart (β - 1) (zI σ 2901 (PP.length : Int)) [a, bi s, c]) (fun σ1 _ => if zr ((g : Int) + 1) then yE tG_For_writeClause_p23 β σ1 [x0, x1, x2, (g : Int) + 1] else none) := fun y hy => by
    rw [yq_For_writeClause_p103, kY_For_writeClause_p103, zI_1, e1, e2, if_pos ⟨by omega, by omega⟩, if_pos ⟨by omega, by omega⟩, if_pos hβ, show (PP.length : Int) + 2 = (PP.length : Int) + 1 + 1 by omega, q4, hy]
  cases s
  · rw [if_neg (by decide)]; exact k 0 rfl
  · rw [if_pos (show bi true = 1 from rfl)]; exact k 1 rfl
/-- it stops at once where the BOUNDS are passed -/
theorem WSt.stop {β : Nat} {σ0 τ : zS} {PP : List Int} (h : WSt σ0 τ PP none) {x0 x1 x2 : Int} {g : Nat} : yE tG_For_writeClause_p23 β τ [x0, x1, x2, (g : Int)] = some (τ, 0) ∧ WSe σ0 τ := by
  obtain ⟨h1, h2, h3, h4, h5, h6⟩ := h
  refine ⟨?_, h1, h2, ⟨h4.2.2.1, h3⟩, h5, h6⟩
  have e : ∀ a b c d, yE tG_For_writeClause_p137 β τ [a, b, c, d] = some (τ, 0) := fun a b c d => by rw [yq_For_writeClause_p137, kY_For_writeClause_p137]
  have h7 : τ.1 3907 = 1 := h5.1
  rw [yq_For_writeClause_p23, kY_For_writeClause_p23, e]
  split
  · rfl
  · split
    · rfl
    · rw [if_neg (by omega)]
/-- how a FORMULA lies there -/
theorem CFs.nd {σ : zS} {b : Nat} {NN : List N6} {TT : List Int} {sn : Int} {f : Tm} {C : List Int} {lo : Nat} (h : CFs σ b NN TT sn (tt f) C lo) (hf : FS (tt f)) : ∃ i j : Int, NN[lo + szn f.1 f.2 - 1]? = some (kk f.1, i, j, hgt f, cp1 (nF f false), cp1 (nF f true)) ∧
      (if f.1 ≤ 1 then ∃ l1 k1 l2 k2, f.2 = nd l1 k1 (nd l2 k2 nl) ∧ TTa TT i (fl (nd l1 k1 nl)) ∧ TTa TT j (fl (nd l2 k2 nl))
       else if f.1 = 2 then ∃ h g, f.2 = nd h g nl ∧ j = -1 ∧ TTa TT i (cl h :: fl g)
       else if f.1 = 3 then len f.2 = 1 ∧ i = ((lo + szs f.2 : Nat) : Int) - 1 ∧ CFs σ b NN TT sn f.2 C lo
       else if f.1 ≤ 7 then (∃ l1 k1 l2 k2, f.2 = nd l1 k1 (nd l2 k2 nl) ∧ i = ((lo + szn l1 k1 : Nat) : Int) - 1 ∧ j = ((lo + szs f.2 : Nat) : Int) - 1) ∧ CFs σ b NN TT sn f.2 C lo
       else len f.2 = 1 ∧ i = ((lo + szs f.2 : Nat) : Int) - 1 ∧ j = (((f.1 - 8) / 2 : Nat) : Int) ∧ j < (b : Int) ∧ chn σ (j :: C) j ∧ σ.2.1 25 j = sn ∧ CFs σ b NN TT sn f.2 (j :: C) lo) := by
  obtain ⟨⟨i, j, h1, h2⟩, _⟩ := h
  have e := cns_n f hf
  have e2 : cnn f.1 (cns f.2) = (cp1 (nF f false), cp1 (nF f true)) := by
    have : [cnn f.1 (cns f.2)] = [(cp1 (nF f false), cp1 (nF f true))] := e
    exact List.head_eq_of_cons_eq this
  rw [e2] at h1
  exact ⟨i, j, h1, h2⟩
theorem cp1_e {n : Nat} (h : n ≤ 201) : cp1 n = (n : Int) := by unfold cp1; rw [if_neg (by omega)]
/-- two parts -/
def CWs (β : Nat) (σ0 : zS) (NN : List N6) (TT : List Int) (sn : Int) (F0 : Nat) (fr : List Int) (b : Nat) (w : Nat → Nat) (nm : PN) (x0 x1 x2 : Int) (f : Tm) (is : Bool) : Prop := ∀ (i : Nat) (E : VE) (C : List Int) (lo : Nat) (σ : zS) (PP : List Int) (Q : List QL) (g : Nat) (c : List Lt),
  CFs σ0 b NN TT sn (tt f) C lo → CVs σ0 sn F0 fr C → E.map (fun x => (x.1 : Int)) = fr ++ C.reverse → CE σ E → WFo1 nm f (fun v => v ∈ fr ++ C.reverse) → wK (fun v => 0 ≤ σ0.2.1 26 (v : Int) ∧ w v = cu (σ0.2.1 26 (v : Int))) f is → nF f is ≤ 200 → (cFm w f E is)[i]? = some c → WSt σ0 σ (PP ++ [((lo + szn f.1 f.2 - 1 : Nat) : Int), bi is, (i : Int)]) (some Q) → PP.length + 6 * szn f.1 f.2 ≤ 123900 → C.length + szn f.1 f.2 ≤ 90000 → g + szn f.1 f.2 ≤ 900000 → WOut β σ0 x0 x1 x2 σ g (szn f.1 f.2) PP (qaddL (some Q) (toQ c)) (KV σ0 (fr ++ C.reverse))
theorem CE.k {σ0 σ τ : zS} {E : VE} {vs : List Int} (h : CE σ E) (hE : E.map (fun x => (x.1 : Int)) = vs) (f1 : FrC WIc WAc σ0 σ) (f2 : FrC WIc WAc σ0 τ) (hk : ∀ v ∈ vs, τ.2.1 27 v = σ.2.1 27 v) : CE τ E := fun i x hx => by
  have : (x.1 : Int) ∈ vs := by rw [← hE]; exact List.mem_map.mpr ⟨x, List.mem_of_getElem? hx, rfl⟩
  rw [hk _ this, f2.a 26, ← f1.a 26]
  exact h i x hx
theorem jn_out {β : Nat} {σ0 : zS} {NN : List N6} {TT : List Int} {sn : Int} {F0 : Nat} {fr : List Int} {b : Nat} {w : Nat → Nat} {nm : PN} {x0 x1 x2 : Int} {g h : Tm} {both s t : Bool} (hg : FS (tt g)) (hh : FS (tt h)) (ig : CWs β σ0 NN TT sn F0 fr b w nm x0 x1 x2 g s) (ih : CWs β σ0 NN TT sn F0 fr b w nm x0 x1 x2 h t)
    {i : Nat} {E : VE} {C : List Int} {l1 l2 : Nat} {σ : zS} {PP : List Int} {Q : List QL} {n : Nat} {c : List Lt}
    (c1 : CFs σ0 b NN TT sn (tt g) C l1) (c2 : CFs σ0 b NN TT sn (tt h) C l2) (hV : CVs σ0 sn F0 fr C) (hE : E.map (fun x => (x.1 : Int)) = fr ++ C.reverse) (hC : CE σ E) (w1 : WFo1 nm g (fun v => v ∈ fr ++ C.reverse)) (w2 : WFo1 nm h (fun v => v ∈ fr ++ C.reverse))
    (k1 : wK (fun v => 0 ≤ σ0.2.1 26 (v : Int) ∧ w v = cu (σ0.2.1 26 (v : Int))) g s) (k2 : wK (fun v => 0 ≤ σ0.2.1 26 (v : Int) ∧ w v = cu (σ0.2.1 26 (v : Int))) h t) (m1 : nF g s ≤ 200) (m2 : nF h t ≤ 200) (hc : (jn both (cFm w g E s) (cFm w h E t))[i]? = some c)
    (hS : WSt σ0 σ (PP ++ jnP both s t (l1 + szn g.1 g.2 - 1) (l2 + szn h.1 h.2 - 1) i (nF g s) (nF h t)) (some Q)) (hP : PP.length + 6 * (szn g.1 g.2 + szn h.1 h.2 + 1) ≤ 123900) (hCl : C.length + (szn g.1 g.2 + szn h.1 h.2 + 1) ≤ 90000) (hn : n + (szn g.1 g.2 + szn h.1 h.2) ≤ 900000) :
    WOut β σ0 x0 x1 x2 σ n (szn g.1 g.2 + szn h.1 h.2) PP (qaddL (some Q) (toQ c)) (KV σ0 (fr ++ C.reverse)) := by
  have la := cFm_len (w := w) g hg E s
  have lb := cFm_len (w := w) h hh E t
  have hil := (List.getElem?_eq_some_iff.mp hc).1
  cases both
  · unfold jnP at hS
    rw [if_neg (by decide), ← List.append_assoc] at hS
    unfold jn at hc hil
    rw [if_neg (by decide)] at hc hil
    rw [eaE_len] at hil
    obtain ⟨a, b', ha, hb, hab⟩ := eaE_get hil
    rw [hab] at hc
    cases hc
    rw [lb] at ha hb
    rw [toQ_ap, qaddL_ap]
    have o1 := ig _ E C l1 σ _ Q n a c1 hV hE hC w1 k1 m1 ha hS (by rw [List.length_append]; simp; omega) (by omega) (by omega)
    rcases o1 with ⟨h1, τ, h2, h3⟩ | ⟨h1, τ, g2, h2, h3, h4, h5⟩
    · rw [h1, qaddL_no]
      exact Or.inl ⟨rfl, τ, h2, h3⟩
    · cases hq : qaddL (some Q) (toQ a) with
      | none => exact absurd hq h1
      | some Q2 =>
        rw [hq] at h4
        have o2 := ih _ E C l2 τ PP Q2 g2 b' c2 hV hE (hC.k hE hS.1 h4.1 (fun v hv => h5 v (Or.inl hv))) w2 k2 m2 hb h4 (by omega) (by omega) (by omega)
        exact o2.pre h2 (by omega) (fun v hv => ⟨hv, h5 v hv⟩)
  · unfold jnP at hS
    rw [if_pos rfl] at hS
    unfold jn at hc hil
    rw [if_pos rfl] at hc hil
    rw [List.length_append] at hil
    by_cases ci : i < nF g s
    · rw [if_pos ci] at hS
      rw [List.getElem?_append_left (by omega)] at hc
      have o1 := ig _ E C l1 σ _ Q n c c1 hV hE hC w1 k1 m1 hc hS (by omega) (by omega) (by omega)
      exact o1.pre rfl (by omega) (fun v hv => ⟨hv, rfl⟩)
    · rw [if_neg ci] at hS
      rw [List.getElem?_append_right (by omega), la] at hc
      have o1 := ih _ E C l2 σ _ Q n c c2 hV hE hC w2 k2 m2 hc hS (by omega) (by omega) (by omega)
      exact o1.pre rfl (by omega) (fun v hv => ⟨hv, rfl⟩)
