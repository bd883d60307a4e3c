/-! THE CLASS WRITES CLAUSE i AS THE SPEC SAYS -/
theorem wp_get {β : Nat} (hβ : 1 ≤ β) {σ : zS} {NN : List N6} (h : NdW σ NN) {n : Nat} {k i j hh a b : Int} (hx : NN[n]? = some (k, i, j, hh, a, b)) {s : Bool} {c : Int} : yE tG_For_writePart β σ [(n : Int), bi s, c] =
    (if k < 11 ∨ 17 < k then (if k = 9 then (yE tG_For_writePart_p224 β σ [(n : Int), bi s, c, k, i, j, 1]) else (yE tG_For_writePart_p224 β σ [(n : Int), bi s, c, k, i, j, 0])) else (if k = 11 then (if bi s = 0 then (yE tG_For_writePart_p80 β σ [(n : Int), bi s, c, k, i, j, 1, i]) else (yE tG_For_writePart_p80 β σ [(n : Int), bi s, c, k, i, j, 0, i])) else (if k = 12 then (if k = 13 then (yE tG_For_writePart_p106 β σ [(n : Int), bi s, c, k, i, j, 1, j]) else (yE tG_For_writePart_p106 β σ [(n : Int), bi s, c, k, i, j, 0, j])) else (if k = 13 then (if k = 13 then (yE tG_For_writePart_p106 β σ [(n : Int), bi s, c, k, i, j, 1, j]) else (yE tG_For_writePart_p106 β σ [(n : Int), bi s, c, k, i, j, 0, j])) else (if k = 14 then (if k = 14 then (yE tG_For_writePart_p141 β σ [(n : Int), bi s, c, k, i, j, 1]) else (yE tG_For_writePart_p141 β σ [(n : Int), bi s, c, k, i, j, 0])) else (if k = 15 then (if k = 14 then (yE tG_For_writePart_p141 β σ [(n : Int), bi s, c, k, i, j, 1]) else (yE tG_For_writePart_p141 β σ [(n : Int), bi s, c, k, i, j, 0])) else (if k = 16 then (if bi s = 0 then (yE tG_For_writePart_p174 β σ [(n : Int), bi s, c, k, i, j, 1]) else (yE tG_For_writePart_p174 β σ [(n : Int), bi s, c, k, i, j, 0])) else (zbd (yE tG_For_equivalent (β - 1) σ [i, j, bi s, c]) (fun σ4 r4 => yE tG_For_writePart_p240 β σ4 [(n : Int), bi s, c, k, i, j]))))))))) := by
  rw [yq_For_writePart, kY_For_writePart, if_pos hβ, zbd_of (show yE tC_For_get (β - 1) σ [(n : Int), 0] = some (σ, k) from get_ok h hx (j := 0) (by omega) rfl), if_pos hβ, zbd_of (show yE tC_For_get (β - 1) σ [(n : Int), 1] = some (σ, i) from get_ok h hx (j := 1) (by omega) rfl), if_pos hβ, zbd_of (show yE tC_For_get (β - 1) σ [(n : Int), 2] = some (σ, j) from get_ok h hx (j := 2) (by omega) rfl), if_pos hβ]
theorem wp_240 {β : Nat} {σ : zS} {a b c d e f : Int} : yE tG_For_writePart_p240 β σ [a, b, c, d, e, f] = some (σ, 0) := by rw [yq_For_writePart_p240, kY_For_writePart_p240]
theorem eq87 {β : Nat} {σ : zS} {a b c d e : Int} : yE tG_For_equivalent_p87 β σ [a, b, c, d, e] = some (σ, 0) := by rw [yq_For_equivalent_p87, kY_For_equivalent_p87]
theorem bi_0 {s : Bool} : bi s = 0 ↔ s = false := by cases s <;> simp [bi]
theorem bi_n {s : Bool} : (if bi s = 0 then (1 : Int) else 0) = bi (!s) := by cases s <;> rfl
theorem FrC.w2 {σ0 σ τ : zS} {PP : List Int} {Q : Option (List QL)} {P2 : List Int} (h : WSt σ0 σ PP Q) (f : FrC [2901] [30] σ τ) (hM : Mb τ ∧ RL τ) (hB : τ.2.2 30 ≤ 250000) (hR : RowC τ 2901 30 P2) : WSt σ0 τ P2 Q := by
  obtain ⟨h1, h2, h3, h4, h5, h6⟩ := h
  exact ⟨h1.trans f.w, hM, hB, hR, h5.f f, by rw [f.i 3905]; exact h6⟩
section CWO
variable {β : Nat} {σ0 : zS} {NN : List N6} {TT : List Int} {sn : Int} {F0 : Nat} {fr : List Int} {b : Nat} {w : Nat → Nat} {ar : Int → Nat} {p : Int → Prop} {nm : PN} {x0 x1 x2 : Int}
/-- one step of the loop -/
theorem pop_go {σ : zS} {PP P2 : List Int} {n : Nat} {s : Bool} {i : Nat} {Q : List QL} {g m : Nat} {Q2 : Option (List QL)} {vs : Int → Prop} (hβ : 1 ≤ β) (h : WSt σ0 σ (PP ++ [(n : Int), bi s, (i : Int)]) (some Q)) (hg : g < 900000)
    (k : WSt σ0 (zI σ 2901 (PP.length : Int)) PP (some Q) → ∃ τ, yE tG_For_writePart (β - 1) (zI σ 2901 (PP.length : Int)) [(n : Int), bi s, (i : Int)] = some (τ, 0) ∧ WOut β σ0 x0 x1 x2 τ (g + 1) m P2 Q2 vs ∧ ∀ v, vs v → τ.2.1 27 v = σ.2.1 27 v) : WOut β σ0 x0 x1 x2 σ g (m + 1) P2 Q2 vs := by
  obtain ⟨h1, h2⟩ := h.pop (β := β) (x0 := x0) (x1 := x1) (x2 := x2) (g := g) (by omega) hβ
  obtain ⟨τ, e1, o, hv⟩ := k h1
  rw [zbd_of e1, if_pos ⟨by omega, by omega⟩] at h2
  exact o.pre h2 (by omega) (fun v hv1 => ⟨hv1, hv v hv1⟩)
/-- an ATOM -/
theorem cw_lit (hβ : 70 ≤ β) (h0 : WS0 σ0 NN TT ar p nm) {is : Bool} {E : VE} {C : List Int} {σ : zS} {PP : List Int} {Q : List QL} {g n ii : Nat} {l : Nat} {i j hh a' b' : Int} {x y : Tm} (hl : l ≤ 2) (hx : NN[n]? = some (kk l, i, j, hh, a', b')) (hV : CVs σ0 sn F0 fr C) (hE : E.map (fun x => (x.1 : Int)) = fr ++ C.reverse) (hC : CE σ E) (hCl : C.length ≤ 90000)
    (wx : wf ar p (tt x)) (vx : ∀ c ∈ fl (tt x), c < 0 → (-1 - c) ∈ fr ++ C.reverse) (tx : TTa TT i (fl (tt x)))
    (hy : (j = -1 ∧ y = (0, nl)) ∨ (TTa TT j (fl (tt y)) ∧ wf ar p (tt y) ∧ ∀ c ∈ fl (tt y), c < 0 → (-1 - c) ∈ fr ++ C.reverse))
    (hS : WSt σ0 σ (PP ++ [(n : Int), bi is, (ii : Int)]) (some Q)) (hg : g + 1 ≤ 900000) :
    WOut β σ0 x0 x1 x2 σ g 1 PP (qadd (some Q) ((if is = (l != 1) then 1 else 0), fl (tt (st (eV E) x)), fl (tt (st (eV E) y)))) (KV σ0 (fr ++ C.reverse)) := by
  refine pop_go (m := 0) (P2 := PP) (by omega) hS (by omega) (fun hS1 => ?_)
  obtain ⟨z1, ⟨z2, z2'⟩, z3, z4, z5⟩ := h0
  obtain ⟨s1, s2, s3, s4, s5, s6⟩ := id hS1
  have hEl : E.length ≤ 100000 := by
    have := congrArg List.length hE
    rw [List.length_map, List.length_append, List.length_reverse] at this
    have := hV.2.1.2.2
    omega
  have fI : FrC [2901] [] σ (zI σ 2901 (PP.length : Int)) := FrC_I
  have nz : ∀ z : Tm, fl (tt z) ≠ [] := fun z h => by cases h
  have tl : ∀ z : Tm, ((fl (tt z)).length : Int) = (tw z : Int) := fun z => by rw [fl_length]; simp only [tt, wt, tw]; omega
  have R16 : RowC (zI σ 2901 (PP.length : Int)) 1501 16 TT := z2.f s1
  have ex := (tx.fl R16).resolve_right (nz x)
  rw [tl] at ex
  have ey : (j = -1 ∧ y = (0, nl)) ∨ (0 ≤ j ∧ Fl ((zI σ 2901 (PP.length : Int)).2.1 16) j (fl (tt y)) ∧ wf ar p (tt y) ∧ j + (tw y : Int) ≤ ((zI σ 2901 (PP.length : Int)).2.2 16 : Int) ∧ ∀ c ∈ fl (tt y), c < 0 → (-1 - c) ∈ fr ++ C.reverse) := by
    rcases hy with hy | ⟨y1, y2, y3⟩
    · exact Or.inl hy
    · have := (y1.fl R16).resolve_right (nz y)
      rw [tl] at this
      exact Or.inr ⟨this.2.1, this.1, y2, this.2.2, y3⟩
  obtain ⟨τ, t1, t2, t3, t4, t5⟩ := wl_ok hE hEl (β := β - 1 - 1) (by omega) (s := if is = (l != 1) then 1 else 0) (by split <;> simp) (hV.f s1) (hC.f fI) s5 s6 (fun c hp hc => by rw [s1.a 7]; exact z3 c hp hc) ex.1 wx ex.2.1 ex.2.2 (by rw [s1.l 16]; exact z2') vx ey
  have hW : WSt σ0 τ PP (qadd (some Q) ((if is = (l != 1) then 1 else 0), fl (tt (st (eV E) x)), fl (tt (st (eV E) y)))) := by
    have t2' : FrC WIc WAc (zI σ 2901 (PP.length : Int)) τ := t2.w
    refine ⟨s1.trans t2', ⟨s2.1.m t2'.2.2.2, ?_⟩, by rw [t2.l 30]; exact s3, s4.f t2, t3, t4, t5⟩
    intro q hq
    by_cases c : ([40, 41, 42, 43, 44, 46] : List Nat).elem q = true
    · exfalso
      have h40 : q = 40 ∨ q = 41 ∨ q = 42 ∨ q = 43 ∨ q = 44 ∨ q = 46 := by simpa using c
      rcases h40 with e | e | e | e | e | e <;> subst e <;> revert hq <;> decide
    · by_cases c1 : q = 3001
      · subst c1; exact absurd hq (by decide)
      · by_cases c2 : q = 3002
        · subst c2; exact absurd hq (by decide)
        · rw [t2.2.2.1 q (by simpa using c) c1 c2]; exact s2.2 q hq
  refine ⟨τ, ?_, ?_, fun v _ => by rw [t2.a 27]; rfl⟩
  · have hk : kk l = 9 ∨ kk l = 10 := by
      have : l = 0 ∨ l = 1 ∨ l = 2 := by omega
      rcases this with e | e | e <;> subst e
      · exact Or.inl rfl
      · exact Or.inr rfl
      · exact Or.inl rfl
    have hk9 : (if kk l = 9 then (1 : Int) else 0) = bi (l != 1) := by
      have : l = 0 ∨ l = 1 ∨ l = 2 := by omega
      rcases this with e | e | e <;> subst e <;> rfl
    have e233 : yE tG_For_writePart_p233 (β - 1) (zI σ 2901 (PP.length : Int)) [(n : Int), bi is, (ii : Int), kk l, i, j, if is = (l != 1) then 1 else 0] = some (τ, 0) := by
      rw [yq_For_writePart_p233, kY_For_writePart_p233, if_pos (by omega), zbd_of t1, wp_240]
    have e224 : ∀ y, y = bi (l != 1) → yE tG_For_writePart_p224 (β - 1) (zI σ 2901 (PP.length : Int)) [(n : Int), bi is, (ii : Int), kk l, i, j, y] = some (τ, 0) := fun y hy => by
      rw [yq_For_writePart_p224, kY_For_writePart_p224, hy]
      by_cases c : is = (l != 1)
      · rw [if_pos c] at e233
        rw [if_pos (by rw [c])]
        exact e233
      · rw [if_neg c] at e233
        rw [if_neg]
        · exact e233
        · intro h
          apply c
          cases is <;> cases hb : (l != 1) <;> rw [hb] at h <;> first | rfl | (exact absurd h (by decide))
    rw [wp_get (by omega) (z1.f s1) hx, if_pos (by omega)]
    by_cases c9 : kk l = 9
    · rw [if_pos c9]
      rw [if_pos c9] at hk9
      exact e224 1 hk9
    · rw [if_neg c9]
      rw [if_neg c9] at hk9
      exact e224 0 hk9
  · cases hq : qadd (some Q) ((if is = (l != 1) then 1 else 0), fl (tt (st (eV E) x)), fl (tt (st (eV E) y))) with
    | none =>
      rw [hq] at hW
      obtain ⟨u1, u2⟩ := hW.stop (β := β) (x0 := x0) (x1 := x1) (x2 := x2) (g := g + 1)
      exact Or.inl ⟨rfl, τ, u1, u2⟩
    | some Q2 =>
      rw [hq] at hW
      exact Or.inr ⟨by simp, τ, g + 1, rfl, by omega, hW, fun v _ => rfl⟩
end CWO
