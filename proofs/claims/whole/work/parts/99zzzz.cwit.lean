/-! which VARIABLES are replaced somewhere -/
/-- ways: 1 as false, 2 as true, 3 both -/
def hitW (l w : Nat) : Prop := w = 3 ∨ (w = 1 ∧ l % 2 = 0) ∨ (w = 2 ∧ l % 2 = 1)
def tw3 (w : Nat) : Nat := if w = 1 then 2 else if w = 2 then 1 else w
def rp : T → List (Nat → Nat → Prop)
  | .leaf _ => []
  | .branch l k s => (fun w v => if l ≤ 2 then False else if l = 3 then (rp k).getD 0 (fun _ _ => False) (tw3 w) v else if l ≤ 5 then (rp k).getD 0 (fun _ _ => False) w v ∨ (rp k).getD 1 (fun _ _ => False) w v else if l = 6 then (rp k).getD 0 (fun _ _ => False) (tw3 w) v ∨ (rp k).getD 1 (fun _ _ => False) w v else if l = 7 then (rp k).getD 0 (fun _ _ => False) 3 v ∨ (rp k).getD 1 (fun _ _ => False) 3 v else (v = (l - 8) / 2 ∧ hitW l w) ∨ (rp k).getD 0 (fun _ _ => False) w v) :: rp s
def rqF (f : Tm) : Nat → Nat → Prop := (rp (tt f)).getD 0 (fun _ _ => False)
theorem rqF_at {l : Nat} {k : T} {w v : Nat} (h : l ≤ 2) : rqF (l, k) w v = False := by
  show (if l ≤ 2 then False else _) = _
  rw [if_pos h]
theorem rqF_not {g : Tm} {w v : Nat} : rqF (mk1 3 g) w v = rqF g (tw3 w) v := rfl
theorem rqF_45 {l : Nat} {g h : Tm} {w v : Nat} (h1 : 4 ≤ l) (h2 : l ≤ 5) : rqF (mk2 l g h) w v = (rqF g w v ∨ rqF h w v) := by
  show (if l ≤ 2 then False else if l = 3 then _ else if l ≤ 5 then (rqF g w v ∨ rqF h w v) else _) = _
  rw [if_neg (by omega), if_neg (by omega), if_pos h2]
theorem rqF_6 {g h : Tm} {w v : Nat} : rqF (mk2 6 g h) w v = (rqF g (tw3 w) v ∨ rqF h w v) := rfl
theorem rqF_7 {g h : Tm} {w v : Nat} : rqF (mk2 7 g h) w v = (rqF g 3 v ∨ rqF h 3 v) := rfl
theorem rqF_q {l : Nat} {g : Tm} {w v : Nat} (h : 8 ≤ l) : rqF (mk1 l g) w v = ((v = (l - 8) / 2 ∧ hitW l w) ∨ rqF g w v) := by
  show (if l ≤ 2 then False else if l = 3 then _ else if l ≤ 5 then _ else if l = 6 then _ else if l = 7 then _ else ((v = (l - 8) / 2 ∧ hitW l w) ∨ rqF g w v)) = _
  rw [if_neg (by omega), if_neg (by omega), if_neg (by omega), if_neg (by omega), if_neg (by omega)]
theorem rqF_b : ∀ f, FS (tt f) → ∀ w v, rqF f w v → bnF (tt f) v := by
  refine FO_ind ?_ ?_ ?_ ?_ ?_
  · intro l1 k1 l2 k2 l hl w v h
    rw [rqF_at (by omega)] at h; exact h.elim
  · intro h g w v hh
    rw [rqF_at (by omega)] at hh; exact hh.elim
  · intro g _ ih w v h
    exact bnF_m1 (ih _ _ h) (by omega)
  · intro l g h l4 l7 _ _ ig ih w v hh
    have hl : l ≤ 5 ∨ l = 6 ∨ l = 7 := by omega
    rcases hl with e | e | e
    · rw [rqF_45 l4 e] at hh
      exact bnF_m2 (by omega) (hh.imp (ig _ _) (ih _ _))
    · subst e
      rw [rqF_6] at hh
      exact bnF_m2 (by omega) (hh.imp (ig _ _) (ih _ _))
    · subst e
      rw [rqF_7] at hh
      exact bnF_m2 (by omega) (hh.imp (ig _ _) (ih _ _))
  · intro l g l8 _ ih w v hh
    rw [rqF_q l8] at hh
    rcases hh with ⟨e, _⟩ | hh
    · exact Or.inl ⟨by show 2 < l; omega, Or.inl ⟨l8, e⟩⟩
    · exact bnF_m1 (ih _ _ hh) (by omega)
theorem bnF_m1i {l : Nat} {f : Tm} {v : Nat} (h : bnF (tt (mk1 l f)) v) : (8 ≤ l ∧ v = (l - 8) / 2) ∨ bnF (tt f) v := by
  rcases h with ⟨_, h⟩ | h
  · exact h
  · exact h.elim
theorem bnF_m2i {l : Nat} {f g : Tm} {v : Nat} (hl : l ≤ 7) (h : bnF (tt (mk2 l f g)) v) : bnF (tt f) v ∨ bnF (tt g) v := by
  rcases h with ⟨_, h | h⟩ | h
  · exact absurd (show 8 ≤ l from h.1) (by omega)
  · rcases h with h | h
    · exact Or.inl (Or.inl h)
    · exact Or.inr h
  · exact h.elim
/-! the class finds them -/
theorem reach_ok {β : Nat} {σ : zS} {NN : List N6} (h : NdW σ NN) {n : Nat} (hn : n < NN.length) {w : Int} : yE tC_For_reach β σ [(n : Int), w] = some (zA σ 19 ((n : Int) * 7 + 6) (zor (σ.2.1 19 ((n : Int) * 7 + 6)) w), 0) := by
  have h1 := h.1
  rw [yq_For_reach, kY_For_reach, if_pos ⟨by omega, by omega⟩, if_pos ⟨by omega, by omega⟩, if_pos ⟨by omega, by omega⟩, lt_e]
theorem NdW.z {σ : zS} {NN : List N6} (h : NdW σ NN) {n : Nat} {x : Int} : NdW (zA σ 19 ((n : Int) * 7 + 6) x) NN := ⟨h.1, fun i y j c hy hj hc => by
  rw [zA_i (by omega)]
  exact h.2 i y j c hy hj hc⟩
theorem get6_ok {β : Nat} {σ : zS} {NN : List N6} (h : NdW σ NN) {n : Nat} (hn : n < NN.length) : yE tC_For_get β σ [(n : Int), 6] = some (σ, σ.2.1 19 ((n : Int) * 7 + 6)) := by
  have h1 := h.1
  rw [yq_For_get, kY_For_get, if_pos ⟨by omega, by omega⟩, if_pos ⟨by omega, by omega⟩, if_pos ⟨by omega, by omega⟩]
theorem zor_0w {w : Nat} (h : w = 1 ∨ w = 2 ∨ w = 3) : zor 0 (w : Int) = (w : Int) := by
  rcases h with e | e | e <;> subst e <;> decide
theorem turn_w {w : Nat} (h : w = 1 ∨ w = 2 ∨ w = 3) : zor (zshr (w : Int) 1) (zshl (zand (w : Int) 1) 1) = ((tw3 w : Nat) : Int) := by
  rcases h with e | e | e <;> subst e <;> decide
theorem tw3_w {w : Nat} (h : w = 1 ∨ w = 2 ∨ w = 3) : tw3 w = 1 ∨ tw3 w = 2 ∨ tw3 w = 3 := by
  rcases h with e | e | e <;> subst e <;> decide
/-- all nodes from hi - 1 down to lo are done -/
def RPk (β : Nat) (NN : List N6) (σ : zS) (hi lo : Nat) (S R : Nat → Prop) : Prop := ∃ τ, yE tC_For_makeWitnesses_p83 β σ [(hi : Int) - 1] = yE tC_For_makeWitnesses_p83 β τ [(lo : Int) - 1] ∧ FrC [] [19, 27] σ τ ∧ NdW τ NN ∧ (∀ i : Nat, i < lo → τ.2.1 19 ((i : Int) * 7 + 6) = σ.2.1 19 ((i : Int) * 7 + 6)) ∧ (∀ v : Nat, S v → τ.2.1 27 (v : Int) = b2 (R v)) ∧ (∀ u : Int, (∀ v : Nat, S v → (v : Int) ≠ u) → τ.2.1 27 u = σ.2.1 27 u)
theorem p83_ok {β : Nat} (hβ : 1 ≤ β) {σ τ : zS} {NN : List N6} (h : NdW σ NN) {hi : Nat} (h0 : 1 ≤ hi) (hn : hi ≤ NN.length) {w : Int} (hw : σ.2.1 19 (((hi - 1 : Nat) : Int) * 7 + 6) = w) (hr : yE tC_For_reachParts (β - 1) σ [((hi - 1 : Nat) : Int), w] = some (τ, 0)) : yE tC_For_makeWitnesses_p83 β σ [(hi : Int) - 1] = yE tC_For_makeWitnesses_p83 β τ [((hi - 1 : Nat) : Int) - 1] := by
  have h1 := h.1
  rw [show (hi : Int) - 1 = ((hi - 1 : Nat) : Int) by omega, yq_For_makeWitnesses_p83, kY_For_makeWitnesses_p83, if_neg (by omega), if_pos hβ, zbd_of (get6_ok h (by omega)), hw, if_pos hβ, zbd_of hr, if_pos ⟨by omega, by omega⟩]
  rfl
theorem rq_get {β : Nat} (hβ : 1 ≤ β) {σ : zS} {NN : List N6} (h : NdW σ NN) {n : Nat} {k i j hh a b : Int} (hx : NN[n]? = some (k, i, j, hh, a, b)) {c : Int} (r : Option zR)
    (g : (if k < 11 ∨ 17 < k then (yE tC_For_reachParts_p180 β σ [(n : Int), c, (zor (zshr c 1) (zshl (zand c 1) 1)), i, j]) else (if k = 11 then (if 1 ≤ β then (zbd (yE tC_For_reach (β - 1) σ [i, (zor (zshr c 1) (zshl (zand c 1) 1))]) (fun σ4 r4 => yE tC_For_reachParts_p180 β σ4 [(n : Int), c, (zor (zshr c 1) (zshl (zand c 1) 1)), i, j])) else none) else (if k = 12 then (if 1 ≤ β then (zbd (yE tC_For_reach (β - 1) σ [i, c]) (fun σ5 r5 => if 1 ≤ β then (zbd (yE tC_For_get (β - 1) σ5 [(n : Int), 0]) (fun σ6 r6 => if r6 = 13 then (yE tC_For_reachParts_p116 β σ6 [(n : Int), c, (zor (zshr c 1) (zshl (zand c 1) 1)), i, j, 2, c, j]) else (yE tC_For_reachParts_p116 β σ6 [(n : Int), c, (zor (zshr c 1) (zshl (zand c 1) 1)), i, j, 1, c, j]))) else none)) else none) else (if k = 13 then (if 1 ≤ β then (zbd (yE tC_For_reach (β - 1) σ [i, c]) (fun σ7 r7 => if 1 ≤ β then (zbd (yE tC_For_get (β - 1) σ7 [(n : Int), 0]) (fun σ8 r8 => if r8 = 13 then (yE tC_For_reachParts_p116 β σ8 [(n : Int), c, (zor (zshr c 1) (zshl (zand c 1) 1)), i, j, 2, c, j]) else (yE tC_For_reachParts_p116 β σ8 [(n : Int), c, (zor (zshr c 1) (zshl (zand c 1) 1)), i, j, 1, c, j]))) else none)) else none) else (if k = 14 then (if 1 ≤ β then (zbd (yE tC_For_reach (β - 1) σ [i, c]) (fun σ9 r9 => if 1 ≤ β then (zbd (yE tC_For_reach (β - 1) σ9 [j, c]) (fun σ10 r10 => yE tC_For_reachParts_p180 β σ10 [(n : Int), c, (zor (zshr c 1) (zshl (zand c 1) 1)), i, j])) else none)) else none) else (if k = 15 then (if 1 ≤ β then (zbd (yE tC_For_reach (β - 1) σ [i, c]) (fun σ11 r11 => if 1 ≤ β then (zbd (yE tC_For_reach (β - 1) σ11 [j, c]) (fun σ12 r12 => yE tC_For_reachParts_p180 β σ12 [(n : Int), c, (zor (zshr c 1) (zshl (zand c 1) 1)), i, j])) else none)) else none) else (if k = 16 then (if 1 ≤ β then (zbd (yE tC_For_reach (β - 1) σ [i, (zor (zshr c 1) (zshl (zand c 1) 1))]) (fun σ13 r13 => if 1 ≤ β then (zbd (yE tC_For_reach (β - 1) σ13 [j, c]) (fun σ14 r14 => yE tC_For_reachParts_p180 β σ14 [(n : Int), c, (zor (zshr c 1) (zshl (zand c 1) 1)), i, j])) else none)) else none) else (if 1 ≤ β then (zbd (yE tC_For_reach (β - 1) σ [i, 3]) (fun σ15 r15 => if 1 ≤ β then (zbd (yE tC_For_reach (β - 1) σ15 [j, 3]) (fun σ16 r16 => yE tC_For_reachParts_p180 β σ16 [(n : Int), c, (zor (zshr c 1) (zshl (zand c 1) 1)), i, j])) else none)) else none)))))))) = r) : yE tC_For_reachParts β σ [(n : Int), c] = r := by
  rw [yq_For_reachParts, kY_For_reachParts, if_pos hβ, zbd_of (show yE tC_For_get (β - 1) σ [(n : Int), 1] = some (σ, i) from get_ok h hx (j := 1) (by omega) rfl), if_pos hβ, zbd_of (show yE tC_For_get (β - 1) σ [(n : Int), 2] = some (σ, j) from get_ok h hx (j := 2) (by omega) rfl), if_pos hβ, zbd_of (show yE tC_For_get (β - 1) σ [(n : Int), 0] = some (σ, k) from get_ok h hx (j := 0) (by omega) rfl)]
  exact g
theorem rq_180 {β : Nat} {σ : zS} {a b c d e : Int} : yE tC_For_reachParts_p180 β σ [a, b, c, d, e] = some (σ, 0) := by rw [yq_For_reachParts_p180, kY_For_reachParts_p180]
