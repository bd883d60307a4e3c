/-! the reference: SUPERPOSITION into a whole side -/
section sup3
variable {ar : Int → Nat} {pd : Int → Prop} {m9 : Int} {Cs : List CL} {k1 k2 i j : Nat} {d1 d2 : CL} {a b : Lt} {s t : Int}
theorem spS_v {C1 C2 : List Lt} {o : Nat} {y : Tm} {A : PA} (hy : sbF o (tt (sdT b t)) = some y) (h : cl y.1 < 0) : spS ar pd m9 k1 C1 i a s k2 C2 j b t o A = A := by
  unfold spS; rw [hy]; dsimp only; rw [if_pos h]
theorem spS_f {C1 C2 : List Lt} {o : Nat} {y : Tm} {A : PA} (hy : sbF o (tt (sdT b t)) = some y) (h : ¬ cl y.1 < 0) : spS ar pd m9 k1 C1 i a s k2 C2 j b t o A = infA ar pd m9 1 (k1 : Int) (k2 : Int) (sdT a s) (shT 6 y) (oth i C1.length 0 C1 ++ rpL (sdT a (1 - s)) j t o 0 C2) A := by
  unfold spS; rw [hy]; dsimp only; rw [if_neg h]
theorem get_ext {Cs Z : List CL} {k : Nat} {d : CL} (h : Cs[k]? = some d) : (Cs ++ Z)[k]? = some d := by rw [List.getElem?_append_left (List.getElem?_eq_some_iff.mp h).1]; exact h
theorem adr_ext {Cs Z : List CL} {k : Nat} {d : CL} (h : Cs[k]? = some d) {C : List Lt} : adr (Cs ++ Z) k C j b t = adr Cs k C j b t := by
  unfold adr
  rw [wpos_app (by have := (List.getElem?_eq_some_iff.mp h).1; omega)]
theorem lpos_ext {Cs Z : List CL} {k : Nat} {d : CL} (h : Cs[k]? = some d) : lpos (Cs ++ Z) k = lpos Cs k := lpos_app (by have := (List.getElem?_eq_some_iff.mp h).1; omega)
/-- CLAUSES are there, and others may have come -/
def Ext (Cs : List CL) (A : PA) : Prop := ∃ Z, A.1 = Cs ++ Z
theorem Ext.tr {Cs : List CL} {A B : PA} (h : Ext Cs A) (g : ∃ Z, B.1 = A.1 ++ Z) : Ext Cs B := by
  obtain ⟨Z, h⟩ := id h
  obtain ⟨Y, g⟩ := g
  exact ⟨Z ++ Y, by rw [g, h, List.append_assoc]⟩
theorem in_nd (hc1 : Cs[k1]? = some d1) (hc2 : Cs[k2]? = some d2) (ha : d1.1[i]? = some a) (hb : d2.1[j]? = some b) (hs : s = 0 ∨ s = 1) (ht : t = 0 ∨ t = 1) {β : Nat} (hβ : 1542 ≤ β) {x4 : Int} {σ : zS} {A : PA} (hI : RI ar pd m9 σ A) (hA : Ext Cs A) {o : Nat} {y : Tm} (hy : sbF o (tt (sdT b t)) = some y) (kids : ¬ cl y.1 < 0 → ∀ τ A', RI ar pd m9 τ A' → Ext Cs A' → ∃ ρ, zE tM_into_97 β τ [(k1 : Int), (k2 : Int), lpos Cs k1 + (i : Int), s, x4, adr Cs k2 d2.1 j b t + (o : Int), τ.2.1 44 (adr Cs k2 d2.1 j b t + (o : Int))] = some (ρ, 0) ∧ RI ar pd m9 ρ (wh (spS ar pd m9 k1 d1.1 i a s k2 d2.1 j b t) (wt y.2) (o + 1) A') ∧ FIn τ ρ) :
    ∃ τ, zE tM_into β σ [(k1 : Int), (k2 : Int), lpos Cs k1 + (i : Int), s, x4, adr Cs k2 d2.1 j b t + (o : Int)] = some (τ, 0) ∧ RI ar pd m9 τ (wh (spS ar pd m9 k1 d1.1 i a s k2 d2.1 j b t) (tw y) o A) ∧ FIn σ τ := by
  obtain ⟨Z, hZ⟩ := id hA
  have h1 : A.1[k1]? = some d1 := by rw [hZ]; exact get_ext hc1
  have h2 : A.1[k2]? = some d2 := by rw [hZ]; exact get_ext hc2
  have Y := sbo_at hI h2 hb ht hy
  have eA : adr A.1 k2 d2.1 j b t = adr Cs k2 d2.1 j b t := by rw [hZ]; exact adr_ext hc2
  have eL : lpos A.1 k1 = lpos Cs k1 := by rw [hZ]; exact lpos_ext hc1
  rw [eA] at Y
  obtain ⟨x5, hx5⟩ : ∃ x, x = adr Cs k2 d2.1 j b t + (o : Int) := ⟨_, rfl⟩
  rw [← hx5] at Y kids ⊢
  have y43 := Y.1.1.2.1
  have y0 := Y.1.1.1
  have y1 := Y.1.2
  have k87 : σ.1 87 = A.2 87 := hI.2.2.2.1.1
  by_cases hc : cl y.1 < 0
  · have y2 : y.2 = nl := len0 (by have := Y.2.1.1; rw [if_pos hc] at this; exact this)
    refine ⟨σ, ?_, ?_, FrC.refl⟩
    · rw [zq_into, kZ_into, if_pos (by omega), y43, if_pos hc, zq_into_17, kZ_into_17]
    · have e1 : tw y = 0 + 1 := by show 1 + wt y.2 = _; rw [y2]; rfl
      rw [e1]
      show RI ar pd m9 σ (if A.2 87 = 0 then spS ar pd m9 k1 d1.1 i a s k2 d2.1 j b t o A else A)
      by_cases g : A.2 87 = 0
      · rw [if_pos g, spS_v hy hc]; exact hI
      · rw [if_neg g]; exact hI
  · have e1 : tw y = wt y.2 + 1 := by show 1 + wt y.2 = _; omega
    rw [e1]
    show ∃ τ, _ ∧ RI ar pd m9 τ (if A.2 87 = 0 then wh _ (wt y.2) (o + 1) (spS ar pd m9 k1 d1.1 i a s k2 d2.1 j b t o A) else A) ∧ _
    by_cases g : A.2 87 = 0
    · obtain ⟨τ1, t1, t2, t3⟩ := si_ok (x4 := x4) hβ hI h1 h2 ha hb hs ht hy hc g
      rw [← spS_f hy hc] at t2
      rw [eA, eL, ← hx5] at t1
      obtain ⟨ρ, r1, r2, r3⟩ := kids hc τ1 _ t2 (hA.tr spS_ext)
      refine ⟨ρ, ?_, by rw [if_pos g]; exact r2, t3.trans r3⟩
      rw [t1, zq_into_88, kZ_into_88, if_pos (by omega)]
      exact r1
    · refine ⟨σ, ?_, by rw [if_neg g]; exact hI, FrC.refl⟩
      rw [zq_into, kZ_into, if_pos (by omega), y43, if_neg hc, if_neg (by omega), zq_into_17, kZ_into_17]
theorem in_97 (hc1 : Cs[k1]? = some d1) (hc2 : Cs[k2]? = some d2) (ha : d1.1[i]? = some a) (hb : d2.1[j]? = some b) (hs : s = 0 ∨ s = 1) (ht' : t = 0 ∨ t = 1) {x4 : Int} : ∀ (F : T) (β o : Nat) (σ : zS) (A : PA) (x5 x6 : Int), RI ar pd m9 σ A → Ext Cs A → At (sdT b t).2 o F → Pc σ F x6 → (0 < wt F → x6 = adr Cs k2 d2.1 j b t + ((o + 1 : Nat) : Int)) → ht F + 1542 ≤ β → ∃ τ, zE tM_into_97 β σ [(k1 : Int), (k2 : Int), lpos Cs k1 + (i : Int), s, x4, x5, x6] = some (τ, 0) ∧ RI ar pd m9 τ (wh (spS ar pd m9 k1 d1.1 i a s k2 d2.1 j b t) (wt F) (o + 1) A) ∧ FIn σ τ
  | .leaf (), β, o, σ, A, x5, x6, hI, hA, hAt, hF, hx, hd => by
    have h1 : x6 < 0 := hF
    exact ⟨σ, by rw [zq_into_97, kZ_into_97, if_pos h1], hI, FrC.refl⟩
  | .branch n k s', β, o, σ, A, x5, x6, hI, hA, hAt, hF, hx, hd => by
    have ew : wt (nd n k s') = 1 + wt k + wt s' := rfl
    have hAt : At (sdT b t).2 o (nd n k s') := hAt
    simp only [ht] at hd
    obtain ⟨D, hD⟩ : ∃ D, D = adr Cs k2 d2.1 j b t := ⟨_, rfl⟩
    have h6 := hx (by show 0 < wt (nd n k s'); omega)
    have hy : sbF (o + 1) (tt (sdT b t)) = some (n, k) := by
      have l4 := hAt.2.2.2
      rw [show tt (sdT b t) = nd (sdT b t).1 (sdT b t).2 nl from rfl, sb_ndk (by omega)]
      have := hAt.1 0 (by omega)
      rw [Nat.add_zero] at this
      rw [this]; rfl
    -- where it stands, whatever has come
    have here : ∀ τ A', RI ar pd m9 τ A' → Ext Cs A' → Pc τ (nd n k s') (adr Cs k2 d2.1 j b t + ((o + 1 : Nat) : Int)) ∧ adr Cs k2 d2.1 j b t + ((o + 1 : Nat) : Int) < 205000 := fun τ A' hI' hA' => by
      obtain ⟨Z, hZ⟩ := hA'
      have h2 : A'.1[k2]? = some d2 := by rw [hZ]; exact get_ext hc2
      obtain ⟨q1, q2⟩ := sd_at hI' h2 hb ht' (x := 6) (Or.inr rfl)
      rw [q2, show adr A'.1 k2 d2.1 j b t = adr Cs k2 d2.1 j b t by rw [hZ]; exact adr_ext hc2] at q1
      have p1 := q1.1.1
      have l4 := hAt.2.2.2
      have p2 := q1.1.2
      have := p1.2.2.2.2 (by omega)
      have p3 := p1.2.2.2.1
      rw [this] at p3
      have := hAt.2.1 τ _ (by omega) p3
      rw [show adr Cs k2 d2.1 j b t + 1 + (o : Int) = adr Cs k2 d2.1 j b t + ((o + 1 : Nat) : Int) by omega] at this
      exact ⟨this, by omega⟩
    rw [← hD] at here h6
    obtain ⟨τ1, t1, t2, t3⟩ := in_nd (x4 := x4) (β := β - 1) hc1 hc2 ha hb hs ht' (by omega) hI hA hy (fun _ τ A' hI' hA' => by
      rw [← hD]
      have hP := (here τ A' hI' hA').1
      have hPt := (Pc_nd.mp hP).1
      exact in_97 hc1 hc2 ha hb hs ht' k (β - 1) (o + 1) τ A' _ _ hI' hA' hAt.k hPt.2.2.2.1 (fun w => by rw [hPt.2.2.2.2 w, ← hD]; omega) (by omega))
    rw [← hD, ← h6] at t1
    have hA1 : Ext Cs (wh (spS ar pd m9 k1 d1.1 i a s k2 d2.1 j b t) (tw (n, k)) (o + 1) A) := hA.tr (wh_ext (fun o A => spS_ext) _ _ _)
    obtain ⟨hP, hlt⟩ := here τ1 _ t2 hA1
    rw [← h6] at hP hlt
    have x60 : 0 ≤ x6 := hP.1
    have hP2 := Pc_nd.mp hP
    obtain ⟨τ2, r1, r2, r3⟩ := in_97 hc1 hc2 ha hb hs ht' s' β (o + 1 + wt k) τ1 _ x5 (τ1.2.1 45 x6) t2 hA1 hAt.s hP2.2.1 (fun w => by rw [hP2.2.2 w, h6, ← hD]; omega) (by omega)
    refine ⟨τ2, ?_, ?_, t3.trans r3⟩
    · rw [zq_into_97, kZ_into_97, if_neg (by omega), if_pos (by omega), zbd_of t1, if_pos (by omega)]
      exact r1
    · show RI ar pd m9 τ2 (wh _ (wt (nd n k s')) _ _)
      rw [ew, wh_add (1 + wt k) (wt s')]
      have e1 : tw ((n, k) : Tm) = 1 + wt k := rfl
      rw [e1] at r2
      rw [show o + 1 + (1 + wt k) = o + 1 + wt k + 1 by omega]
      exact r2
theorem in_ok (hc1 : Cs[k1]? = some d1) (hc2 : Cs[k2]? = some d2) (ha : d1.1[i]? = some a) (hb : d2.1[j]? = some b) (hs : s = 0 ∨ s = 1) (ht' : t = 0 ∨ t = 1) {β : Nat} (hβ : 1642 ≤ β) {x4 : Int} {σ : zS} {A : PA} (hI : RI ar pd m9 σ A) (hA : Ext Cs A) : ∃ τ, zE tM_into β σ [(k1 : Int), (k2 : Int), lpos Cs k1 + (i : Int), s, x4, adr Cs k2 d2.1 j b t] = some (τ, 0) ∧ RI ar pd m9 τ (wh (spS ar pd m9 k1 d1.1 i a s k2 d2.1 j b t) (tw (sdT b t)) 0 A) ∧ FIn σ τ := by
  obtain ⟨τ, t1, t2, t3⟩ := in_nd (x4 := x4) (β := β) (o := 0) (y := sdT b t) hc1 hc2 ha hb hs ht' (by omega) hI hA rfl (fun _ τ A' hI' hA' => by
    obtain ⟨Z, hZ⟩ := id hA'
    have h2 : A'.1[k2]? = some d2 := by rw [hZ]; exact get_ext hc2
    obtain ⟨q1, q2⟩ := sd_at hI' h2 hb ht' (x := 6) (Or.inr rfl)
    rw [q2, show adr A'.1 k2 d2.1 j b t = adr Cs k2 d2.1 j b t by rw [hZ]; exact adr_ext hc2] at q1
    have p1 := q1.1.1
    have h100 := q1.2.2.2
    have e : tw (sdT b t) = 1 + wt (sdT b t).2 := rfl
    have hh := ht_le_wt (sdT b t).2
    rw [show adr Cs k2 d2.1 j b t + ((0 : Nat) : Int) = adr Cs k2 d2.1 j b t by omega]
    exact in_97 hc1 hc2 ha hb hs ht' (sdT b t).2 β 0 τ A' _ _ hI' hA' (At.z _) p1.2.2.2.1 (fun w => by rw [p1.2.2.2.2 w]; omega) (by omega))
  rw [show adr Cs k2 d2.1 j b t + ((0 : Nat) : Int) = adr Cs k2 d2.1 j b t by omega] at t1
  exact ⟨τ, t1, t2, t3⟩
end sup3
