/-! the reference: RESOLUTION and FACTORING -/
theorem fo_id {f : Nat → PA → PA} : ∀ (m o : Nat) (A : PA), (∀ i A, o ≤ i → f i A = A) → fo f m o A = A
  | 0, o, A, _ => rfl
  | m + 1, o, A, h => by
    show fo f m (o + 1) (f o A) = A
    rw [h o A (Nat.le_refl _)]; exact fo_id m (o + 1) A (fun i A hi => h i A (by omega))
theorem fo_one {f : Nat → PA → PA} {i0 : Nat} (h : ∀ i A, i ≠ i0 → f i A = A) : ∀ (m o : Nat) (A : PA), o ≤ i0 → i0 < o + m → fo f m o A = f i0 A
  | 0, o, A, h1, h2 => by omega
  | m + 1, o, A, h1, h2 => by
    show fo f m (o + 1) (f o A) = _
    by_cases e : o = i0
    · subst e; exact fo_id m (o + 1) _ (fun i A hi => h i A (by omega))
    · rw [h o A e]; exact fo_one h m (o + 1) A (by omega) (by omega)
theorem selI_neg {C : List Lt} {i : Nat} {a : Lt} (h : selI C = some i) (ha : C[i]? = some a) : ¬ a.1 = 1 := by
  have go : ∀ (R D : List Lt) (s : Option Nat) (w : Nat), C = D ++ R → (∀ i', s = some i' → ∀ a', C[i']? = some a' → ¬ a'.1 = 1) → selQ R D.length s w = some i → ¬ a.1 = 1 := by
    intro R
    induction R with
    | nil => intro D s w _ hs hq; exact hs i hq a ha
    | cons d R ih =>
      intro D s w hD hs hq
      have hD' : C = (D ++ [d]) ++ R := by rw [hD]; simp
      have el : (D ++ [d]).length = D.length + 1 := by simp
      have hd : C[D.length]? = some d := by rw [hD, List.getElem?_append_right (Nat.le_refl _), Nat.sub_self]; rfl
      unfold selQ at hq
      by_cases q : ¬ d.1 = 1 ∧ w < lwt d
      · rw [if_pos q] at hq
        refine ih (D ++ [d]) (some D.length) (lwt d) hD' (fun i' e a' ha' => ?_) (by rw [el]; exact hq)
        obtain rfl := Option.some.inj e
        rw [hd] at ha'
        obtain rfl := Option.some.inj ha'
        exact q.1
      · rw [if_neg q] at hq
        exact ih (D ++ [d]) s w hD' hs (by rw [el]; exact hq)
  exact go C [] none 0 rfl (fun i' e => by cases e) h
section res
variable {ar : Int → Nat} {pd : Int → Prop} {m9 : Int} {Cs : List CL} {k : Nat} {d : CL}
noncomputable def rsS (ar : Int → Nat) (pd : Int → Prop) (m9 : Int) (k : Nat) (C : List Lt) (i : Nat) (A : PA) : PA := match C[i]? with
  | some a => @ite _ (a.1 = 0 ∧ elI C i) (Classical.propDecidable _) (if A.2 87 = 0 then infA ar pd m9 2 (k : Int) (-1) a.2.1 a.2.2 (oth i C.length 0 C) A else A) A
  | none => A
theorem rsS_ext {C : List Lt} (i : Nat) (A : PA) : ∃ Z, (rsS ar pd m9 k C i A).1 = A.1 ++ Z := by
  unfold rsS
  split
  · split
    · split
      · exact infA_87.1
      · exact ⟨[], by simp⟩
    · exact ⟨[], by simp⟩
  · exact ⟨[], by simp⟩
theorem rsS_no {C : List Lt} (i : Nat) (A : PA) (h : A.2 87 ≠ 0) : rsS ar pd m9 k C i A = A := by
  unfold rsS
  split
  · split
    · first | rfl | rw [if_neg h]
    · rfl
  · rfl
/-- the one that is SELECTED -/
theorem rsS_all {C : List Lt} (w : ∀ a ∈ C, a.1 = 0 ∨ a.1 = 1) {A : PA} : fo (rsS ar pd m9 k C) C.length 0 A = match selI C with
    | none => A
    | some i => resA ar pd m9 k C i A := by
  cases hs : selI C with
  | none =>
    have h1 := selI_all hs
    refine fo_id _ _ _ (fun i A _ => ?_)
    unfold rsS
    cases hc : C[i]? with
    | none => rfl
    | some a =>
      dsimp only
      have := h1 a (List.mem_of_getElem? hc)
      rw [if_neg (fun z => by have := z.1; omega)]
  | some i0 =>
    have el : ∀ i, elI C i ↔ i0 = i := fun i => by unfold elI; rw [hs]
    rw [fo_one (i0 := i0) (fun i A hi => ?_) C.length 0 A (Nat.zero_le _) (by have := selI_lt hs; omega)]
    · show rsS ar pd m9 k C i0 A = resA ar pd m9 k C i0 A
      unfold rsS resA
      cases hc : C[i0]? with
      | none => rfl
      | some a =>
        dsimp only
        have h1 := selI_neg hs hc
        have h2 := w a (List.mem_of_getElem? hc)
        rw [if_pos ⟨by omega, (el i0).mpr rfl⟩]
    · unfold rsS
      cases hc : C[i]? with
      | none => rfl
      | some a =>
        dsimp only
        rw [if_neg (fun z => hi ((el i).mp z.2).symm)]
/-- a CONCLUSION out of what was planned, nothing put for anything -/
theorem rc_0 {β : Nat} (hβ : 1541 ≤ β) {σ : zS} {A : PA} {L : List Pe} {B : Ev} (hI : RI ar pd m9 σ A) (hB : EB ar pd m9 σ B) (hL : PL ar m9 σ L) (h3 : σ.1 113 = -1) {R : List Lt} (hR : ∀ r, cR r (-1) L = R) (wR : WL ar (lw 12 m9) R) {x0 x1 x2 : Int} : ∃ τ, zE tM_conclude β σ [x0, x1, x2] = some (τ, 0) ∧ RI ar pd m9 τ (keepA x0 x1 x2 (mpL (st (rs B)) R) A) ∧ FCo σ τ := by
  obtain ⟨τ, t1, t2, t3⟩ := rc_ok (r := vt 0) (x0 := x0) (x1 := x1) (x2 := x2) hβ hI hB hL (fun h => by omega) (by rw [h3, hR]; exact wR)
  rw [h3, hR] at t2
  exact ⟨τ, t1, t2, t3⟩
theorem rs_1 (hc : Cs[k]? = some d) {i : Nat} {a : Lt} (ha : d.1[i]? = some a) {β : Nat} (hβ : 1542 ≤ β) (a0 : a.1 = 0) (he : elI d.1 i) {σ : zS} {A : PA} (hI : RI ar pd m9 σ A) (hA : Ext Cs A) (h0 : A.2 87 = 0) : ∃ τ, zE tM_resolve_7 β σ [(k : Int), lpos Cs k + (i : Int)] = zE tM_resolve_99 β τ [(k : Int), lpos Cs k + (i : Int)] ∧ RI ar pd m9 τ (infA ar pd m9 2 (k : Int) (-1) a.2.1 a.2.2 (oth i d.1.length 0 d.1) A) ∧ FIn σ τ := by
  obtain ⟨g1, g2, g3, g4, g5, g6, g7, g8, wc⟩ := ex_k hI hA hc
  obtain ⟨l1, l2, l3, l4, l5⟩ := ex_l hI hA hc ha
  have il := (List.getElem?_eq_some_iff.mp ha).1
  have k87 : σ.1 87 = 0 := by rw [hI.2.2.2.1.1]; exact h0
  obtain ⟨S1, S2⟩ := lb_of (b := 0) hI.1 g7 wc ha (Or.inl rfl)
  rw [g8] at S1 S2
  obtain ⟨q, hq⟩ : ∃ q, q = lpos Cs k + (i : Int) := ⟨_, rfl⟩
  rw [← hq] at S1 S2 l1 l3 ⊢
  obtain ⟨σ1, σ3, rr, u1, u2, u3, u4, u5⟩ := uu_ok (β := β - 1) (by omega) hI S1 S2
  rw [shT_0, shT_0] at u5
  have start : zE tM_resolve_7 β σ [(k : Int), q] = if rr = 0 then zE tM_resolve_99 β σ3 [(k : Int), q] else zbd (zE tM_begin (β - 1) σ3 []) (fun σ4 _ => zbd (zE tM_planOthers (β - 1) σ4 [(k : Int), 0, q, -1]) (fun σ5 _ => zbd (zE tM_conclude (β - 1) σ5 [2, (k : Int), -1]) (fun σ10 _ => zE tM_resolve_99 β σ10 [(k : Int), q]))) := by
    have h1 : 1 ≤ β := by omega
    rw [zq_resolve_7, kZ_resolve_7, if_pos (by omega), g1, g2, if_pos (by omega), if_neg (by omega), if_pos k87, if_pos (by omega), l1, if_pos a0, l3, b2_t he, if_neg (by decide), if_pos h1, zbd_of u1, if_pos h1, u3.a 66, u3.a 67, zbd_of u2]
    by_cases w : rr = 0
    · rw [if_pos w, if_pos w]
    · rw [if_neg w, if_neg w]
      simp only [h1, if_true]
  have wl : WL ar (lb m9) d.1 := wc.2.2.2.2
  rcases u5.symm with ⟨v1, v2⟩ | ⟨v1, B, v2, v3⟩
  · refine ⟨σ3, by rw [start, if_pos v1], ?_, u4.w⟩
    rw [infA_no v2]
    exact hI.f u4 u4.pq
  · obtain ⟨σ4, b1, b2, b3, b4⟩ := begin_ok (ar := ar) (m9 := m9) (β := β - 1) (σ := σ3)
    have I3 : RI ar pd m9 σ3 A := hI.f u4 u4.pq
    have I4 : RI ar pd m9 σ4 A := I3.f b2 b2.pq
    obtain ⟨σ5, c1', c2', c3'⟩ := po_ok (ar := ar) (m9 := m9) (β := β - 1) (by omega) I4.1 g7 wc (b := 0) (Or.inl rfl) (po_h (i := i) (j := d.1.length) (x2 := q) (x3 := -1) (Or.inl (by rw [g8]; exact hq)) (Or.inr ⟨by omega, Nat.le_refl _⟩) (by omega)) b3 (by simp)
    rw [List.nil_append] at c3'
    have f5 : FPr σ3 σ5 := b2.w.trans c2'.w
    have I5 : RI ar pd m9 σ5 A := I3.f f5 f5.pq
    have B5 : EB ar pd m9 σ5 B := v2.lo ⟨f5.pq, fun v => ⟨by rw [c2'.a 106, b2.a 106], by rw [c2'.a 107, b2.a 107]⟩⟩
    have wR := oth_wf (i := i) (j := d.1.length) wl
    obtain ⟨τ, t1, t2, t3⟩ := rc_0 (β := β - 1) (x0 := 2) (x1 := (k : Int)) (x2 := -1) (by omega) I5 B5 c3' (by rw [c2'.i 113]; exact b4) (fun r => cR_0 d.1 0 (fun m z hz => by
      obtain ⟨z1, z2, _⟩ := I4.1.l g7 hz
      rw [Nat.zero_add]
      exact ⟨z1.1.1, z2.1.1⟩)) wR
    rw [← infA_of v3 wR] at t2
    refine ⟨τ, ?_, t2, (u4.w.trans f5.w).trans t3.w⟩
    rw [start, if_neg (by omega), zbd_of b1, zbd_of c1', zbd_of t1]
theorem rs_7 (hc : Cs[k]? = some d) {β : Nat} (hβ : 1542 ≤ β) : ∀ (R D : List Lt) (σ : zS) (A : PA), d.1 = D ++ R → RI ar pd m9 σ A → Ext Cs A → ∃ τ, zE tM_resolve_7 β σ [(k : Int), lpos Cs k + (D.length : Int)] = some (τ, 0) ∧ RI ar pd m9 τ (fo (rsS ar pd m9 k d.1) R.length D.length A) ∧ FIn σ τ
  | [], D, σ, A, hD, hI, hA => by
    rw [List.append_nil] at hD
    obtain ⟨g1, g2, g3, g4, g5, g6, _⟩ := ex_k hI hA hc
    refine ⟨σ, ?_, hI, FrC.refl⟩
    rw [zq_resolve_7, kZ_resolve_7, if_pos (by omega), g1, g2, if_pos (by omega), if_pos (by rw [hD]; omega), zq_resolve_105, kZ_resolve_105]
  | a :: R, D, σ, A, hD, hI, hA => by
    have hl : d.1.length = D.length + (R.length + 1) := by rw [hD]; simp
    have ha : d.1[D.length]? = some a := by rw [hD, List.getElem?_append_right (Nat.le_refl _), Nat.sub_self]; rfl
    have hD' : d.1 = (D ++ [a]) ++ R := by rw [hD]; simp
    have el : (D ++ [a]).length = D.length + 1 := by simp
    obtain ⟨g1, g2, g3, g4, g5, g6, _⟩ := ex_k hI hA hc
    obtain ⟨l1, l2, l3, l4, l5⟩ := ex_l hI hA hc ha
    have k87 : σ.1 87 = A.2 87 := hI.2.2.2.1.1
    have go := rs_7 hc hβ R (D ++ [a])
    rw [el] at go
    have e99 : ∀ ρ : zS, zE tM_resolve_99 β ρ [(k : Int), lpos Cs k + (D.length : Int)] = zE tM_resolve_7 β ρ [(k : Int), lpos Cs k + ((D.length + 1 : Nat) : Int)] := fun ρ => by rw [zq_resolve_99, kZ_resolve_99, if_pos (by omega), show lpos Cs k + (D.length : Int) + 1 = lpos Cs k + ((D.length + 1 : Nat) : Int) by omega]
    by_cases h0 : A.2 87 = 0
    · show ∃ τ, _ ∧ RI ar pd m9 τ (fo (rsS ar pd m9 k d.1) R.length (D.length + 1) (rsS ar pd m9 k d.1 D.length A)) ∧ _
      by_cases hh : a.1 = 0 ∧ elI d.1 D.length
      · obtain ⟨τ1, t1, t2, t3⟩ := rs_1 hc ha hβ hh.1 hh.2 hI hA h0
        have e : rsS ar pd m9 k d.1 D.length A = infA ar pd m9 2 (k : Int) (-1) a.2.1 a.2.2 (oth D.length d.1.length 0 d.1) A := by unfold rsS; rw [ha]; dsimp only; rw [if_pos hh, if_pos h0]
        rw [← e] at t2
        obtain ⟨τ, r1, r2, r3⟩ := go τ1 _ hD' t2 (hA.tr (rsS_ext _ _))
        exact ⟨τ, by rw [t1, e99, r1], r2, t3.trans r3⟩
      · have e : rsS ar pd m9 k d.1 D.length A = A := by unfold rsS; rw [ha]; dsimp only; rw [if_neg hh]
        rw [e]
        obtain ⟨τ, r1, r2, r3⟩ := go σ A hD' hI hA
        refine ⟨τ, ?_, r2, r3⟩
        rw [zq_resolve_7, kZ_resolve_7, if_pos (by omega), g1, g2, if_pos (by omega), if_neg (by omega), if_pos (by omega), if_pos (by omega), l1, l3]
        by_cases a0 : a.1 = 0
        · rw [if_pos a0, b2_f (fun w => hh ⟨a0, w⟩), if_pos rfl, e99, r1]
        · rw [if_neg a0, e99, r1]
    · refine ⟨σ, ?_, by rw [fo_no rsS_no _ _ _ h0]; exact hI, FrC.refl⟩
      rw [zq_resolve_7, kZ_resolve_7, if_pos (by omega), g1, g2, if_pos (by omega), if_neg (by omega), if_neg (by omega), zq_resolve_105, kZ_resolve_105]
theorem rres_ok (hc : Cs[k]? = some d) {β : Nat} (hβ : 1542 ≤ β) {σ : zS} {A : PA} (hI : RI ar pd m9 σ A) (hA : Ext Cs A) : ∃ τ, zE tM_resolve β σ [(k : Int)] = some (τ, 0) ∧ RI ar pd m9 τ (match selI d.1 with
    | none => A
    | some i => resA ar pd m9 k d.1 i A) ∧ FIn σ τ := by
  obtain ⟨g1, g2, g3, g4, g5, g6, g7, g8, wc⟩ := ex_k hI hA hc
  obtain ⟨τ, t1, t2, t3⟩ := rs_7 hc hβ d.1 [] σ A rfl hI hA
  have e := rsS_all (ar := ar) (pd := pd) (m9 := m9) (k := k) (C := d.1) (fun a ha => (wc.2.2.2.2 a ha).1) (A := A)
  rw [show ([] : List Lt).length = 0 from rfl, e] at t2
  refine ⟨τ, ?_, t2, t3⟩
  rw [zq_resolve, kZ_resolve, if_pos (by omega), g1, ← t1]
  simp
end res
