/-! the class makes the CLAUSES of all SENTENCES -/
/-- the free VARIABLES of a SENTENCE, around its FORMULA -/
def frE (w : Nat → Nat) (stay : Bool) : List Int → VE → VE
  | [], E => E
  | v :: L, E => frE w stay L (bE w E v.toNat stay)
theorem frE_keys {w : Nat → Nat} {stay : Bool} : ∀ {L : List Int} {E : VE}, (∀ v ∈ L, 0 ≤ v) → (frE w stay L E).map (fun x => (x.1 : Int)) = E.map (fun x => (x.1 : Int)) ++ L
  | [], E, _ => by rw [List.append_nil]; rfl
  | v :: L, E, h => by
    show (frE w stay L (bE w E v.toNat stay)).map _ = _
    rw [frE_keys (fun u hu => h u (by simp [hu]))]
    unfold bE
    have := h v (by simp)
    rw [List.map_append, List.append_assoc]
    congr 1
    show [((v.toNat : Nat) : Int)] ++ L = v :: L
    rw [Int.toNat_of_nonneg this]; rfl
theorem CE_fr {σ : zS} {w : Nat → Nat} {stay : Bool} : ∀ {L : List Int} {E : VE}, CE σ E → (∀ v ∈ L, 0 ≤ v ∧ σ.2.1 27 v = bi (!stay) ∧ (stay = false → 0 ≤ σ.2.1 26 v ∧ w v.toNat = cu (σ.2.1 26 v))) → CE σ (frE w stay L E)
  | [], E, h, _ => h
  | v :: L, E, h, hv => by
    obtain ⟨h0, h1, h2⟩ := hv v (by simp)
    show CE σ (frE w stay L (bE w E v.toNat stay))
    refine CE_fr (L := L) (E := bE w E v.toNat stay) (CE.ext (σ0 := σ) h rfl FrC.refl FrC.refl (fun _ _ => rfl) ?_ (fun hs => ?_)) (fun u hu => hv u (by simp [hu]))
    · rw [Int.toNat_of_nonneg h0]; exact h1
    · rw [Int.toNat_of_nonneg h0]; exact h2 hs
/-- the CLAUSES of a SENTENCE -/
def csE (w : Nat → Nat) (e : SE) : List (List Lt) := cFm w e.2.2.1 (frE w (!e.2.1) e.2.2.2 []) (!e.2.1)
noncomputable def txF (L : List (List Lt)) (Cs : List CL) : List CL := L.foldl (fun a c => txA c a) Cs
theorem txA_len (c : List Lt) (Cs : List CL) : (txA c Cs).length ≤ Cs.length + 1 := by
  unfold txA
  split
  · omega
  · simp
theorem txF_len : ∀ (L : List (List Lt)) (Cs : List CL), (txF L Cs).length ≤ Cs.length + L.length
  | [], Cs => by simp [txF]
  | c :: L, Cs => by
    have h1 := txF_len L (txA c Cs)
    have h2 := txA_len c Cs
    show (txF L (txA c Cs)).length ≤ _
    rw [List.length_cons]
    omega
/-- all SENTENCES: the place of the first that goes beyond a limit, or the CLAUSES -/
noncomputable def mkS (w : Nat → Nat) : List SE → Nat → List CL → Int ⊕ List CL
  | [], _, Cs => .inr Cs
  | e :: L, n, Cs => if 200 < hgt e.2.2.1 ∨ 200 < n + nF e.2.2.1 (!e.2.1) then .inl e.1 else @ite _ (∀ c ∈ csE w e, inB c) (Classical.propDecidable _) (mkS w L (n + nF e.2.2.1 (!e.2.1)) (txF (csE w e) Cs)) (.inl e.1)
theorem sfl_g : ∀ {L : List SE} {k : Nat} {e : SE} {lo f : Nat}, L[k]? = some e → (sfl L lo f)[5 * k]? = some e.1 ∧ (sfl L lo f)[5 * k + 1]? = some (bi e.2.1) ∧ (sfl L lo f)[5 * k + 2]? = some (((lo + szl (L.take k) + szn e.2.2.1.1 e.2.2.1.2 : Nat) : Int) - 1) ∧ (sfl L lo f)[5 * k + 3]? = some ((f + frL (L.take k) : Nat) : Int) ∧ (sfl L lo f)[5 * k + 4]? = some ((f + frL (L.take k) + e.2.2.2.length : Nat) : Int)
  | [], k, e, lo, f, h => by cases h
  | x :: L, 0, e, lo, f, h => by
    cases h
    exact ⟨rfl, rfl, rfl, rfl, rfl⟩
  | x :: L, k + 1, e, lo, f, h => by
    obtain ⟨h1, h2, h3, h4, h5⟩ := sfl_g (L := L) (k := k) (e := e) (lo := lo + szn x.2.2.1.1 x.2.2.1.2) (f := f + x.2.2.2.length) h
    have e1 : szl ((x :: L).take (k + 1)) = szn x.2.2.1.1 x.2.2.1.2 + szl (L.take k) := rfl
    have e2 : frL ((x :: L).take (k + 1)) = x.2.2.2.length + frL (L.take k) := rfl
    have es : ∀ j, (sfl (x :: L) lo f)[5 * (k + 1) + j]? = (sfl L (lo + szn x.2.2.1.1 x.2.2.1.2) (f + x.2.2.2.length))[5 * k + j]? := fun j => by
      show ([_, _, _, _, _] ++ sfl L _ _)[5 * (k + 1) + j]? = _
      rw [List.getElem?_append_right (by simp; omega)]
      congr 1
      simp
      omega
    have es0 := es 0
    rw [Nat.add_zero, Nat.add_zero] at es0
    refine ⟨es0.trans h1, (es 1).trans h2, (es 2).trans ?_, (es 3).trans ?_, (es 4).trans ?_⟩
    · rw [h3, e1, Nat.add_assoc lo]
    · rw [h4, e2, Nat.add_assoc f]
    · rw [h5, e2, Nat.add_assoc f]
theorem frs_g : ∀ {L : List SE} {k i : Nat} {e : SE} {v : Int}, L[k]? = some e → e.2.2.2[i]? = some v → (frs L)[frL (L.take k) + i]? = some v
  | [], k, i, e, v, h, _ => by cases h
  | x :: L, 0, i, e, v, h, hv => by
    cases h
    show (x.2.2.2 ++ frs L)[0 + i]? = some v
    rw [Nat.zero_add, List.getElem?_append_left (List.getElem?_eq_some_iff.mp hv).1]
    exact hv
  | x :: L, k + 1, i, e, v, h, hv => by
    have ih := frs_g (L := L) (k := k) h hv
    show (x.2.2.2 ++ frs L)[x.2.2.2.length + frL (L.take k) + i]? = some v
    rw [Nat.add_assoc, List.getElem?_append_right (by omega), Nat.add_sub_cancel_left]
    exact ih
theorem frL_take : ∀ {L : List SE} {k : Nat} {e : SE}, L[k]? = some e → frL (L.take k) + e.2.2.2.length ≤ frL L
  | [], k, e, h => by cases h
  | x :: L, 0, e, h => by
    cases h
    show 0 + x.2.2.2.length ≤ x.2.2.2.length + frL L
    omega
  | x :: L, k + 1, e, h => by
    have := frL_take (L := L) (k := k) h
    show x.2.2.2.length + frL (L.take k) + e.2.2.2.length ≤ x.2.2.2.length + frL L
    omega
/-- what stays while the CLAUSES are made -/
def MS0 (σ : zS) (SL : List SE) (b : Nat) (NN : List N6) (TT : List Int) (w : Nat → Nat) (ar : Int → Nat) (p : Int → Prop) (nm : PN) : Prop := WS0 σ NN TT ar p nm ∧ (RowC σ 2001 21 (sfl SL 0 0) ∧ σ.2.2 21 ≤ 210000 ∧ SL.length ≤ 70000) ∧ GO σ b NN TT SL ∧ ((frs SL).length ≤ 300 ∧ b ≤ 300 ∧ ∀ (i : Nat) v, (frs SL)[i]? = some v → σ.2.1 28 (i : Int) = v) ∧ ∀ e ∈ SL, WFo1 nm e.2.2.1 (fun v => v ∈ e.2.2.2) ∧ szn e.2.2.1.1 e.2.2.1.2 ≤ 20000 ∧ wK (fun v => 0 ≤ σ.2.1 26 (v : Int) ∧ w v = cu (σ.2.1 26 (v : Int))) e.2.2.1 (!e.2.1) ∧ ∀ v ∈ e.2.2.2, (e.2.1 = true → 0 ≤ σ.2.1 26 v ∧ w v.toNat = cu (σ.2.1 26 v)) ∧ σ.2.1 27 v = bi e.2.1
theorem GO.q {σ τ : zS} {b : Nat} {NN : List N6} {TT : List Int} {L : List SE} (h : GO σ b NN TT L) (h1 : ∀ v, τ.2.1 17 v = σ.2.1 17 v ∧ τ.2.1 24 v = σ.2.1 24 v ∧ τ.2.1 25 v = σ.2.1 25 v) : GO τ b NN TT L := fun i e he => by
  obtain ⟨a1, a2⟩ := h i e he
  refine ⟨?_, fun j v hv => by rw [(h1 v).1, (h1 v).2.1, (h1 v).2.2]; exact a2 j v hv⟩
  have := CFs.m (τ := τ) (b2 := b) (fun v _ => h1 v) (Nat.le_refl b) [] [] (F := nd e.2.2.1.1 e.2.2.1.2 nl) (E := []) (lo := szl (L.take i)) (fun v hv => by cases hv) a1
  rw [List.append_nil, List.append_nil] at this
  exact this
theorem MS0.f {σ τ : zS} {SL : List SE} {b : Nat} {NN : List N6} {TT : List Int} {w : Nat → Nat} {ar : Int → Nat} {p : Int → Prop} {nm : PN} (h : MS0 σ SL b NN TT w ar p nm) (f : FrC tI tA σ τ) (hv : ∀ v, σ.2.1 17 v = -2 → τ.2.1 27 v = σ.2.1 27 v) : MS0 τ SL b NN TT w ar p nm := by
  obtain ⟨⟨a1, a2, a3, a4⟩, ⟨b1, b2, b3⟩, c, ⟨d1, d2, d3⟩, e⟩ := h
  refine ⟨⟨a1.f f, ⟨a2.1.f f, by rw [f.l 16]; exact a2.2⟩, fun c hp hc => by rw [f.a 7]; exact a3 c hp hc, a4⟩, ⟨b1.f f, by rw [f.l 21]; exact b2, b3⟩, c.q (fun v => ⟨f.a 17 v, f.a 24 v, f.a 25 v⟩), ⟨d1, d2, fun i v h => by rw [f.a 28]; exact d3 i v h⟩, fun x hx => ?_⟩
  obtain ⟨e1, e2, e3, e4⟩ := e x hx
  obtain ⟨k, hk⟩ := List.getElem?_of_mem hx
  refine ⟨e1, e2, by rw [show (fun v : Nat => 0 ≤ τ.2.1 26 (v : Int) ∧ w v = cu (τ.2.1 26 (v : Int))) = (fun v : Nat => 0 ≤ σ.2.1 26 (v : Int) ∧ w v = cu (σ.2.1 26 (v : Int))) from funext (fun v => by rw [f.a 26])]; exact e3, fun v hv1 => ?_⟩
  obtain ⟨j, hj⟩ := List.getElem?_of_mem hv1
  have h17 := ((c k x hk).2 j v hj).2.2.1
  obtain ⟨g1, g2⟩ := e4 v hv1
  exact ⟨by rw [f.a 26]; exact g1, by rw [hv v h17]; exact g2⟩
theorem MS0.vs {σ : zS} {SL : List SE} {b : Nat} {NN : List N6} {TT : List Int} {w : Nat → Nat} {ar : Int → Nat} {p : Int → Prop} {nm : PN} (h : MS0 σ SL b NN TT w ar p nm) {k : Nat} {e : SE} (he : SL[k]? = some e) : CVs σ (5 * (k : Int)) (frL (SL.take k)) e.2.2.2 [] ∧ CE σ (frE w (!e.2.1) e.2.2.2 []) ∧ (frE w (!e.2.1) e.2.2.2 []).map (fun x => (x.1 : Int)) = e.2.2.2 := by
  obtain ⟨_, ⟨b1, b2, b3⟩, c, ⟨d1, d2, d3⟩, ee⟩ := h
  obtain ⟨g1, g2, g3, g4, g5⟩ := sfl_g (lo := 0) (f := 0) he
  have hk := (List.getElem?_eq_some_iff.mp he).1
  have hl := b1.2.1
  rw [sfl_len] at hl
  have q3 := Fl_get b1.2.2.2 g4
  have q4 := Fl_get b1.2.2.2 g5
  have hfl := frL_take he
  have hfs := frs_len SL
  obtain ⟨_, c2⟩ := c k e he
  obtain ⟨_, _, _, e4⟩ := ee e (List.mem_of_getElem? he)
  have pos : ∀ v ∈ e.2.2.2, 0 ≤ v := fun v hv => by
    obtain ⟨j, hj⟩ := List.getElem?_of_mem hv
    exact (c2 j v hj).1
  refine ⟨⟨⟨by omega, by omega, b2⟩, ⟨?_, ?_, by omega⟩, fun i v hv => ?_, ⟨-1, rfl⟩, fun v hv => by cases hv⟩, ?_, ?_⟩
  · rw [show 5 * (k : Int) + 3 = 0 + ((5 * k + 3 : Nat) : Int) by omega, q3, Nat.zero_add]
  · rw [show 5 * (k : Int) + 4 = 0 + ((5 * k + 4 : Nat) : Int) by omega, q4, Nat.zero_add]
  · obtain ⟨r1, r2, r3, r4, r5⟩ := c2 i v hv
    exact ⟨d3 _ v (frs_g he hv), r1, by omega, r3, r4, r5⟩
  · refine CE_fr (fun i x hx => by cases hx) (fun v hv => ⟨pos v hv, ?_, fun hs => ?_⟩)
    · rw [Bool.not_not]; exact (e4 v hv).2
    · exact (e4 v hv).1 (by simpa using hs)
  · rw [frE_keys pos]; rfl
