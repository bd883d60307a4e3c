/-! the class and the reference between two calls -/
variable {qo : Nat}
abbrev siI : List Nat := [4701, 5402, 5101, 4901, 5300, 5301, 5302, 5303, 5304, 5305, 5306, 6401, 3911, 3905, 5501]
abbrev siA : List Nat := [7, 12, 48, 50, 52, 63, 65, 44, 46, 56, 58]
theorem SI.f {ar : Int → Nat} {pd : Int → Prop} {m9 : Int} {I B : List Nat} {σ τ : zS} {A : PA} {P : List Int} (h : SI ar pd m9 σ A P) (f : FrC I B σ τ) (hR : RL τ) (hi : siI.all (fun j => !(I.elem j)) = true := by decide) (hb : siA.all (fun j => !(B.elem j)) = true := by decide) : SI ar pd m9 τ A P := by
  have ni : ∀ j, j ∈ siI → I.elem j = false := fun j hj => by simpa using List.all_eq_true.mp hi j hj
  have nb : ∀ j, j ∈ siA → B.elem j = false := fun j hj => by simpa using List.all_eq_true.mp hb j hj
  have l : ∀ j, j ∈ siA → τ.2.2 j = σ.2.2 j := fun j hj => f.2.2.1 j (nb j hj) (fun q => by subst q; exact absurd hj (by decide)) (fun q => by subst q; exact absurd hj (by decide))
  obtain ⟨⟨c1, c2, c3, c4, c5, c6, c7, ⟨N, c8⟩, c9, c10, c11⟩, s2, s3, s4, s5, s6⟩ := h
  refine ⟨⟨c1.f f (ni _ (by simp)) (nb _ (by simp)) (nb _ (by simp)) (nb _ (by simp)), c2, c3.f f (ni _ (by simp)) (ni _ (by simp)) (ni _ (by simp)) (ni _ (by simp)) (nb _ (by simp)) (nb _ (by simp)) (nb _ (by simp)), ?_, c5.m f.2.2.2, hR, c7.f f (ni _ (by simp)) (nb _ (by simp)) (nb _ (by simp)), ⟨N, c8.f f (ni _ (by simp)) (nb _ (by simp)) (nb _ (by simp))⟩, by rw [f.1 3905 (ni _ (by simp))]; exact c9, c10, fun k c hc hs i a ha => ?_⟩, fun q => ⟨⟨fun k k0 k1 => ?_, ?_⟩, (s2 q).2⟩, ⟨?_, ?_, ?_, ?_⟩, ?_, ?_, ?_⟩
  · unfold KC at *
    rw [f.1 5300 (ni _ (by simp)), f.1 5301 (ni _ (by simp)), f.1 5302 (ni _ (by simp)), f.1 5303 (ni _ (by simp)), f.1 5304 (ni _ (by simp)), f.1 5305 (ni _ (by simp)), f.1 5306 (ni _ (by simp))]
    exact c4
  · rw [f.2.1 48 _ (nb _ (by simp)), f.2.1 48 _ (nb _ (by simp))]; exact c11 k c hc hs i a ha
  · rw [f.2.1 52 _ (nb _ (by simp))]; exact (s2 q).1.1 k k0 k1
  · rw [f.1 4901 (ni _ (by simp))]; exact (s2 q).1.2
  · rw [f.1 5501 (ni _ (by simp))]; exact s3.1
  · rw [l 56 (by simp)]; exact s3.2.1
  · rw [l 56 (by simp)]; exact s3.2.2.1
  · exact Fl_q (fun q _ _ => f.2.1 56 q (nb _ (by simp))) s3.2.2.2
  · rw [l 56 (by simp)]; exact s4
  · rw [l 58 (by simp)]; exact s5
  · rw [l 58 (by simp)]; exact s6
/-- what of the class does not change by STEPS -/
def CR (σ : zS) (T : Nat) (m9 : Int) (nm : PN) : Prop := (cap σ ∧ capq σ ∧ l30 σ) ∧ σ.1 5403 = (T : Int) ∧ σ.1 605 = m9 ∧ CNm (zI σ 605 ((nm.length : Int) + 1)) nm
abbrev crI : List Nat := [604, 605, 1001, 5403]
abbrev crA : List Nat := [7, 8, 9, 11, 12, 16, 19, 21, 30, 34, 36, 38]
theorem CR.f {I B : List Nat} {σ τ : zS} {T : Nat} {m9 : Int} {nm : PN} (h : CR σ T m9 nm) (f : FrC I B σ τ) (hi : crI.all (fun j => !(I.elem j)) = true := by decide) (hb : crA.all (fun j => !(B.elem j)) = true := by decide) : CR τ T m9 nm := by
  have ni : ∀ j, j ∈ crI → I.elem j = false := fun j hj => by simpa using List.all_eq_true.mp hi j hj
  have nb : ∀ j, j ∈ crA → B.elem j = false := fun j hj => by simpa using List.all_eq_true.mp hb j hj
  have l : ∀ j, j ∈ crA → τ.2.2 j = σ.2.2 j := fun j hj => f.2.2.1 j (nb j hj) (fun q => by subst q; exact absurd hj (by decide)) (fun q => by subst q; exact absurd hj (by decide))
  obtain ⟨⟨h1, h2, h3⟩, h4, h5, ⟨n1, n2, n3, n4, ⟨⟨r1, r2, r3, r4⟩, n6, n7, n8⟩, n9⟩⟩ := h
  refine ⟨⟨?_, ?_, ?_⟩, by rw [f.1 5403 (ni _ (by simp))]; exact h4, by rw [f.1 605 (ni _ (by simp))]; exact h5, ⟨?_, n2, n3, zI_1, ⟨⟨?_, ?_, ?_, ?_⟩, ?_, ?_, ?_⟩, fun i x hx => ?_⟩⟩
  · unfold cap at *
    rw [l 11 (by simp), l 16 (by simp), l 21 (by simp), f.2.1 7 _ (nb _ (by simp)), f.2.1 12 _ (nb _ (by simp))]
    exact h1
  · unfold capq at *
    rw [l 19 (by simp), l 34 (by simp), l 36 (by simp), l 38 (by simp)]
    exact h2
  · unfold l30 at *
    rw [l 30 (by simp)]
    exact h3
  · rw [zI_o] at n1 ⊢
    rw [f.1 604 (ni _ (by simp))]; exact n1
  · rw [zI_o] at r1 ⊢
    rw [f.1 1001 (ni _ (by simp))]; exact r1
  · show _ ≤ τ.2.2 11
    rw [l 11 (by simp)]; exact r2
  · show 16 ≤ τ.2.2 11
    rw [l 11 (by simp)]; exact r3
  · exact Fl_q (fun q _ _ => f.2.1 11 q (nb _ (by simp))) r4
  · show τ.2.2 11 ≤ _
    rw [l 11 (by simp)]; exact n6
  · show τ.2.1 7 0 = 0
    rw [f.2.1 7 _ (nb _ (by simp))]; exact n7
  · show τ.2.1 12 0 = 1
    rw [f.2.1 12 _ (nb _ (by simp))]; exact n8
  · obtain ⟨x1, x2, x3, x4⟩ := n9 i x hx
    refine ⟨?_, ?_, ?_, fun h => ?_⟩
    · show τ.2.1 9 _ = _
      rw [f.2.1 9 _ (nb _ (by simp))]; exact x1
    · show τ.2.1 8 _ = _
      rw [f.2.1 8 _ (nb _ (by simp))]; exact x2
    · show τ.2.1 12 _ = _
      rw [f.2.1 12 _ (nb _ (by simp))]; exact x3
    · show τ.2.1 7 _ = _
      rw [f.2.1 7 _ (nb _ (by simp))]; exact x4 h
/-- the reference's NAMES -/
def RNs (ρ : zS) (nm : PN) : Prop := ρ.1 20 = (nm.length : Int) ∧ ∀ (i : Nat) x, nm[i]? = some x → ρ.2.1 14 ((i : Int) + 1) = (x.1.length : Int) ∧ ρ.2.1 13 ((i : Int) + 1) = (nmL (nm.take i) : Int) ∧ ∀ (j : Nat) c, x.1[j]? = some c → ρ.2.1 17 ((nmL (nm.take i) : Int) + (j : Int)) = c ∧ -128 ≤ c ∧ c ≤ 127
/-- what of the reference does not change by STEPS -/
def RR (ρ : zS) (ar : Int → Nat) (pd : Int → Prop) (m9 : Int) (T : Nat) (nm : PN) : Prop := RTb ar m9 ρ ∧ Pd ρ m9 pd ∧ ρ.1 85 = (T : Int) ∧ RNs ρ nm
abbrev rrI : List Nat := [19, 20, 85]
abbrev rrA : List Nat := [13, 14, 17, 48, 49]
theorem RR.f {I B : List Nat} {σ τ : zS} {ar : Int → Nat} {pd : Int → Prop} {m9 : Int} {T : Nat} {nm : PN} (h : RR σ ar pd m9 T nm) (f : FrC I B σ τ) (hi : rrI.all (fun j => !(I.elem j)) = true := by decide) (hb : rrA.all (fun j => !(B.elem j)) = true := by decide) : RR τ ar pd m9 T nm := by
  have ni : ∀ j, j ∈ rrI → I.elem j = false := fun j hj => by simpa using List.all_eq_true.mp hi j hj
  have nb : ∀ j, j ∈ rrA → B.elem j = false := fun j hj => by simpa using List.all_eq_true.mp hb j hj
  obtain ⟨⟨a1, a2⟩, b, c, d1, d2⟩ := h
  refine ⟨⟨by rw [f.1 19 (ni _ (by simp))]; exact a1, fun c c0 c1 => by rw [f.2.1 48 _ (nb _ (by simp))]; exact a2 c c0 c1⟩, b.f f (nb _ (by simp)), by rw [f.1 85 (ni _ (by simp))]; exact c, by rw [f.1 20 (ni _ (by simp))]; exact d1, fun i x hx => ?_⟩
  obtain ⟨x1, x2, x3⟩ := d2 i x hx
  exact ⟨by rw [f.2.1 14 _ (nb _ (by simp))]; exact x1, by rw [f.2.1 13 _ (nb _ (by simp))]; exact x2, fun j c hc => by rw [f.2.1 17 _ (nb _ (by simp))]; exact x3 j c hc⟩
def RQ0 (ar : Int → Nat) (pd : Int → Prop) (m9 : Int) (ρ : zS) (A : PA) (P : List Int) : Prop := RSt ar pd m9 ρ A P ∨ RE0 ρ A P
theorem RSt.f {I B : List Nat} {σ τ : zS} {ar : Int → Nat} {pd : Int → Prop} {m9 : Int} {A : PA} {P : List Int} (h : RSt ar pd m9 σ A P) (f : FrC I B σ τ) (p : PB σ τ) (hi : [84, 72, 105, 86, 87, 88, 89, 90, 91, 92, 93, 94].all (fun j => !(I.elem j)) = true := by decide) (hb : [49, 66, 67, 68, 69, 70, 71, 73, 74, 75, 76, 77, 78, 79, 80, 81, 82, 83].all (fun j => !(B.elem j)) = true := by decide) : RSt ar pd m9 τ A P := by
  have ni : ∀ j, j ∈ [84, 72, 105, 86, 87, 88, 89, 90, 91, 92, 93, 94] → I.elem j = false := fun j hj => by simpa using List.all_eq_true.mp hi j hj
  have nb : ∀ j, j ∈ [49, 66, 67, 68, 69, 70, 71, 73, 74, 75, 76, 77, 78, 79, 80, 81, 82, 83] → B.elem j = false := fun j hj => by simpa using List.all_eq_true.mp hb j hj
  obtain ⟨⟨a1, a2, a3, a4, a5, a6⟩, b, c⟩ := h
  refine ⟨⟨a1.f f p (ni _ (by simp)) (ni _ (by simp)) (ni _ (by simp)) (ni _ (by simp)) (nb _ (by simp)) (nb _ (by simp)) (nb _ (by simp)) (nb _ (by simp)) ?_, a2.f f (nb _ (by simp)) (nb _ (by simp)) (nb _ (by simp)) (nb _ (by simp)) (ni _ (by simp)), a3.f f (nb _ (by simp)), ?_, a5, a6⟩, fun h => by rw [f.1 88 (ni _ (by simp))]; exact b h, fun h => by rw [f.1 88 (ni _ (by simp))]; exact c h⟩
  · refine List.all_eq_true.mpr (fun j hj => ?_)
    have := nb j (by revert hj; simp only [List.mem_cons, List.not_mem_nil, or_false]; omega)
    rw [this]; rfl
  · unfold KM at *
    rw [f.1 87 (ni _ (by simp)), f.1 89 (ni _ (by simp)), f.1 90 (ni _ (by simp)), f.1 91 (ni _ (by simp)), f.1 92 (ni _ (by simp)), f.1 93 (ni _ (by simp)), f.1 94 (ni _ (by simp))]
    exact a4
theorem RQ0.f {I B : List Nat} {σ τ : zS} {ar : Int → Nat} {pd : Int → Prop} {m9 : Int} {A : PA} {P : List Int} (h : RQ0 ar pd m9 σ A P) (f : FrC I B σ τ) (p : PB σ τ) (hi : [84, 72, 105, 86, 87, 88, 89, 90, 91, 92, 93, 94].all (fun j => !(I.elem j)) = true := by decide) (hb : [49, 66, 67, 68, 69, 70, 71, 73, 74, 75, 76, 77, 78, 79, 80, 81, 82, 83].all (fun j => !(B.elem j)) = true := by decide) : RQ0 ar pd m9 τ A P := by
  rcases h with h | ⟨a1, a2, a3, a4, a5, a6, a7⟩
  · exact Or.inl (h.f f p hi hb)
  · have ni : ∀ j, j ∈ [84, 72, 105, 86, 87, 88, 89, 90, 91, 92, 93, 94] → I.elem j = false := fun j hj => by simpa using List.all_eq_true.mp hi j hj
    refine Or.inr ⟨a1, by rw [f.1 84 (ni _ (by simp))]; exact a2, by rw [f.1 72 (ni _ (by simp))]; exact a3, ?_, by rw [f.1 88 (ni _ (by simp))]; exact a5, a6, a7⟩
    unfold KM at *
    rw [f.1 87 (ni _ (by simp)), f.1 89 (ni _ (by simp)), f.1 90 (ni _ (by simp)), f.1 91 (ni _ (by simp)), f.1 92 (ni _ (by simp)), f.1 93 (ni _ (by simp)), f.1 94 (ni _ (by simp))]
    exact a4
theorem RQ0.n {ar : Int → Nat} {pd : Int → Prop} {m9 : Int} {ρ : zS} {A : PA} {P : List Int} (h : RQ0 ar pd m9 ρ A P) : ρ.1 84 = (A.1.length : Int) ∧ KM ρ A.2 ∧ A.1.length ≤ 2000 := by
  rcases h with h | ⟨a1, a2, a3, a4, a5, a6, a7⟩
  · exact ⟨h.1.1.1, h.1.2.2.2.1, h.1.1.2.1⟩
  · rw [a1]; exact ⟨a2, a4, by simp⟩
theorem RQ0.s {ar : Int → Nat} {pd : Int → Prop} {m9 : Int} {ρ : zS} {A : PA} {P : List Int} (h : RQ0 ar pd m9 ρ A P) (k : Nat) (hk : k < A.1.length) : RSt ar pd m9 ρ A P := by
  rcases h with h | ⟨a1, _⟩
  · exact h
  · rw [a1] at hk; exact absurd hk (by simp)
/-- the TEXT, the FAULT and what is shown -/
def IOr (qo : Nat) (σ ρ : zS) (n o : Nat) : Prop := (σ.1 101 = (n : Int) ∧ ρ.1 2 = (n : Int) ∧ n ≤ σ.2.2 2 ∧ 16 ≤ σ.2.2 2 ∧ σ.2.2 2 ≤ 50000 ∧ CTX (ρ.2.1 0) (σ.2.1 2) (n : Int)) ∧ (σ.1 10 = ρ.1 5 ∧ σ.1 11 = ρ.1 6) ∧ (σ.1 301 = (o : Int) ∧ ρ.1 3 = (o : Int) ∧ ∀ i : Int, 0 ≤ i → i < (o : Int) → σ.2.1 4 i = ρ.2.1 1 i) ∧ (o ≤ σ.2.2 4 ∧ 16 ≤ σ.2.2 4 ∧ σ.2.2 4 ≤ 50000 ∧ o ≤ ρ.2.2 1 ∧ o ≤ 20000 ∧ (17 ≤ qo ∧ qo ≤ ρ.2.2 1 ∧ ∀ i, -128 ≤ ρ.2.1 1 i ∧ ρ.2.1 1 i ≤ 127) ∧ ρ.2.2 1 ≤ 50000)
theorem IOr.f {I B J D : List Nat} {σ τ ρ κ : zS} {n o : Nat} (h : IOr qo σ ρ n o) (f : FrC I B σ τ) (g : FrC J D ρ κ) (hi : [10, 11, 101, 301].all (fun j => !(I.elem j)) = true := by decide) (hb : [2, 4].all (fun j => !(B.elem j)) = true := by decide) (hj : [2, 3, 5, 6].all (fun j => !(J.elem j)) = true := by decide) (hd : [0, 1].all (fun j => !(D.elem j)) = true := by decide) : IOr qo τ κ n o := by
  have ni : ∀ j, j ∈ [10, 11, 101, 301] → I.elem j = false := fun j hj => by simpa using List.all_eq_true.mp hi j hj
  have nb : ∀ j, j ∈ [2, 4] → B.elem j = false := fun j hj => by simpa using List.all_eq_true.mp hb j hj
  have nj : ∀ j, j ∈ [2, 3, 5, 6] → J.elem j = false := fun j h => by simpa using List.all_eq_true.mp hj j h
  have nd' : ∀ j, j ∈ [0, 1] → D.elem j = false := fun j h => by simpa using List.all_eq_true.mp hd j h
  have l2 : τ.2.2 2 = σ.2.2 2 := f.2.2.1 2 (nb _ (by simp)) (by decide) (by decide)
  have l4 : τ.2.2 4 = σ.2.2 4 := f.2.2.1 4 (nb _ (by simp)) (by decide) (by decide)
  have l1 : κ.2.2 1 = ρ.2.2 1 := g.2.2.1 1 (nd' _ (by simp)) (by decide) (by decide)
  obtain ⟨⟨a1, a2, a3, a4, a5, a6⟩, ⟨b1, b2⟩, ⟨c1, c2, c3⟩, d⟩ := h
  refine ⟨⟨by rw [f.1 101 (ni _ (by simp))]; exact a1, by rw [g.1 2 (nj _ (by simp))]; exact a2, by rw [l2]; exact a3, by rw [l2]; exact a4, by rw [l2]; exact a5, fun i i0 i1 => ?_⟩, ⟨by rw [f.1 10 (ni _ (by simp)), g.1 5 (nj _ (by simp))]; exact b1, by rw [f.1 11 (ni _ (by simp)), g.1 6 (nj _ (by simp))]; exact b2⟩, ⟨by rw [f.1 301 (ni _ (by simp))]; exact c1, by rw [g.1 3 (nj _ (by simp))]; exact c2, fun i i0 i1 => ?_⟩, by rw [l4, l1]; exact ⟨d.1, d.2.1, d.2.2.1, d.2.2.2.1, d.2.2.2.2.1, ⟨d.2.2.2.2.2.1.1, d.2.2.2.2.2.1.2.1, fun i => by rw [g.2.1 1 _ (nd' _ (by simp))]; exact d.2.2.2.2.2.1.2.2 i⟩, d.2.2.2.2.2.2⟩⟩
  · rw [f.2.1 2 _ (nb _ (by simp)), g.2.1 0 _ (nd' _ (by simp))]; exact a6 i i0 i1
  · rw [f.2.1 4 _ (nb _ (by simp)), g.2.1 1 _ (nd' _ (by simp))]; exact c3 i i0 i1
theorem IO4 {qo o a b : Nat} {g h : Int → Int} (e : ∀ i, h i = g i) (d : o ≤ a ∧ 16 ≤ a ∧ a ≤ 50000 ∧ o ≤ b ∧ o ≤ 20000 ∧ (17 ≤ qo ∧ qo ≤ b ∧ ∀ i, -128 ≤ g i ∧ g i ≤ 127) ∧ b ≤ 50000) : o ≤ a ∧ 16 ≤ a ∧ a ≤ 50000 ∧ o ≤ b ∧ o ≤ 20000 ∧ (17 ≤ qo ∧ qo ≤ b ∧ ∀ i, -128 ≤ h i ∧ h i ≤ 127) ∧ b ≤ 50000 := ⟨d.1, d.2.1, d.2.2.1, d.2.2.2.1, d.2.2.2.2.1, ⟨d.2.2.2.2.2.1.1, d.2.2.2.2.2.1.2.1, fun i => by rw [e i]; exact d.2.2.2.2.2.1.2.2 i⟩, d.2.2.2.2.2.2⟩
/-- TERMS without PREDICATES -/
def TyT (pd : Int → Prop) : T → Prop
  | .leaf _ => True
  | .branch l k s => ¬ pd (cl l) ∧ (0 ≤ cl l → TyT pd k) ∧ TyT pd s
/-- a LITERAL: P = TRUE, or an EQUATION of TERMS that are no PREDICATES -/
def TyL (pd : Int → Prop) (a : Lt) : Prop := (0 < cl a.2.1.1 ∧ pd (cl a.2.1.1) ∧ TyT pd a.2.1.2 ∧ a.2.2 = (0, nl)) ∨ (TyT pd (tt a.2.1) ∧ TyT pd (tt a.2.2))
def TyA (pd : Int → Prop) (Cs : List CL) : Prop := ∀ c ∈ Cs, ∀ a ∈ c.1, TyL pd a
/-- a CLAUSE comes of those before it -/
def PrA (Cs : List CL) : Prop := ∀ (k : Nat) c, Cs[k]? = some c → c.2.2.1 < (k : Int) ∧ c.2.2.2.1 < (k : Int) ∧ ∀ u ∈ cus c, 0 ≤ u ∧ u < (k : Int)
def IvA (pd : Int → Prop) (Cs : List CL) : Prop := TyA pd Cs ∧ PrA Cs
/-- THE CLASS AND THE REFERENCE SAY THE SAME -/
def TL (qo : Nat) (σ ρ : zS) (n : Nat) : Prop := ∃ (ar : Int → Nat) (pd : Int → Prop) (m9 : Int) (A : PA) (P : List Int) (T : Nat) (nm : PN) (o : Nat), (T ≤ A.1.length ∧ ar 0 = 0 ∧ (nm.length : Int) < m9 ∧ pd 0 ∧ IvA pd A.1 ∧ ∀ c, c < 0 → ¬ pd c) ∧ SI ar pd m9 σ A P ∧ CR σ T m9 nm ∧ RQ0 ar pd m9 ρ A P ∧ RR ρ ar pd m9 T nm ∧ IOr qo σ ρ n o
/-- what is counted of a call is set back before the next -/
def rst (τ : zS) : zS := (τ.1, τ.2.1, fun j => if j = 3000 ∨ j = 3001 ∨ j = 3002 then 0 else τ.2.2 j)
theorem rst_l {τ : zS} {j : Nat} (h : j ≠ 3000 ∧ j ≠ 3001 ∧ j ≠ 3002) : (rst τ).2.2 j = τ.2.2 j := by
  show (if _ then _ else _) = _
  rw [if_neg (by omega)]
theorem rst_f {τ : zS} : FrC [] [3000] τ (rst τ) := by
  refine ⟨fun _ _ => rfl, fun _ _ _ => rfl, fun j hj h1 h2 => rst_l ⟨fun q => by subst q; exact absurd hj (by decide), h1, h2⟩, ?_⟩
  have e : rl (rst τ) = rl τ := by unfold rl; simp [rst]
  unfold Mg
  rw [e]
  have e1 : (rst τ).2.2 3001 = 0 := by simp [rst]
  have e2 : (rst τ).2.2 3002 = 0 := by simp [rst]
  rw [e1, e2]
  omega
theorem RL.r {τ : zS} (h : RL τ) : RL (rst τ) := fun j hj => by
  have : j ≠ 3000 ∧ j ≠ 3001 ∧ j ≠ 3002 := by
    refine ⟨?_, ?_, ?_⟩ <;> (intro q; subst q; exact absurd hj (by decide))
  rw [rst_l this]; exact h j hj
theorem rst_z {σ : zS} {c : Nat} : rst (zT σ c) = rst σ := by
  unfold rst zT
  refine Prod.ext rfl (Prod.ext rfl (funext (fun j => ?_)))
  dsimp only
  by_cases q : j = 3000 ∨ j = 3001 ∨ j = 3002
  · rw [if_pos q, if_pos q]
  · rw [if_neg q, if_neg q]
    rw [va_up_ne _ _ (by omega), va_up_ne _ _ (by omega), va_up_ne _ _ (by omega)]
theorem TL.r {σ ρ : zS} {n : Nat} (h : TL qo σ ρ n) : TL qo (rst σ) ρ n := by
  obtain ⟨ar, pd, m9, A, P, T, nm, o, d, s, c, q, r, i⟩ := h
  exact ⟨ar, pd, m9, A, P, T, nm, o, d, s.f rst_f s.1.2.2.2.2.2.1.r, c.f rst_f, q, r, i.f rst_f (FrC.refl (I := []) (A := []))⟩
