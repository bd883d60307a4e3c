/-! frames of what writes LITERALS -/
abbrev DG (σ τ : zS) : Prop := FrC [3904, 3905, 3907, 3911] [40, 41, 42, 43, 44, 46] σ τ
theorem SC.f {I A : List Nat} {σ τ : zS} {Cs : List CL} (h : SC σ Cs) (f : FrC I A σ τ) (i1 : I.elem 5402 = false := by decide) (i2 : I.elem 4701 = false := by decide) (i3 : I.elem 5101 = false := by decide) (i4 : I.elem 4901 = false := by decide) (a1 : A.elem 48 = false := by decide) (a2 : A.elem 50 = false := by decide) (a3 : A.elem 52 = false := by decide) : SC τ Cs := by
  obtain ⟨h1, h2⟩ := SC_iff.mp h
  have e52 : ∀ q, τ.2.1 52 q = σ.2.1 52 q := fun q => f.2.1 52 q a3
  have e50 : ∀ q, τ.2.1 50 q = σ.2.1 50 q := fun q => f.2.1 50 q a2
  have e48 : ∀ q, τ.2.1 48 q = σ.2.1 48 q := fun q => f.2.1 48 q a1
  refine SC_iff.mpr ⟨fun i d hd => ?_, ?_⟩
  · obtain ⟨b1, b2, b3, b4, b5, b6⟩ := h1 i d hd
    exact ⟨by unfold FK at *; simp only [e52]; exact b1, LL_q (fun q _ _ _ => e48 q) b2, by rw [e52]; exact b3, by rw [e52, f.1 4901 i4]; exact b4, by rw [e52]; exact Fl_q (fun q _ _ => e50 q) b5, by rw [e52]; exact b6⟩
  · unfold SN at *
    rw [f.1 5402 i1, f.1 4701 i2, f.1 5101 i3, f.1 4901 i4, f.2.2.1 48 a1 (by decide) (by decide), f.2.2.1 50 a2 (by decide) (by decide), f.2.2.1 52 a3 (by decide) (by decide)]
    exact h2
theorem WC.f {I A : List Nat} {ar : Int → Nat} {pd : Int → Prop} {m9 : Int} {σ τ : zS} {rt : Int → Int} {vl : Int → Option Tm} {th : Vs} {rh : Int → Nat} (h : WC ar pd m9 σ rt vl th rh) (f : FrC I A σ τ) (h1 : I.elem 4701 = false := by decide) (h2 : A.elem 7 = false := by decide) (h3 : A.elem 12 = false := by decide) (h4 : A.elem 48 = false := by decide) (h5 : A.elem 60 = false := by decide) (h6 : A.elem 61 = false := by decide) (h7 : A.elem 62 = false := by decide) (h8 : I.elem 5906 = false := by decide) (h9 : I.elem 5907 = false := by decide) : WC ar pd m9 τ rt vl th rh := by
  obtain ⟨a1, a2, a3, a4, a5⟩ := h
  refine ⟨a1.f f h1 h2 h3 h4, fun v x y => by rw [f.2.1 60 v h5]; exact a2 v x y, fun r x y z => ?_, a4, a5⟩
  rw [f.2.1 61 r h6, f.2.1 62 r h7]
  obtain ⟨b1, b2⟩ := a3 r x y z
  refine ⟨b1, fun w hw => ?_⟩
  obtain ⟨y1, y2, y3⟩ := b2 w hw
  exact ⟨y1, y2, y3.f f h1 h8 h9 h4⟩
theorem HL.f {I A : List Nat} {σ τ : zS} {p : Int} {a : Lt} (h : HL σ p a) (f : FrC I A σ τ) (h1 : I.elem 4701 = false := by decide) (h4 : A.elem 48 = false := by decide) : HL τ p a := by
  have e : ∀ q, τ.2.1 48 q = σ.2.1 48 q := fun q => f.2.1 48 q h4
  have l := f.2.2.1 48 h4 (by decide) (by decide)
  have i := f.1 4701 h1
  obtain ⟨a1, a2, a3, a4, a5, a6, a7, a8, a9⟩ := h
  exact ⟨by rw [e]; exact a1, by rw [e]; exact a2, by rw [e]; exact a3, Fl_q (fun i _ _ => e i) a4, Fl_q (fun i _ _ => e i) a5, a6, by rw [i]; exact a7, by rw [i, l]; exact a8, by rw [l]; exact a9⟩
/-- a LITERAL as it is written -/
def wrQ (th : Vs) (b : Int) (a : Lt) : QL := (a.1, exL th b (fl (tt a.2.1)), exL th b (fl (tt a.2.2)))
/-- a LITERAL with its VARIABLES moved -/
def slL (b : Int) (a : Lt) : Lt := (a.1, shT b a.2.1, shT b a.2.2)
theorem wrQ_to {ar : Int → Nat} {p : Int → Prop} {th : Vs} {b : Int} (hb : 0 ≤ b) : ∀ {C : List Lt}, WL ar p C → C.map (wrQ th b) = toQ (mpL (st th) (C.map (slL b)))
  | [], _ => rfl
  | a :: C, h => by
    obtain ⟨_, w1, w2⟩ := h a List.mem_cons_self
    have e1 : fl (tt (st th (shT b a.2.1))) = exL th b (fl (tt a.2.1)) := fl_su (F := tt a.2.1) hb w1
    have e2 : fl (tt (st th (shT b a.2.2))) = exL th b (fl (tt a.2.2)) := fl_su (F := tt a.2.2) hb w2
    have ih := wrQ_to (th := th) hb (C := C) (fun c hc => h c (List.mem_cons_of_mem _ hc))
    show wrQ th b a :: C.map (wrQ th b) = (a.1, fl (tt (st th (shT b a.2.1))), fl (tt (st th (shT b a.2.2)))) :: toQ (mpL (st th) (C.map (slL b)))
    rw [ih, e1, e2]; rfl
/-- all but those at i and j -/
def oth (i j : Nat) : Nat → List Lt → List Lt
  | _, [] => []
  | n, a :: C => if n = i ∨ n = j then oth i j (n + 1) C else a :: oth i j (n + 1) C
theorem oth_mem {i j : Nat} : ∀ {C : List Lt} {n : Nat} {a : Lt}, a ∈ oth i j n C → a ∈ C
  | [], n, a, h => by cases h
  | b :: C, n, a, h => by
    simp only [oth] at h
    split at h
    · exact List.mem_cons_of_mem _ (oth_mem h)
    · rcases List.mem_cons.mp h with rfl | h
      · exact List.mem_cons_self
      · exact List.mem_cons_of_mem _ (oth_mem h)
/-- the sides of a LITERAL, as cells -/
theorem HL.lbs {ar : Int → Nat} {m9 : Int} {a : Lt} (w1 : wf ar (lb m9) (tt a.2.1)) (w2 : wf ar (lb m9) (tt a.2.2)) : (∀ c ∈ fl (tt a.2.1), lb m9 c) ∧ ∀ c ∈ fl (tt a.2.2), lb m9 c := ⟨fun c hc => wf_fl w1 c hc, fun c hc => wf_fl w2 c hc⟩
/-- one LITERAL is written, its sides from cells p .. and q .. -/
theorem wlit {ar : Int → Nat} {pd : Int → Prop} {m9 : Int} {σ : zS} {rt : Int → Int} {vl : Int → Option Tm} {th : Vs} {rh : Int → Nat} (hW : WC ar pd m9 σ rt vl th rh) {β : Nat} (hβ : 15 ≤ β) {q : Option (List QL)} (hQ : DQ σ q) (h8 : 0 ≤ σ.1 3905 ∧ σ.1 3905 ≤ 8) {s : Int} (hs : s = 0 ∨ s = 1) {L R : List Int} {u v b c : Int} (hb : b = 0 ∨ b = 6) (hc : c = 0 ∨ c = 6) (hL : Fl (σ.2.1 48) u L) (lL : ∀ x ∈ L, lb m9 x) (u0 : 0 ≤ u) (u1 : u + (L.length : Int) ≤ σ.1 4701) (hR : Fl (σ.2.1 48) v R) (lR : ∀ x ∈ R, lb m9 x) (v0 : 0 ≤ v) (v1 : v + (R.length : Int) ≤ σ.1 4701) :
    ∃ σ1 σ2 σ3 σ4 σ5, yE tC_Dra_openLiteral β σ [s] = some (σ1, 0) ∧ yE tC_Uni_write β σ1 [u, u + (L.length : Int), b, 0] = some (σ2, 0) ∧ yE tC_Dra_openRight β σ2 [] = some (σ3, 0) ∧ yE tC_Uni_write β σ3 [v, v + (R.length : Int), c, 0] = some (σ4, 0) ∧ yE tC_Dra_closeLiteral β σ4 [] = some (σ5, 0) ∧ DG σ σ1 ∧ DG σ σ2 ∧ DG σ σ3 ∧ DG σ σ4 ∧ DG σ σ5 ∧ DQ σ5 (qadd q (s, exL th b L, exL th c R)) ∧ (0 ≤ σ5.1 3905 ∧ σ5.1 3905 ≤ 8) := by
  obtain ⟨σ1, e1, f1, o1⟩ := open_ok (β := β) hQ hs h8
  have g1 : DG σ σ1 := f1.w
  obtain ⟨D1, d1, d2⟩ := o1.w
  obtain ⟨σ2, e2, f2, d3⟩ := uw_ok (hW.f g1) (β := β) (L := L) (i := u) (to := u + (L.length : Int)) hb FrC.refl d1 (Fl_q (fun i _ _ => g1.a 48 i) hL) lL u0 rfl (by rw [g1.i 4701]; exact u1) hβ
  have g2 : DG σ σ2 := g1.trans f2.w
  have o2 := d2 σ2 _ f2 d3
  rw [List.nil_append] at o2
  obtain ⟨σ3, e3, f3, o3⟩ := right_ok (β := β) o2
  have g3 : DG σ σ3 := g2.trans f3.w
  obtain ⟨D2, d4, d5⟩ := o3.w
  obtain ⟨σ4, e4, f4, d6⟩ := uw_ok (hW.f g3) (β := β) (L := R) (i := v) (to := v + (R.length : Int)) hc FrC.refl d4 (Fl_q (fun i _ _ => g3.a 48 i) hR) lR v0 rfl (by rw [g3.i 4701]; exact v1) hβ
  have g4 : DG σ σ4 := g3.trans f4.w
  have o4 := d5 σ4 _ f4 d6
  rw [List.nil_append] at o4
  obtain ⟨σ5, e5, f5, o5, o6⟩ := close_ok (β := β) o4
  have g5 : DG σ σ5 := g4.trans f5.w
  have h905 : σ4.1 3905 = σ.1 3905 := by rw [f4.i 3905, f3.i 3905, f2.i 3905, f1.i 3905]
  exact ⟨σ1, σ2, σ3, σ4, σ5, e1, e2, e3, e4, e5, g1, g2, g3, g4, g5, o5, by omega⟩
theorem others_ok {ar : Int → Nat} {pd : Int → Prop} {m9 : Int} {σ : zS} {rt : Int → Int} {vl : Int → Option Tm} {th : Vs} {rh : Int → Nat} (hW : WC ar pd m9 σ rt vl th rh) {Cs : List CL} (hS : SC σ Cs) {k : Nat} {c : CL} (hc : Cs[k]? = some c) (wc : Wc ar m9 c.1) {i j : Nat} {x1 x2 : Int} (h1 : ∀ n a, c.1[n]? = some a → (hp (pos Cs k) c.1 n = x1 ↔ n = i)) (h2 : ∀ n a, c.1[n]? = some a → (hp (pos Cs k) c.1 n = x2 ↔ n = j)) {b : Int} (hb : b = 0 ∨ b = 6) {β : Nat} (hβ : 16 ≤ β) {q : Option (List QL)} (hQ : DQ σ q) (h8 : 0 ≤ σ.1 3905 ∧ σ.1 3905 ≤ 8) : ∃ τ, yE tC_Sat_writeOthers β σ [(k : Int), x1, x2, b] = some (τ, 0) ∧ DG σ τ ∧ DQ τ (qaddL q ((oth i j 0 c.1).map (wrQ th b))) ∧ (0 ≤ τ.1 3905 ∧ τ.1 3905 ≤ 8) := by
  have w8 := wc.1
  have loop : ∀ (m n : Nat) (ρ : zS) (q : Option (List QL)), n + m = c.1.length → DG σ ρ → DQ ρ q → (0 ≤ ρ.1 3905 ∧ ρ.1 3905 ≤ 8) → ∃ τ, yE tC_Sat_writeOthers_p15 β ρ [(k : Int), x1, x2, b, hp (pos Cs k) c.1 n, (n : Int)] = some (τ, 0) ∧ DG σ τ ∧ DQ τ (qaddL q ((oth i j n (c.1.drop n)).map (wrQ th b))) ∧ (0 ≤ τ.1 3905 ∧ τ.1 3905 ≤ 8) := by
    intro m
    induction m with
    | zero =>
      intro n ρ q hn f hQ h8
      have hS' := hS.f f
      refine ⟨ρ, ?_, f, ?_, h8⟩
      · rw [yq_Sat_writeOthers_p15, kY_Sat_writeOthers_p15, if_pos (by omega), zbd_of (hS'.f3 hc).1, if_pos (by omega)]
      · have : c.1.drop n = [] := List.drop_eq_nil_of_le (by omega)
        rw [this]; exact hQ
    | succ m ih =>
      intro n ρ q hn f hQ h8
      have hS' := hS.f f
      have hl : n < c.1.length := by omega
      have ea := List.getElem?_eq_getElem hl
      have ham : c.1[n] ∈ c.1 := List.getElem_mem hl
      have ha := hS'.hl hc ea
      have edr : c.1.drop n = c.1[n] :: c.1.drop (n + 1) := List.drop_eq_getElem_cons hl
      have p134 : ∀ ρ2 : zS, DG σ ρ2 → yE tC_Sat_writeOthers_p134 β ρ2 [(k : Int), x1, x2, b, hp (pos Cs k) c.1 n, (n : Int)] = yE tC_Sat_writeOthers_p15 β ρ2 [(k : Int), x1, x2, b, hp (pos Cs k) c.1 (n + 1), ((n + 1 : Nat) : Int)] := fun ρ2 f2 => by
        rw [yq_Sat_writeOthers_p134, kY_Sat_writeOthers_p134, if_pos (by omega), zbd_of (behind_ok ((hS.f f2).hl hc ea)), if_pos (by omega), ← hp_s ea, show (n : Int) + 1 = ((n + 1 : Nat) : Int) by omega]
      rw [yq_Sat_writeOthers_p15, kY_Sat_writeOthers_p15, if_pos (by omega), zbd_of (hS'.f3 hc).1, if_neg (by omega), edr]
      simp only [oth]
      by_cases n1 : n = i
      · rw [if_pos ((h1 n _ ea).mpr n1), if_pos (Or.inl n1), p134 ρ f]
        exact ih (n + 1) ρ q (by omega) f hQ h8
      · rw [if_neg (fun w => n1 ((h1 n _ ea).mp w))]
        by_cases n2 : n = j
        · rw [if_pos ((h2 n _ ea).mpr n2), if_pos (Or.inr n2), p134 ρ f]
          exact ih (n + 1) ρ q (by omega) f hQ h8
        · rw [if_neg (fun w => n2 ((h2 n _ ea).mp w)), if_neg (show ¬ (n = i ∨ n = j) from fun w => w.elim n1 n2)]
          obtain ⟨s1, w1, w2⟩ := wc.2.2.2.2 _ ham
          obtain ⟨a1, a2, a3, a4, a5, a6, a7, a8, a9⟩ := id ha
          have hs : b2 (c.1[n].1 = 1) = c.1[n].1 := by
            rcases s1 with z | z
            · rw [b2_f (by omega), z]
            · rw [b2_t z, z]
          obtain ⟨σ1, σ2, σ3, σ4, σ5, e1, e2, e3, e4, e5, g1, g2, g3, g4, g5, o5, o6⟩ := wlit (hW.f f) (β := β - 1) (by omega) hQ h8 s1 (L := fl (tt c.1[n].2.1)) (R := fl (tt c.1[n].2.2)) hb hb a4 (HL.lbs w1 w2).1 (by omega) (by rw [tt_len]; omega) a5 (HL.lbs w1 w2).2 (by omega) (by rw [tt_len]; omega)
          rw [tt_len] at e2 e4
          obtain ⟨τ, t1, t2, t3, t4⟩ := ih (n + 1) σ5 _ (by omega) (f.trans g5) o5 o6
          refine ⟨τ, ?_, t2, t3, t4⟩
          rw [if_pos (by omega), zbd_of (side1_ok ha), if_pos (by omega), zbd_of (pos_ok ha), hs, if_pos (by omega), zbd_of e1, if_pos (by omega), zbd_of (side0_ok (ha.f g1)), if_pos (by omega), zbd_of e2, if_pos (by omega), zbd_of e3, if_pos (by omega), zbd_of (behind_ok (ha.f g3)), if_pos (by omega), zbd_of e4, if_pos (by omega), zbd_of e5, p134 σ5 (f.trans g5)]
          exact t1
  obtain ⟨τ, t1, t2, t3, t4⟩ := loop c.1.length 0 σ q (by omega) FrC.refl hQ h8
  refine ⟨τ, ?_, t2, by simpa using t3, t4⟩
  rw [hp_0] at t1
  rw [yq_Sat_writeOthers, kY_Sat_writeOthers, if_pos (by omega), zbd_of (hS.f3 hc).2.1]
  exact t1
/-- the pair that FACTORING adds -/
theorem pair_ok {ar : Int → Nat} {pd : Int → Prop} {m9 : Int} {σ : zS} {rt : Int → Int} {vl : Int → Option Tm} {th : Vs} {rh : Int → Nat} (hW : WC ar pd m9 σ rt vl th rh) {p1 p2 : Int} {a1 a2 : Lt} (ha : HL σ p1 a1) (hb : HL σ p2 a2) {s t : Int} (hs : s = 0 ∨ s = 1) (ht : t = 0 ∨ t = 1) (w1 : wf ar (lb m9) (tt (sdT a1 s))) (w2 : wf ar (lb m9) (tt (sdT a2 t))) {sg : Int} (hsg : sg = 0 ∨ sg = 1) {β : Nat} (hβ : 16 ≤ β) {q : Option (List QL)} (hQ : DQ σ q) (h8 : 0 ≤ σ.1 3905 ∧ σ.1 3905 ≤ 8) : ∃ τ, yE tC_Sat_writePair β σ [sg, p1, s, p2, t] = some (τ, 0) ∧ DG σ τ ∧ DQ τ (qadd q (sg, exL th 0 (fl (tt (sdT a1 s))), exL th 0 (fl (tt (sdT a2 t))))) ∧ (0 ≤ τ.1 3905 ∧ τ.1 3905 ≤ 8) := by
  obtain ⟨x1, x2, x3⟩ := ha.sd (s := s)
  obtain ⟨y1, y2, y3⟩ := hb.sd (s := t)
  have hl1 := hW.1.2.2.2.2.1
  have hl2 := hW.1.2.2.2.2.2
  obtain ⟨σ1, σ2, σ3, σ4, σ5, e1, e2, e3, e4, e5, g1, g2, g3, g4, g5, o5, o6⟩ := wlit hW (β := β - 1) (by omega) hQ h8 hsg (L := fl (tt (sdT a1 s))) (R := fl (tt (sdT a2 t))) (Or.inl rfl) (Or.inl rfl) x1 (fun c hc => wf_fl w1 c hc) x2 (by rw [tt_len]; exact x3) y1 (fun c hc => wf_fl w2 c hc) y2 (by rw [tt_len]; exact y3)
  rw [tt_len] at e2 e4
  refine ⟨σ5, ?_, g5, o5, o6⟩
  rw [yq_Sat_writePair, kY_Sat_writePair, if_pos (by omega), zbd_of (side_ok ha hs), if_pos (by omega), zbd_of (side_ok hb ht), if_pos (by omega), zbd_of e1, if_pos (by omega), zbd_of (size_ok (ha.f g1) hs), if_pos (by omega), if_pos (by omega), zbd_of e2, if_pos (by omega), zbd_of e3, if_pos (by omega), zbd_of (size_ok (hb.f g3) ht), if_pos (by omega), if_pos (by omega), zbd_of e4, if_pos (by omega), zbd_of e5]
