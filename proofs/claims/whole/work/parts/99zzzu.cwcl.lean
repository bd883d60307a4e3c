/-! the class writes a CLAUSE, reduces it and adds it -/
theorem wcl_ok {σ0 : zS} {NN : List N6} {TT : List Int} {sn : Int} {F0 : Nat} {fr : List Int} {b : Nat} {w : Nat → Nat} {ar : Int → Nat} {p : Int → Prop} {nm : PN} {β : Nat} (hβ : 72 ≤ β) (h0 : WS0 σ0 NN TT ar p nm) {f : Tm} (hf : FS (tt f)) {is : Bool} {i : Nat} {E : VE} {lo : Nat} {c : List Lt}
    (hF : CFs σ0 b NN TT sn (tt f) [] lo) (hV : CVs σ0 sn F0 fr []) (hE : E.map (fun x => (x.1 : Int)) = fr) (hC : CE σ0 E) (hW : WFo1 nm f (fun v => v ∈ fr)) (hK : wK (fun v => 0 ≤ σ0.2.1 26 (v : Int) ∧ w v = cu (σ0.2.1 26 (v : Int))) f is) (hn : nF f is ≤ 200) (hc : (cFm w f E is)[i]? = some c) (hN : ∃ N, DN σ0 N) (hM : Mb σ0 ∧ RL σ0) (h30 : 16 ≤ σ0.2.2 30 ∧ σ0.2.2 30 ≤ 250000) (hsz : szn f.1 f.2 ≤ 20000) :
    ∃ τ, yE tG_For_writeClause β σ0 [((lo + szn f.1 f.2 - 1 : Nat) : Int), bi is, (i : Int)] = some (τ, 0) ∧ FrC WIc WAc σ0 τ ∧ (Mb τ ∧ RL τ) ∧ (16 ≤ τ.2.2 30 ∧ τ.2.2 30 ≤ 250000) ∧ DQ τ (qaddL (some []) (toQ c)) ∧ (0 ≤ τ.1 3905 ∧ τ.1 3905 ≤ 8) ∧ (qaddL (some []) (toQ c) ≠ none → ∀ v, σ0.2.1 17 v = -2 → τ.2.1 27 v = σ0.2.1 27 v) := by
  obtain ⟨σ1, a1, a2, a3⟩ := dclear_ok (β := β - 1) hN
  have fI : FrC [2901] [] σ1 (zI σ1 2901 0) := FrC_I
  obtain ⟨σ2, hs2⟩ : ∃ s, s = zI σ1 2901 0 := ⟨_, rfl⟩
  rw [← hs2] at fI
  have f2 : FrC WIc WAc σ0 σ2 := FrC.trans a2.w fI.w
  have M2 : Mb σ2 ∧ RL σ2 := ⟨hM.1.m f2.2.2.2, (hM.2.f a2).f fI⟩
  have l30 : σ2.2.2 30 = σ0.2.2 30 := by rw [fI.l 30, a2.l 30]
  have R2 : RowC σ2 2901 30 [] := ⟨by rw [hs2, zI_1]; rfl, by simp, by rw [l30]; exact h30.1, trivial⟩
  obtain ⟨σ3, b1, b2, b3, b4, b5⟩ := later_ok (β := β - 1) R2 M2 (by rw [l30]; exact h30.2) (by simp) (a := ((lo + szn f.1 f.2 - 1 : Nat) : Int)) (c := (i : Int)) (s := is)
  have f3 : FrC WIc WAc σ0 σ3 := f2.trans b3.w
  have hQ3 : DQ σ3 (some []) := (a3.f fI).f b3
  have h5 : σ3.1 3905 = 0 := hQ3.2.2.2.1
  have hS : WSt σ0 σ3 ([] ++ [((lo + szn f.1 f.2 - 1 : Nat) : Int), bi is, (i : Int)]) (some []) := ⟨f3, b4, b5, b2, hQ3, by rw [h5]; decide, by rw [h5]; decide⟩
  have k27 : ∀ v, σ3.2.1 27 v = σ0.2.1 27 v := fun v => by rw [b3.a 27, fI.a 27, a2.a 27]
  have o := cwc_ok (x0 := ((lo + szn f.1 f.2 - 1 : Nat) : Int)) (x1 := bi is) (x2 := (i : Int)) (β := β) (by omega) h0 f hf is i E [] lo σ3 [] [] 0 c hF hV (by rw [List.reverse_nil, List.append_nil]; exact hE) (hC.k hE FrC.refl f3 (fun v _ => k27 v)) (by rw [List.reverse_nil, List.append_nil]; exact hW) hK hn hc hS (by simp; omega) (by simp; omega) (by omega)
  have run : yE tG_For_writeClause β σ0 [((lo + szn f.1 f.2 - 1 : Nat) : Int), bi is, (i : Int)] = yE tG_For_writeClause_p23 β σ3 [((lo + szn f.1 f.2 - 1 : Nat) : Int), bi is, (i : Int), ((0 : Nat) : Int)] := by
    rw [yq_For_writeClause, kY_For_writeClause, if_pos (by omega), zbd_of a1, lt_e, if_pos (by omega), ← hs2, zbd_of b1]
    rfl
  rw [run]
  rcases o with ⟨o1, τ, o2, o3, o4, o5, o6, o7⟩ | ⟨o1, τ, g2, o2, o3, ⟨o4, o5, o6, o7, o8, o9⟩, o10⟩
  · exact ⟨τ, o2, o3, o4, o5, by rw [o1]; exact o6, o7, fun h => absurd o1 h⟩
  · refine ⟨τ, ?_, o4, o5, ⟨o7.2.2.1, o6⟩, o8, o9, fun _ v hv => by rw [o10 v (Or.inr hv), k27]⟩
    have h0 : τ.1 2901 = 0 := o7.1
    rw [o2, yq_For_writeClause_p23, kY_For_writeClause_p23, if_neg (by omega), if_pos (by omega), yq_For_writeClause_p137, kY_For_writeClause_p137]
/-- what the class keeps while it writes -/
theorem CI.wr {ar : Int → Nat} {pd : Int → Prop} {m9 : Int} {σ τ : zS} {A : PA} (h : CI ar pd m9 σ A) (g : FrC [2901, 3904, 3905, 3906, 3907, 3911] [27, 30, 40, 41, 42, 43, 44, 45, 46] σ τ) (hM : Mb τ ∧ RL τ) (hN : ∃ N, DN τ N) (h5 : 0 ≤ τ.1 3905 ∧ τ.1 3905 ≤ 8) : CI ar pd m9 τ A := by
  obtain ⟨c1, c2, c3, c4, c5, c6, c7, c8, c9, c10, c11, c12⟩ := id h
  refine ⟨c1.f g, c2, c3.f g, c4.f g, hM.1, hM.2, c7.f g, hN, h5, c10, fun k c hk hs => ?_, c12.f (A := A) g⟩
  have := c11 k c hk hs
  unfold JG at *
  intro i a ha
  rw [g.a 48, g.a 48]; exact this i a ha
/-- what a CLAUSE of the TEXT adds -/
noncomputable def txA (C : List Lt) (Cs : List CL) : List CL := @ite _ (tautL (rnL [] (ddL [] C))) (Classical.propDecidable _) Cs (Cs ++ [(rnL [] (ddL [] C), 0, -1, -1, 0, [])])
abbrev tI : List Nat := [2901, 3904, 3905, 3906, 3907, 3911, 4701, 5101, 5402]
abbrev tA : List Nat := [27, 30, 40, 41, 42, 43, 44, 45, 46, 48, 52]
abbrev tI2 : List Nat := [3904, 3905, 3906, 4701, 5101, 5402]
abbrev tA2 : List Nat := [40, 41, 42, 43, 45, 48, 52]
theorem text_ok {ar : Int → Nat} {pd : Int → Prop} {m9 : Int} {p : Int → Prop} (hp : ∀ c, p c → c < m9) {β : Nat} (hβ : 2 ≤ β) {σ : zS} {A : PA} (hI : CI ar pd m9 σ A) {C : List Lt} (w : WL ar p C) (hb : inB C) (hQ : DQ σ (some (toQ C))) (hn : A.1.length < 2000) :
    ∃ σ2, yE tC_Dra_reduce β σ [] = some (σ2, 0) ∧ yE tC_Dra_isTautology β σ2 [] = some (σ2, b2 (tautL (rnL [] (ddL [] C)))) ∧ FrC tI2 tA2 σ σ2 ∧ (tautL (rnL [] (ddL [] C)) → CI ar pd m9 σ2 A) ∧ (¬ tautL (rnL [] (ddL [] C)) → ∃ τ r, yE tG_Sto_add β σ2 [0, -1, -1] = some (τ, r) ∧ FrC tI2 tA2 σ τ ∧ CI ar pd m9 τ (A.1 ++ [(rnL [] (ddL [] C), 0, -1, -1, 0, [])], A.2)) := by
  obtain ⟨c1, c2, c3, c4, c5, c6, c7, c8, c9, c10, c11, c12⟩ := id hI
  have hE := DQ_DE hQ w
  have wR := rnL_wf c2 hp w hb.2.2
  obtain ⟨σ2, r1, r2, r3, r4⟩ := creduce_ok (β := β) hβ hE wR
  obtain ⟨t1, t2⟩ := rn_twice c2 hp w hb.2.2
  rw [t1] at r3
  rw [t2] at r4
  have hnew := Wc_new c2 hp w hb
  have ct := ctaut_ok (β := β) hβ r3 hnew.2.2.2.2
  have h8' : 0 ≤ σ2.1 3905 ∧ σ2.1 3905 ≤ 8 := by rw [r3.1]; have := r3.2.1; omega
  have N2 : ∃ N, DN σ2 N := by obtain ⟨N, hN⟩ := c8; exact ⟨N, hN.f r2⟩
  have M2 : Mb σ2 ∧ RL σ2 := ⟨c5.m r2.2.2.2, c6.f r2⟩
  have hI2 : CI ar pd m9 σ2 A := hI.wr r2.w M2 N2 h8'
  refine ⟨σ2, r1, ct, r2.w, fun _ => hI2, fun _ => ?_⟩
  obtain ⟨c1, c2, c3, c4, c5, c6, c7, c8, c9, c10, c11, c12⟩ := id hI2
  obtain ⟨τ, a1, a2, a3, a4, a5, a6, a7, a8, _⟩ := add_ok (β := β) (x0 := 0) (x1 := -1) (x2 := -1) c3 r3 (fun a ha => (hnew.2.2.2.2 a ha).1) (by rw [r4]; rw [keep_ok.rn_len C w hb.2.2 c2 hp]) c5 c6 hn (szC_140 c10)
  have n4 := c3.2.2.1
  refine ⟨τ, _, a1, FrC.trans r2.w a2.w, ⟨?_, c2, a3, c4.f a2, a4, a5, c7.f a2, ?_, by rw [a2.i 3905]; exact h8', fun c hc => ?_, fun k c hk hs => ?_, ⟨fun k k0 k1 => ?_, ?_⟩⟩⟩
  · refine ⟨c1.1.q (fun q => a2.a 7 q), c1.2.1, fun c a b => by rw [a2.a 12]; exact c1.2.2.1 c a b, ?_, ?_, ?_⟩
    · have := a3.2.2.1; omega
    · exact a3.2.2.2.2.1.1
    · have := a3.2.2.2.2.1.2.1; omega
  · obtain ⟨N, hN⟩ := c8; exact ⟨N, hN.f a2⟩
  · rcases List.mem_append.mp hc with z | z
    · exact c10 c z
    · simp at z; subst z; exact hnew
  · by_cases hkl : k < A.1.length
    · rw [List.getElem?_append_left hkl] at hk
      have hJ := c11 k c hk hs
      have hpp : pos (A.1 ++ [(rnL [] (ddL [] C), 0, -1, -1, 0, [])]) k = pos A.1 k := by unfold pos; rw [List.take_append_of_le_length (by omega)]
      rw [hpp]
      intro i a ha
      obtain ⟨z1, z2⟩ := hJ i a ha
      have hh := c3.hl hk ha
      obtain ⟨_, _, _, _, _, h6, h7, _⟩ := hh
      have t1 := tw_pos a.2.1
      have t2 := tw_pos a.2.2
      rw [a6 _ (by omega) (by omega), a6 _ (by omega) (by omega)]
      exact ⟨z1, z2⟩
    · have hk2 : k = A.1.length := by
        have := (List.getElem?_eq_some_iff.mp hk).1
        simp at this; omega
      subst hk2
      rw [List.getElem?_append_right (Nat.le_refl _)] at hk
      simp at hk
      subst hk
      exact absurd (show (0:Int) = 1 from hs) (by decide)
  · have el : ((A.1 ++ [(rnL [] (ddL [] C), 0, -1, -1, 0, [])] : List CL).length : Int) = (A.1.length : Int) + 1 := by simp
    have k1' : k < (A.1.length : Int) + 1 := by rw [← el]; exact k1
    by_cases e : k = (A.1.length : Int)
    · rw [e]; exact a8
    · rw [a7 _ (by omega) (by omega)]; exact c12.1 k k0 (by omega)
  · have el : ((A.1 ++ [(rnL [] (ddL [] C), 0, -1, -1, 0, [])] : List CL).length : Int) = (A.1.length : Int) + 1 := by simp
    show τ.1 4901 ≤ 60 * ((A.1 ++ [(rnL [] (ddL [] C), 0, -1, -1, 0, [])] : List CL).length : Int)
    have := c12.2
    rw [el, a2.i 4901]; omega
