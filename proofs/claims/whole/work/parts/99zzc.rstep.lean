/-! the reference: a STEP -/
section k87
variable {ar : Int → Nat} {pd : Int → Prop} {m9 : Int}
def Q87 (A B : PA) : Prop := B.2 87 = A.2 87 ∨ B.2 87 = 3
theorem Q87.refl (A : PA) : Q87 A A := Or.inl rfl
theorem Q87.tr {A B C : PA} (h : Q87 A B) (g : Q87 B C) : Q87 A C := by
  rcases g with g | g
  · rcases h with h | h
    · exact Or.inl (by rw [g, h])
    · exact Or.inr (by rw [g, h])
  · exact Or.inr g
theorem fo_87 {f : Nat → PA → PA} (h : ∀ o A, Q87 A (f o A)) : ∀ (m o : Nat) (A : PA), Q87 A (fo f m o A)
  | 0, o, A => Q87.refl A
  | m + 1, o, A => (h o A).tr (fo_87 h m (o + 1) (f o A))
theorem wh_87 {f : Nat → PA → PA} (h : ∀ o A, Q87 A (f o A)) : ∀ (m o : Nat) (A : PA), Q87 A (wh f m o A)
  | 0, o, A => Q87.refl A
  | m + 1, o, A => by
    show Q87 A (if A.2 87 = 0 then wh f m (o + 1) (f o A) else A)
    split
    · exact (h o A).tr (wh_87 h m (o + 1) (f o A))
    · exact Q87.refl A
theorem spS_87 {k1 k2 i j : Nat} {C1 C2 : List Lt} {a b : Lt} {s t : Int} (o : Nat) (A : PA) : Q87 A (spS ar pd m9 k1 C1 i a s k2 C2 j b t o A) := by
  unfold spS
  split
  · split
    · exact Q87.refl A
    · exact infA_87.2
  · exact Q87.refl A
theorem spB_87 {k1 k2 i : Nat} {C1 C2 : List Lt} {a : Lt} {s : Int} (o : Nat) (A : PA) : Q87 A (spB ar pd m9 k1 C1 i a s k2 C2 o A) := by
  unfold spB
  split
  · split
    · exact wh_87 spS_87 _ _ _
    · exact Q87.refl A
  · exact Q87.refl A
theorem spA_87 {k1 k2 : Nat} {C1 C2 : List Lt} (o : Nat) (A : PA) : Q87 A (spA ar pd m9 k1 C1 k2 C2 o A) := by
  unfold spA
  split
  · split
    · exact fo_87 spB_87 _ _ _
    · exact Q87.refl A
  · exact Q87.refl A
theorem supA_87 {k1 k2 : Nat} {C1 C2 : List Lt} (A : PA) : Q87 A (supA ar pd m9 k1 C1 k2 C2 A) := fo_87 spA_87 _ _ _
theorem ifS_87 {g : Nat} {G : List Lt} (o : Nat) (A : PA) : Q87 A (ifS ar pd m9 g G o A) := by
  unfold ifS
  split
  · split
    · split
      · exact supA_87 A
      · exact (supA_87 A).tr (supA_87 _)
    · exact Q87.refl A
  · exact Q87.refl A
theorem resA_87 {k : Nat} {C : List Lt} {i : Nat} (A : PA) : Q87 A (resA ar pd m9 k C i A) := by
  unfold resA
  split
  · split
    · exact infA_87.2
    · exact Q87.refl A
  · exact Q87.refl A
theorem ftS_87 {k i j : Nat} {C : List Lt} {a b : Lt} (o : Nat) (A : PA) : Q87 A (ftS ar pd m9 k C i a j b o A) := by
  unfold ftS
  split
  · exact infA_87.2
  · exact Q87.refl A
theorem facA_87 {k : Nat} {C : List Lt} (A : PA) : Q87 A (facA ar pd m9 k C A) := by
  refine fo_87 (fun i A => ?_) _ _ _
  unfold fcA
  split
  · split
    · refine fo_87 (fun j A => ?_) _ _ _
      unfold fcB
      split
      · exact Q87.refl A
      · split
        · exact wh_87 ftS_87 _ _ _
        · exact Q87.refl A
    · exact Q87.refl A
  · exact Q87.refl A
theorem ifA_87 {g : Nat} {G : List Lt} (A : PA) : Q87 A (ifA ar pd m9 g G A) := by
  unfold ifA
  split
  · exact (wh_87 ifS_87 _ _ _).tr (facA_87 _)
  · exact (wh_87 ifS_87 _ _ _).tr (resA_87 _)
theorem caS_87 {G : List Lt} (o : Nat) (A : PA) : Q87 A (caS pd G o A) := by
  unfold caS
  split
  · exact Q87.refl A
  · split
    · split
      · exact Or.inl (by show fu A.2 92 (zwa (A.2 92) 1) 87 = _; exact fu_o)
      · split
        · exact Or.inl rfl
        · exact Q87.refl A
    · exact Q87.refl A
end k87
/-- the reference between two STEPS: P is the proof -/
def RSt (ar : Int → Nat) (pd : Int → Prop) (m9 : Int) (σ : zS) (A : PA) (P : List Int) : Prop := RI ar pd m9 σ A ∧ (A.2 87 ≠ 1 → σ.1 88 < 0 ∧ P = []) ∧ (A.2 87 = 1 → ∃ e : Nat, e < A.1.length ∧ σ.1 88 = (e : Int) ∧ P = pfA A.1 e)
abbrev FSt (σ τ : zS) : Prop := FrC [47, 72, 84, 86, 87, 88, 89, 90, 91, 92, 93, 94, 98, 101, 105, 112, 113, 114, 116, 117, 118, 120] [43, 44, 45, 46, 66, 67, 68, 69, 70, 71, 73, 74, 75, 76, 77, 78, 79, 80, 81, 82, 83, 95, 96, 97, 100, 102, 103, 104, 106, 107, 108, 109, 110, 111, 115, 119, 1000, 1001, 1002, 1003, 1004, 1005, 1006, 1007, 1008] σ τ
section step
variable {ar : Int → Nat} {pd : Int → Prop} {m9 : Int}
theorem st_194 {β : Nat} (hβ : 1645 ≤ β) {g : Nat} {c : CL} {x1 : Int} : ∀ (m n : Nat) (σ : zS) (A : PA), n + m = A.1.length → A.1[g]? = some c → RI ar pd m9 σ A → (¬ ∃ (i : Nat) (d : CL), i < n ∧ A.1[i]? = some d ∧ cst d = 1 ∧ subL pd d.1 c.1) → ∃ τ, zE tM_step1_194 β σ [(g : Int), x1, (n : Int)] = some (τ, 0) ∧ RI ar pd m9 τ (@ite _ (∃ (i : Nat) (d : CL), A.1[i]? = some d ∧ cst d = 1 ∧ subL pd d.1 c.1) (Classical.propDecidable _) (A.1, fu A.2 92 (zwa (A.2 92) 1)) (ifA ar pd m9 g c.1 (stA (fo (caS pd c.1) A.1.length 0 A).1 g 1, (fo (caS pd c.1) A.1.length 0 A).2))) ∧ FSe σ τ
  | 0, n, σ, A, hm, hg, hI, hno => by
    have h84 := hI.1.1
    obtain ⟨τ, t1, t2, t3⟩ := se_ok (β := β - 1) (by omega) hg hI
    refine ⟨τ, ?_, ?_, t3⟩
    · rw [zq_step1_194, kZ_step1_194, if_pos (by omega), if_pos (by omega), zbd_of t1]
    · rw [if_neg (fun ⟨i, d, h1, h2⟩ => hno ⟨i, d, by have := (List.getElem?_eq_some_iff.mp h1).1; omega, h1, h2⟩)]
      exact t2
  | m + 1, n, σ, A, hm, hg, hI, hno => by
    have h84 := hI.1.1
    have h20 := hI.1.2.1
    obtain ⟨d, hd⟩ : ∃ d, A.1[n]? = some d := ⟨_, List.getElem?_eq_getElem (by omega)⟩
    have hk := (hI.1.k hd).1.2.2.2.2.2.2.2.1
    have e235 : ∀ ρ : zS, zE tM_step1_235 β ρ [(g : Int), x1, (n : Int)] = zE tM_step1_194 β ρ [(g : Int), x1, ((n + 1 : Nat) : Int)] := fun ρ => by rw [zq_step1_235, kZ_step1_235, if_pos (by omega), show (n : Int) + 1 = ((n + 1 : Nat) : Int) by omega]
    have nx : ¬ (cst d = 1 ∧ subL pd d.1 c.1) → ¬ ∃ (i : Nat) (d : CL), i < n + 1 ∧ A.1[i]? = some d ∧ cst d = 1 ∧ subL pd d.1 c.1 := fun h ⟨i, d', h1, h2, h3⟩ => by
      by_cases e : i = n
      · subst e
        rw [hd] at h2
        obtain rfl := Option.some.inj h2
        exact h h3
      · exact hno ⟨i, d', by omega, h2, h3⟩
    rw [zq_step1_194, kZ_step1_194, if_neg (by omega), if_pos (by omega), hk]
    by_cases h1 : cst d = 1
    · obtain ⟨σ1, s1, s2⟩ := rsub_ok (β := β - 1) (by omega) hI.1 hI.2.2.1 hd (hI.2.2.2.2.2 d (List.mem_of_getElem? hd)) hg (hI.2.2.2.2.2 c (List.mem_of_getElem? hg))
      have I1 := hI.f s2 s2.pq
      rw [if_pos h1, if_pos (by omega), zbd_of s1]
      by_cases h2 : subL pd d.1 c.1
      · have k92 : σ1.1 92 = A.2 92 := I1.2.2.2.1.2.2.2.2.1
        refine ⟨zI σ1 92 (zwa (σ1.1 92) 1), by rw [b2_t h2, if_neg (by decide), lt_e], ?_, s2.w.trans FrC_I⟩
        rw [if_pos ⟨n, d, hd, h1, h2⟩, k92]
        exact I1.u
      · obtain ⟨τ, t1, t2, t3⟩ := st_194 hβ (x1 := x1) m (n + 1) σ1 A (by omega) hg I1 (nx (fun w => h2 w.2))
        exact ⟨τ, by rw [b2_f h2, if_pos rfl, e235, t1], t2, s2.w.trans t3⟩
    · obtain ⟨τ, t1, t2, t3⟩ := st_194 hβ (x1 := x1) m (n + 1) σ A (by omega) hg hI (nx (fun w => h1 w.1))
      exact ⟨τ, by rw [if_neg h1, e235, t1], t2, t3⟩
/-- how a STEP ends that takes the CLAUSE g -/
noncomputable def stE (ar : Int → Nat) (pd : Int → Prop) (m9 : Int) (A : PA) (g : Nat) (c : CL) : PA × List Int := if c.1.length = 0 then ((A.1, fu A.2 87 1), pfA A.1 g) else (@ite _ (∃ (i : Nat) (d : CL), A.1[i]? = some d ∧ cst d = 1 ∧ subL pd d.1 c.1) (Classical.propDecidable _) (A.1, fu A.2 92 (zwa (A.2 92) 1)) (ifA ar pd m9 g c.1 (stA (fo (caS pd c.1) A.1.length 0 A).1 g 1, (fo (caS pd c.1) A.1.length 0 A).2)), [])
/-- what stepA makes of what gvB says -/
noncomputable def stG (ar : Int → Nat) (pd : Int → Prop) (m9 : Int) (Z : PA × Option Nat × List Int) : PA × List Int := match Z.2.1 with
  | none => (Z.1, Z.2.2)
  | some g => match Z.1.1[g]? with
    | none => (Z.1, [])
    | some c => (ifA ar pd m9 g c.1 Z.1, [])
theorem stG_e {A : PA} {g : Nat} {c : CL} (hg : A.1[g]? = some c) : stG ar pd m9 (gvB pd (A, some g)) = stE ar pd m9 A g c := by
  unfold gvB stE
  dsimp only
  rw [hg]
  dsimp only
  by_cases h0 : c.1.length = 0
  · rw [if_pos h0, if_pos h0]; rfl
  · rw [if_neg h0, if_neg h0]
    by_cases h1 : ∃ (i : Nat) (d : CL), A.1[i]? = some d ∧ cst d = 1 ∧ subL pd d.1 c.1
    · rw [if_pos h1, if_pos h1]; rfl
    · rw [if_neg h1, if_neg h1]
      obtain ⟨y, hy⟩ := fo_get (pd := pd) (G := c.1) A.1.length 0 g A c hg
      have g3 := stA_s (x := 1) hy
      unfold stG
      dsimp only
      rw [g3]
      rfl
theorem stG_s {A : PA} : stepA ar pd m9 A = stG ar pd m9 (gvA pd A) := rfl
/-- the end of a STEP -/
theorem ste_ok {β : Nat} (hβ : 1645 ≤ β) {g : Nat} {c : CL} {σ : zS} {A : PA} (hg : A.1[g]? = some c) (hI : RI ar pd m9 σ A) (h0 : A.2 87 = 0) (h88 : σ.1 88 < 0) {x1 : Int} : (c.1.length = 0 → ∃ τ, zE tM_refuted (β - 1) σ [(g : Int)] = some (τ, 0) ∧ RSt ar pd m9 τ (stE ar pd m9 A g c).1 (stE ar pd m9 A g c).2 ∧ FSt σ τ) ∧ (c.1.length ≠ 0 → ∃ τ, zE tM_step1_192 β σ [(g : Int), x1] = some (τ, 0) ∧ RSt ar pd m9 τ (stE ar pd m9 A g c).1 (stE ar pd m9 A g c).2 ∧ FSt σ τ) := by
  have gl := (List.getElem?_eq_some_iff.mp hg).1
  refine ⟨fun h => ?_, fun h => ?_⟩
  · have e : stE ar pd m9 A g c = ((A.1, fu A.2 87 1), pfA A.1 g) := by unfold stE; rw [if_pos h]
    rw [e]
    have f1 : FrC [88] [] (zI σ 87 1) (zI (zI σ 87 1) 88 (g : Int)) := FrC_I
    have I1 : RI ar pd m9 (zI σ 87 1) (A.1, fu A.2 87 1) := hI.u
    refine ⟨zI (zI σ 87 1) 88 (g : Int), by rw [zq_refuted, kZ_refuted, lt_e, lt_e], ⟨I1.f f1 f1.pq, fun w => absurd (show fu A.2 87 1 87 = 1 from fu_s) w, fun _ => ⟨g, gl, zI_1, rfl⟩⟩, ?_⟩
    have f0 : FSt σ (zI σ 87 1) := FrC_I
    exact f0.trans FrC_I
  · obtain ⟨τ, t1, t2, t3⟩ := st_194 (x1 := x1) hβ A.1.length 0 σ A (by omega) hg hI (fun ⟨i, d, h1, _⟩ => by omega)
    have e : stE ar pd m9 A g c = (@ite _ (∃ (i : Nat) (d : CL), A.1[i]? = some d ∧ cst d = 1 ∧ subL pd d.1 c.1) (Classical.propDecidable _) (A.1, fu A.2 92 (zwa (A.2 92) 1)) (ifA ar pd m9 g c.1 (stA (fo (caS pd c.1) A.1.length 0 A).1 g 1, (fo (caS pd c.1) A.1.length 0 A).2)), []) := by unfold stE; rw [if_neg h]
    rw [e]
    have t1' : zE tM_step1_194 β σ [(g : Int), x1, 0] = _ := t1
    have n1 : (@ite _ (∃ (i : Nat) (d : CL), A.1[i]? = some d ∧ cst d = 1 ∧ subL pd d.1 c.1) (Classical.propDecidable _) (A.1, fu A.2 92 (zwa (A.2 92) 1)) (ifA ar pd m9 g c.1 (stA (fo (caS pd c.1) A.1.length 0 A).1 g 1, (fo (caS pd c.1) A.1.length 0 A).2))).2 87 ≠ 1 := by
      split
      · show fu A.2 92 (zwa (A.2 92) 1) 87 ≠ 1
        rw [fu_o, h0]; decide
      · have q1 : Q87 A (fo (caS pd c.1) A.1.length 0 A) := fo_87 caS_87 _ _ _
        have q2 := ifA_87 (ar := ar) (pd := pd) (m9 := m9) (g := g) (G := c.1) (stA (fo (caS pd c.1) A.1.length 0 A).1 g 1, (fo (caS pd c.1) A.1.length 0 A).2)
        unfold Q87 at q1 q2
        dsimp only at q2
        rw [h0] at q1
        intro w
        rw [w] at q2
        omega
    refine ⟨τ, by rw [zq_step1_192, kZ_step1_192]; exact t1', ⟨t2, fun _ => ⟨by rw [t3.i 88]; exact h88, rfl⟩, fun w => absurd w n1⟩, t3.w⟩
end step
