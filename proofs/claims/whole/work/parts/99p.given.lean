/-! a STEP begins -/
theorem chQ_get {o : Int} : ∀ {X : List CL} {n : Nat} {b : Option (Nat × Nat)} {g : Nat}, chQ o X n b = some g → (∃ z, b = some z ∧ z.1 = g) ∨ (∃ c, n ≤ g ∧ X[g - n]? = some c ∧ cst c = 0)
  | [], n, b, g, h => by
    left
    unfold chQ at h
    cases b with
    | none => cases h
    | some z => exact ⟨z, rfl, Option.some.inj h⟩
  | c :: X, n, b, g, h => by
    have lift : ∀ b2, chQ o X (n + 1) b2 = some g → (∃ z, b2 = some z ∧ z.1 = g) ∨ (∃ d, n ≤ g ∧ (c :: X)[g - n]? = some d ∧ cst d = 0) := fun b2 h2 => by
      rcases chQ_get h2 with w | ⟨d, d1, d2, d3⟩
      · exact Or.inl w
      · exact Or.inr ⟨d, by omega, by rw [show g - n = (g - (n + 1)) + 1 by omega, List.getElem?_cons_succ]; exact d2, d3⟩
    unfold chQ at h
    by_cases q : cst c = 0
    · rw [if_pos q] at h
      have me : n = g → (∃ d, n ≤ g ∧ (c :: X)[g - n]? = some d ∧ cst d = 0) := fun e => ⟨c, by omega, by rw [show g - n = 0 by omega, List.getElem?_cons_zero], q⟩
      by_cases qo : o = 0
      · rw [if_pos qo] at h
        cases b with
        | none =>
          dsimp only at h
          rcases lift _ h with ⟨z, z1, z2⟩ | w
          · cases z1; exact Or.inr (me z2)
          · exact Or.inr w
        | some z =>
          dsimp only at h
          split at h
          · exact lift _ h
          · rcases lift _ h with ⟨y, z1, z2⟩ | w
            · cases z1; exact Or.inr (me z2)
            · exact Or.inr w
      · rw [if_neg qo] at h
        exact Or.inr (me (Option.some.inj h))
    · rw [if_neg q] at h
      exact lift _ h
/-- a CLAUSE, once PROCESSED and judged -/
theorem CI.jd {ar : Int → Nat} {pd : Int → Prop} {m9 : Int} {σ τ : zS} {A : PA} (h : CI ar pd m9 σ A) {g : Nat} {c : CL} (hg : A.1[g]? = some c) (f : FrC [] [13, 48, 52] σ τ) (e52 : ∀ q, τ.2.1 52 q = (zA σ 52 ((g : Int) * 11 + 6) 1).2.1 52 q) (el : τ.2.2 = σ.2.2) (e48 : ∀ q, ¬ LLq (pos A.1 g) c.1 q → τ.2.1 48 q = σ.2.1 48 q) (hJ : JG (τ.2.1 48) (pos A.1 g) c.1) : CI ar pd m9 τ (stA A.1 g 1, A.2) := by
  obtain ⟨c1, c2, c3, c4, c5, c6, c7, c8, c9, c10, c11, c12⟩ := id h
  have hgl := (List.getElem?_eq_some_iff.mp hg).1
  obtain ⟨gSK, gSN⟩ := SC_iff.mp (c3.st (k := g) (x := 1) hgl)
  -- cells of another CLAUSE
  have far : ∀ (i : Nat) (d : CL), A.1[i]? = some d → i ≠ g → ∀ q, pos A.1 i ≤ q → q < pos A.1 i + (szL d.1 : Int) → τ.2.1 48 q = σ.2.1 48 q := fun i d hd hi q q0 q1 => e48 q (fun w => by
    obtain ⟨w1, w2⟩ := LLq_lo w
    by_cases e : i < g
    · have := pos_lt hd e; omega
    · have := pos_lt hg (show g < i by omega); omega)
  have S : SC τ (stA A.1 g 1) := by
    refine SC_iff.mpr ⟨fun i d hd => ?_, ?_⟩
    · have s := gSK i d hd
      rw [stA_p] at s ⊢
      obtain ⟨⟨b0, b1, b2, b3, b4, b5, b6, b7, b8⟩, a2, a3, a4, a5, a6⟩ := s
      rw [← e52] at b0 b1 b2 b3 b4 b5 b6 b7 b8 a3 a4 a5 a6
      refine ⟨⟨b0, b1, b2, b3, b4, b5, b6, b7, b8⟩, ?_, a3, by rw [f.i 4901]; exact a4, Fl_q (fun q _ _ => f.a 50 q) a5, a6⟩
      have a2' : LL (σ.2.1 48) (pos A.1 i) d.1 := LL_q (fun q _ _ _ => (zA_j).symm) a2
      by_cases e : i = g
      · subst e
        rw [stA_s hg] at hd
        obtain rfl := Option.some.inj hd
        exact LL_q (fun q _ _ w => e48 q w) a2'
      · rw [stA_o e] at hd
        exact LL_q (fun q q0 q1 _ => far i d hd e q q0 q1) a2'
    · obtain ⟨n1, n2, n3, n4, n5, n6, n7⟩ := gSN
      exact ⟨by rw [f.i 5402]; exact n1, by rw [f.i 4701]; exact n2, by rw [f.i 5101]; exact n3, by rw [f.i 4701, el]; exact n4, by rw [f.i 5101, el]; exact n5, by rw [f.i 4901, el]; exact n6, n7⟩
  refine h.g (A2 := (stA A.1 g 1, A.2)) f S (c4.f f) ⟨fun j j0 j1 => ?_, ?_⟩ ?_ (c7.f f) (fun j hj => by rw [el]; exact c6 j hj) (by rw [f.i 3905]; exact c9) (fun d hd => ?_) (fun j d hj hs => ?_)
  · have j1' : j < ((stA A.1 g 1).length : Int) := j1
    rw [stA_len] at j1'
    rw [e52, zA_i (by omega)]; exact c12.1 j j0 j1'
  · show τ.1 4901 ≤ 60 * ((stA A.1 g 1).length : Int)
    rw [stA_len, f.i 4901]; exact c12.2
  · obtain ⟨N, hN⟩ := c8; exact ⟨N, hN.f f⟩
  · obtain ⟨j, hj⟩ := List.getElem?_of_mem hd
    by_cases e : j = g
    · subst e
      rw [stA_s hg] at hj
      obtain rfl := Option.some.inj hj
      exact c10 c (List.mem_of_getElem? hg)
    · rw [stA_o e] at hj
      exact c10 d (List.mem_of_getElem? hj)
  · have hj' : (stA A.1 g 1)[j]? = some d := hj
    show JG (τ.2.1 48) (pos (stA A.1 g 1) j) d.1
    rw [stA_p]
    by_cases e : j = g
    · subst e
      rw [stA_s hg] at hj'
      obtain rfl := Option.some.inj hj'
      exact hJ
    · rw [stA_o e] at hj'
      have hJj := c11 j d hj' hs
      intro i a ha
      obtain ⟨z1, z2⟩ := hJj i a ha
      have b1 : szL (d.1.take i) + 7 ≤ szL d.1 := by
        have t1 := tw_pos a.2.1
        have t2 := tw_pos a.2.2
        have e1 : d.1.take (i + 1) = d.1.take i ++ [a] := by rw [List.take_add_one, ha]; rfl
        have e2 := congrArg szL (List.take_append_drop (i + 1) d.1)
        rw [szL_app, e1, szL_app] at e2
        simp only [szL] at e2
        omega
      have p1 : hp (pos A.1 j) d.1 i = pos A.1 j + (szL (d.1.take i) : Int) := rfl
      rw [far j d hj' e _ (by omega) (by omega), far j d hj' e _ (by omega) (by omega)]
      exact ⟨z1, z2⟩
noncomputable def gvB (pd : Int → Prop) (R : PA × Option Nat) : PA × Option Nat × List Int := match R.2 with
  | none => (R.1, none, [])
  | some g => match R.1.1[g]? with
    | none => (R.1, none, [])
    | some c => if c.1.length = 0 then ((R.1.1, fu R.1.2 87 1), none, pfA R.1.1 g) else
      @ite _ (∃ (i : Nat) (d : CL), R.1.1[i]? = some d ∧ cst d = 1 ∧ subL pd d.1 c.1) (Classical.propDecidable _) ((R.1.1, fu R.1.2 92 (zwa (R.1.2 92) 1)), none, [])
        ((stA (fo (caS pd c.1) R.1.1.length 0 R.1).1 g 1, (fo (caS pd c.1) R.1.1.length 0 R.1).2), some g, [])
noncomputable def gvA (pd : Int → Prop) (A : PA) : PA × Option Nat × List Int := match chQ (if Int.tmod (zwa (A.2 89) 1) 5 = 0 then 1 else 0) A.1 0 none with
  | none => ((A.1, fu A.2 87 2), none, [])
  | some g => match A.1[g]? with
    | none => (A, none, [])
    | some c => if c.1.length = 0 then gvB pd ((stA A.1 g 2, fu A.2 89 (zwa (A.2 89) 1)), some g) else gvB pd (rwA pd g c.1 (stA A.1 g 2, fu A.2 89 (zwa (A.2 89) 1)))
/-- the class between two STEPS: P is the proof -/
def SI (ar : Int → Nat) (pd : Int → Prop) (m9 : Int) (σ : zS) (A : PA) (P : List Int) : Prop := CJ ar pd m9 σ A ∧ (A.2 87 ≠ 1 → CM σ A ∧ P = []) ∧ RowC σ 5501 56 P ∧ σ.2.2 56 ≤ 10000 ∧ 16 ≤ σ.2.2 58 ∧ σ.2.2 58 ≤ 10000
abbrev GF (σ τ : zS) : Prop := FrC [5701, 3904, 3905, 3906, 3907, 3911, 6603, 6605, 4901, 5300, 5301, 5304, 5305, 5306, 5101, 4701, 5402, 5501] [58, 46, 40, 41, 42, 43, 13, 67, 68, 50, 45, 48, 52, 56] σ τ
theorem CJ.i {ar : Int → Nat} {pd : Int → Prop} {m9 : Int} {σ : zS} {A : PA} (h : CJ ar pd m9 σ A) (m : CM σ A) : CI ar pd m9 σ A := by
  obtain ⟨c1, c2, c3, c4, c5, c6, c7, c8, c9, c10, c11⟩ := h
  exact ⟨c1, c2, c3, c4, c5, c6, c7, c8, c9, c10, c11, m⟩
theorem fo_len {pd : Int → Prop} {G : List Lt} : ∀ (m n : Nat) (A : PA), (fo (caS pd G) m n A).1.length = A.1.length
  | 0, n, A => rfl
  | m + 1, n, A => by
    show (fo (caS pd G) m (n + 1) (caS pd G n A)).1.length = _
    rw [fo_len m (n + 1)]
    unfold caS
    split
    · rfl
    · split
      · split
        · exact stA_len _ _ _
        · split
          · exact stA_len _ _ _
          · rfl
      · rfl
theorem caS_get {pd : Int → Prop} {G : List Lt} {n g : Nat} {A : PA} {c : CL} (h : A.1[g]? = some c) : ∃ x, (caS pd G n A).1[g]? = some (cS c x) := by
  have st : ∀ y, ∃ x, (stA A.1 n y)[g]? = some (cS c x) := fun y => by
    by_cases e : g = n
    · subst e; exact ⟨y, stA_s h⟩
    · exact ⟨cst c, by rw [stA_o e]; exact h⟩
  unfold caS
  split
  · exact ⟨cst c, h⟩
  · split
    · split
      · exact st 2
      · split
        · exact st 0
        · exact ⟨cst c, h⟩
    · exact ⟨cst c, h⟩
theorem fo_get {pd : Int → Prop} {G : List Lt} : ∀ (m n g : Nat) (A : PA) (c : CL), A.1[g]? = some c → ∃ x, (fo (caS pd G) m n A).1[g]? = some (cS c x)
  | 0, n, g, A, c, h => ⟨cst c, h⟩
  | m + 1, n, g, A, c, h => by
    obtain ⟨x, hx⟩ := caS_get (pd := pd) (G := G) (n := n) h
    obtain ⟨y, hy⟩ := fo_get (pd := pd) (G := G) m (n + 1) g (caS pd G n A) _ hx
    exact ⟨y, hy⟩
theorem gv_p56 {ar : Int → Nat} {pd : Int → Prop} {m9 : Int} {β : Nat} (hβ : 16 ≤ β) {σ : zS} {R : PA × Option Nat} (hI : CI ar pd m9 σ R.1) (h1 : R.1.2 87 ≠ 1) (hg : ∀ g, R.2 = some g → g < R.1.1.length) (h55 : σ.1 5501 = 0) (h56 : 16 ≤ σ.2.2 56 ∧ σ.2.2 56 ≤ 10000) (h58 : 16 ≤ σ.2.2 58 ∧ σ.2.2 58 ≤ 10000) : ∃ τ, yE tG_Sat_takeGiven_p56 β σ [no1 R.2] = some (τ, no1 (gvB pd R).2.1) ∧ SI ar pd m9 τ (gvB pd R).1 (gvB pd R).2.2 ∧ GF σ τ ∧ (∀ g, (gvB pd R).2.1 = some g → (∃ c, (gvB pd R).1.1[g]? = some c ∧ cst c = 1) ∧ CI ar pd m9 τ (gvB pd R).1) := by
  obtain ⟨c1, c2, c3, c4, c5, c6, c7, c8, c9, c10, c11, c12⟩ := id hI
  have h20 := c3.2.2.2.2.2.2.2
  have R0 : ∀ ρ : zS, ρ.1 5501 = 0 → 16 ≤ ρ.2.2 56 → RowC ρ 5501 56 [] := fun ρ a b => ⟨a, Nat.zero_le _, b, trivial⟩
  obtain ⟨B, og⟩ := R
  rw [yq_Sat_takeGiven_p56, kY_Sat_takeGiven_p56]
  cases og with
  | none =>
    refine ⟨σ, by rw [if_pos (show no1 none = -1 from rfl)]; rfl, ⟨hI.j, fun _ => ⟨c12, rfl⟩, R0 σ h55 h56.1, h56.2, h58⟩, FrC.refl, fun g hg => by cases hg⟩
  | some g =>
    have hgl := hg g rfl
    obtain ⟨c, hc⟩ : ∃ c, B.1[g]? = some c := ⟨_, List.getElem?_eq_getElem hgl⟩
    have e0 : no1 (some g) = (g : Int) := rfl
    dsimp only at *
    have eB : gvB pd (B, some g) = if c.1.length = 0 then ((B.1, fu B.2 87 1), none, pfA B.1 g) else @ite _ (∃ (i : Nat) (d : CL), B.1[i]? = some d ∧ cst d = 1 ∧ subL pd d.1 c.1) (Classical.propDecidable _) ((B.1, fu B.2 92 (zwa (B.2 92) 1)), none, []) ((stA (fo (caS pd c.1) B.1.length 0 B).1 g 1, (fo (caS pd c.1) B.1.length 0 B).2), some g, []) := by
      unfold gvB; dsimp only; rw [hc]
    rw [eB, e0, if_neg (by omega), if_pos (by omega), zbd_of (c3.f3 hc).1]
    by_cases hl : c.1.length = 0
    · rw [if_pos hl, if_pos (by omega), if_pos (by omega)]
      obtain ⟨τ, t1, t2, t3, t4, t5⟩ := refute_ok (β := β - 1) (by omega) hI hgl h55 h56
      refine ⟨τ, by rw [zbd_of t1]; rfl, ⟨t3, fun w => absurd (show fu B.2 87 1 87 = 1 from fu_s) w, t4, t5, by rw [t2.l 58]; exact h58⟩, t2.w, fun g hg => by cases hg⟩
    · rw [if_neg hl, if_neg (by omega), if_pos (by omega)]
      obtain ⟨σ1, t1, t2⟩ := isd_ok (pd := pd) (β := β - 1) (by omega) c1 c3 c10 hc
      rw [zbd_of t2]
      have I1 := hI.rf (τ := σ1) t1.w
      by_cases s : ∃ (i : Nat) (d : CL), B.1[i]? = some d ∧ cst d = 1 ∧ subL pd d.1 c.1
      · rw [if_pos s, b2_t s, if_neg (by decide), lt_e]
        obtain ⟨σ2, hσ2⟩ : ∃ z, z = zI σ1 5304 (zwa (σ1.1 5304) 1) := ⟨_, rfl⟩
        rw [← hσ2]
        have K1 := I1.2.2.2.1
        have I2 : CI ar pd m9 σ2 (B.1, fu B.2 92 (zwa (B.2 92) 1)) := I1.c (by rw [hσ2]; exact FrC_I) (by rw [hσ2, K1.2.2.2.2.1]; exact K1.u4)
        have f2 : GF σ σ2 := by
          have b1 : GF σ σ1 := t1.w
          have b2 : GF σ1 σ2 := by rw [hσ2]; exact FrC_I
          exact b1.trans b2
        have f3 : FrC [6603, 5304] [67] σ σ2 := by
          have b1 : FrC [6603, 5304] [67] σ σ1 := t1.w
          have b2 : FrC [6603, 5304] [67] σ1 σ2 := by rw [hσ2]; exact FrC_I
          exact b1.trans b2
        refine ⟨σ2, rfl, ⟨I2.j, fun _ => ⟨I2.2.2.2.2.2.2.2.2.2.2.2, rfl⟩, R0 σ2 (by rw [f3.i 5501]; exact h55) (by rw [f3.l 56]; exact h56.1), by rw [f3.l 56]; exact h56.2, by rw [f3.l 58]; exact h58⟩, f2, fun g hg => by cases hg⟩
      · rw [if_neg s, b2_f s, if_pos rfl, if_pos (by omega)]
        obtain ⟨σ2, u1, u2, u3⟩ := ca_ok (pd := pd) (β := β - 1) (by omega) I1 hc
        obtain ⟨A2, hA2⟩ : ∃ z, z = fo (caS pd c.1) B.1.length 0 B := ⟨_, rfl⟩
        rw [← hA2] at u2 ⊢
        obtain ⟨x, hx⟩ := fo_get (pd := pd) (G := c.1) B.1.length 0 g B c hc
        rw [← hA2] at hx
        have len2 : A2.1.length = B.1.length := by rw [hA2]; exact fo_len _ _ _
        rw [zbd_of u1, if_pos (by omega), zbd_of (setF (β := β - 1) u2.2.2.1 (k := (g : Int)) (w := 6) (x := 1) (by omega) (by omega) (by omega) (by omega)), if_pos (by omega)]
        obtain ⟨σ3, hσ3⟩ : ∃ z, z = zA σ2 52 ((g : Int) * 11 + 6) 1 := ⟨_, rfl⟩
        have S3 : SC σ3 (stA A2.1 g 1) := by rw [hσ3]; exact u2.2.2.1.st (by omega)
        have g3 : FrC [] [52] σ2 σ3 := by rw [hσ3]; exact FrC_A
        have C3 := u2.1.f g3
        have hx3 : (stA A2.1 g 1)[g]? = some (cS (cS c x) 1) := stA_s hx
        obtain ⟨τ, v1, v2, v3, v4, v5⟩ := judge_ok (ar := ar) (m9 := m9) (β := β - 1) (by omega) hx3 (c10 c (List.mem_of_getElem? hc)) ⟨C3.1, C3.2.1, C3.2.2.2.1, C3.2.2.2.2.1, S3.2.2.2.2.1.2.1⟩ S3
        rw [← hσ3, zbd_of v1]
        rw [stA_p] at v4 v5
        have IT : CI ar pd m9 τ (stA A2.1 g 1, A2.2) := u2.jd hx (g3.w.trans v2.w) (fun q => by rw [v2.a 52, hσ3]) (by rw [v3, hσ3]; rfl) (fun q w => by rw [v4 q w, hσ3, zA_j]) v5
        have fT : FrC [6603, 6605, 5304] [13, 67, 68, 52, 48] σ τ := ((t1.w.trans u3.w).trans g3.w).trans v2.w
        refine ⟨τ, rfl, ⟨IT.j, fun _ => ⟨IT.2.2.2.2.2.2.2.2.2.2.2, rfl⟩, R0 τ (by rw [fT.i 5501]; exact h55) (by rw [fT.l 56]; exact h56.1), by rw [fT.l 56]; exact h56.2, by rw [fT.l 58]; exact h58⟩, fT.w, fun k hk => ?_⟩
        obtain rfl : g = k := Option.some.inj hk
        exact ⟨⟨_, hx3, rfl⟩, IT⟩
theorem rwA_lt {pd : Int → Prop} {g : Nat} {C : List Lt} {A : PA} (hg : g < A.1.length) : (∀ k, (rwA pd g C A).2 = some k → k < (rwA pd g C A).1.1.length) ∧ (A.2 87 = 0 → (rwA pd g C A).1.2 87 ≠ 1) := by
  unfold rwA
  split
  · exact ⟨fun k hk => (by cases hk; exact hg), fun h => by dsimp only; omega⟩
  · split
    · exact ⟨fun k hk => (by cases hk), fun h => by dsimp only; rw [fu_o, fu_o]; omega⟩
    · split
      · exact ⟨fun k hk => (by cases hk), fun h => by dsimp only; rw [fu_s]; omega⟩
      · exact ⟨fun k hk => (by cases hk; simp), fun h => by dsimp only; rw [fu_o]; omega⟩
theorem given_ok {ar : Int → Nat} {pd : Int → Prop} {m9 : Int} {β : Nat} (hβ : 16 ≤ β) {σ : zS} {A : PA} {P : List Int} (hI : SI ar pd m9 σ A P) (h0 : A.2 87 = 0) : ∃ τ, yE tG_Sat_takeGiven β σ [] = some (τ, no1 (gvA pd A).2.1) ∧ SI ar pd m9 τ (gvA pd A).1 (gvA pd A).2.2 ∧ GF σ τ ∧ (∀ g, (gvA pd A).2.1 = some g → (∃ c, (gvA pd A).1.1[g]? = some c ∧ cst c = 1) ∧ CI ar pd m9 τ (gvA pd A).1) := by
  obtain ⟨s1, s2, s3, s4, s5, s6⟩ := hI
  obtain ⟨hM, hP⟩ := s2 (by omega)
  subst hP
  have I0 := s1.i hM
  obtain ⟨c1, c2, c3, c4, c5, c6, c7, c8, c9, c10, c11, c12⟩ := id I0
  have h20 := c3.2.2.2.2.2.2.2
  have ch := ch_ok (β := β - 1) (by omega) c3
  rw [c4.2.1] at ch
  rw [yq_Sat_takeGiven, kY_Sat_takeGiven, if_pos (by omega), zbd_of ch]
  unfold gvA
  cases hq : chQ (if Int.tmod (zwa (A.2 89) 1) 5 = 0 then 1 else 0) A.1 0 none with
  | none =>
    rw [if_pos (show no1 none = -1 from rfl), lt_e]
    have f : GF σ (zI σ 5300 2) := FrC_I
    have I1 : CI ar pd m9 (zI σ 5300 2) (A.1, fu A.2 87 2) := I0.c FrC_I c4.u0
    refine ⟨_, rfl, ⟨I1.j, fun _ => ⟨I1.2.2.2.2.2.2.2.2.2.2.2, rfl⟩, s3.f (I := [5300]) (A := []) FrC_I, s4, s5, s6⟩, f, fun g hg => by cases hg⟩
  | some g =>
    have e0 : no1 (some g) = (g : Int) := rfl
    obtain ⟨c, hc, hst⟩ : ∃ c, A.1[g]? = some c ∧ cst c = 0 := by
      rcases chQ_get hq with ⟨z, z1, _⟩ | ⟨c, _, d2, d3⟩
      · cases z1
      · exact ⟨c, d2, d3⟩
    have hgl := (List.getElem?_eq_some_iff.mp hc).1
    rw [e0, if_neg (by omega), lt_e]
    dsimp only
    rw [hc]
    dsimp only
    obtain ⟨σ1, hσ1⟩ : ∃ z, z = zI σ 5301 (zwa (σ.1 5301) 1) := ⟨_, rfl⟩
    rw [← hσ1]
    have I1 : CI ar pd m9 σ1 (A.1, fu A.2 89 (zwa (A.2 89) 1)) := I0.c (by rw [hσ1]; exact FrC_I) (by rw [hσ1, c4.2.1]; exact c4.u1)
    rw [if_pos (by omega), zbd_of (setF (β := β - 1) I1.2.2.1 (k := (g : Int)) (w := 6) (x := 2) (by omega) (by show (g : Int) < (A.1.length : Int); omega) (by omega) (by omega))]
    obtain ⟨σ2, hσ2⟩ : ∃ z, z = zA σ1 52 ((g : Int) * 11 + 6) 2 := ⟨_, rfl⟩
    rw [← hσ2]
    have I2 : CI ar pd m9 σ2 (stA A.1 g 2, fu A.2 89 (zwa (A.2 89) 1)) := by rw [hσ2]; exact I1.st (A := (A.1, fu A.2 89 (zwa (A.2 89) 1))) hgl (by decide)
    have hx : (stA A.1 g 2)[g]? = some (cS c 2) := stA_s hc
    have f2 : FrC [5301] [52] σ σ2 := by
      have b1 : FrC [5301] [52] σ σ1 := by rw [hσ1]; exact FrC_I
      have b2 : FrC [5301] [52] σ1 σ2 := by rw [hσ2]; exact FrC_A
      exact b1.trans b2
    have f3 := (I2.2.2.1.f3 (β := β - 1) hx).1
    have f3' : yE tC_Sto_fact (β - 1) σ2 [(g : Int), 3] = some (σ2, (c.1.length : Int)) := f3
    rw [if_pos (by omega), zbd_of f3']
    have st0 : fu A.2 89 (zwa (A.2 89) 1) 87 = 0 := by rw [fu_o]; exact h0
    have x55 : σ2.1 5501 = 0 := by rw [f2.i 5501]; exact s3.1
    have x56 : 16 ≤ σ2.2.2 56 ∧ σ2.2.2 56 ≤ 10000 := by rw [f2.l 56]; exact ⟨s3.2.2.1, s4⟩
    have x58 : 16 ≤ σ2.2.2 58 ∧ σ2.2.2 58 ≤ 10000 := by rw [f2.l 58]; exact ⟨s5, s6⟩
    by_cases hl : c.1.length = 0
    · rw [if_pos hl, if_pos (by omega)]
      obtain ⟨τ, t1, t2, t3, t4⟩ := gv_p56 (pd := pd) hβ (R := ((stA A.1 g 2, fu A.2 89 (zwa (A.2 89) 1)), some g)) I2 (by show fu A.2 89 (zwa (A.2 89) 1) 87 ≠ 1; omega) (fun k hk => by cases hk; show g < (stA A.1 g 2).length; rw [stA_len]; exact hgl) x55 x56 x58
      exact ⟨τ, t1, t2, f2.w.trans t3, t4⟩
    · rw [if_neg hl, if_neg (by omega), if_pos (by omega)]
      obtain ⟨σ3, u1, u2, u3, u4⟩ := rewrite_ok (pd := pd) (β := β - 1) (by omega) I2 x58 hx
      have u1' : yE tG_Sat_rewrite (β - 1) σ2 [(g : Int)] = some (σ3, no1 (rwA pd g c.1 (stA A.1 g 2, fu A.2 89 (zwa (A.2 89) 1))).2) := u1
      have u2' : CI ar pd m9 σ3 (rwA pd g c.1 (stA A.1 g 2, fu A.2 89 (zwa (A.2 89) 1))).1 := u2
      rw [zbd_of u1']
      obtain ⟨r1, r2⟩ := rwA_lt (pd := pd) (g := g) (C := c.1) (A := (stA A.1 g 2, fu A.2 89 (zwa (A.2 89) 1))) (by show g < (stA A.1 g 2).length; rw [stA_len]; exact hgl)
      obtain ⟨τ, t1, t2, t3, t4⟩ := gv_p56 (pd := pd) hβ u2' (r2 st0) r1 (by rw [u3.i 5501]; exact x55) (by rw [u3.l 56]; exact x56) u4
      exact ⟨τ, t1, t2, (f2.w.trans u3.w).trans t3, t4⟩
