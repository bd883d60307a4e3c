/-! one fact of a CLAUSE is set; the single = CLAUSES are listed -/
theorem setF {β : Nat} {σ : zS} {Cs : List CL} (h : SC σ Cs) {k w x : Int} (k0 : 0 ≤ k) (k1 : k < (Cs.length : Int)) (w0 : 0 ≤ w) (w1 : w < 11) : yE tC_Sto_setFact β σ [k, w, x] = some (zA σ 52 (k * 11 + w) x, 0) := by
  obtain ⟨_, _, _, h4, _, h6, _, h8⟩ := h
  rw [yq_Sto_setFact, kY_Sto_setFact, if_pos (by omega), if_pos (by omega), if_pos (by omega), lt_e]
def cS (c : CL) (x : Int) : CL := (c.1, c.2.1, c.2.2.1, c.2.2.2.1, x, cus c)
def stA : List CL → Nat → Int → List CL
  | [], _, _ => []
  | c :: X, 0, x => cS c x :: X
  | c :: X, k + 1, x => c :: stA X k x
theorem stA_len : ∀ (X : List CL) (k : Nat) (x : Int), (stA X k x).length = X.length
  | [], _, _ => rfl
  | c :: X, 0, x => rfl
  | c :: X, k + 1, x => by simp only [stA, List.length_cons, stA_len X k x]
theorem stA_o : ∀ {X : List CL} {k i : Nat} {x : Int}, i ≠ k → (stA X k x)[i]? = X[i]?
  | [], _, _, _, _ => rfl
  | c :: X, 0, 0, x, h => absurd rfl h
  | c :: X, 0, i + 1, x, h => by simp only [stA, List.getElem?_cons_succ]
  | c :: X, k + 1, 0, x, h => by simp only [stA, List.getElem?_cons_zero]
  | c :: X, k + 1, i + 1, x, h => by simp only [stA, List.getElem?_cons_succ]; exact stA_o (by omega)
theorem stA_s : ∀ {X : List CL} {k : Nat} {x : Int} {c : CL}, X[k]? = some c → (stA X k x)[k]? = some (cS c x)
  | [], _, _, _, h => by simp at h
  | d :: X, 0, x, c, h => by
    simp only [List.getElem?_cons_zero, Option.some.injEq] at h
    subst h
    simp only [stA, List.getElem?_cons_zero]
  | d :: X, k + 1, x, c, h => by
    rw [List.getElem?_cons_succ] at h
    simp only [stA, List.getElem?_cons_succ]; exact stA_s h
theorem stA_t : ∀ (X : List CL) (k : Nat) (x : Int) (i : Nat), szC ((stA X k x).take i) = szC (X.take i)
  | [], _, _, i => by simp [stA]
  | c :: X, 0, x, 0 => rfl
  | c :: X, 0, x, i + 1 => by simp only [stA, List.take_succ_cons, szC, cS]
  | c :: X, k + 1, x, 0 => rfl
  | c :: X, k + 1, x, i + 1 => by simp only [stA, List.take_succ_cons, szC, stA_t X k x i]
theorem stA_z (X : List CL) (k : Nat) (x : Int) : szC (stA X k x) = szC X := by
  have := stA_t X k x X.length
  rw [List.take_length] at this
  rw [← this, ← stA_len X k x, List.take_length]
theorem stA_p (X : List CL) (k : Nat) (x : Int) (i : Nat) : pos (stA X k x) i = pos X i := by unfold pos; rw [stA_t]
theorem SK_q {σ τ : zS} {k p x : Int} {c : CL} (h : SK σ k p c) (h52 : ∀ w, 0 ≤ w → w < 11 → w ≠ 6 → τ.2.1 52 (k * 11 + w) = σ.2.1 52 (k * 11 + w)) (h6 : τ.2.1 52 (k * 11 + 6) = x) (h48 : ∀ q, τ.2.1 48 q = σ.2.1 48 q) (h49 : σ.1 4901 ≤ τ.1 4901) (h50 : ∀ q, 0 ≤ q → q < σ.1 4901 → τ.2.1 50 q = σ.2.1 50 q) : SK τ k p (cS c x) := by
  obtain ⟨⟨b0, b1, b2, b3, b4, b5, b6, b7, b8⟩, a2, a3, a4, a5, a6⟩ := h
  have e : ∀ w, 0 ≤ w → w < 11 → w ≠ 6 → ∀ z, σ.2.1 52 (k * 11 + w) = z → τ.2.1 52 (k * 11 + w) = z := fun w w0 w1 w2 z hz => by rw [h52 w w0 w1 w2]; exact hz
  refine ⟨⟨e 0 (by omega) (by omega) (by omega) _ b0, e 1 (by omega) (by omega) (by omega) _ b1, e 2 (by omega) (by omega) (by omega) _ b2, e 3 (by omega) (by omega) (by omega) _ b3, e 4 (by omega) (by omega) (by omega) _ b4, e 5 (by omega) (by omega) (by omega) _ b5, h6, e 7 (by omega) (by omega) (by omega) _ b7, e 8 (by omega) (by omega) (by omega) _ b8⟩, LL_q (fun q _ _ _ => h48 q) a2, ?_, ?_, ?_, ?_⟩
  · rw [h52 9 (by omega) (by omega) (by omega)]; exact a3
  · rw [h52 9 (by omega) (by omega) (by omega)]
    show σ.2.1 52 (k * 11 + 9) + ((cus c).length : Int) ≤ τ.1 4901
    omega
  · rw [h52 9 (by omega) (by omega) (by omega)]
    show Fl (τ.2.1 50) (σ.2.1 52 (k * 11 + 9)) (cus c)
    exact Fl_q (fun q q0 q1 => h50 q (by omega) (by omega)) a5
  · rw [h52 10 (by omega) (by omega) (by omega)]; exact a6
/-- PASSIVE, PROCESSED or GONE -/
theorem SC.st {σ : zS} {Cs : List CL} (h : SC σ Cs) {k : Nat} {x : Int} (hk : k < Cs.length) : SC (zA σ 52 ((k : Int) * 11 + 6) x) (stA Cs k x) := by
  obtain ⟨gSK, gSN⟩ := SC_iff.mp h
  refine SC_iff.mpr ⟨fun i c hc => ?_, ?_⟩
  · rw [stA_p]
    by_cases e : i = k
    · subst e
      have hd := List.getElem?_eq_getElem hk
      rw [stA_s hd] at hc
      obtain rfl := Option.some.inj hc
      exact SK_q (gSK i _ hd) (fun w w0 w1 w2 => zA_i (by omega)) zA_s (fun q => zA_j) (Int.le_refl _) (fun q _ _ => zA_j)
    · rw [stA_o e] at hc
      have s := gSK i c hc
      have s6 := s.1.2.2.2.2.2.2.1
      have t : SK (zA σ 52 ((k : Int) * 11 + 6) x) (i : Int) (pos Cs i) (cS c (cst c)) := SK_q s (fun w w0 w1 w2 => zA_i (by omega)) (by rw [zA_i (by omega)]; exact s6) (fun q => zA_j) (Int.le_refl _) (fun q _ _ => zA_j)
      exact t
  · obtain ⟨n1, n2, n3, n4, n5, n6, n7⟩ := gSN
    refine ⟨?_, ?_, ?_, n4, n5, n6, ?_⟩
    · rw [stA_len]; exact n1
    · rw [stA_z]; exact n2
    · rw [stA_len]; exact n3
    · rw [stA_len]; exact n7
def sgL : List CL → Nat → List (Nat × Lt)
  | [], _ => []
  | c :: X, k => match c.1 with
    | [a] => if cst c = 1 ∧ a.1 = 1 then (k, a) :: sgL X (k + 1) else sgL X (k + 1)
    | _ => sgL X (k + 1)
def sgI (L : List (Nat × Lt)) : List Int := L.map (fun z => (z.1 : Int))
theorem sgL_t {c : CL} {X : List CL} {k : Nat} {a : Lt} (ha : c.1 = [a]) (h1 : cst c = 1) (h2 : a.1 = 1) : sgL (c :: X) k = (k, a) :: sgL X (k + 1) := by
  obtain ⟨c1, c2⟩ := c
  dsimp only at ha
  subst ha
  exact if_pos ⟨h1, h2⟩
theorem sgL_f {c : CL} {X : List CL} {k : Nat} (h : ¬ (cst c = 1 ∧ sngL c.1)) : sgL (c :: X) k = sgL X (k + 1) := by
  obtain ⟨c1, c2⟩ := c
  match c1, h with
  | [], h => rfl
  | [a], h => exact if_neg (fun w => h ⟨w.1, a, rfl, w.2⟩)
  | a :: b :: r, h => rfl
theorem sgL_m : ∀ {X : List CL} {n k : Nat} {a : Lt}, (k, a) ∈ sgL X n → ∃ c, n ≤ k ∧ X[k - n]? = some c ∧ c.1 = [a] ∧ cst c = 1 ∧ a.1 = 1
  | [], n, k, a, h => by cases h
  | c :: X, n, k, a, h => by
    have tail : (k, a) ∈ sgL X (n + 1) → ∃ d, n ≤ k ∧ (c :: X)[k - n]? = some d ∧ d.1 = [a] ∧ cst d = 1 ∧ a.1 = 1 := fun g => by
      obtain ⟨d, d1, d2, d3⟩ := sgL_m g
      exact ⟨d, by omega, by rw [show k - n = (k - (n + 1)) + 1 by omega, List.getElem?_cons_succ]; exact d2, d3⟩
    by_cases q : cst c = 1 ∧ sngL c.1
    · obtain ⟨q1, b, q2, q3⟩ := q
      rw [sgL_t q2 q1 q3] at h
      rcases List.mem_cons.mp h with w | w
      · cases w
        exact ⟨c, Nat.le_refl _, by rw [Nat.sub_self, List.getElem?_cons_zero], q2, q1, q3⟩
      · exact tail w
    · rw [sgL_f q] at h
      exact tail h
theorem ls_p10 {β : Nat} (hβ : 2 ≤ β) {Cs : List CL} : ∀ (X : List CL) (n : Nat) (σ : zS) (Y : List Int), SC σ Cs → Cs.drop n = X → RowC σ 5701 58 Y → Mb σ → RL σ → σ.2.2 58 ≤ 10000 → Y.length ≤ n → ∃ τ, yE tG_Sat_listSingles_p10 β σ [(n : Int)] = some (τ, 0) ∧ FrC [5701] [58] σ τ ∧ RowC τ 5701 58 (Y ++ sgI (sgL X n)) ∧ Mb τ ∧ RL τ ∧ τ.2.2 58 ≤ 10000
  | [], n, σ, Y, hS, hX, hY, hM, hR, hc, hl => by
    have h2 := hS.2.1
    have := List.drop_eq_nil_iff.mp hX
    refine ⟨σ, by rw [yq_Sat_listSingles_p10, kY_Sat_listSingles_p10, if_pos (by omega)], FrC.refl, ?_, hM, hR, hc⟩
    show RowC σ 5701 58 (Y ++ [])
    rw [List.append_nil]; exact hY
  | c :: X, n, σ, Y, hS, hX, hY, hM, hR, hcap, hl => by
    have h2 := hS.2.1
    have h20 := hS.2.2.2.2.2.2.2
    have hlt : n < Cs.length := by
      have : ¬ Cs.length ≤ n := fun h => by rw [List.drop_eq_nil_iff.mpr h] at hX; cases hX
      omega
    have hcons := List.drop_eq_getElem_cons hlt
    rw [hX] at hcons
    injection hcons with e1 e2
    have hc : Cs[n]? = some c := by rw [List.getElem?_eq_getElem hlt, e1]
    have e45 : ∀ ρ : zS, yE tG_Sat_listSingles_p45 β ρ [(n : Int)] = yE tG_Sat_listSingles_p10 β ρ [((n + 1 : Nat) : Int)] := fun ρ => by rw [yq_Sat_listSingles_p45, kY_Sat_listSingles_p45, if_pos (by omega), show (n : Int) + 1 = ((n + 1 : Nat) : Int) by omega]
    have no : ¬ (cst c = 1 ∧ sngL c.1) → ∃ τ, yE tG_Sat_listSingles_p45 β σ [(n : Int)] = some (τ, 0) ∧ FrC [5701] [58] σ τ ∧ RowC τ 5701 58 (Y ++ sgI (sgL (c :: X) n)) ∧ Mb τ ∧ RL τ ∧ τ.2.2 58 ≤ 10000 := fun q => by
      rw [e45, sgL_f q]
      exact ls_p10 hβ X (n + 1) σ Y hS e2.symm hY hM hR hcap (by omega)
    rw [yq_Sat_listSingles_p10, kY_Sat_listSingles_p10, if_neg (by omega), if_pos (by omega), zbd_of (proc_ok (β := β - 1) (by omega) hS hc)]
    by_cases q : cst c = 1
    · rw [b2_t q, if_neg (by decide), if_pos (by omega), zbd_of (single_ok (β := β - 1) (by omega) hS hc)]
      by_cases g : sngL c.1
      · obtain ⟨P0, P1, P2, P3, P4, P5⟩ := radd (x := (n : Int)) (B := 10000) hY hM hR (by omega) hcap (by omega)
        obtain ⟨σ1, hσ1⟩ : ∃ z, z = zAdd σ 5701 58 (n : Int) := ⟨_, rfl⟩
        rw [← hσ1] at P1 P2 P3 P4 P5
        rw [b2_t g, if_neg (by decide), if_pos P0, lt_e, ← hσ1, e45]
        obtain ⟨τ, t1, t2, t3, t4, t5, t6⟩ := ls_p10 hβ X (n + 1) σ1 (Y ++ [(n : Int)]) (hS.f P2) e2.symm P1 P3 P4 P5 (by simp; omega)
        refine ⟨τ, t1, P2.trans t2, ?_, t4, t5, t6⟩
        obtain ⟨a, g1, g2⟩ := g
        rw [sgL_t g1 q g2]
        rw [List.append_assoc] at t3
        exact t3
      · rw [b2_f g, if_pos rfl]; exact no (fun w => g w.2)
    · rw [b2_f q, if_pos rfl]; exact no (fun w => q w.1)
theorem ls_ok {β : Nat} (hβ : 2 ≤ β) {σ : zS} {Cs : List CL} (hS : SC σ Cs) (hM : Mb σ) (hR : RL σ) (h1 : 16 ≤ σ.2.2 58) (h2 : σ.2.2 58 ≤ 10000) : ∃ τ, yE tG_Sat_listSingles β σ [] = some (τ, 0) ∧ FrC [5701] [58] σ τ ∧ RowC τ 5701 58 (sgI (sgL Cs 0)) ∧ Mb τ ∧ RL τ ∧ τ.2.2 58 ≤ 10000 := by
  have f0 : FrC [5701] [58] σ (zI σ 5701 0) := FrC_I
  obtain ⟨τ, t1, t2, t3, t4⟩ := ls_p10 hβ Cs 0 (zI σ 5701 0) [] (hS.f f0) List.drop_zero ⟨zI_1, Nat.zero_le _, h1, trivial⟩ (hM.m f0.2.2.2) hR h2 (Nat.le_refl _)
  refine ⟨τ, ?_, f0.trans t2, t3, t4⟩
  have t1' : yE tG_Sat_listSingles_p10 β (zI σ 5701 0) [0] = _ := t1
  rw [yq_Sat_listSingles, kY_Sat_listSingles, lt_e, t1']
