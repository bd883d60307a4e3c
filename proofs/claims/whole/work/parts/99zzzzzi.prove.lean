/-! one call of both: proof, step -/
variable {qo : Nat}
theorem pfL_s {M : Int → Prop} : ∀ (m s : Nat), pfL M (m + 1) s = pfL M m s ++ @ite _ (M ((s + m : Nat) : Int)) (Classical.propDecidable _) [((s + m : Nat) : Int)] []
  | 0, s => by
    show @ite _ (M (s : Int)) (Classical.propDecidable _) ((s : Int) :: []) [] = [] ++ _
    rw [List.nil_append, Nat.add_zero]
  | m + 1, s => by
    have ih := pfL_s (M := M) m (s + 1)
    have e1 : pfL M (m + 1 + 1) s = @ite _ (M (s : Int)) (Classical.propDecidable _) ((s : Int) :: pfL M (m + 1) (s + 1)) (pfL M (m + 1) (s + 1)) := rfl
    have e2 : pfL M (m + 1) s = @ite _ (M (s : Int)) (Classical.propDecidable _) ((s : Int) :: pfL M m (s + 1)) (pfL M m (s + 1)) := rfl
    rw [e1, e2, ih, show s + 1 + m = s + (m + 1) by omega]
    by_cases c : M (s : Int)
    · rw [if_pos c, if_pos c]; rfl
    · rw [if_neg c, if_neg c]
theorem pfS_hi {Cs : List CL} (hP : PrA Cs) {k : Nat} {M : Int → Prop} {j : Int} (hj : (k : Int) ≤ j) : pfS Cs k M j ↔ M j := by
  refine ⟨fun h => h.elim id (fun ⟨_, c, hc, w⟩ => ?_), Or.inl⟩
  obtain ⟨h1, h2, h3⟩ := hP k c hc
  rcases w with w | w | w
  · omega
  · omega
  · have := h3 j w; omega
theorem pfM_hi {Cs : List CL} (hP : PrA Cs) : ∀ {k : Nat} {M : Int → Prop} {j : Int}, (k : Int) ≤ j → (pfM Cs k M j ↔ M j)
  | 0, M, j, _ => Iff.rfl
  | k + 1, M, j, hj => by
    show pfM Cs k (pfS Cs k M) j ↔ M j
    rw [pfM_hi hP (k := k) (by omega), pfS_hi hP (by omega)]
theorem pfM_up {Cs : List CL} {e : Nat} {M : Int → Prop} (hM : ∀ k : Nat, e < k → ¬ M (k : Int)) : ∀ (d : Nat), pfM Cs (e + 1 + d) M = pfM Cs (e + 1) M
  | 0 => rfl
  | d + 1 => by
    show pfM Cs (e + 1 + d) (pfS Cs (e + 1 + d) M) = _
    have : pfS Cs (e + 1 + d) M = M := funext (fun j => propext ⟨fun h => h.elim id (fun h => absurd h.1 (hM _ (by omega))), Or.inl⟩)
    rw [this]
    exact pfM_up hM d
theorem pfL_up {M : Int → Prop} {e : Nat} (hM : ∀ k : Nat, e < k → ¬ M (k : Int)) : ∀ (d : Nat), pfL M (e + 1 + d) 0 = pfL M (e + 1) 0
  | 0 => rfl
  | d + 1 => by
    rw [show e + 1 + (d + 1) = e + 1 + d + 1 by omega, pfL_s, if_neg (hM _ (by omega)), List.append_nil]
    exact pfL_up hM d
/-- marks of the reference -/
def MR (σ : zS) (M : Int → Prop) : Prop := ∀ j : Int, 0 ≤ j → j < 2001 → (σ.2.1 123 j = 0 ↔ ¬ M j)
theorem MR.c {σ : zS} {M M2 : Int → Prop} (h : MR σ M) (g : ∀ j, 0 ≤ j → (M j ↔ M2 j)) : MR σ M2 := fun j a b => by rw [h j a b, g j a]
theorem MR.a {σ : zS} {M : Int → Prop} (h : MR σ M) {k : Int} : MR (zA σ 123 k 1) (fun j => M j ∨ j = k) := fun j a b => by
  by_cases e : j = k
  · rw [e, zA_s]
    exact ⟨fun z => absurd z (by decide), fun z => absurd (Or.inr rfl) z⟩
  · rw [zA_i e, h j a b]
    exact ⟨fun z w => w.elim z e, fun z w => z (Or.inl w)⟩
theorem pr_99 {γ : Nat} {Cs : List CL} {k : Nat} {c : CL} {x0 : Int} (hk : k < 2001) (hu : ∀ u ∈ cus c, 0 ≤ u ∧ u < 2001) : ∀ (m n : Nat) (σ : zS) (M : Int → Prop), n + m = (cus c).length → σ.2.1 82 (k : Int) = ((cus c).length : Int) → 0 ≤ σ.2.1 81 (k : Int) → σ.2.1 81 (k : Int) + ((cus c).length : Int) ≤ 130000 → Fl (σ.2.1 83) (σ.2.1 81 (k : Int)) (cus c) → MR σ M → ∃ τ, zE tM_prove_99 γ σ [x0, (k : Int), (n : Int)] = zE tM_prove_134 γ τ [x0, (k : Int)] ∧ FrC [] [123] σ τ ∧ MR τ (fun j => M j ∨ j ∈ (cus c).drop n)
  | 0, n, σ, M, hm, h82, h81, h813, hF, hM => by
    refine ⟨σ, ?_, FrC.refl, hM.c (fun j _ => ?_)⟩
    · rw [zq_prove_99, kZ_prove_99, if_pos ⟨by omega, by omega⟩, h82, if_pos (by omega)]
    · rw [List.drop_eq_nil_iff.mpr (by omega)]; simp
  | m + 1, n, σ, M, hm, h82, h81, h813, hF, hM => by
    obtain ⟨u, hu'⟩ : ∃ u, (cus c)[n]? = some u := ⟨_, List.getElem?_eq_getElem (by omega)⟩
    obtain ⟨u0, u1⟩ := hu u (List.mem_of_getElem? hu')
    obtain ⟨σ1, hσ1⟩ : ∃ z, z = zA σ 123 u 1 := ⟨_, rfl⟩
    have f1 : FrC [] [123] σ σ1 := by rw [hσ1]; exact FrC_A
    obtain ⟨τ, t1, t2, t3⟩ := pr_99 (γ := γ) (Cs := Cs) (x0 := x0) hk hu m (n + 1) σ1 (fun j => M j ∨ j = u) (by omega) (by rw [f1.a 82]; exact h82) (by rw [f1.a 81]; exact h81) (by rw [f1.a 81]; exact h813) (by rw [f1.a 81]; exact Fl_q (fun q _ _ => f1.a 83 q) hF) (by rw [hσ1]; exact hM.a)
    refine ⟨τ, ?_, f1.trans t2, t3.c (fun j _ => ?_)⟩
    · rw [← t1, zq_prove_99, kZ_prove_99, if_pos ⟨by omega, by omega⟩, h82, if_neg (by omega), if_pos ⟨by omega, by omega⟩, if_pos (show zb (σ.2.1 81 (k : Int) + (n : Int)) 130000 from ⟨by omega, by omega⟩), Fl_get hF hu', if_pos (show zb u 2001 from ⟨u0, by omega⟩), lt_e, ← hσ1, if_pos ⟨by omega, by omega⟩]
      rfl
    · have hd : (cus c).drop n = u :: (cus c).drop (n + 1) := by
        rw [List.drop_eq_getElem_cons (by omega)]
        congr 1
        exact (List.getElem?_eq_some_iff.mp hu').2
      rw [hd, List.mem_cons, or_assoc]
theorem pr_36 {γ : Nat} {ar : Int → Nat} {pd : Int → Prop} {m9 : Int} {A : PA} {P : List Int} (hP : PrA A.1) : ∀ (n : Nat) (σ : zS) (M : Int → Prop) (x0 : Nat), n ≤ A.1.length → x0 + n ≤ 2000 → RSt ar pd m9 σ A P → MR σ M → ∃ τ, zE tM_prove_36 γ σ [(x0 : Int), (n : Int) - 1] = some (τ, ((x0 + (pfL (pfM A.1 n M) n 0).length : Nat) : Int)) ∧ FrC [] [123] σ τ ∧ MR τ (pfM A.1 n M)
  | 0, σ, M, x0, hn, hx, hS, hM => by
    refine ⟨σ, ?_, FrC.refl, hM⟩
    rw [zq_prove_36, kZ_prove_36, if_pos (by omega)]
    rfl
  | n + 1, σ, M, x0, hn, hx, hS, hM => by
    obtain ⟨c, hc⟩ : ∃ c, A.1[n]? = some c := ⟨_, List.getElem?_eq_getElem (by omega)⟩
    obtain ⟨⟨z1, z2, z3, z4, z5, z6, z7, z8, z9, z10, z11, z12⟩, _, _, _, hN, _⟩ := hS.1.1.k hc
    have r86 := hS.1.1.2.2.2.2.1
    obtain ⟨p1, p2, p3⟩ := hP n c hc
    have e : ((n + 1 : Nat) : Int) - 1 = (n : Int) := by omega
    have hb : zb (n : Int) 2001 := ⟨by omega, by omega⟩
    have hk := hM (n : Int) (by omega) (by omega)
    have e134 : ∀ (κ : zS) (y : Int), zE tM_prove_134 γ κ [y, (n : Int)] = zE tM_prove_36 γ κ [y, (n : Int) - 1] := fun κ y => by rw [zq_prove_134, kZ_prove_134, if_pos ⟨by omega, by omega⟩, show (n : Int) + -1 = (n : Int) - 1 by omega]
    have hlen : (pfL (pfM A.1 (n + 1) M) (n + 1) 0).length = (pfL (pfM A.1 n (pfS A.1 n M)) n 0).length + @ite _ (M (n : Int)) (Classical.propDecidable _) 1 0 := by
      rw [pfL_s, List.length_append, Nat.zero_add]
      have hq : pfM A.1 (n + 1) M (n : Int) ↔ M (n : Int) := by
        show pfM A.1 n (pfS A.1 n M) (n : Int) ↔ _
        rw [pfM_hi hP (Int.le_refl _), pfS_hi hP (Int.le_refl _)]
      have e0 : pfM A.1 (n + 1) M = pfM A.1 n (pfS A.1 n M) := rfl
      by_cases w : M (n : Int)
      · rw [if_pos (hq.mpr w), if_pos w, e0]; rfl
      · rw [if_neg (fun z => w (hq.mp z)), if_neg w, e0]; rfl
    rw [e, hlen]
    by_cases w : M (n : Int)
    · rw [if_pos w]
      -- its premises
      obtain ⟨σ1, hσ1⟩ : ∃ z, z = (if c.2.2.1 < 0 then σ else zA σ 123 c.2.2.1 1) := ⟨_, rfl⟩
      have f1 : FrC [] [123] σ σ1 := by rw [hσ1]; split; exact FrC.refl; exact FrC_A
      have M1 : MR σ1 (fun j => M j ∨ j = c.2.2.1) := by
        rw [hσ1]
        by_cases q : c.2.2.1 < 0
        · rw [if_pos q]; exact hM.c (fun j j0 => ⟨Or.inl, fun z => z.elim id (fun z => by omega)⟩)
        · rw [if_neg q]; exact hM.a
      obtain ⟨σ2, hσ2⟩ : ∃ z, z = (if c.2.2.2.1 < 0 then σ1 else zA σ1 123 c.2.2.2.1 1) := ⟨_, rfl⟩
      have f2 : FrC [] [123] σ σ2 := by rw [hσ2]; split; exact f1; exact f1.trans FrC_A
      have M2 : MR σ2 (fun j => (M j ∨ j = c.2.2.1) ∨ j = c.2.2.2.1) := by
        rw [hσ2]
        by_cases q : c.2.2.2.1 < 0
        · rw [if_pos q]; exact M1.c (fun j j0 => ⟨Or.inl, fun z => z.elim id (fun z => by omega)⟩)
        · rw [if_neg q]; exact M1.a
      obtain ⟨σ3, t1, t2, t3⟩ := pr_99 (γ := γ) (Cs := A.1) (k := n) (c := c) (x0 := (x0 : Int) + 1) (by omega) (fun u hu => by have := p3 u hu; omega) (cus c).length 0 σ2 _ (by omega) (by rw [f2.a 82]; exact z9) (by rw [f2.a 81]; exact z10) (by rw [f2.a 81]; omega) (by rw [f2.a 81]; exact Fl_q (fun q _ _ => f2.a 83 q) z12) M2
      have f3 := f2.trans t2
      have M3 : MR σ3 (pfS A.1 n M) := t3.c (fun j _ => by
        unfold pfS
        rw [List.drop_zero]
        constructor
        · rintro (((h | h) | h) | h)
          · exact Or.inl h
          · exact Or.inr ⟨w, c, hc, Or.inl h⟩
          · exact Or.inr ⟨w, c, hc, Or.inr (Or.inl h)⟩
          · exact Or.inr ⟨w, c, hc, Or.inr (Or.inr h)⟩
        · rintro (h | ⟨_, d, hd, h⟩)
          · exact Or.inl (Or.inl (Or.inl h))
          · rw [hc] at hd
            obtain rfl := Option.some.inj hd
            rcases h with h | h | h
            · exact Or.inl (Or.inl (Or.inr h))
            · exact Or.inl (Or.inr h)
            · exact Or.inr h)
      obtain ⟨τ, v1, v2, v3⟩ := pr_36 (γ := γ) hP n σ3 (pfS A.1 n M) (x0 + 1) (by omega) (by omega) (hS.f f3 f3.pq) M3
      refine ⟨τ, ?_, f3.trans v2, v3⟩
      have e76 : zE tM_prove_76 γ σ1 [(x0 : Int) + 1, (n : Int)] = zE tM_prove_99 γ σ2 [(x0 : Int) + 1, (n : Int), 0] := by
        rw [zq_prove_76, kZ_prove_76, if_pos hb, f1.a 79, z7]
        by_cases q : c.2.2.2.1 < 0
        · rw [if_pos q] at hσ2 ⊢
          rw [zq_prove_97, kZ_prove_97, hσ2]
        · rw [if_neg q] at hσ2 ⊢
          rw [if_pos (show zb c.2.2.2.1 2001 from ⟨by omega, by omega⟩), lt_e, ← hσ2, zq_prove_97, kZ_prove_97]
      have e36 : zE tM_prove_36 γ σ [(x0 : Int), (n : Int)] = zE tM_prove_76 γ σ1 [(x0 : Int) + 1, (n : Int)] := by
        rw [zq_prove_36, kZ_prove_36, if_neg (by omega), if_pos hb, if_neg (fun z => hk.mp z w), z6]
        by_cases q : c.2.2.1 < 0
        · rw [if_pos q] at hσ1 ⊢
          rw [if_pos ⟨by omega, by omega⟩, hσ1]
        · rw [if_neg q] at hσ1 ⊢
          rw [if_pos (show zb c.2.2.1 2001 from ⟨by omega, by omega⟩), lt_e, ← hσ1, if_pos ⟨by omega, by omega⟩]
      have t1' : zE tM_prove_99 γ σ2 [(x0 : Int) + 1, (n : Int), 0] = _ := t1
      have v1' : zE tM_prove_36 γ σ3 [(x0 : Int) + 1, (n : Int) - 1] = _ := v1
      rw [e36, e76, t1', e134, v1', show x0 + 1 + (pfL (pfM A.1 n (pfS A.1 n M)) n 0).length = x0 + ((pfL (pfM A.1 n (pfS A.1 n M)) n 0).length + 1) by omega]
    · rw [if_neg w]
      have M3 : MR σ (pfS A.1 n M) := hM.c (fun j _ => ⟨Or.inl, fun z => z.elim id (fun z => absurd z.1 w)⟩)
      obtain ⟨τ, v1, v2, v3⟩ := pr_36 (γ := γ) hP n σ (pfS A.1 n M) x0 (by omega) (by omega) hS M3
      refine ⟨τ, ?_, v2, v3⟩
      rw [zq_prove_36, kZ_prove_36, if_neg (by omega), if_pos hb, if_pos (hk.mpr w), e134, v1, Nat.add_zero]
/-- prove: the proof's CLAUSES are marked -/
theorem prv_ok {γ : Nat} {ar : Int → Nat} {pd : Int → Prop} {m9 : Int} {A : PA} {P : List Int} (hP : PrA A.1) {ρ : zS} (q : RQ0 ar pd m9 ρ A P) : ∃ τ M, zE tM_prove γ ρ [] = some (τ, (P.length : Int)) ∧ FrC [] [123] ρ τ ∧ MR τ M ∧ P.length ≤ 2001 ∧ (P ≠ [] → P = pfL M A.1.length 0 ∧ A.1.length ≤ 2000) := by
  obtain ⟨ρ1, hρ1⟩ : ∃ z, z = zFl ρ 123 0 2001 := ⟨_, rfl⟩
  have f1 : FrC [] [123] ρ ρ1 := by
    rw [hρ1]
    refine ⟨fun _ _ => rfl, fun j q hj => ?_, fun _ _ _ _ => rfl, Mg.of rfl⟩
    have : j ≠ 123 := fun e => by subst e; exact absurd hj (by decide)
    simp [zFl, this]
  have M1 : MR ρ1 (fun _ => False) := fun j a b => by
    rw [hρ1]
    have : (zFl ρ 123 0 2001).2.1 123 j = 0 := by simp [zFl]; omega
    rw [this]; simp
  have none : ρ.1 88 < 0 → P = [] → ∃ τ M, zE tM_prove γ ρ [] = some (τ, (P.length : Int)) ∧ FrC [] [123] ρ τ ∧ MR τ M ∧ P.length ≤ 2001 ∧ (P ≠ [] → P = pfL M A.1.length 0 ∧ A.1.length ≤ 2000) := fun h88 hp => by
    refine ⟨ρ1, _, ?_, f1, M1, by rw [hp]; simp, fun z => absurd hp z⟩
    rw [zq_prove, kZ_prove, lt_e, ← hρ1, f1.i 88, if_neg (by omega), hp]
    rfl
  rcases q with q | q
  · by_cases c87 : A.2 87 = 1
    · obtain ⟨e, he, h88, hp⟩ := q.2.2 c87
      have hN := q.1.1.2.1
      obtain ⟨ρ2, hρ2⟩ : ∃ z, z = zA ρ1 123 (e : Int) 1 := ⟨_, rfl⟩
      have f2 : FrC [] [123] ρ ρ2 := by rw [hρ2]; exact f1.trans FrC_A
      have M2 : MR ρ2 (fun j => j = (e : Int)) := by
        rw [hρ2]; exact M1.a.c (fun j _ => ⟨fun z => z.elim False.elim id, Or.inr⟩)
      obtain ⟨τ, t1, t2, t3⟩ := pr_36 (γ := γ) hP A.1.length ρ2 (fun j => j = (e : Int)) 0 (Nat.le_refl _) (by omega) (q.f f2 f2.pq) M2
      have hM0 : ∀ k : Nat, e < k → ¬ (k : Int) = (e : Int) := fun k hk => by omega
      have eM : pfM A.1 A.1.length (fun j => j = (e : Int)) = pfM A.1 (e + 1) (fun j => j = (e : Int)) := by
        have := pfM_up (Cs := A.1) (M := fun j => j = (e : Int)) hM0 (A.1.length - (e + 1))
        rw [show e + 1 + (A.1.length - (e + 1)) = A.1.length by omega] at this
        exact this
      have hM1 : ∀ k : Nat, e < k → ¬ pfM A.1 (e + 1) (fun j => j = (e : Int)) (k : Int) := fun k hk z => by
        rw [pfM_hi hP (by omega)] at z
        omega
      have eL : pfL (pfM A.1 (e + 1) (fun j => j = (e : Int))) A.1.length 0 = P := by
        have := pfL_up hM1 (A.1.length - (e + 1))
        rw [show e + 1 + (A.1.length - (e + 1)) = A.1.length by omega] at this
        rw [this, hp]; rfl
      rw [eM, eL, Nat.zero_add] at t1
      rw [eM] at t3
      have hl : P.length ≤ 2001 := by
        rw [← eL]
        have : ∀ (M : Int → Prop) (m s : Nat), (pfL M m s).length ≤ m := by
          intro M m
          induction m with
          | zero => intro s; exact Nat.le_refl _
          | succ m ih =>
            intro s
            have := ih (s + 1)
            show (@ite _ (M (s : Int)) (Classical.propDecidable _) ((s : Int) :: pfL M m (s + 1)) (pfL M m (s + 1))).length ≤ m + 1
            split
            · rw [List.length_cons]; omega
            · omega
        have := this (pfM A.1 (e + 1) (fun j => j = (e : Int))) A.1.length 0
        omega
      refine ⟨τ, _, ?_, f2.trans t2, t3, hl, fun _ => ⟨eL.symm, hN⟩⟩
      have e84 : ρ2.1 84 = (A.1.length : Int) := by rw [f2.i 84]; exact q.1.1.1
      rw [zq_prove, kZ_prove, lt_e, ← hρ1, f1.i 88, h88, if_pos (by omega), if_pos (show zb (e : Int) 2001 from ⟨by omega, by omega⟩), lt_e, ← hρ2, e84, if_pos ⟨by omega, by omega⟩]
      exact t1
    · obtain ⟨h88, hp⟩ := q.2.1 c87
      exact none h88 hp
  · exact none q.2.2.2.2.1 q.2.2.2.2.2.1
theorem ppro_ok {σ ρ : zS} {n : Nat} (h : TL qo σ ρ n) {β γ : Nat} (hγ : 1 ≤ γ) : ∃ r κ, yE tC_CP_proof β σ [] = some (σ, r) ∧ zE tM_proof γ ρ [] = some (κ, r) ∧ κ.1 4 = 0 ∧ TL qo σ κ n := by
  obtain ⟨ar, pd, m9, A, P, T, nm, o, ⟨d1, d2, d3, d4, d5, d6⟩, s, c, q, r, i⟩ := id h
  have g : FrC [4, 124, 125] [123, 126] ρ (zI ρ 4 0) := FrC_I
  obtain ⟨κ, M, t1, t2, t3, t4, t5⟩ := prv_ok (γ := γ - 1) d5.2 (q.f g g.pq)
  refine ⟨(P.length : Int), κ, ?_, ?_, by rw [t2.i 4, zI_1], h.o FrC.refl (g.trans t2.w)⟩
  · rw [yq_CP_proof, kY_CP_proof, s.2.2.1.1]
  · rw [zq_proof, kZ_proof, lt_e, if_pos hγ, zbd_of t1]
/-- the i-th that is marked -/
theorem s47 {γ : Nat} {σ : zS} {M : Int → Prop} (hM : MR σ M) {x0 x1 v : Int} : ∀ (m s i : Nat), s + m ≤ 2000 → i ≤ 3000 → (pfL M m s)[i]? = some v → zE tM_step2_47 γ σ [x0, x1, (s : Int), (i : Int)] = some (σ, v)
  | 0, s, i, hs, hi, h => by cases h
  | m + 1, s, i, hs, hi, h => by
    replace h : (@ite _ (M (s : Int)) (Classical.propDecidable _) ((s : Int) :: pfL M m (s + 1)) (pfL M m (s + 1)))[i]? = some v := h
    have hk := hM (s : Int) (by omega) (by omega)
    rw [zq_step2_47, kZ_step2_47, if_pos (show zb (s : Int) 2001 from ⟨by omega, by omega⟩)]
    by_cases w : M (s : Int)
    · rw [if_pos w] at h
      rw [if_neg (fun z => hk.mp z w), if_pos ⟨by omega, by omega⟩, zq_step2_39, kZ_step2_39]
      cases i with
      | zero =>
        cases h
        rw [if_pos (by omega)]
      | succ i =>
        have ih := s47 (γ := γ) hM (x0 := x0) (x1 := x1) m (s + 1) i (by omega) (by omega) h
        rw [if_neg (by omega), if_pos ⟨by omega, by omega⟩, ← ih, show ((i + 1 : Nat) : Int) + -1 = (i : Int) by omega]
        rfl
    · rw [if_neg w] at h
      have ih := s47 (γ := γ) hM (x0 := x0) (x1 := x1) m (s + 1) i (by omega) hi h
      rw [if_pos (hk.mpr w), if_pos ⟨by omega, by omega⟩, ← ih]
      rfl
theorem pstep_ok {σ ρ : zS} {n : Nat} (h : TL qo σ ρ n) (h3 : σ.2.2 3000 = 0) {β γ : Nat} (hγ : 1 ≤ γ) {x : Int} : An qo (yE tP_CP_step β σ [x]) (zE tM_step2 γ ρ [x]) σ mTO n := by
  have hz := h.zr
  obtain ⟨ar, pd, m9, A, P, T, nm, o, ⟨d1, d2, d3, d4, d5, d6⟩, s, c, q, r, i⟩ := id h
  have g : FrC [4, 124, 125] [123, 126] ρ (zI ρ 4 0) := FrC_I
  obtain ⟨κ, M, t1, t2, t3, t4, t5⟩ := prv_ok (γ := γ - 1) d5.2 (q.f g g.pq)
  have tl : TL qo σ κ n := h.o FrC.refl (g.trans t2.w)
  have k4 : κ.1 4 = 0 := by rw [t2.i 4, zI_1]
  obtain ⟨r1, r2, r3, r4⟩ := s.2.2.1
  have goZ : ∀ {R : Option zR}, (if x < 0 then (zE tM_step2_21 γ κ [x, (P.length : Int), 1]) else (if x < (P.length : Int) then (zE tM_step2_26 γ κ [x, (P.length : Int), 0, 1]) else (zE tM_step2_21 γ κ [x, (P.length : Int), 1]))) = R → zE tM_step2 γ ρ [x] = R := fun {R} hR => by
    rw [zq_step2, kZ_step2, lt_e, if_pos hγ, zbd_of t1]; exact hR
  by_cases q0 : x < 0 ∨ (P.length : Int) ≤ x
  · refine An.th (c := 4) (r := 0) (κ := zI κ 4 1) (s := 0) (by decide) ?_ (goZ ?_) zI_1 tl.t
    · have e18 : yE tP_CP_step_p18 β σ [x] = some (zT σ 4, 0) := by rw [yq_CP_step_p18, kY_CP_step_p18, if_pos hz, lt_e]
      rw [yq_CP_step, kY_CP_step, r1]
      by_cases q1 : x < 0
      · rw [if_pos q1]; exact e18
      · rw [if_neg q1, if_neg (by omega)]; exact e18
    · have e21 : zE tM_step2_21 γ κ [x, (P.length : Int), 1] = some (zI κ 4 1, 0) := by
        rw [zq_step2_21, kZ_step2_21, zq_step2_26, kZ_step2_26, if_pos hγ, zbd_of ref_1, if_neg (by decide)]
      by_cases q1 : x < 0
      · rw [if_pos q1]; exact e21
      · rw [if_neg q1, if_neg (by omega)]; exact e21
  obtain ⟨j, hj⟩ : ∃ j : Nat, x = (j : Int) := ⟨x.toNat, by omega⟩
  subst hj
  obtain ⟨v, hv⟩ : ∃ v, P[j]? = some v := ⟨_, List.getElem?_eq_getElem (by omega)⟩
  obtain ⟨u1, u2⟩ := t5 (fun z => by rw [z] at hv; cases hv)
  have hF := Fl_get r4 hv
  rw [Int.zero_add] at hF
  refine An.ok (τ := σ) (κ := κ) (r := v) ?_ (goZ ?_) h3 k4 rfl Mg.refl tl
  · rw [yq_CP_step, kY_CP_step, r1, if_neg (by omega), if_pos (by omega), if_pos (show zb (j : Int) (σ.2.2 56) from ⟨by omega, by omega⟩), hF]
  · rw [if_neg (by omega), if_pos (by omega), zq_step2_26, kZ_step2_26, if_pos hγ, zbd_of ref_0, if_pos rfl, zq_step2_39, kZ_step2_39, if_neg (by omega), if_pos ⟨by omega, by omega⟩]
    rw [u1] at hv
    exact s47 t3 A.1.length 0 j (by omega) (by omega) hv
