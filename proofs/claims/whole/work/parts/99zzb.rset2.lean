/-! the reference: what is done with a GIVEN -/
abbrev FSe (σ τ : zS) : Prop := FrC [47, 72, 84, 87, 90, 91, 92, 94, 98, 101, 105, 112, 113, 114] [43, 44, 45, 46, 66, 67, 68, 69, 70, 71, 73, 74, 75, 76, 77, 78, 79, 80, 81, 82, 95, 96, 97, 100, 102, 103, 104, 106, 107, 108, 109, 110, 111, 115, 1000, 1001, 1002, 1003, 1004, 1005, 1006, 1007, 1008] σ τ
section sett
variable {ar : Int → Nat} {pd : Int → Prop} {m9 : Int}
theorem se_2 {β : Nat} (hβ : 212 ≤ β) {g L : Nat} {G : List Lt} : ∀ (m n : Nat) (σ : zS) (A : PA), n + m = L → A.1.length = L → (∃ d, A.1[g]? = some d ∧ d.1 = G) → RI ar pd m9 σ A → ∃ τ, zE tM_settle_2 β σ [(g : Int), (n : Int)] = zE tM_settle_57 β τ [(g : Int), 0] ∧ RI ar pd m9 τ (fo (sA1 pd G) m n A) ∧ FSe σ τ
  | 0, n, σ, A, hm, hL, hg, hI => by
    have := hI.1.1
    exact ⟨σ, by rw [zq_settle_2, kZ_settle_2, if_pos (by omega)], hI, FrC.refl⟩
  | m + 1, n, σ, A, hm, hL, hg, hI => by
    have h84 := hI.1.1
    have h20 := hI.1.2.1
    obtain ⟨c, hc⟩ : ∃ c, A.1[n]? = some c := ⟨_, List.getElem?_eq_getElem (by omega)⟩
    obtain ⟨d, hd, hG⟩ := id hg
    have hk := (hI.1.k hc).1.2.2.2.2.2.2.2.1
    have e49 : ∀ ρ : zS, zE tM_settle_49 β ρ [(g : Int), (n : Int)] = zE tM_settle_2 β ρ [(g : Int), ((n + 1 : Nat) : Int)] := fun ρ => by rw [zq_settle_49, kZ_settle_49, if_pos (by omega), show (n : Int) + 1 = ((n + 1 : Nat) : Int) by omega]
    show ∃ τ, _ ∧ RI ar pd m9 τ (fo (sA1 pd G) m (n + 1) (sA1 pd G n A)) ∧ _
    have go := fun ρ (hρ : RI ar pd m9 ρ (sA1 pd G n A)) => se_2 (L := L) (g := g) hβ m (n + 1) ρ (sA1 pd G n A) (by omega) (by rw [sA1_len]; exact hL) (sA1_keep hg) hρ
    rw [zq_settle_2, kZ_settle_2, if_neg (by omega), if_pos (by omega), hk]
    by_cases h1 : cst c = 1
    · obtain ⟨σ1, s1, s2⟩ := rsub_ok (β := β - 1) (by omega) hI.1 hI.2.2.1 hd (hI.2.2.2.2.2 d (List.mem_of_getElem? hd)) hc (hI.2.2.2.2.2 c (List.mem_of_getElem? hc))
      rw [hG] at s1
      have I1 := hI.f s2 s2.pq
      rw [if_pos h1, if_pos (by omega), zbd_of s1]
      by_cases h2 : subL pd G c.1
      · have e : sA1 pd G n A = (stA A.1 n 2, fu A.2 92 (zwa (A.2 92) 1)) := by unfold sA1; rw [hc]; dsimp only; rw [if_pos ⟨h1, h2⟩]
        have k92 : σ1.1 92 = A.2 92 := I1.2.2.2.1.2.2.2.2.1
        have I3 : RI ar pd m9 (zA (zI σ1 92 (zwa (σ1.1 92) 1)) 80 (n : Int) 2) (sA1 pd G n A) := by
          rw [e, k92]
          exact (I1.u (j := 92) (x := zwa (A.2 92) 1)).st (k := n) (x := 2) (by show n < A.1.length; omega)
        obtain ⟨τ, t1, t2, t3⟩ := go _ I3
        have f1 : FSe σ1 (zI σ1 92 (zwa (σ1.1 92) 1)) := FrC_I
        exact ⟨τ, by rw [b2_t h2, if_neg (by decide), lt_e, lt_e, e49, t1], t2, (s2.w.trans (f1.trans FrC_A)).trans t3⟩
      · have e : sA1 pd G n A = A := by unfold sA1; rw [hc]; dsimp only; rw [if_neg (fun w => h2 w.2)]
        obtain ⟨τ, t1, t2, t3⟩ := go σ1 (by rw [e]; exact I1)
        exact ⟨τ, by rw [b2_f h2, if_pos rfl, e49, t1], t2, s2.w.trans t3⟩
    · have e : sA1 pd G n A = A := by unfold sA1; rw [hc]; dsimp only; rw [if_neg (fun w => h1 w.1)]
      obtain ⟨τ, t1, t2, t3⟩ := go σ (by rw [e]; exact hI)
      exact ⟨τ, by rw [if_neg h1, e49, t1], t2, t3⟩
theorem sA2_id {G : List Lt} (h : ¬ sngL G) (n : Nat) (A : PA) : sA2 pd G n A = A := by
  unfold sA2
  split
  · rfl
  · rw [if_neg (fun w => ?_)]
    obtain ⟨b, h1, h2, _⟩ := w.2
    exact h ⟨b, h1, h2⟩
theorem se_57 {β : Nat} (hβ : 313 ≤ β) {g L : Nat} {G : List Lt} : ∀ (m n : Nat) (σ : zS) (A : PA), n + m = L → A.1.length = L → (∃ d, A.1[g]? = some d ∧ d.1 = G) → RI ar pd m9 σ A → ∃ (τ : zS) (x : Int), zE tM_settle_57 β σ [(g : Int), (n : Int)] = zE tM_settle_105 β τ [(g : Int), x] ∧ RI ar pd m9 τ (fo (sA2 pd G) m n A) ∧ FSe σ τ
  | 0, n, σ, A, hm, hL, hg, hI => by
    have := hI.1.1
    exact ⟨σ, _, by rw [zq_settle_57, kZ_settle_57, if_pos (by omega)], hI, FrC.refl⟩
  | m + 1, n, σ, A, hm, hL, hg, hI => by
    have h84 := hI.1.1
    have h20 := hI.1.2.1
    obtain ⟨c, hc⟩ : ∃ c, A.1[n]? = some c := ⟨_, List.getElem?_eq_getElem (by omega)⟩
    obtain ⟨d, hd, hG⟩ := id hg
    have wd := hI.2.2.2.2.2 d (List.mem_of_getElem? hd)
    have wc := hI.2.2.2.2.2 c (List.mem_of_getElem? hc)
    have hk := (hI.1.k hc).1.2.2.2.2.2.2.2.1
    have u := runit_ok (β := β - 1) hI.1 hd (fun a ha => (wd.2.2.2.2 a ha).1)
    rw [hG] at u
    have e99 : ∀ ρ : zS, zE tM_settle_99 β ρ [(g : Int), (n : Int)] = zE tM_settle_57 β ρ [(g : Int), ((n + 1 : Nat) : Int)] := fun ρ => by rw [zq_settle_99, kZ_settle_99, if_pos (by omega), show (n : Int) + 1 = ((n + 1 : Nat) : Int) by omega]
    by_cases hs : sngL G
    · obtain ⟨b, hb, hb1⟩ := id hs
      show ∃ (τ : zS) (x : Int), _ ∧ RI ar pd m9 τ (fo (sA2 pd G) m (n + 1) (sA2 pd G n A)) ∧ _
      have go := fun ρ (hρ : RI ar pd m9 ρ (sA2 pd G n A)) => se_57 (L := L) (g := g) hβ m (n + 1) ρ (sA2 pd G n A) (by omega) (by rw [sA2_len]; exact hL) (sA2_keep hg) hρ
      rw [zq_settle_57, kZ_settle_57, if_neg (by omega), if_pos (by omega), zbd_of u, b2_t hs, if_neg (by decide), if_pos (by omega), hk]
      by_cases h1 : cst c = 1
      · obtain ⟨σ1, s1, s2⟩ := crw_ok (β := β - 1) hI.2.2.2.2.1 hd (b := b) (by rw [hG]; exact hb) wd hc wc (by omega) hI.1 hI.2.2.1
        have I1 := hI.f s2.1 s2.2
        have ei : (∃ (i : Nat) (a : Lt), c.1[i]? = some a ∧ ∃ o y, sbF o (lF a) = some y ∧ rwP pd b y) ↔ rwB pd G c.1 := by
          constructor
          · intro w; exact ⟨b, hb, hb1, w⟩
          · rintro ⟨b', h1, _, w⟩
            rw [hb] at h1
            simp only [List.cons.injEq, and_true] at h1
            rw [h1]; exact w
        rw [b2_c ei] at s1
        rw [if_pos h1, if_pos (by omega), zbd_of s1]
        by_cases h2 : rwB pd G c.1
        · have e : sA2 pd G n A = (stA A.1 n 0, A.2) := by unfold sA2; rw [hc]; dsimp only; rw [if_pos ⟨h1, h2⟩]
          obtain ⟨τ, x, t1, t2, t3⟩ := go (zA σ1 80 (n : Int) 0) (by rw [e]; exact I1.st (by omega))
          exact ⟨τ, x, by rw [b2_t h2, if_neg (by decide), lt_e, e99, t1], t2, (s2.1.w.trans FrC_A).trans t3⟩
        · have e : sA2 pd G n A = A := by unfold sA2; rw [hc]; dsimp only; rw [if_neg (fun w => h2 w.2)]
          obtain ⟨τ, x, t1, t2, t3⟩ := go σ1 (by rw [e]; exact I1)
          exact ⟨τ, x, by rw [b2_f h2, if_pos rfl, e99, t1], t2, s2.1.w.trans t3⟩
      · have e : sA2 pd G n A = A := by unfold sA2; rw [hc]; dsimp only; rw [if_neg (fun w => h1 w.1)]
        obtain ⟨τ, x, t1, t2, t3⟩ := go σ (by rw [e]; exact hI)
        exact ⟨τ, x, by rw [if_neg h1, e99, t1], t2, t3⟩
    · refine ⟨σ, (n : Int), ?_, by rw [fo_id (m + 1) n A (fun i A _ => sA2_id hs i A)]; exact hI, FrC.refl⟩
      rw [zq_settle_57, kZ_settle_57, if_neg (by omega), if_pos (by omega), zbd_of u, b2_f hs, if_pos rfl]
theorem supA_no {k1 k2 : Nat} {C1 C2 : List Lt} {A : PA} (h : A.2 87 ≠ 0) : supA ar pd m9 k1 C1 k2 C2 A = A := by unfold supA; exact fo_no spA_no _ _ _ h
theorem Ext.refl (A : PA) : Ext A.1 A := ⟨[], by simp⟩
theorem Ext.get {Cs : List CL} {A : PA} (h : Ext Cs A) {k : Nat} {d : CL} (hc : Cs[k]? = some d) : A.1[k]? = some d := by
  obtain ⟨Z, h⟩ := id h
  rw [h]; exact get_ext hc
theorem se_119 {β : Nat} (hβ : 1644 ≤ β) {g L : Nat} {dg : CL} : ∀ (m n : Nat) (σ : zS) (A : PA), n + m = L → L ≤ A.1.length → A.1[g]? = some dg → RI ar pd m9 σ A → ∃ (τ : zS) (x : Int), zE tM_settle_119 β σ [(g : Int), (L : Int), (n : Int)] = zE tM_settle_174 β τ [(g : Int), (L : Int), x] ∧ RI ar pd m9 τ (wh (ifS ar pd m9 g dg.1) m n A) ∧ FSe σ τ
  | 0, n, σ, A, hm, hL, hg, hI => ⟨σ, _, by rw [zq_settle_119, kZ_settle_119, if_pos (by omega)], hI, FrC.refl⟩
  | m + 1, n, σ, A, hm, hL, hg, hI => by
    have h84 := hI.1.1
    have h20 := hI.1.2.1
    have k87 : σ.1 87 = A.2 87 := hI.2.2.2.1.1
    obtain ⟨c, hc⟩ : ∃ c, A.1[n]? = some c := ⟨_, List.getElem?_eq_getElem (by omega)⟩
    have hk := (hI.1.k hc).1.2.2.2.2.2.2.2.1
    have e168 : ∀ ρ : zS, zE tM_settle_168 β ρ [(g : Int), (L : Int), (n : Int)] = zE tM_settle_119 β ρ [(g : Int), (L : Int), ((n + 1 : Nat) : Int)] := fun ρ => by rw [zq_settle_168, kZ_settle_168, if_pos (by omega), show (n : Int) + 1 = ((n + 1 : Nat) : Int) by omega]
    by_cases h0 : A.2 87 = 0
    · show ∃ (τ : zS) (x : Int), _ ∧ RI ar pd m9 τ (if A.2 87 = 0 then wh (ifS ar pd m9 g dg.1) m (n + 1) (ifS ar pd m9 g dg.1 n A) else A) ∧ _
      have x1 : Ext A.1 (ifS ar pd m9 g dg.1 n A) := (Ext.refl A).tr (ifS_ext _ _)
      have go := fun ρ (hρ : RI ar pd m9 ρ (ifS ar pd m9 g dg.1 n A)) => se_119 (L := L) (g := g) hβ m (n + 1) ρ (ifS ar pd m9 g dg.1 n A) (by omega) (by
        obtain ⟨Z, hZ⟩ := id x1
        rw [hZ, List.length_append]; omega) (x1.get hg) hρ
      rw [if_pos h0, zq_settle_119, kZ_settle_119, if_neg (by omega), if_pos (by omega), if_pos (by omega), hk]
      by_cases h1 : cst c = 1
      · obtain ⟨σ1, s1, s2, s3⟩ := rsup_ok (β := β - 1) hc hg (by omega) hI (Ext.refl A)
        rw [if_pos h1, if_pos (by omega), zbd_of s1]
        by_cases hng : n = g
        · have e : ifS ar pd m9 g dg.1 n A = supA ar pd m9 n c.1 g dg.1 A := by unfold ifS; rw [hc]; dsimp only; rw [if_pos h1, if_pos hng]
          obtain ⟨τ, x, t1, t2, t3⟩ := go σ1 (by rw [e]; exact s2)
          exact ⟨τ, x, by rw [if_pos (by omega), e168, t1], t2, s3.w.trans t3⟩
        · have e : ifS ar pd m9 g dg.1 n A = supA ar pd m9 g dg.1 n c.1 (supA ar pd m9 n c.1 g dg.1 A) := by unfold ifS; rw [hc]; dsimp only; rw [if_pos h1, if_neg hng]
          have k1 : σ1.1 87 = (supA ar pd m9 n c.1 g dg.1 A).2 87 := s2.2.2.2.1.1
          by_cases h2 : (supA ar pd m9 n c.1 g dg.1 A).2 87 = 0
          · obtain ⟨σ2, r1, r2, r3⟩ := rsup_ok (β := β - 1) hg hc (by omega) s2 ((Ext.refl A).tr (supA_ext A))
            obtain ⟨τ, x, t1, t2, t3⟩ := go σ2 (by rw [e]; exact r2)
            exact ⟨τ, x, by rw [if_neg (by omega), if_pos (by omega), if_pos (by omega), zbd_of r1, e168, t1], t2, (s3.w.trans r3.w).trans t3⟩
          · obtain ⟨τ, x, t1, t2, t3⟩ := go σ1 (by rw [e, supA_no h2]; exact s2)
            exact ⟨τ, x, by rw [if_neg (by omega), if_neg (by omega), e168, t1], t2, s3.w.trans t3⟩
      · have e : ifS ar pd m9 g dg.1 n A = A := by unfold ifS; rw [hc]; dsimp only; rw [if_neg h1]
        obtain ⟨τ, x, t1, t2, t3⟩ := go σ (by rw [e]; exact hI)
        exact ⟨τ, x, by rw [if_neg h1, e168, t1], t2, t3⟩
    · refine ⟨σ, (n : Int), ?_, by rw [wh_n0 h0]; exact hI, FrC.refl⟩
      rw [zq_settle_119, kZ_settle_119, if_neg (by omega), if_neg (by omega)]
theorem fcB_no {k : Nat} {C : List Lt} {i : Nat} {a : Lt} (j : Nat) (A : PA) (h : A.2 87 ≠ 0) : fcB ar pd m9 k C i a j A = A := by
  unfold fcB
  split
  · rfl
  · split
    · exact wh_n0 h
    · rfl
theorem fcA_no {k : Nat} {C : List Lt} (i : Nat) (A : PA) (h : A.2 87 ≠ 0) : fcA ar pd m9 k C i A = A := by
  unfold fcA
  split
  · split
    · exact fo_no fcB_no _ _ _ h
    · rfl
  · rfl
theorem resA_no {k : Nat} {C : List Lt} {i : Nat} {A : PA} (h : A.2 87 ≠ 0) : resA ar pd m9 k C i A = A := by
  unfold resA
  split
  · rw [if_neg h]
  · rfl
theorem se_174 {β : Nat} (hβ : 1644 ≤ β) {g : Nat} {dg : CL} {σ : zS} {A : PA} (hg : A.1[g]? = some dg) (hI : RI ar pd m9 σ A) {x1 x2 : Int} : ∃ τ, zE tM_settle_174 β σ [(g : Int), x1, x2] = some (τ, 0) ∧ RI ar pd m9 τ (match selI dg.1 with
    | none => facA ar pd m9 g dg.1 A
    | some i => resA ar pd m9 g dg.1 i A) ∧ FSe σ τ := by
  have k87 : σ.1 87 = A.2 87 := hI.2.2.2.1.1
  have e198 : ∀ ρ : zS, zE tM_settle_198 β ρ [(g : Int), x1, x2] = some (ρ, 0) := fun ρ => by rw [zq_settle_198, kZ_settle_198]
  by_cases h0 : A.2 87 = 0
  · obtain ⟨σ1, r1, r2, r3⟩ := rres_ok (β := β - 1) hg (by omega) hI (Ext.refl A)
    have s1 : zE tM_settle_174 β σ [(g : Int), x1, x2] = zE tM_settle_186 β σ1 [(g : Int), x1, x2] := by rw [zq_settle_174, kZ_settle_174, if_pos (by omega), if_pos (by omega), zbd_of r1]
    rw [s1]
    cases hs : selI dg.1 with
    | none =>
      rw [hs] at r2
      dsimp only at r2 ⊢
      have k1 : σ1.1 87 = A.2 87 := r2.2.2.2.1.1
      obtain ⟨τ, t1, t2, t3⟩ := rfac_ok (β := β - 1) hg (by omega) r2 (Ext.refl A)
      rw [hs] at t2
      exact ⟨τ, by rw [zq_settle_186, kZ_settle_186, if_pos (by omega), if_pos (by omega), zbd_of t1, e198], t2, r3.w.trans t3.w⟩
    | some i =>
      rw [hs] at r2
      dsimp only at r2 ⊢
      have k1 : σ1.1 87 = (resA ar pd m9 g dg.1 i A).2 87 := r2.2.2.2.1.1
      by_cases h1 : (resA ar pd m9 g dg.1 i A).2 87 = 0
      · have x1' : Ext A.1 (resA ar pd m9 g dg.1 i A) := (Ext.refl A).tr resA_ext
        obtain ⟨τ, t1, t2, t3⟩ := rfac_ok (β := β - 1) (x1'.get hg) (by omega) r2 (Ext.refl _)
        rw [hs] at t2
        exact ⟨τ, by rw [zq_settle_186, kZ_settle_186, if_pos (by omega), if_pos (by omega), zbd_of t1, e198], t2, r3.w.trans t3.w⟩
      · exact ⟨σ1, by rw [zq_settle_186, kZ_settle_186, if_neg (by omega), e198], r2, r3.w⟩
  · refine ⟨σ, ?_, ?_, FrC.refl⟩
    · rw [zq_settle_174, kZ_settle_174, if_neg (by omega), zq_settle_186, kZ_settle_186, if_neg (by omega), e198]
    · cases hs : selI dg.1 with
      | none => dsimp only; unfold facA; rw [fo_no fcA_no _ _ _ h0]; exact hI
      | some i => dsimp only; rw [resA_no h0]; exact hI
/-- all that is done with a GIVEN -/
theorem se_ok {β : Nat} (hβ : 1644 ≤ β) {g : Nat} {c : CL} {σ : zS} {A : PA} (hg : A.1[g]? = some c) (hI : RI ar pd m9 σ A) : ∃ τ, zE tM_settle β σ [(g : Int)] = some (τ, 0) ∧ RI ar pd m9 τ (ifA ar pd m9 g c.1 (stA (fo (caS pd c.1) A.1.length 0 A).1 g 1, (fo (caS pd c.1) A.1.length 0 A).2)) ∧ FSe σ τ := by
  have gl := (List.getElem?_eq_some_iff.mp hg).1
  obtain ⟨σ1, s1, s2, s3⟩ := se_2 (β := β) (by omega) A.1.length 0 σ A (by omega) rfl ⟨c, hg, rfl⟩ hI
  have len1 : ∀ (m o : Nat) (A : PA), (fo (sA1 pd c.1) m o A).1.length = A.1.length := fun m => by
    induction m with
    | zero => intro o A; rfl
    | succ m ih => intro o A; show (fo (sA1 pd c.1) m (o + 1) (sA1 pd c.1 o A)).1.length = _; rw [ih, sA1_len]
  have kp1 : ∀ (m o : Nat) (A : PA), (∃ d, A.1[g]? = some d ∧ d.1 = c.1) → ∃ d, (fo (sA1 pd c.1) m o A).1[g]? = some d ∧ d.1 = c.1 := fun m => by
    induction m with
    | zero => intro o A h; exact h
    | succ m ih => intro o A h; exact ih (o + 1) _ (sA1_keep h)
  obtain ⟨σ2, x, t1, t2, t3⟩ := se_57 (β := β) (by omega) A.1.length 0 σ1 _ (by omega) (len1 _ _ A) (kp1 _ _ A ⟨c, hg, rfl⟩) s2
  rw [← fo_two] at t2
  obtain ⟨A2, hA2⟩ : ∃ B, B = fo (caS pd c.1) A.1.length 0 A := ⟨_, rfl⟩
  rw [← hA2] at t2 ⊢
  have l2 : A2.1.length = A.1.length := by rw [hA2]; exact fo_len _ _ _
  obtain ⟨y, hy⟩ := fo_get (pd := pd) (G := c.1) A.1.length 0 g A c hg
  rw [← hA2] at hy
  have I3 : RI ar pd m9 (zA σ2 80 (g : Int) 1) (stA A2.1 g 1, A2.2) := t2.st (by omega)
  have g3 : (stA A2.1 g 1)[g]? = some (cS (cS c y) 1) := stA_s hy
  have l3 : (stA A2.1 g 1).length = A.1.length := by rw [stA_len]; exact l2
  have h84 : σ2.1 84 = (A.1.length : Int) := by rw [t2.1.1, l2]
  obtain ⟨σ4, x', u1, u2, u3⟩ := se_119 (β := β) (L := A.1.length) hβ A.1.length 0 (zA σ2 80 (g : Int) 1) (stA A2.1 g 1, A2.2) (by omega) (by show A.1.length ≤ (stA A2.1 g 1).length; omega) g3 I3
  obtain ⟨τ, v1, v2, v3⟩ := se_174 (x1 := (A.1.length : Int)) (x2 := x') hβ (((Ext.refl (stA A2.1 g 1, A2.2)).tr (wh_ext (ifS_ext (ar := ar) (pd := pd) (m9 := m9) (g := g) (G := c.1)) A.1.length 0 _)).get g3) u2
  have e105 : zE tM_settle_105 β σ2 [(g : Int), x] = zE tM_settle_119 β (zA σ2 80 (g : Int) 1) [(g : Int), (A.1.length : Int), 0] := by
    have h20 := hI.1.2.1
    rw [zq_settle_105, kZ_settle_105, if_pos (by omega), lt_e, zA_1, h84]
  refine ⟨τ, ?_, ?_, (((s3.trans t3).trans FrC_A).trans u3).trans v3⟩
  · have s1' : zE tM_settle_2 β σ [(g : Int), 0] = _ := s1
    have t1' : zE tM_settle_57 β σ1 [(g : Int), 0] = _ := t1
    have u1' : zE tM_settle_119 β (zA σ2 80 (g : Int) 1) [(g : Int), (A.1.length : Int), 0] = _ := u1
    rw [zq_settle, kZ_settle, s1', t1', e105, u1', v1]
  · unfold ifA
    have e : (cS (cS c y) 1).1 = c.1 := rfl
    rw [e] at v2
    have l4 : (stA A2.1 g 1, A2.2).1.length = A.1.length := l3
    rw [l4]
    exact v2
end sett
