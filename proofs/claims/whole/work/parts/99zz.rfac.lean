/-! the reference: FACTORING -/
section fac
variable {ar : Int → Nat} {pd : Int → Prop} {m9 : Int} {Cs : List CL} {k : Nat} {d : CL}
theorem c1_0 {r : Tm} {x y : Tm} {g t1 t2 : Int} (h1 : 0 ≤ t1) (h2 : 0 ≤ t2) : c1 r (-1) (((g, x, y), t1, t2), 0) = (g, x, y) := by
  unfold c1 cX
  dsimp only
  rw [if_neg (by omega), shT_0, shT_0, rpX_out (by omega), rpX_out (by omega)]
theorem fi_ok (hc : Cs[k]? = some d) {i j : Nat} {a b : Lt} (ha : d.1[i]? = some a) (hb : d.1[j]? = some b) {s t : Int} (hs : s = 0 ∨ s = 1) (ht : t = 0 ∨ t = 1) {β : Nat} (hβ : 1542 ≤ β) {σ : zS} {A : PA} (hI : RI ar pd m9 σ A) (hA : Ext Cs A) : ∃ τ, zE tM_factor2 β σ [(k : Int), lpos Cs k + (i : Int), lpos Cs k + (j : Int), s, t] = some (τ, 0) ∧ RI ar pd m9 τ (infA ar pd m9 3 (k : Int) (-1) (sdT a s) (sdT b t) (oth i j 0 d.1 ++ [(0, sdT a (1 - s), sdT b (1 - t)), (1, sdT a s, sdT b (1 - t))]) A) ∧ FIn σ τ := by
  obtain ⟨g1, g2, g3, g4, g5, g6, g7, g8, wc⟩ := ex_k hI hA hc
  have il := (List.getElem?_eq_some_iff.mp ha).1
  have jl := (List.getElem?_eq_some_iff.mp hb).1
  have SA := (sd_at hI g7 ha hs (x := 0) (Or.inl rfl)).1
  have SB := (sd_at hI g7 hb ht (x := 0) (Or.inl rfl)).1
  have SA' := sd_at' hI g7 ha hs (x := 0) (Or.inl rfl)
  have SB' := sd_at' hI g7 hb ht (x := 0) (Or.inl rfl)
  rw [g8] at SA SB SA' SB'
  obtain ⟨q, hq⟩ : ∃ q, q = lpos Cs k + (i : Int) := ⟨_, rfl⟩
  obtain ⟨p, hp⟩ : ∃ q, q = lpos Cs k + (j : Int) := ⟨_, rfl⟩
  rw [← hq] at SA SA' ⊢
  rw [← hp] at SB SB' ⊢
  obtain ⟨xa, hxa⟩ : ∃ x, x = if s = 0 then σ.2.1 66 q else σ.2.1 67 q := ⟨_, rfl⟩
  obtain ⟨xb, hxb⟩ : ∃ x, x = if t = 0 then σ.2.1 66 p else σ.2.1 67 p := ⟨_, rfl⟩
  obtain ⟨ya, hya⟩ : ∃ x, x = if s = 1 then σ.2.1 66 q else σ.2.1 67 q := ⟨_, rfl⟩
  obtain ⟨yb, hyb⟩ : ∃ x, x = if t = 1 then σ.2.1 66 p else σ.2.1 67 p := ⟨_, rfl⟩
  rw [← hxa] at SA
  rw [← hxb] at SB
  rw [← hya] at SA'
  rw [← hyb] at SB'
  obtain ⟨σ1, σ4, rr, u1, u2, u3, u4, u5⟩ := uu_ok (β := β - 1) (by omega) hI SA SB
  rw [shT_0, shT_0] at u5
  -- sides, while 66 and 67 are as they were
  have sd : ∀ ρ : zS, (∀ x, ρ.2.1 66 x = σ.2.1 66 x) → (∀ x, ρ.2.1 67 x = σ.2.1 67 x) → zE tM_side2 (β - 1) ρ [q, s, 0] = some (ρ, xa) ∧ zE tM_side2 (β - 1) ρ [p, t, 0] = some (ρ, xb) ∧ zE tM_side2 (β - 1) ρ [q, s, 1] = some (ρ, ya) ∧ zE tM_side2 (β - 1) ρ [p, t, 1] = some (ρ, yb) := fun ρ h6 h7 => by
    have r1 := rside_ok (β := β - 1) (σ := ρ) (j := q) (by omega) (by omega) (s := s) (o := 0) hs (Or.inl rfl)
    have r2 := rside_ok (β := β - 1) (σ := ρ) (j := p) (by omega) (by omega) (s := t) (o := 0) ht (Or.inl rfl)
    have r3 := rside_ok (β := β - 1) (σ := ρ) (j := q) (by omega) (by omega) (s := s) (o := 1) hs (Or.inr rfl)
    have r4 := rside_ok (β := β - 1) (σ := ρ) (j := p) (by omega) (by omega) (s := t) (o := 1) ht (Or.inr rfl)
    rw [h6, h7] at r1 r2 r3 r4
    rw [← hxa] at r1
    rw [← hxb] at r2
    rw [← hya] at r3
    rw [← hyb] at r4
    exact ⟨r1, r2, r3, r4⟩
  have n1 := sd σ1 (fun x => u3.a 66 x) (fun x => u3.a 67 x)
  have h1 : 1 ≤ β := by omega
  have start : zE tM_factor2 β σ [(k : Int), q, p, s, t] = if rr = 0 then some (σ4, 0) else zbd (zE tM_begin (β - 1) σ4 []) (fun σ5 _ => zbd (zE tM_planOthers (β - 1) σ5 [(k : Int), 0, q, p]) (fun σ6 _ => zbd (zE tM_side2 (β - 1) σ6 [q, s, 1]) (fun σ7 r7 => zbd (zE tM_side2 (β - 1) σ7 [p, t, 1]) (fun σ8 r8 => zbd (zE tM_plan (β - 1) σ8 [r7, r8, 0, 0]) (fun σ9 _ => zbd (zE tM_side2 (β - 1) σ9 [q, s, 0]) (fun σ10 r10 => zbd (zE tM_side2 (β - 1) σ10 [p, t, 1]) (fun σ11 r11 => zbd (zE tM_plan (β - 1) σ11 [r10, r11, 0, 1]) (fun σ12 _ => zbd (zE tM_conclude (β - 1) σ12 [3, (k : Int), -1]) (fun σ13 _ => some (σ13, 0)))))))))) := by
    rw [zq_factor2, kZ_factor2, if_pos h1, zbd_of u1, if_pos h1, zbd_of n1.1, if_pos h1, zbd_of n1.2.1, if_pos h1, zbd_of u2]
    by_cases w : rr = 0
    · rw [if_pos w, if_pos w]
    · rw [if_neg w, if_neg w]
      simp only [h1, if_true]
  have wl : WL ar (lb m9) d.1 := wc.2.2.2.2
  rcases u5.symm with ⟨v1, v2⟩ | ⟨v1, B, v2, v3⟩
  · refine ⟨σ4, by rw [start, if_pos v1], ?_, u4.w⟩
    rw [infA_no v2]
    exact hI.f u4 u4.pq
  · obtain ⟨σ5, b1, b2, b3, b4⟩ := begin_ok (ar := ar) (m9 := m9) (β := β - 1) (σ := σ4)
    have I4 : RI ar pd m9 σ4 A := hI.f u4 u4.pq
    have I5 : RI ar pd m9 σ5 A := I4.f b2 b2.pq
    obtain ⟨σ6, c1', c2', c3'⟩ := po_ok (ar := ar) (m9 := m9) (β := β - 1) (by omega) I5.1 g7 wc (b := 0) (Or.inl rfl) (po_h (i := i) (j := j) (x2 := q) (x3 := p) (Or.inl (by rw [g8]; exact hq)) (Or.inl (by rw [g8]; exact hp)) (by omega)) b3 (by simp)
    rw [List.nil_append] at c3'
    have f6 : FPr σ σ6 := (u4.w.trans b2.w).trans c2'.w
    have pl := poE_len (σ := σ5) (p := lpos A.1 k) (b := 0) (i := i) (j := j) d.1 0
    obtain ⟨σ9, p1, p2, p3⟩ := plan_ok (β := β - 1) (e := (((0, sdT a (1 - s), sdT b (1 - t)), ya, yb), 0)) c3' (by omega) (Or.inl rfl) (SA'.p f6.pq) (SB'.p f6.pq)
    have f9 : FPr σ σ9 := f6.trans p2.w
    obtain ⟨σ12, r1, r2, r3⟩ := plan_ok (β := β - 1) (e := (((1, sdT a s, sdT b (1 - t)), xa, yb), 0)) p3 (by simp; omega) (Or.inr rfl) (SA.p f9.pq) (SB'.p f9.pq)
    have f12 : FPr σ σ12 := f9.trans r2.w
    have I12 : RI ar pd m9 σ12 A := hI.f f12 f12.pq
    have g4' : FrC [112, 113] [108, 109, 110, 111] σ4 σ12 := ((b2.w.trans c2'.w).trans p2.w).trans r2.w
    have B12 : EB ar pd m9 σ12 B := v2.lo ⟨g4'.pq, fun v => ⟨by rw [g4'.a 106], by rw [g4'.a 107]⟩⟩
    obtain ⟨_, wa1, wa2⟩ := wl a (List.mem_of_getElem? ha)
    obtain ⟨_, wb1, wb2⟩ := wl b (List.mem_of_getElem? hb)
    have wR : WL ar (lw 12 m9) (oth i j 0 d.1 ++ [(0, sdT a (1 - s), sdT b (1 - t)), (1, sdT a s, sdT b (1 - t))]) := by
      refine WL_app (oth_wf wl) (fun z hz => ?_)
      rcases List.mem_cons.mp hz with rfl | hz
      · exact ⟨Or.inl rfl, (sd_wf wa1 wa2 (1 - s)).2, (sd_wf wb1 wb2 (1 - t)).2⟩
      · rw [List.mem_singleton] at hz; subst hz
        exact ⟨Or.inr rfl, (sd_wf wa1 wa2 s).2, (sd_wf wb1 wb2 (1 - t)).2⟩
    have y0 := SA'.1.1.1
    have y1 := SB'.1.1.1
    have x0 := SA.1.1.1
    obtain ⟨τ, t1, t2, t3⟩ := rc_0 (β := β - 1) (x0 := 3) (x1 := (k : Int)) (x2 := -1) (by omega) I12 B12 r3 (by rw [r2.i 113, p2.i 113, c2'.i 113]; exact b4) (fun r => by
      rw [List.append_assoc, cR_app]
      congr 1
      · exact cR_0 d.1 0 (fun m z hz => by
          obtain ⟨z1, z2, _⟩ := I5.1.l g7 hz
          rw [Nat.zero_add]
          exact ⟨z1.1.1, z2.1.1⟩)
      · show [c1 r (-1) _, c1 r (-1) _] = _
        rw [c1_0 y0 y1, c1_0 x0 y1]) wR
    rw [← infA_of v3 wR] at t2
    refine ⟨τ, ?_, t2, f12.w.trans t3.w⟩
    have n6 := sd σ6 (fun x => f6.a 66 x) (fun x => f6.a 67 x)
    have n9 := sd σ9 (fun x => f9.a 66 x) (fun x => f9.a 67 x)
    have p1' : zE tM_plan (β - 1) σ6 [ya, yb, 0, 0] = some (σ9, 0) := p1
    have r1' : zE tM_plan (β - 1) σ9 [xa, yb, 0, 1] = some (σ12, 0) := r1
    rw [start, if_neg (by omega), zbd_of b1, zbd_of c1', zbd_of n6.2.2.1, zbd_of n6.2.2.2, zbd_of p1', zbd_of n9.1, zbd_of n9.2.2.2, zbd_of r1', zbd_of t1]
theorem quart : ∀ n : Fin 4, Int.tdiv ((n.val : Nat) : Int) 2 = ((n.val / 2 : Nat) : Int) ∧ Int.tmod ((n.val : Nat) : Int) 2 = ((n.val % 2 : Nat) : Int) := by decide +kernel
theorem fc_80 (hc : Cs[k]? = some d) {i j : Nat} {a b : Lt} (ha : d.1[i]? = some a) (hb : d.1[j]? = some b) {β : Nat} (hβ : 1543 ≤ β) : ∀ (m n : Nat) (σ : zS) (A : PA), n + m = 4 → RI ar pd m9 σ A → Ext Cs A → ∃ τ, zE tM_factor1_80 β σ [(k : Int), lpos Cs k + (i : Int), lpos Cs k + (j : Int), (n : Int)] = zE tM_factor1_126 β τ [(k : Int), lpos Cs k + (i : Int), lpos Cs k + (j : Int)] ∧ RI ar pd m9 τ (wh (ftS ar pd m9 k d.1 i a j b) m n A) ∧ FIn σ τ
  | 0, n, σ, A, hm, hI, hA => ⟨σ, by rw [zq_factor1_80, kZ_factor1_80, if_pos (by omega)], hI, FrC.refl⟩
  | m + 1, n, σ, A, hm, hI, hA => by
    obtain ⟨g1, g2, g3, g4, g5, g6, g7, g8, wc⟩ := ex_k hI hA hc
    obtain ⟨l1, l2, l3, l4, l5⟩ := ex_l hI hA hc ha
    have il := (List.getElem?_eq_some_iff.mp ha).1
    have k87 : σ.1 87 = A.2 87 := hI.2.2.2.1.1
    by_cases h0 : A.2 87 = 0
    · obtain ⟨q1, q2⟩ := quart ⟨n, by omega⟩
      dsimp only at q1 q2
      have hs : ((n / 2 : Nat) : Int) = 0 ∨ ((n / 2 : Nat) : Int) = 1 := by omega
      have ht : ((n % 2 : Nat) : Int) = 0 ∨ ((n % 2 : Nat) : Int) = 1 := by omega
      have u := us_r (β := β - 1) (q := lpos Cs k + (i : Int)) (by omega) (by omega) l2 hs
      have e120 : ∀ ρ : zS, zE tM_factor1_120 β ρ [(k : Int), lpos Cs k + (i : Int), lpos Cs k + (j : Int), (n : Int)] = zE tM_factor1_80 β ρ [(k : Int), lpos Cs k + (i : Int), lpos Cs k + (j : Int), ((n + 1 : Nat) : Int)] := fun ρ => by rw [zq_factor1_120, kZ_factor1_120, if_pos (by omega), show (n : Int) + 1 = ((n + 1 : Nat) : Int) by omega]
      show ∃ τ, _ ∧ RI ar pd m9 τ (if A.2 87 = 0 then wh (ftS ar pd m9 k d.1 i a j b) m (n + 1) (ftS ar pd m9 k d.1 i a j b n A) else A) ∧ _
      rw [if_pos h0, zq_factor1_80, kZ_factor1_80, if_neg (by omega), if_pos (by omega), q1, q2, if_pos (by omega), if_pos (by omega), zbd_of u]
      by_cases g : usL a ((n / 2 : Nat) : Int)
      · obtain ⟨τ1, t1, t2, t3⟩ := fi_ok (β := β - 1) hc ha hb hs ht (by omega) hI hA
        have e : ftS ar pd m9 k d.1 i a j b n A = infA ar pd m9 3 (k : Int) (-1) (sdT a ((n / 2 : Nat) : Int)) (sdT b ((n % 2 : Nat) : Int)) (oth i j 0 d.1 ++ [(0, sdT a (1 - ((n / 2 : Nat) : Int)), sdT b (1 - ((n % 2 : Nat) : Int))), (1, sdT a ((n / 2 : Nat) : Int), sdT b (1 - ((n % 2 : Nat) : Int)))]) A := by unfold ftS; rw [if_pos g]
        rw [← e] at t2
        obtain ⟨τ, r1, r2, r3⟩ := fc_80 hc ha hb hβ m (n + 1) τ1 _ (by omega) t2 (hA.tr (ftS_ext _ _))
        exact ⟨τ, by rw [b2_t g, if_neg (by decide), if_pos (by omega), zbd_of t1, e120, r1], r2, t3.trans r3⟩
      · have e : ftS ar pd m9 k d.1 i a j b n A = A := by unfold ftS; rw [if_neg g]
        rw [e]
        obtain ⟨τ, r1, r2, r3⟩ := fc_80 hc ha hb hβ m (n + 1) σ A (by omega) hI hA
        exact ⟨τ, by rw [b2_f g, if_pos rfl, e120, r1], r2, r3⟩
    · refine ⟨σ, ?_, by rw [wh_n0 h0]; exact hI, FrC.refl⟩
      rw [zq_factor1_80, kZ_factor1_80, if_neg (by omega), if_neg (by omega)]
theorem fc_52 (hc : Cs[k]? = some d) {i : Nat} {a : Lt} (ha : d.1[i]? = some a) {β : Nat} (hβ : 1543 ≤ β) : ∀ (R D : List Lt) (σ : zS) (A : PA), d.1 = D ++ R → RI ar pd m9 σ A → Ext Cs A → ∃ τ, zE tM_factor1_52 β σ [(k : Int), lpos Cs k + (i : Int), lpos Cs k + (D.length : Int)] = zE tM_factor1_132 β τ [(k : Int), lpos Cs k + (i : Int)] ∧ RI ar pd m9 τ (fo (fcB ar pd m9 k d.1 i a) R.length D.length A) ∧ FIn σ τ
  | [], D, σ, A, hD, hI, hA => by
    rw [List.append_nil] at hD
    obtain ⟨g1, g2, g3, g4, g5, g6, _⟩ := ex_k hI hA hc
    refine ⟨σ, ?_, hI, FrC.refl⟩
    rw [zq_factor1_52, kZ_factor1_52, if_pos (by omega), g1, g2, if_pos (by omega), if_pos (by rw [hD]; omega)]
  | b :: R, D, σ, A, hD, hI, hA => by
    have hl : d.1.length = D.length + (R.length + 1) := by rw [hD]; simp
    have hb : d.1[D.length]? = some b := by rw [hD, List.getElem?_append_right (Nat.le_refl _), Nat.sub_self]; rfl
    have hD' : d.1 = (D ++ [b]) ++ R := by rw [hD]; simp
    have el : (D ++ [b]).length = D.length + 1 := by simp
    obtain ⟨g1, g2, g3, g4, g5, g6, _⟩ := ex_k hI hA hc
    have go := fc_52 hc ha hβ R (D ++ [b])
    rw [el] at go
    have e126 : ∀ ρ : zS, zE tM_factor1_126 β ρ [(k : Int), lpos Cs k + (i : Int), lpos Cs k + (D.length : Int)] = zE tM_factor1_52 β ρ [(k : Int), lpos Cs k + (i : Int), lpos Cs k + ((D.length + 1 : Nat) : Int)] := fun ρ => by rw [zq_factor1_126, kZ_factor1_126, if_pos (by omega), show lpos Cs k + (D.length : Int) + 1 = lpos Cs k + ((D.length + 1 : Nat) : Int) by omega]
    show ∃ τ, _ ∧ RI ar pd m9 τ (fo (fcB ar pd m9 k d.1 i a) R.length (D.length + 1) (fcB ar pd m9 k d.1 i a D.length A)) ∧ _
    rw [zq_factor1_52, kZ_factor1_52, if_pos (by omega), g1, g2, if_pos (by omega), if_neg (by omega)]
    by_cases hij : i = D.length
    · have e : fcB ar pd m9 k d.1 i a D.length A = A := by unfold fcB; rw [if_pos hij]
      rw [e]
      obtain ⟨τ, r1, r2, r3⟩ := go σ A hD' hI hA
      exact ⟨τ, by rw [if_pos (by omega), e126, r1], r2, r3⟩
    · have e : fcB ar pd m9 k d.1 i a D.length A = wh (ftS ar pd m9 k d.1 i a D.length b) 4 0 A := by unfold fcB; rw [if_neg hij, hb]
      rw [e]
      obtain ⟨τ1, t1, t2, t3⟩ := fc_80 hc ha hb hβ 4 0 σ A rfl hI hA
      have t1' : zE tM_factor1_80 β σ [(k : Int), lpos Cs k + (i : Int), lpos Cs k + (D.length : Int), 0] = _ := t1
      obtain ⟨τ, r1, r2, r3⟩ := go τ1 _ hD' t2 (hA.tr (wh_ext ftS_ext _ _ _))
      exact ⟨τ, by rw [if_neg (by omega), t1', e126, r1], r2, t3.trans r3⟩
theorem fc_16 (hc : Cs[k]? = some d) {β : Nat} (hβ : 1543 ≤ β) : ∀ (R D : List Lt) (σ : zS) (A : PA), d.1 = D ++ R → RI ar pd m9 σ A → Ext Cs A → ∃ τ, zE tM_factor1_16 β σ [(k : Int), lpos Cs k + (D.length : Int)] = some (τ, 0) ∧ RI ar pd m9 τ (fo (fcA ar pd m9 k d.1) R.length D.length A) ∧ FIn σ τ
  | [], D, σ, A, hD, hI, hA => by
    rw [List.append_nil] at hD
    obtain ⟨g1, g2, g3, g4, g5, g6, _⟩ := ex_k hI hA hc
    refine ⟨σ, ?_, hI, FrC.refl⟩
    rw [zq_factor1_16, kZ_factor1_16, if_pos (by omega), g1, g2, if_pos (by omega), if_pos (by rw [hD]; omega)]
  | a :: R, D, σ, A, hD, hI, hA => by
    have hl : d.1.length = D.length + (R.length + 1) := by rw [hD]; simp
    have ha : d.1[D.length]? = some a := by rw [hD, List.getElem?_append_right (Nat.le_refl _), Nat.sub_self]; rfl
    have hD' : d.1 = (D ++ [a]) ++ R := by rw [hD]; simp
    have el : (D ++ [a]).length = D.length + 1 := by simp
    obtain ⟨g1, g2, g3, g4, g5, g6, _⟩ := ex_k hI hA hc
    obtain ⟨l1, l2, l3, l4, l5⟩ := ex_l hI hA hc ha
    have go := fc_16 hc hβ R (D ++ [a])
    rw [el] at go
    have e132 : ∀ ρ : zS, zE tM_factor1_132 β ρ [(k : Int), lpos Cs k + (D.length : Int)] = zE tM_factor1_16 β ρ [(k : Int), lpos Cs k + ((D.length + 1 : Nat) : Int)] := fun ρ => by rw [zq_factor1_132, kZ_factor1_132, if_pos (by omega), show lpos Cs k + (D.length : Int) + 1 = lpos Cs k + ((D.length + 1 : Nat) : Int) by omega]
    show ∃ τ, _ ∧ RI ar pd m9 τ (fo (fcA ar pd m9 k d.1) R.length (D.length + 1) (fcA ar pd m9 k d.1 D.length A)) ∧ _
    rw [zq_factor1_16, kZ_factor1_16, if_pos (by omega), g1, g2, if_pos (by omega), if_neg (by omega), if_pos (by omega), l3]
    by_cases he : elI d.1 D.length
    · have e : fcA ar pd m9 k d.1 D.length A = fo (fcB ar pd m9 k d.1 D.length a) d.1.length 0 A := by unfold fcA; rw [ha]; dsimp only; rw [if_pos he]
      rw [e]
      obtain ⟨τ1, t1, t2, t3⟩ := fc_52 hc ha hβ d.1 [] σ A rfl hI hA
      have t1' : zE tM_factor1_52 β σ [(k : Int), lpos Cs k + (D.length : Int), lpos Cs k] = zE tM_factor1_132 β τ1 [(k : Int), lpos Cs k + (D.length : Int)] := by
        rw [show lpos Cs k + (([] : List Lt).length : Int) = lpos Cs k by simp] at t1
        exact t1
      obtain ⟨τ, r1, r2, r3⟩ := go τ1 _ hD' t2 (hA.tr (fo_ext fcB_ext _ _ _))
      exact ⟨τ, by rw [b2_t he, if_neg (by decide), t1', e132, r1], r2, t3.trans r3⟩
    · have e : fcA ar pd m9 k d.1 D.length A = A := by unfold fcA; rw [ha]; dsimp only; rw [if_neg he]
      rw [e]
      obtain ⟨τ, r1, r2, r3⟩ := go σ A hD' hI hA
      exact ⟨τ, by rw [b2_f he, if_pos rfl, e132, r1], r2, r3⟩
theorem is_7 (hc : Cs[k]? = some d) {β : Nat} {σ : zS} {A : PA} (hI : RI ar pd m9 σ A) (hA : Ext Cs A) : ∀ (R D : List Lt), d.1 = D ++ R → zE tM_isSelected_7 β σ [(k : Int), lpos Cs k + (D.length : Int)] = some (σ, b2 (∃ a ∈ R, a.1 = 0))
  | [], D, hD => by
    rw [List.append_nil] at hD
    obtain ⟨g1, g2, g3, g4, g5, g6, _⟩ := ex_k hI hA hc
    rw [zq_isSelected_7, kZ_isSelected_7, if_pos (by omega), g1, g2, if_pos (by omega), if_pos (by rw [hD]; omega), b2_f (fun ⟨a, ha, _⟩ => by cases ha)]
  | a :: R, D, hD => by
    have hl : d.1.length = D.length + (R.length + 1) := by rw [hD]; simp
    have ha : d.1[D.length]? = some a := by rw [hD, List.getElem?_append_right (Nat.le_refl _), Nat.sub_self]; rfl
    have hD' : d.1 = (D ++ [a]) ++ R := by rw [hD]; simp
    have el : (D ++ [a]).length = D.length + 1 := by simp
    obtain ⟨g1, g2, g3, g4, g5, g6, _⟩ := ex_k hI hA hc
    obtain ⟨l1, l2, l3, l4, l5⟩ := ex_l hI hA hc ha
    have go := is_7 hc (β := β) hI hA R (D ++ [a]) hD'
    rw [el] at go
    rw [zq_isSelected_7, kZ_isSelected_7, if_pos (by omega), g1, g2, if_pos (by omega), if_neg (by omega), if_pos (by omega), l1]
    by_cases a0 : a.1 = 0
    · rw [if_pos a0, b2_t ⟨a, List.mem_cons_self, a0⟩]
    · rw [if_neg a0, if_pos (by omega), show lpos Cs k + (D.length : Int) + 1 = lpos Cs k + ((D.length + 1 : Nat) : Int) by omega, go]
      congr 2
      refine b2_c ⟨fun ⟨z, h1, h2⟩ => ⟨z, List.mem_cons_of_mem _ h1, h2⟩, fun ⟨z, h1, h2⟩ => ?_⟩
      rcases List.mem_cons.mp h1 with rfl | h1
      · exact absurd h2 a0
      · exact ⟨z, h1, h2⟩
theorem rfac_ok (hc : Cs[k]? = some d) {β : Nat} (hβ : 1543 ≤ β) {σ : zS} {A : PA} (hI : RI ar pd m9 σ A) (hA : Ext Cs A) : ∃ τ, zE tM_factor1 β σ [(k : Int)] = some (τ, 0) ∧ RI ar pd m9 τ (match selI d.1 with
    | none => facA ar pd m9 k d.1 A
    | some _ => A) ∧ FIn σ τ := by
  obtain ⟨g1, g2, g3, g4, g5, g6, g7, g8, wc⟩ := ex_k hI hA hc
  have s := is_7 hc (β := β - 1) hI hA d.1 [] rfl
  have s' : zE tM_isSelected (β - 1) σ [(k : Int)] = some (σ, b2 (∃ a ∈ d.1, a.1 = 0)) := by
    rw [zq_isSelected, kZ_isSelected, if_pos (by omega), g1, ← s]; simp
  cases hs : selI d.1 with
  | none =>
    have h1 := selI_all hs
    have no : ¬ ∃ a ∈ d.1, a.1 = 0 := fun ⟨a, ha, h⟩ => by have := h1 a ha; omega
    obtain ⟨τ, t1, t2, t3⟩ := fc_16 hc hβ d.1 [] σ A rfl hI hA
    rw [show lpos Cs k + (([] : List Lt).length : Int) = lpos Cs k by simp] at t1
    exact ⟨τ, by rw [zq_factor1, kZ_factor1, if_pos (by omega), zbd_of s', b2_f no, if_pos rfl, if_pos (by omega), g1, t1], t2, t3⟩
  | some i0 =>
    have hl := selI_lt hs
    have hai : d.1[i0]? = some d.1[i0] := List.getElem?_eq_getElem hl
    have h1 := selI_neg hs hai
    have hm := List.mem_of_getElem? hai
    have h2 := (wc.2.2.2.2 _ hm).1
    exact ⟨σ, by rw [zq_factor1, kZ_factor1, if_pos (by omega), zbd_of s', b2_t ⟨_, hm, by omega⟩, if_neg (by decide)], hI, FrC.refl⟩
end fac
