theorem RS_Fl {σ : zS} : ∀ {E : List Lt} {i o : Int}, RS σ i o E → Fl (σ.2.1 40) o (flQ (toQ E))
  | [], i, o, _ => trivial
  | a :: E, i, o, h => by
    obtain ⟨⟨a1, a2, a3, a4, a5, a6, a7, a8⟩, hr⟩ := h
    show Fl _ o (fl (tt a.2.1) ++ fl (tt a.2.2) ++ flQ (toQ E))
    refine Fl_app.mpr ⟨Fl_app.mpr ⟨a5, by rw [tt_len]; exact a6⟩, ?_⟩
    rw [List.length_append, tt_len, tt_len, show o + ((tw a.2.1 + tw a.2.2 : Nat) : Int) = o + (tw a.2.1 : Int) + (tw a.2.2 : Int) by omega]
    exact RS_Fl hr
/-- as many cells on each side, the same signs -/
def shp (E : List Lt) : List (Int × Nat × Nat) := E.map (fun a => (a.1, tw a.2.1, tw a.2.2))
theorem RS_re {σ τ : zS} : ∀ {E E2 : List Lt} {i o : Int}, RS σ i o E → shp E2 = shp E → Fl (τ.2.1 40) o (flQ (toQ E2)) → (∀ j, τ.2.1 41 j = σ.2.1 41 j) → (∀ j, τ.2.1 42 j = σ.2.1 42 j) → (∀ j, τ.2.1 43 j = σ.2.1 43 j) → RS τ i o E2
  | [], [], i, o, _, _, _, _, _, _ => trivial
  | [], b :: E2, i, o, _, h, _, _, _, _ => by simp [shp] at h
  | a :: E, [], i, o, _, h, _, _, _, _ => by simp [shp] at h
  | a :: E, b :: E2, i, o, h, hs, hF, h1, h2, h3 => by
    obtain ⟨⟨a1, a2, a3, a4, a5, a6, a7, a8⟩, hr⟩ := h
    have hs' : (b.1, tw b.2.1, tw b.2.2) :: shp E2 = (a.1, tw a.2.1, tw a.2.2) :: shp E := hs
    injection hs' with s1 s2
    have q1 : b.1 = a.1 := congrArg (fun z => z.1) s1
    have q2 : tw b.2.1 = tw a.2.1 := congrArg (fun z => z.2.1) s1
    have q3 : tw b.2.2 = tw a.2.2 := congrArg (fun z => z.2.2) s1
    have hF' : Fl (τ.2.1 40) o (fl (tt b.2.1) ++ fl (tt b.2.2) ++ flQ (toQ E2)) := hF
    obtain ⟨g1, g2⟩ := Fl_app.mp hF'
    obtain ⟨g3, g4⟩ := Fl_app.mp g1
    rw [tt_len] at g4
    rw [List.length_append, tt_len, tt_len] at g2
    refine ⟨⟨by rw [h1]; exact a1, by rw [h2, q2]; exact a2, by rw [h1, q2, q3]; exact a3, by rw [h3, q1]; exact a4, g3, g4, a7, by rw [q2, q3]; exact a8⟩, RS_re (E := E) (by rw [q2, q3]; exact hr) s2 (by rw [show o + (tw b.2.1 : Int) + (tw b.2.2 : Int) = o + ((tw b.2.1 + tw b.2.2 : Nat) : Int) by omega]; exact g2) h1 h2 h3⟩
theorem renT_fl {ar : Int → Nat} {p : Int → Prop} {x : Tm} {N : List Int} (w : wf ar p (tt x)) : fl (tt (renT N x)) = rnF N (fl (tt x)) ∧ nt N (tt x) = ntF N (fl (tt x)) := by
  obtain ⟨a, b⟩ := nt_F (N := N) w
  exact ⟨by rw [← renT_nd N w]; exact b, a⟩
theorem rnL_F {ar : Int → Nat} {p : Int → Prop} : ∀ {E : List Lt} {N : List Int}, WL ar p E → flQ (toQ (rnL N E)) = rnF N (flQ (toQ E)) ∧ ntL N E = ntF N (flQ (toQ E)) ∧ shp (rnL N E) = shp E
  | [], N, _ => ⟨rfl, rfl, rfl⟩
  | a :: E, N, w => by
    obtain ⟨_, w1, w2⟩ := w a List.mem_cons_self
    obtain ⟨x1, x2⟩ := renT_fl (N := N) w1
    obtain ⟨y1, y2⟩ := renT_fl (N := nt N (tt a.2.1)) w2
    obtain ⟨i1, i2, i3⟩ := rnL_F (E := E) (N := nt (nt N (tt a.2.1)) (tt a.2.2)) (fun b hb => w b (List.mem_cons_of_mem _ hb))
    refine ⟨?_, ?_, ?_⟩
    · show fl (tt (renT N a.2.1)) ++ fl (tt (renT (nt N (tt a.2.1)) a.2.2)) ++ flQ (toQ (rnL (nt (nt N (tt a.2.1)) (tt a.2.2)) E)) = rnF N (fl (tt a.2.1) ++ fl (tt a.2.2) ++ flQ (toQ E))
      rw [rnF_app, rnF_app, ntF_app, x1, y1, i1, y2, x2]
    · show ntL (nt (nt N (tt a.2.1)) (tt a.2.2)) E = ntF N (fl (tt a.2.1) ++ fl (tt a.2.2) ++ flQ (toQ E))
      rw [ntF_app, ntF_app, i2, y2, x2]
    · show (a.1, tw (renT N a.2.1), tw (renT (nt N (tt a.2.1)) a.2.2)) :: shp (rnL (nt (nt N (tt a.2.1)) (tt a.2.2)) E) = (a.1, tw a.2.1, tw a.2.2) :: shp E
      rw [i3]
      simp only [tw, renT_wt]
theorem shp_len {A B : List Lt} (h : shp A = shp B) : A.length = B.length ∧ wtL A = wtL B := by
  induction A generalizing B with
  | nil =>
    cases B with
    | nil => exact ⟨rfl, rfl⟩
    | cons b B => simp [shp] at h
  | cons a A ih =>
    cases B with
    | nil => simp [shp] at h
    | cons b B =>
      have h' : (a.1, tw a.2.1, tw a.2.2) :: shp A = (b.1, tw b.2.1, tw b.2.2) :: shp B := h
      injection h' with s1 s2
      have q2 : tw a.2.1 = tw b.2.1 := congrArg (fun z => z.2.1) s1
      have q3 : tw a.2.2 = tw b.2.2 := congrArg (fun z => z.2.2) s1
      obtain ⟨i1, i2⟩ := ih s2
      exact ⟨by simp [i1], by simp only [wtL, q2, q3, i2]⟩
theorem WL_dd {ar : Int → Nat} {p : Int → Prop} {E : List Lt} (h : WL ar p E) : WL ar p (ddL [] E) := fun a ha => h a ((ddL_mem ha).elim (fun z => by cases z) id)
theorem ddL_wt : ∀ (R K : List Lt), (ddL K R).length ≤ K.length + R.length ∧ wtL (ddL K R) ≤ wtL K + wtL R := by
  intro R
  induction R with
  | nil => intro K; simp [ddL, wtL]
  | cons e R ih =>
    intro K
    simp only [ddL, List.length_cons, wtL]
    split
    · have := ih K; omega
    · have := ih (K ++ [e])
      rw [wtL_app] at this
      simp only [List.length_append, List.length_cons, List.length_nil, wtL] at this
      omega
theorem creduce_ok {ar : Int → Nat} {m9 : Int} {β : Nat} (hβ : 2 ≤ β) {σ : zS} {E : List Lt} (h : DE σ E) (hw : WL ar (lb m9) E) : ∃ τ, yE tC_Dra_reduce β σ [] = some (τ, 0) ∧ FrC [3904, 3905, 3906] [40, 41, 42, 43, 45] σ τ ∧ DE τ (rnL [] (ddL [] E)) ∧ τ.1 3906 = ((ntL [] (ddL [] E)).length : Int) := by
  obtain ⟨d1, d2, d3, d4, d5⟩ := h
  obtain ⟨ρ, r1, r2, r3⟩ := reduce_loop (β := β) hβ E [] σ 0 0 trivial d5 (fun a ha => by cases ha) hw (by simp) (by simp [wtL]) (fun _ => by simp [wtL]) (by omega) (by omega)
  have hdd := ddL_wt E []
  simp only [List.length_nil, wtL, Nat.zero_add] at hdd
  have hwd := WL_dd hw
  obtain ⟨x1, x2, x3⟩ := rnL_F (N := []) hwd
  obtain ⟨l1, l2⟩ := shp_len x3
  obtain ⟨ρ2, hρ2⟩ : ∃ ρ2, ρ2 = zI (zFl (zI (zI ρ 3905 ((ddL [] E).length : Int)) 3904 (wtL (ddL [] E) : Int)) 45 (-1) 6) 3906 0 := ⟨_, rfl⟩
  have f2 : FrC [3904, 3905, 3906] [40, 41, 42, 43, 45] σ ρ2 := by
    have a1 : FrC [3904, 3905, 3906] [40, 41, 42, 43, 45] ρ (zI ρ 3905 ((ddL [] E).length : Int)) := FrC_I
    have a2 : FrC [3904, 3905, 3906] [40, 41, 42, 43, 45] (zI ρ 3905 ((ddL [] E).length : Int)) (zI (zI ρ 3905 ((ddL [] E).length : Int)) 3904 (wtL (ddL [] E) : Int)) := FrC_I
    have a3 : FrC [3904, 3905, 3906] [40, 41, 42, 43, 45] (zI (zI ρ 3905 ((ddL [] E).length : Int)) 3904 (wtL (ddL [] E) : Int)) (zFl (zI (zI ρ 3905 ((ddL [] E).length : Int)) 3904 (wtL (ddL [] E) : Int)) 45 (-1) 6) := FrC_Sa (k := 45) ⟨rfl, rfl, fun j w hj => by simp [zFl, hj]⟩
    rw [hρ2]
    exact (((FrC.w r2).trans a1).trans a2).trans (a3.trans FrC_I)
  have g40 : ∀ q, ρ2.2.1 40 q = ρ.2.1 40 q := fun q => by rw [hρ2, zI_2]; simp [zFl, zI]
  have g45 : ∀ v, 0 ≤ v → v < 6 → ρ2.2.1 45 v = -1 := fun v a b => by
    rw [hρ2, zI_2]
    show (if 45 = 45 ∧ 0 ≤ v ∧ v < ((6 : Nat) : Int) then (-1 : Int) else _) = _
    rw [if_pos ⟨rfl, a, by omega⟩]
  have gl : ∀ j, j = 41 ∨ j = 42 ∨ j = 43 → ∀ q, ρ2.2.1 j q = ρ.2.1 j q := fun j hj q => by
    rw [hρ2, zI_2]
    rcases hj with rfl | rfl | rfl <;> simp [zFl, zI]
  have u4 : ρ2.1 3904 = (wtL (ddL [] E) : Int) := by rw [hρ2, zI_o]; exact zI_1 (σ := zI ρ 3905 ((ddL [] E).length : Int)) (k := 3904)
  have u5 : ρ2.1 3905 = ((ddL [] E).length : Int) := by rw [hρ2, zI_o]; exact (zI_o (σ := zI ρ 3905 ((ddL [] E).length : Int)) (k := 3904) (j := 3905) (x := (wtL (ddL [] E) : Int))).trans zI_1
  have hFl := RS_Fl r3
  obtain ⟨τ, t1, t2, t3, t4⟩ := renum_loop (β := β - 1) (flQ (toQ (ddL [] E))) [] [] ρ2 (Fl_q (fun q _ _ => g40 q) (by simpa using hFl)) (by rw [u4]; simp [toQ_len]) (by simp [toQ_len]; omega) (fun c hc => by
    have : ∀ {X : List Lt}, WL ar (lb m9) X → ∀ c ∈ flQ (toQ X), -6 ≤ c := by
      intro X
      induction X with
      | nil => intro _ c hc; cases hc
      | cons a X ih =>
        intro hX c hc
        have hc' : c ∈ fl (tt a.2.1) ++ fl (tt a.2.2) ++ flQ (toQ X) := hc
        obtain ⟨_, v1, v2⟩ := hX a List.mem_cons_self
        rcases List.mem_append.mp hc' with z | z
        · rcases List.mem_append.mp z with y | y
          · exact (wf_fl v1 c y).1
          · exact (wf_fl v2 c y).1
        · exact ih (fun b hb => hX b (List.mem_cons_of_mem _ hb)) c z
    exact this hwd c hc) ⟨by rw [hρ2, zI_1]; rfl, fun v a b => by rw [g45 v a b]; simp [idx]⟩ (by simp)
  simp only [List.length_nil, List.nil_append] at t1 t3
  refine ⟨τ, ?_, f2.trans t2.w, ⟨by rw [t2.i 3905, u5, l1], by omega, by rw [t2.i 3904, u4, l2], by omega, ?_⟩, by rw [t4, x2]⟩
  · rw [yq_Dra_reduce, kY_Dra_reduce]
    have r1' : yE tC_Dra_reduce_p6 β σ [0, 0, 0] = yE tC_Dra_reduce_p6 β ρ [((ddL [] E).length : Int), (wtL (ddL [] E) : Int), σ.1 3905] := by simpa [wtL] using r1
    rw [r1', yq_Dra_reduce_p6, kY_Dra_reduce_p6, if_pos (by rw [r2.i 3905]; omega), lt_e, lt_e, if_pos (by omega)]
    have : yE tC_Dra_renumber (β - 1) (zI (zI ρ 3905 ((ddL [] E).length : Int)) 3904 (wtL (ddL [] E) : Int)) [] = some (τ, 0) := by
      rw [yq_Dra_renumber, kY_Dra_renumber, lt_e, lt_e, ← hρ2]; exact t1
    rw [zbd_of this]
  · refine RS_re r3 x3 (by rw [x1]; exact t3) (fun j => ?_) (fun j => ?_) (fun j => ?_)
    · rw [t2.a 41, gl 41 (by simp)]
    · rw [t2.a 42, gl 42 (by simp)]
    · rw [t2.a 43, gl 43 (by simp)]
/-- what was written, with numbers -/
theorem SG_RS {σ : zS} : ∀ {E E2 : List Lt} {i o : Int}, SG σ i o (toQ E) → shp E2 = shp E → Fl (σ.2.1 40) o (flQ (toQ E2)) → 0 ≤ o → o + (wtL E : Int) ≤ 100 → RS σ i o E2
  | [], [], i, o, _, _, _, _, _ => trivial
  | [], b :: E2, i, o, _, h, _, _, _ => by simp [shp] at h
  | a :: E, [], i, o, _, h, _, _, _ => by simp [shp] at h
  | a :: E, b :: E2, i, o, h, hs, hF, h0, h1 => by
    obtain ⟨a1, a2, a3, a4, hr⟩ := h
    dsimp only at a2 a3 a4 hr
    rw [tt_len] at a2
    rw [tt_len, tt_len] at a3 hr
    have hs' : (b.1, tw b.2.1, tw b.2.2) :: shp E2 = (a.1, tw a.2.1, tw a.2.2) :: shp E := hs
    injection hs' with s1 s2
    have q1 : b.1 = a.1 := congrArg (fun z => z.1) s1
    have q2 : tw b.2.1 = tw a.2.1 := congrArg (fun z => z.2.1) s1
    have q3 : tw b.2.2 = tw a.2.2 := congrArg (fun z => z.2.2) s1
    have hF' : Fl (σ.2.1 40) o (fl (tt b.2.1) ++ fl (tt b.2.2) ++ flQ (toQ E2)) := hF
    obtain ⟨g1, g2⟩ := Fl_app.mp hF'
    obtain ⟨g3, g4⟩ := Fl_app.mp g1
    rw [tt_len] at g4
    rw [List.length_append, tt_len, tt_len] at g2
    simp only [wtL] at h1
    refine ⟨⟨a1, by rw [q2]; exact a2, by rw [q2, q3]; exact a3, by rw [q1]; exact a4, g3, g4, h0, by omega⟩, SG_RS (E := E) (by rw [q2, q3]; exact hr) s2 (by rw [show o + (tw b.2.1 : Int) + (tw b.2.2 : Int) = o + ((tw b.2.1 + tw b.2.2 : Nat) : Int) by omega]; exact g2) (by omega) (by omega)⟩
theorem DQ_DE {ar : Int → Nat} {p : Int → Prop} {σ : zS} {R : List Lt} (h : DQ σ (some (toQ R))) (hw : WL ar p R) : DE σ (rnL [] R) := by
  obtain ⟨h1, h2, h3, h4, h5⟩ := h
  obtain ⟨b1, b2⟩ := dq_some h2
  obtain ⟨x1, x2, x3⟩ := rnL_F (N := []) hw
  obtain ⟨l1, l2⟩ := shp_len x3
  rw [b1] at h3
  have hu := h3.2.2.1
  rw [rnF_len, toQ_len] at hu
  rw [toQ_len] at b2
  have lq : (toQ R).length = R.length := by simp [toQ]
  refine ⟨by rw [h4, lq, l1], by omega, by rw [hu, l2], by omega, SG_RS h5 x3 (by rw [x1]; exact h3.2.2.2.2) (by omega) (by omega)⟩
/-- LITERALS one after the other -/
def qaddL (q : Option (List QL)) (Qs : List QL) : Option (List QL) := Qs.foldl qadd q
theorem qaddL_app (q : Option (List QL)) (A B : List QL) : qaddL q (A ++ B) = qaddL (qaddL q A) B := List.foldl_append
theorem qaddL_none (Qs : List QL) : qaddL none Qs = none := by
  induction Qs with
  | nil => rfl
  | cons a Qs ih => exact ih
theorem dq_mono {A B : List QL} (h : dq (A ++ B) ≠ none) : dq A ≠ none := fun w => h (by
  unfold dq at *
  rw [flQ_app, dput_app, w]; rfl)
theorem qaddL_some : ∀ (Qs Q : List QL), Q.length ≤ 8 → dq Q ≠ none → (qaddL (some Q) Qs = if (Q ++ Qs).length ≤ 8 ∧ dq (Q ++ Qs) ≠ none then some (Q ++ Qs) else none)
  | [], Q, h1, h2 => by
    rw [List.append_nil, if_pos ⟨h1, h2⟩]; rfl
  | a :: Qs, Q, h1, h2 => by
    have e : qaddL (some Q) (a :: Qs) = qaddL (qadd (some Q) a) Qs := rfl
    have eq : Q ++ a :: Qs = (Q ++ [a]) ++ Qs := by simp
    rw [e]
    show qaddL (if Q.length < 8 ∧ dq (Q ++ [a]) ≠ none then some (Q ++ [a]) else none) Qs = _
    by_cases w : Q.length < 8 ∧ dq (Q ++ [a]) ≠ none
    · rw [if_pos w, qaddL_some Qs (Q ++ [a]) (by simp; omega) w.2, eq]
    · rw [if_neg w, qaddL_none, if_neg]
      rintro ⟨u, v⟩
      refine w ⟨?_, ?_⟩
      · simp at u; omega
      · rw [eq] at v; exact dq_mono v
/-- within the BOUNDS -/
def inB (R : List Lt) : Prop := R.length ≤ 8 ∧ wtL R ≤ 100 ∧ (ntL [] R).length ≤ 6
theorem qall {ar : Int → Nat} {p : Int → Prop} {R : List Lt} (hw : WL ar p R) : (inB R → qaddL (some []) (toQ R) = some (toQ R)) ∧ (¬ inB R → qaddL (some []) (toQ R) = none) := by
  have e := qaddL_some (toQ R) [] (by simp) (by simp [dq, flQ, dput, ntF])
  simp only [List.nil_append] at e
  obtain ⟨x1, x2, x3⟩ := rnL_F (N := []) hw
  have lq : (toQ R).length = R.length := by simp [toQ]
  have dqi : dq (toQ R) ≠ none ↔ wtL R ≤ 100 ∧ (ntL [] R).length ≤ 6 := by
    have ed : dq (toQ R) = if ([] : List Int).length + (flQ (toQ R)).length ≤ 100 ∧ (ntF [] (flQ (toQ R))).length ≤ 6 then some (ntF [] (flQ (toQ R)), [] ++ rnF [] (flQ (toQ R))) else none := rfl
    rw [toQ_len, ← x2] at ed
    simp only [List.length_nil, Nat.zero_add] at ed
    rw [ed]
    constructor
    · intro w
      by_cases q : wtL R ≤ 100 ∧ (ntL [] R).length ≤ 6
      · exact q
      · rw [if_neg q] at w; exact absurd rfl w
    · intro w; rw [if_pos w]; simp
  rw [e, lq]
  constructor
  · intro h; rw [if_pos ⟨h.1, dqi.mpr h.2⟩]
  · intro h; rw [if_neg (fun w => h ⟨w.1, dqi.mp w.2⟩)]
