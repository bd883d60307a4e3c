/-! numbers for the VARIABLES of cells, as they come -/
def ntF : List Int → List Int → List Int
  | N, [] => N
  | N, c :: L => if c < 0 then ntF (add1 N c) L else ntF N L
def rnF : List Int → List Int → List Int
  | _, [] => []
  | N, c :: L => if c < 0 then (-1 - (idx N c : Int)) :: rnF (add1 N c) L else c :: rnF N L
theorem ntF_app : ∀ (A B N : List Int), ntF N (A ++ B) = ntF (ntF N A) B
  | [], B, N => rfl
  | c :: A, B, N => by
    simp only [List.cons_append, ntF]
    split
    · exact ntF_app A B _
    · exact ntF_app A B _
theorem rnF_app : ∀ (A B N : List Int), rnF N (A ++ B) = rnF N A ++ rnF (ntF N A) B
  | [], B, N => rfl
  | c :: A, B, N => by
    simp only [List.cons_append, rnF, ntF]
    split
    · rw [rnF_app A B, List.cons_append]
    · rw [rnF_app A B, List.cons_append]
theorem rnF_len : ∀ (A N : List Int), (rnF N A).length = A.length
  | [], N => rfl
  | c :: A, N => by
    simp only [rnF]
    split <;> simp [rnF_len A]
theorem ntF_len : ∀ (A N : List Int), N.length ≤ (ntF N A).length
  | [], N => Nat.le_refl _
  | c :: A, N => by
    simp only [ntF]
    split
    · have := ntF_len A (add1 N c)
      have := add1_len N c
      omega
    · exact ntF_len A N
theorem nt_F {ar : Int → Nat} {p : Int → Prop} : ∀ {F : T} {N : List Int}, wf ar p F → nt N F = ntF N (fl F) ∧ fl (ren N F) = rnF N (fl F)
  | .leaf _, N, _ => ⟨rfl, rfl⟩
  | .branch n k s, N, w => by
    simp only [nt, ren, fl, ntF, rnF]
    by_cases h : cl n < 0
    · have k0 : k = nl := len0 (by have := w.1; rw [if_pos h] at this; exact this)
      subst k0
      obtain ⟨a, b⟩ := nt_F (F := s) (N := add1 N (cl n)) w.2.2.2
      rw [if_pos h, if_pos h, if_pos h, if_pos h]
      simp only [fl, List.nil_append, cl_cu]
      exact ⟨a, by rw [b]⟩
    · obtain ⟨a, b⟩ := nt_F (F := k) (N := N) w.2.2.1
      obtain ⟨c, d⟩ := nt_F (F := s) (N := nt N k) w.2.2.2
      rw [if_neg h, if_neg h, if_neg h, if_neg h]
      simp only [fl]
      rw [ntF_app, rnF_app, b, d, ← a, c]
      exact ⟨rfl, rfl⟩
/-- cells with values put in -/
def exL (θ : Vs) (b : Int) : List Int → List Int
  | [] => []
  | c :: L => (if c < 0 then fl (tt (θ (-1 - c + b))) else [c]) ++ exL θ b L
theorem exL_app (θ : Vs) (b : Int) : ∀ A B : List Int, exL θ b (A ++ B) = exL θ b A ++ exL θ b B
  | [], B => rfl
  | c :: A, B => by simp only [List.cons_append, exL, exL_app θ b A B, List.append_assoc]
theorem fl_su {ar : Int → Nat} {p : Int → Prop} {θ : Vs} {b : Int} (hb : 0 ≤ b) : ∀ {F : T}, wf ar p F → fl (su θ (sh b F)) = exL θ b (fl F)
  | .leaf _, _ => rfl
  | .branch n k s, w => by
    have e : su θ (sh b (.branch n k s)) = nd (st θ (shT b (n, k))).1 (st θ (shT b (n, k))).2 (su θ (sh b s)) := rfl
    rw [e]
    simp only [fl, exL, exL_app, fl_su hb w.2.2.2]
    by_cases h : cl n < 0
    · have k0 : k = nl := len0 (by have := w.1; rw [if_pos h] at this; exact this)
      subst k0
      rw [if_pos h, st_v θ (x := shT b (n, nl)) ((shT_neg (x := (n, nl)) hb).mpr h), shT_v (x := (n, nl)) hb h]
      have : (-1 - ((n, nl).1 |> cl) + b : Int) = -1 - (cl n - b) := by show -1 - cl n + b = _; omega
      simp only [tt, fl, exL, List.nil_append, List.append_nil]
      rw [show (-1 - cl n + b : Int) = -1 - (cl n - b) by omega]
      rfl
    · rw [if_neg h, st_f θ (x := shT b (n, k)) (fun q => h ((shT_neg (x := (n, k)) hb).mp q)), shT_f (x := (n, k)) h]
      show cl n :: (fl (su θ (sh b k)) ++ exL θ b (fl s)) = [cl n] ++ (exL θ b (fl k) ++ exL θ b (fl s))
      rw [fl_su hb w.2.2.1]
      rfl
/-! the class's draft: cell 40, start 41, middle 42, positive 43, met 44, renamed 45, slot 46; used 3904, literals 3905, variables 3906, beyond 3907, metSize 3911 -/
def DN (σ : zS) (N : List Int) : Prop := σ.1 3911 = (N.length : Int) ∧ N.length ≤ 6 ∧ (∀ (i : Nat) c, N[i]? = some c → -300 ≤ c ∧ c < 0 ∧ σ.2.1 44 (i : Int) = -1 - c) ∧ ∀ v, 0 ≤ v → v < 300 → σ.2.1 46 v = if idx N (-1 - v) < N.length then (idx N (-1 - v) : Int) else -1
theorem DN.f {I A : List Nat} {σ τ : zS} {N : List Int} (h : DN σ N) (f : FrC I A σ τ) (h1 : I.elem 3911 = false := by decide) (h2 : A.elem 44 = false := by decide) (h3 : A.elem 46 = false := by decide) : DN τ N := ⟨by rw [f.1 3911 h1]; exact h.1, h.2.1, fun i c hc => by rw [f.2.1 44 _ h2]; exact h.2.2.1 i c hc, fun v a b => by rw [f.2.1 46 _ h3]; exact h.2.2.2 v a b⟩
/-- N: the VARIABLES met; W: the cells written; none: beyond the BOUNDS -/
def DS (σ : zS) : Option (List Int × List Int) → Prop
  | none => σ.1 3907 = 1 ∧ ∃ N, DN σ N
  | some (N, W) => σ.1 3907 = 0 ∧ DN σ N ∧ σ.1 3904 = (W.length : Int) ∧ W.length ≤ 100 ∧ Fl (σ.2.1 40) 0 W
abbrev DF (σ τ : zS) : Prop := FrC [3904, 3907, 3911] [40, 44, 46] σ τ
def dput (D : Option (List Int × List Int)) (X : List Int) : Option (List Int × List Int) := match D with
  | none => none
  | some (N, W) => if W.length + X.length ≤ 100 ∧ (ntF N X).length ≤ 6 then some (ntF N X, W ++ rnF N X) else none
theorem dput_none (X : List Int) : dput none X = none := rfl
theorem dput_nil {D : Option (List Int × List Int)} (h : ∀ N W, D = some (N, W) → W.length ≤ 100 ∧ N.length ≤ 6) : dput D [] = D := by
  cases D with
  | none => rfl
  | some q =>
    obtain ⟨N, W⟩ := q
    have := h N W rfl
    simp [dput, ntF, rnF, this]
theorem dput_app (D : Option (List Int × List Int)) (X Y : List Int) : dput D (X ++ Y) = dput (dput D X) Y := by
  cases D with
  | none => rfl
  | some q =>
    obtain ⟨N, W⟩ := q
    have h2 := ntF_len Y (ntF N X)
    show (if W.length + (X ++ Y).length ≤ 100 ∧ (ntF N (X ++ Y)).length ≤ 6 then some (ntF N (X ++ Y), W ++ rnF N (X ++ Y)) else none) = dput (if W.length + X.length ≤ 100 ∧ (ntF N X).length ≤ 6 then some (ntF N X, W ++ rnF N X) else none) Y
    rw [ntF_app, rnF_app, List.length_append]
    by_cases h : W.length + X.length ≤ 100 ∧ (ntF N X).length ≤ 6
    · rw [if_pos h]
      show _ = (if (W ++ rnF N X).length + Y.length ≤ 100 ∧ (ntF (ntF N X) Y).length ≤ 6 then some (ntF (ntF N X) Y, W ++ rnF N X ++ rnF (ntF N X) Y) else none)
      rw [List.length_append, rnF_len, List.append_assoc, Nat.add_assoc]
    · rw [if_neg h, if_neg (fun w => h ⟨by omega, by omega⟩)]
      rfl
theorem DS.b {σ : zS} {D : Option (List Int × List Int)} (h : DS σ D) : ∀ N W, D = some (N, W) → W.length ≤ 100 ∧ N.length ≤ 6 := fun N W e => by
  subst e
  exact ⟨h.2.2.2.1, h.2.1.2.1⟩
theorem DS.dn {σ : zS} {D : Option (List Int × List Int)} (h : DS σ D) : ∃ N, DN σ N := by
  cases D with
  | none => exact h.2
  | some q => exact ⟨q.1, h.2.1⟩
theorem idx_self {N : List Int} {c : Int} : idx (N ++ [c]) c = if idx N c < N.length then idx N c else N.length := by
  induction N with
  | nil => simp [idx]
  | cons a N ih =>
    show idx (a :: (N ++ [c])) c = if idx (a :: N) c < N.length + 1 then idx (a :: N) c else N.length + 1
    by_cases e : a = c
    · have e1 : idx (a :: (N ++ [c])) c = 0 := by simp [idx, e]
      have e2 : idx (a :: N) c = 0 := by simp [idx, e]
      rw [e1, e2, if_pos (by omega)]
    · have e1 : idx (a :: (N ++ [c])) c = 1 + idx (N ++ [c]) c := by simp only [idx, if_neg e]
      have e2 : idx (a :: N) c = 1 + idx N c := by simp only [idx, if_neg e]
      rw [e1, e2, ih]
      by_cases h : idx N c < N.length
      · rw [if_pos h, if_pos (by omega)]
      · rw [if_neg h, if_neg (by omega)]; omega
theorem idx_app {N : List Int} {c d : Int} (h : d ≠ c) : idx (N ++ [c]) d = if idx N d < N.length then idx N d else N.length + 1 := by
  induction N with
  | nil => simp [idx, Ne.symm h]
  | cons a N ih =>
    show idx (a :: (N ++ [c])) d = if idx (a :: N) d < N.length + 1 then idx (a :: N) d else N.length + 1 + 1
    by_cases e : a = d
    · have e1 : idx (a :: (N ++ [c])) d = 0 := by simp [idx, e]
      have e2 : idx (a :: N) d = 0 := by simp [idx, e]
      rw [e1, e2, if_pos (by omega)]
    · have e1 : idx (a :: (N ++ [c])) d = 1 + idx (N ++ [c]) d := by simp only [idx, if_neg e]
      have e2 : idx (a :: N) d = 1 + idx N d := by simp only [idx, if_neg e]
      rw [e1, e2, ih]
      by_cases q : idx N d < N.length
      · rw [if_pos q, if_pos (by omega)]
      · rw [if_neg q, if_neg (by omega)]; omega
/-- a SYMBOL is put -/
theorem put_ok {β : Nat} {σ : zS} {D : Option (List Int × List Int)} {c : Int} (h : DS σ D) (hc : 0 ≤ c) : ∃ τ, yE tC_Dra_put β σ [c] = some (τ, 0) ∧ DF σ τ ∧ DS τ (dput D [c]) := by
  have e38 : ∀ ρ : zS, yE tC_Dra_put_p38 β ρ [c] = some (ρ, 0) := fun ρ => by rw [yq_Dra_put_p38, kY_Dra_put_p38]
  cases D with
  | none =>
    obtain ⟨h1, N, h2⟩ := h
    rw [yq_Dra_put, kY_Dra_put]
    by_cases hu : σ.1 3904 = 100
    · refine ⟨zI σ 3907 1, ?_, FrC_I, zI_1, N, h2.f (I := [3907]) (A := []) FrC_I⟩
      rw [if_pos hu, lt_e, yq_Dra_put_p14, kY_Dra_put_p14, zI_1, if_neg (by decide), e38]
    · refine ⟨σ, ?_, FrC.refl, h1, N, h2⟩
      rw [if_neg hu, yq_Dra_put_p14, kY_Dra_put_p14, h1, if_neg (by decide), e38]
  | some q =>
    obtain ⟨N, W⟩ := q
    obtain ⟨h1, h2, h3, h4, h5⟩ := h
    have hn : ¬ c < 0 := by omega
    have e1 : ntF N [c] = N := by simp [ntF, hn]
    have e2 : rnF N [c] = [c] := by simp [rnF, hn]
    have ed : dput (some (N, W)) [c] = if W.length + 1 ≤ 100 ∧ N.length ≤ 6 then some (N, W ++ [c]) else none := by
      show (if W.length + [c].length ≤ 100 ∧ (ntF N [c]).length ≤ 6 then some (ntF N [c], W ++ rnF N [c]) else none) = _
      rw [e1, e2]; rfl
    rw [ed, yq_Dra_put, kY_Dra_put]
    by_cases hu : σ.1 3904 = 100
    · refine ⟨zI σ 3907 1, ?_, FrC_I, ?_⟩
      · rw [if_pos hu, lt_e, yq_Dra_put_p14, kY_Dra_put_p14, zI_1, if_neg (by decide), e38]
      · rw [if_neg (by omega)]
        exact ⟨zI_1, N, h2.f (I := [3907]) (A := []) FrC_I⟩
    · have f1 : FrC [3904] [40] σ (zA (zI σ 3904 (σ.1 3904 + 1)) 40 (σ.1 3904) c) := by
        have a1 : FrC [3904] [40] σ (zI σ 3904 (σ.1 3904 + 1)) := FrC_I
        exact a1.trans FrC_A
      refine ⟨zA (zI σ 3904 (σ.1 3904 + 1)) 40 (σ.1 3904) c, ?_, f1.w, ?_⟩
      · rw [if_neg hu, yq_Dra_put_p14, kY_Dra_put_p14, if_pos h1, if_pos (by omega), lt_e, if_pos (by omega), lt_e, e38]
      · rw [if_pos ⟨by omega, h2.2.1⟩]
        refine ⟨by rw [f1.i 3907]; exact h1, h2.f f1, ?_, by simp; omega, Fl_app.mpr ⟨Fl_q (fun i i0 i1 => ?_) h5, ?_, trivial⟩⟩
        · rw [zA_1, zI_1, h3]; simp
        · rw [zA_i (by omega), zI_2]
        · rw [show (0 : Int) + (W.length : Int) = σ.1 3904 by omega, zA_s]
/-- a VARIABLE is put -/
theorem putv_ok {β : Nat} {σ : zS} {D : Option (List Int × List Int)} {v : Int} (h : DS σ D) (v0 : 0 ≤ v) (v1 : v < 300) : ∃ τ r, yE tC_Dra_cellOf β σ [v] = some (τ, r) ∧ DF σ τ ∧ ∃ ρ, yE tC_Dra_put β τ [r] = some (ρ, 0) ∧ DF σ ρ ∧ DS ρ (dput D [-1 - v]) := by
  have e38 : ∀ (ρ : zS) (c : Int), yE tC_Dra_put_p38 β ρ [c] = some (ρ, 0) := fun ρ c => by rw [yq_Dra_put_p38, kY_Dra_put_p38]
  -- beyond, whatever is put
  have byd : ∀ (ρ : zS) (c : Int) (N : List Int), ρ.1 3907 = 1 → DN ρ N → ∃ ρ2, yE tC_Dra_put β ρ [c] = some (ρ2, 0) ∧ DF ρ ρ2 ∧ DS ρ2 none := fun ρ c N h1 h2 => by
    rw [yq_Dra_put, kY_Dra_put]
    by_cases hu : ρ.1 3904 = 100
    · refine ⟨zI ρ 3907 1, ?_, FrC_I, zI_1, N, h2.f (I := [3907]) (A := []) FrC_I⟩
      rw [if_pos hu, lt_e, yq_Dra_put_p14, kY_Dra_put_p14, zI_1, if_neg (by decide), e38]
    · refine ⟨ρ, ?_, FrC.refl, h1, N, h2⟩
      rw [if_neg hu, yq_Dra_put_p14, kY_Dra_put_p14, h1, if_neg (by decide), e38]
  -- cellOf
  have cell : ∀ N, DN σ N → ∃ τ r, yE tC_Dra_cellOf β σ [v] = some (τ, r) ∧ FrC [3907, 3911] [44, 46] σ τ ∧ ((¬ idx N (-1 - v) < N.length ∧ N.length = 6 ∧ τ.1 3907 = 1 ∧ DN τ N) ∨ ((idx N (-1 - v) < N.length ∨ N.length < 6) ∧ τ.1 3907 = σ.1 3907 ∧ DN τ (add1 N (-1 - v)) ∧ r = -1 - (idx N (-1 - v) : Int))) := fun N hN => by
    have hs := hN.2.2.2 v v0 v1
    have e64 : ∀ ρ : zS, yE tC_Dra_cellOf_p64 β ρ [v] = some (ρ, -1 - (if ρ.2.1 46 v < 0 then 0 else ρ.2.1 46 v)) := fun ρ => by rw [yq_Dra_cellOf_p64, kY_Dra_cellOf_p64, if_pos (by omega)]
    by_cases hi : idx N (-1 - v) < N.length
    · rw [if_pos hi] at hs
      refine ⟨σ, _, ?_, FrC.refl, Or.inr ⟨Or.inl hi, rfl, ?_, rfl⟩⟩
      · rw [yq_Dra_cellOf, kY_Dra_cellOf, if_pos (by omega), if_neg (by omega), yq_Dra_cellOf_p27, kY_Dra_cellOf_p27, if_pos (by omega), if_neg (by omega), e64, if_neg (by omega), hs]
      · unfold add1; rw [if_pos hi]; exact hN
    · rw [if_neg hi] at hs
      by_cases h6 : N.length = 6
      · refine ⟨zI σ 3907 1, -1 - (if (zI σ 3907 1).2.1 46 v < 0 then 0 else (zI σ 3907 1).2.1 46 v), ?_, FrC_I, Or.inl ⟨hi, h6, zI_1, hN.f (I := [3907]) (A := []) FrC_I⟩⟩
        rw [yq_Dra_cellOf, kY_Dra_cellOf, if_pos (by omega), if_pos hs, if_pos (by rw [hN.1]; omega), lt_e, e64]
      · have hN1 := hN.1
        have hN2 := hN.2.1
        have hi2 : idx N (-1 - v) = N.length := by have := idx_le N (-1 - v); omega
        have f1 : FrC [3907, 3911] [44, 46] σ (zA (zI (zA σ 44 (σ.1 3911) v) 3911 (σ.1 3911 + 1)) 46 v (σ.1 3911)) := by
          have a1 : FrC [3907, 3911] [44, 46] σ (zA σ 44 (σ.1 3911) v) := FrC_A
          have a2 : FrC [3907, 3911] [44, 46] (zA σ 44 (σ.1 3911) v) (zI (zA σ 44 (σ.1 3911) v) 3911 (σ.1 3911 + 1)) := FrC_I
          exact (a1.trans a2).trans FrC_A
        have e46 : ∀ w, (zA (zI (zA σ 44 (σ.1 3911) v) 3911 (σ.1 3911 + 1)) 46 v (σ.1 3911)).2.1 46 w = if w = v then σ.1 3911 else σ.2.1 46 w := fun w => by
          by_cases e : w = v
          · rw [if_pos e, e, zA_s]
          · rw [if_neg e, zA_i e, zI_2, zA_j]
        refine ⟨_, -1 - (N.length : Int), ?_, f1, Or.inr ⟨Or.inr (by omega), ?_, ?_, by rw [hi2]⟩⟩
        · rw [yq_Dra_cellOf, kY_Dra_cellOf, if_pos (by omega), if_pos hs, if_neg (by omega), yq_Dra_cellOf_p27, kY_Dra_cellOf_p27, if_pos (by omega), if_pos hs, if_pos (by omega), lt_e, zA_1, if_pos (by omega), lt_e, lt_e, e64, e46, if_pos rfl, if_neg (by omega), hN1]
        · rw [zA_1, zI_o, zA_1]
        · unfold add1
          rw [if_neg hi]
          refine ⟨by rw [zA_1, zI_1, hN1]; simp, by simp; omega, fun i c hc => ?_, fun w w0 w1 => ?_⟩
          · rw [zA_j, zI_2]
            by_cases hl : i < N.length
            · rw [List.getElem?_append_left hl] at hc
              rw [zA_i (by omega)]
              exact hN.2.2.1 i c hc
            · have hi3 : i = N.length := by
                have := (List.getElem?_eq_some_iff.mp hc).1
                simp at this; omega
              subst hi3
              rw [List.getElem?_append_right (Nat.le_refl _)] at hc
              simp at hc
              subst hc
              rw [hN1, zA_s]
              omega
          · rw [e46]
            by_cases e : w = v
            · subst e
              rw [if_pos rfl, idx_self, if_neg hi, if_pos (by simp), hN1]
            · rw [if_neg e, hN.2.2.2 w w0 w1, idx_app (by omega)]
              by_cases q : idx N (-1 - w) < N.length
              · rw [if_pos q, if_pos q, if_pos (by simp; omega)]
              · rw [if_neg q, if_neg q, if_neg (by simp)]
  cases D with
  | none =>
    obtain ⟨h1, N, h2⟩ := h
    obtain ⟨τ, r, t1, t2, t3⟩ := cell N h2
    refine ⟨τ, r, t1, t2.w, ?_⟩
    have hb : τ.1 3907 = 1 ∧ ∃ N2, DN τ N2 := by
      rcases t3 with ⟨_, _, q, w⟩ | ⟨_, q, w, _⟩
      · exact ⟨q, _, w⟩
      · exact ⟨by rw [q]; exact h1, _, w⟩
    obtain ⟨b1, N2, b2⟩ := hb
    obtain ⟨ρ, p1, p2, p3⟩ := byd τ r N2 b1 b2
    exact ⟨ρ, p1, (FrC.w t2).trans p2, p3⟩
  | some q =>
    obtain ⟨N, W⟩ := q
    obtain ⟨h1, h2, h3, h4, h5⟩ := h
    obtain ⟨τ, r, t1, t2, t3⟩ := cell N h2
    have e1 : ntF N [-1 - v] = add1 N (-1 - v) := by simp only [ntF]; rw [if_pos (by omega)]
    have e2 : rnF N [-1 - v] = [-1 - (idx N (-1 - v) : Int)] := by simp only [rnF]; rw [if_pos (by omega)]
    have ed : dput (some (N, W)) [-1 - v] = if W.length + 1 ≤ 100 ∧ (add1 N (-1 - v)).length ≤ 6 then some (add1 N (-1 - v), W ++ [-1 - (idx N (-1 - v) : Int)]) else none := by
      show (if W.length + [-1 - v].length ≤ 100 ∧ (ntF N [-1 - v]).length ≤ 6 then some (ntF N [-1 - v], W ++ rnF N [-1 - v]) else none) = _
      rw [e1, e2]; rfl
    refine ⟨τ, r, t1, t2.w, ?_⟩
    rw [ed]
    rcases t3 with ⟨c1, c2, c3, c4⟩ | ⟨c1, c2, c3, c4⟩
    · obtain ⟨ρ, p1, p2, p3⟩ := byd τ r N c3 c4
      refine ⟨ρ, p1, (FrC.w t2).trans p2, ?_⟩
      rw [if_neg (fun w => ?_)]
      · exact p3
      · have := w.2
        unfold add1 at this
        rw [if_neg c1] at this
        simp at this; omega
    · have hl6 : (add1 N (-1 - v)).length ≤ 6 := c3.2.1
      have u4 := t2.i 3904
      rw [yq_Dra_put, kY_Dra_put]
      by_cases hu : τ.1 3904 = 100
      · refine ⟨zI τ 3907 1, ?_, ?_, ?_⟩
        · rw [if_pos hu, lt_e, yq_Dra_put_p14, kY_Dra_put_p14, zI_1, if_neg (by decide), e38]
        · have a1 : DF τ (zI τ 3907 1) := FrC_I
          exact (FrC.w t2).trans a1
        · rw [if_neg (by omega)]
          exact ⟨zI_1, _, c3.f (I := [3907]) (A := []) FrC_I⟩
      · have f1 : FrC [3904] [40] τ (zA (zI τ 3904 (τ.1 3904 + 1)) 40 (τ.1 3904) r) := by
          have a1 : FrC [3904] [40] τ (zI τ 3904 (τ.1 3904 + 1)) := FrC_I
          exact a1.trans FrC_A
        refine ⟨zA (zI τ 3904 (τ.1 3904 + 1)) 40 (τ.1 3904) r, ?_, (FrC.w t2).trans f1.w, ?_⟩
        · rw [if_neg hu, yq_Dra_put_p14, kY_Dra_put_p14, if_pos (by rw [c2]; exact h1), if_pos (by omega), lt_e, if_pos (by omega), lt_e, e38]
        · rw [if_pos ⟨by omega, hl6⟩]
          refine ⟨by rw [f1.i 3907, c2]; exact h1, c3.f f1, ?_, by simp; omega, Fl_app.mpr ⟨Fl_q (fun i i0 i1 => ?_) h5, ?_, trivial⟩⟩
          · rw [zA_1, zI_1, u4, h3]; simp
          · rw [zA_i (by omega), zI_2, t2.a 40]
          · rw [show (0 : Int) + (W.length : Int) = τ.1 3904 by omega, zA_s, c4]
