/-! numbers given twice -/
theorem idx_pre {N X : List Int} {c : Int} (h : idx N c < N.length) : idx (N ++ X) c = idx N c := by
  induction N with
  | nil => simp at h
  | cons a N ih =>
    show idx (a :: (N ++ X)) c = idx (a :: N) c
    by_cases e : a = c
    · have e1 : idx (a :: (N ++ X)) c = 0 := by simp [idx, e]
      have e2 : idx (a :: N) c = 0 := by simp [idx, e]
      rw [e1, e2]
    · have e1 : idx (a :: (N ++ X)) c = 1 + idx (N ++ X) c := by simp only [idx, if_neg e]
      have e2 : idx (a :: N) c = 1 + idx N c := by simp only [idx, if_neg e]
      rw [e2] at h
      simp only [List.length_cons] at h
      rw [e1, e2, ih (by omega)]
theorem add1_idx (N : List Int) (c : Int) : idx (add1 N c) c = idx N c ∧ idx (add1 N c) c < (add1 N c).length := by
  unfold add1
  by_cases h : idx N c < N.length
  · rw [if_pos h]; exact ⟨rfl, h⟩
  · rw [if_neg h, idx_self, if_neg h]
    have := idx_le N c
    exact ⟨by omega, by simp⟩
theorem add1_pre (N : List Int) (c : Int) : ∃ X, add1 N c = N ++ X := by
  unfold add1
  by_cases h : idx N c < N.length
  · rw [if_pos h]; exact ⟨[], by simp⟩
  · rw [if_neg h]; exact ⟨[c], rfl⟩
theorem ntF_pre : ∀ (L N : List Int), ∃ X, ntF N L = N ++ X
  | [], N => ⟨[], by simp [ntF]⟩
  | c :: L, N => by
    simp only [ntF]
    split
    · obtain ⟨X, hX⟩ := ntF_pre L (add1 N c)
      obtain ⟨Y, hY⟩ := add1_pre N c
      exact ⟨Y ++ X, by rw [hX, hY, List.append_assoc]⟩
    · exact ntF_pre L N
/-- the name that a VARIABLE gets by N -/
def thN (N : List Int) : Vs := fun v => vt (idx N (-1 - v) : Int)
/-- cells by their numbers, once all are known -/
theorem rnF_th : ∀ (L N M : List Int), (∃ X, M = ntF N L ++ X) → rnF N L = exL (thN M) 0 L
  | [], N, M, _ => rfl
  | c :: L, N, M, hM => by
    obtain ⟨X, hX⟩ := hM
    simp only [rnF, exL]
    by_cases h : c < 0
    · simp only [ntF, h, if_true] at hX
      rw [if_pos h, if_pos h, ← rnF_th L (add1 N c) M ⟨X, hX⟩]
      obtain ⟨Y, hY⟩ := ntF_pre L (add1 N c)
      obtain ⟨a1, a2⟩ := add1_idx N c
      have e : idx M c = idx N c := by rw [hX, hY, List.append_assoc, idx_pre a2, a1]
      unfold thN
      rw [show (-1 - (-1 - c + 0) : Int) = c by omega, e, fl_vt]
      rfl
    · simp only [ntF, h, if_false] at hX
      rw [if_neg h, if_neg h, ← rnF_th L N M ⟨X, hX⟩]
      rfl
theorem renT_th {ar : Int → Nat} {p : Int → Prop} {x : Tm} {N M : List Int} (w : wf ar p (tt x)) (hM : ∃ X, M = nt N (tt x) ++ X) : renT N x = st (thN M) x := by
  have hw2 : wf ar (fun _ => True) (tt (renT N x)) := by
    rw [← renT_nd N w]
    exact ren_wf (wf_mono (fun _ _ => trivial) w)
  have hw3 : wf ar (fun _ => True) (tt (st (thN M) x)) := by
    show wf ar _ (su (thN M) (tt x))
    exact su_wf0 w
  obtain ⟨r1, r2⟩ := renT_fl (N := N) w
  rw [r2] at hM
  have e : fl (tt (renT N x)) = fl (tt (st (thN M) x)) := by
    rw [r1, rnF_th _ _ M hM]
    exact (su_sh0 (F := tt x) w).symm
  have := (fl_inj (A := []) (B := []) hw2 hw3 rfl (by rw [List.append_nil, List.append_nil]; exact e)).1
  injection this with e1 e2 e3
  exact Prod.ext e1 e2
where
  ren_wf : ∀ {F : T} {N : List Int} {ar : Int → Nat}, wf ar (fun _ => True) F → wf ar (fun _ => True) (ren N F)
    | .leaf _, N, ar, _ => trivial
    | .branch n k s, N, ar, w => by
      simp only [ren]
      by_cases h : cl n < 0
      · rw [if_pos h]
        have := w.1
        rw [if_pos h] at this
        exact ⟨by rw [cl_cu, if_pos (by omega)]; exact this, trivial, w.2.2.1, ren_wf w.2.2.2⟩
      · rw [if_neg h]
        exact ⟨by rw [ren_len]; exact w.1, trivial, ren_wf w.2.2.1, ren_wf w.2.2.2⟩
  su_wf0 : ∀ {F : T} {M : List Int} {ar : Int → Nat} {p : Int → Prop}, wf ar p F → wf ar (fun _ => True) (su (thN M) F)
    | .leaf _, M, ar, p, _ => trivial
    | .branch n k s, M, ar, p, w => by
      rw [su_nd]
      by_cases h : cl n < 0
      · rw [st_v (thN M) (x := (n, k)) h]
        refine ⟨?_, trivial, trivial, su_wf0 w.2.2.2⟩
        show len nl = if cl (cu (-1 - _)) < 0 then 0 else _
        rw [cl_cu, if_pos (by omega)]; rfl
      · rw [st_f (thN M) (x := (n, k)) h]
        exact ⟨by rw [su_len]; exact w.1, trivial, su_wf0 w.2.2.1, su_wf0 w.2.2.2⟩
theorem rnL_th {ar : Int → Nat} {p : Int → Prop} : ∀ {C : List Lt} {N M : List Int}, WL ar p C → (∃ X, M = ntL N C ++ X) → rnL N C = mpL (st (thN M)) C
  | [], N, M, _, _ => rfl
  | a :: C, N, M, w, hM => by
    obtain ⟨_, w1, w2⟩ := w a List.mem_cons_self
    have wC : WL ar p C := fun b hb => w b (List.mem_cons_of_mem _ hb)
    obtain ⟨X, hX⟩ := hM
    have hX' : M = ntL (nt (nt N (tt a.2.1)) (tt a.2.2)) C ++ X := hX
    obtain ⟨_, y2, _⟩ := rnL_F (N := nt (nt N (tt a.2.1)) (tt a.2.2)) wC
    obtain ⟨Y, hY⟩ := ntF_pre (flQ (toQ C)) (nt (nt N (tt a.2.1)) (tt a.2.2))
    have m2 : M = nt (nt N (tt a.2.1)) (tt a.2.2) ++ (Y ++ X) := by rw [hX', y2, hY, List.append_assoc]
    obtain ⟨_, z2⟩ := renT_fl (N := nt N (tt a.2.1)) w2
    obtain ⟨Z, hZ⟩ := ntF_pre (fl (tt a.2.2)) (nt N (tt a.2.1))
    have m1 : M = nt N (tt a.2.1) ++ (Z ++ (Y ++ X)) := by rw [m2, z2, hZ, List.append_assoc]
    show (a.1, renT N a.2.1, renT (nt N (tt a.2.1)) a.2.2) :: rnL (nt (nt N (tt a.2.1)) (tt a.2.2)) C = (a.1, st (thN M) a.2.1, st (thN M) a.2.2) :: mpL (st (thN M)) C
    rw [renT_th w1 ⟨_, m1⟩, renT_th w2 ⟨_, m2⟩, rnL_th wC ⟨X, hX'⟩]
/-- the way back -/
def thB (N : List Int) : Vs := fun i => vt (-1 - (N[i.toNat]?).getD 0)
theorem thB_st {N : List Int} {ar : Int → Nat} {p : Int → Prop} : ∀ {F : T}, wf ar p F → (∀ v, vi v F → idx N (-1 - v) < N.length) → su (thB N) (su (thN N) F) = F
  | .leaf (), _, _ => rfl
  | .branch n k s, w, h => by
    have hs := thB_st w.2.2.2 (fun v hv => h v (Or.inr hv))
    rw [su_nd, su_nd, hs]
    by_cases hc : cl n < 0
    · have k0 : k = nl := len0 (by have := w.1; rw [if_pos hc] at this; exact this)
      have hi := h (-1 - cl n) (Or.inl (by rw [if_pos hc]))
      rw [show (-1 - (-1 - cl n) : Int) = cl n by omega] at hi
      have e1 : st (thN N) (n, k) = vt (idx N (cl n) : Int) := by
        rw [st_v (thN N) (x := (n, k)) hc]
        show vt (idx N (-1 - (-1 - cl n)) : Int) = _
        rw [show (-1 - (-1 - cl n) : Int) = cl n by omega]
      have e2 : st (thB N) (vt (idx N (cl n) : Int)) = vt (-1 - cl n) := by
        rw [st_vt (by omega)]
        show vt (-1 - (N[((idx N (cl n) : Nat) : Int).toNat]?).getD 0) = _
        rw [Int.toNat_natCast, idx_get hi]; rfl
      rw [e1]
      show nd (st (thB N) (vt (idx N (cl n) : Int))).1 (st (thB N) (vt (idx N (cl n) : Int))).2 s = _
      rw [e2]
      show nd (cu (-1 - (-1 - cl n))) nl s = _
      rw [show (-1 - (-1 - cl n) : Int) = cl n by omega, cu_cl, k0]
    · have hk := thB_st w.2.2.1 (fun v hv => h v (Or.inl (by rw [if_neg hc]; exact hv)))
      rw [st_f (thN N) (x := (n, k)) hc]
      show nd (st (thB N) (n, su (thN N) k)).1 (st (thB N) (n, su (thN N) k)).2 s = _
      rw [st_f (thB N) (x := (n, su (thN N) k)) hc, hk]
theorem ntF_in {c : Int} (hc : c < 0) : ∀ {L N : List Int}, c ∈ L → idx (ntF N L) c < (ntF N L).length
  | [], N, h => by cases h
  | d :: L, N, h => by
    simp only [ntF]
    rcases List.mem_cons.mp h with e | h
    · subst e
      rw [if_pos hc]
      obtain ⟨X, hX⟩ := ntF_pre L (add1 N c)
      obtain ⟨_, a2⟩ := add1_idx N c
      rw [hX, idx_pre a2, List.length_append]
      omega
    · split
      · exact ntF_in hc h
      · exact ntF_in hc h
theorem vi_mem {v : Int} : ∀ {F : T}, vi v F → (-1 - v) ∈ fl F
  | .leaf _, h => h.elim
  | .branch n k s, h => by
    simp only [fl, List.mem_cons, List.mem_append]
    rcases h with h | h
    · by_cases hc : cl n < 0
      · rw [if_pos hc] at h
        left; omega
      · rw [if_neg hc] at h
        exact Or.inr (Or.inl (vi_mem h))
    · exact Or.inr (Or.inr (vi_mem h))
theorem toQ_mem {C : List Lt} {a : Lt} {c : Int} (ha : a ∈ C) (hc : c ∈ fl (tt a.2.1) ∨ c ∈ fl (tt a.2.2)) : c ∈ flQ (toQ C) := by
  induction C with
  | nil => cases ha
  | cons b C ih =>
    show c ∈ fl (tt b.2.1) ++ fl (tt b.2.2) ++ flQ (toQ C)
    rcases List.mem_cons.mp ha with rfl | ha
    · exact List.mem_append.mpr (Or.inl (List.mem_append.mpr hc))
    · exact List.mem_append.mpr (Or.inr (ih ha))
theorem mpL_back {N : List Int} {ar : Int → Nat} {p : Int → Prop} {C : List Lt} (w : WL ar p C) (h : ∀ a ∈ C, (∀ v, vi v (tt a.2.1) → idx N (-1 - v) < N.length) ∧ ∀ v, vi v (tt a.2.2) → idx N (-1 - v) < N.length) : mpL (st (thB N)) (mpL (st (thN N)) C) = C := by
  induction C with
  | nil => rfl
  | cons a C ih =>
    obtain ⟨_, w1, w2⟩ := w a List.mem_cons_self
    obtain ⟨h1, h2⟩ := h a List.mem_cons_self
    have back : ∀ x : Tm, wf ar p (tt x) → (∀ v, vi v (tt x) → idx N (-1 - v) < N.length) → st (thB N) (st (thN N) x) = x := fun x wx hx => by
      have := thB_st wx hx
      have e : su (thB N) (su (thN N) (tt x)) = tt (st (thB N) (st (thN N) x)) := rfl
      rw [e] at this
      injection this with e1 e2 e3
      exact Prod.ext e1 e2
    show (a.1, st (thB N) (st (thN N) a.2.1), st (thB N) (st (thN N) a.2.2)) :: mpL (st (thB N)) (mpL (st (thN N)) C) = a :: C
    rw [back _ w1 h1, back _ w2 h2, ih (fun b hb => w b (List.mem_cons_of_mem _ hb)) (fun b hb => h b (List.mem_cons_of_mem _ hb))]
/-- labels after numbering -/
theorem rn_wf {ar : Int → Nat} {p : Int → Prop} {m9 : Int} (h0 : 0 ≤ m9) (hp : ∀ c, p c → c < m9) : ∀ {F : T} {N : List Int}, wf ar p F → (nt N F).length ≤ 6 → wf ar (lb m9) (ren N F)
  | .leaf _, N, _, _ => trivial
  | .branch n k s, N, w, h => by
    simp only [ren]
    simp only [nt] at h
    by_cases hc : cl n < 0
    · rw [if_pos hc] at h ⊢
      have k0 : k = nl := len0 (by have := w.1; rw [if_pos hc] at this; exact this)
      obtain ⟨y1, y2⟩ := nt_F (N := add1 N (cl n)) w.2.2.2
      obtain ⟨a1, a2⟩ := add1_idx N (cl n)
      have hl : (add1 N (cl n)).length ≤ 6 := by
        have := ntF_len (fl s) (add1 N (cl n))
        rw [y1] at h; omega
      subst k0
      have hm : cl n < m9 := hp _ w.2.1
      refine ⟨by rw [cl_cu, if_pos (by omega)]; rfl, ⟨by rw [cl_cu]; omega, by rw [cl_cu]; omega⟩, trivial, rn_wf h0 hp w.2.2.2 h⟩
    · rw [if_neg hc] at h ⊢
      obtain ⟨y1, y2⟩ := nt_F (N := nt N k) w.2.2.2
      have hl : (nt N k).length ≤ 6 := by
        have := ntF_len (fl s) (nt N k)
        rw [y1] at h; omega
      exact ⟨by rw [ren_len]; exact w.1, ⟨by omega, hp _ w.2.1⟩, rn_wf h0 hp w.2.2.1 hl, rn_wf h0 hp w.2.2.2 h⟩
theorem rnL_wf {ar : Int → Nat} {p : Int → Prop} {m9 : Int} (h0 : 0 ≤ m9) (hp : ∀ c, p c → c < m9) : ∀ {C : List Lt} {N : List Int}, WL ar p C → (ntL N C).length ≤ 6 → WL ar (lb m9) (rnL N C)
  | [], N, _, _ => fun a ha => by cases ha
  | a :: C, N, w, h => by
    obtain ⟨s1, w1, w2⟩ := w a List.mem_cons_self
    have wC : WL ar p C := fun b hb => w b (List.mem_cons_of_mem _ hb)
    have h' : (ntL (nt (nt N (tt a.2.1)) (tt a.2.2)) C).length ≤ 6 := h
    obtain ⟨_, y2, _⟩ := rnL_F (N := nt (nt N (tt a.2.1)) (tt a.2.2)) wC
    have l2 : (nt (nt N (tt a.2.1)) (tt a.2.2)).length ≤ 6 := by
      have := ntF_len (flQ (toQ C)) (nt (nt N (tt a.2.1)) (tt a.2.2))
      rw [y2] at h'; omega
    obtain ⟨_, z2⟩ := renT_fl (N := nt N (tt a.2.1)) w2
    have l1 : (nt N (tt a.2.1)).length ≤ 6 := by
      have := ntF_len (fl (tt a.2.2)) (nt N (tt a.2.1))
      rw [z2] at l2; omega
    intro b hb
    have hb' : b ∈ (a.1, renT N a.2.1, renT (nt N (tt a.2.1)) a.2.2) :: rnL (nt (nt N (tt a.2.1)) (tt a.2.2)) C := hb
    rcases List.mem_cons.mp hb' with rfl | hb'
    · refine ⟨s1, ?_, ?_⟩
      · show wf ar (lb m9) (tt (renT N a.2.1))
        rw [← renT_nd N w1]; exact rn_wf h0 hp w1 l1
      · show wf ar (lb m9) (tt (renT (nt N (tt a.2.1)) a.2.2))
        rw [← renT_nd _ w2]; exact rn_wf h0 hp w2 l2
    · exact rnL_wf h0 hp wC h' b hb'
/-- numbers given before REDUCED change nothing -/
theorem rn_twice {ar : Int → Nat} {p : Int → Prop} {m9 : Int} (h0 : 0 ≤ m9) (hp : ∀ c, p c → c < m9) {C : List Lt} (w : WL ar p C) (h6 : (ntL [] C).length ≤ 6) : rnL [] (ddL [] (rnL [] C)) = rnL [] (ddL [] C) ∧ (ntL [] (ddL [] (rnL [] C))).length = (ntL [] (ddL [] C)).length := by
  have e1 : rnL [] C = mpL (st (thN (ntL [] C))) C := rnL_th w ⟨[], by simp⟩
  obtain ⟨_, y2, _⟩ := rnL_F (N := []) w
  have e2 : C = mpL (st (thB (ntL [] C))) (rnL [] C) := by
    rw [e1]
    refine (mpL_back w (fun a ha => ⟨fun v hv => ?_, fun v hv => ?_⟩)).symm
    · rw [y2]
      exact ntF_in (by have := vi_nn hv; omega) (toQ_mem ha (Or.inl (vi_mem hv)))
    · rw [y2]
      exact ntF_in (by have := vi_nn hv; omega) (toQ_mem ha (Or.inr (vi_mem hv)))
  have wR := rnL_wf h0 hp w h6
  obtain ⟨v1, v2, v3, v4⟩ := variant (fun a ha => ⟨(w a ha).2.1, (w a ha).2.2⟩) (fun a ha => ⟨(wR a ha).2.1, (wR a ha).2.2⟩) e1 e2
  exact ⟨v1, v2⟩
