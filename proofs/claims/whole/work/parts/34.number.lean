/-! VARIABLES are numbered as they come first -/
def idx : List Int → Int → Nat
  | [], _ => 0
  | a :: N, c => if a = c then 0 else 1 + idx N c
def add1 (N : List Int) (c : Int) : List Int := if idx N c < N.length then N else N ++ [c]
theorem idx_le : ∀ (N : List Int) (c : Int), idx N c ≤ N.length
  | [], _ => Nat.le_refl _
  | a :: N, c => by
    have := idx_le N c
    simp only [idx, List.length_cons]
    split <;> omega
theorem idx_get : ∀ {N : List Int} {c : Int} (h : idx N c < N.length), N[idx N c]? = some c
  | [], _, h => by simp [idx] at h
  | a :: N, c, h => by
    by_cases e : a = c
    · simp [idx, e]
    · have h2 : idx N c < N.length := by simp only [idx, if_neg e, List.length_cons] at h; omega
      have e2 : idx (a :: N) c = idx N c + 1 := by simp only [idx, if_neg e]; omega
      rw [e2, List.getElem?_cons_succ]; exact idx_get h2
theorem idx_ne : ∀ {N : List Int} {c : Int} {i : Nat}, i < idx N c → N[i]? ≠ some c
  | [], c, i, h => by simp [idx] at h
  | a :: N, c, i, h => by
    by_cases e : a = c
    · simp [idx, e] at h
    · simp only [idx, if_neg e] at h
      cases i with
      | zero => simpa using e
      | succ j => rw [List.getElem?_cons_succ]; exact idx_ne (by omega)
theorem add1_len (N : List Int) (c : Int) : N.length ≤ (add1 N c).length ∧ (add1 N c).length ≤ N.length + 1 := by
  unfold add1
  split
  · omega
  · simp
def nt : List Int → T → List Int
  | N, .leaf _ => N
  | N, .branch n k s => if cl n < 0 then nt (add1 N (cl n)) s else nt (nt N k) s
def ren : List Int → T → T
  | _, .leaf _ => nl
  | N, .branch n k s => if cl n < 0 then nd (cu (-1 - (idx N (cl n) : Int))) k (ren (add1 N (cl n)) s) else nd n (ren N k) (ren (nt N k) s)
theorem ren_wt : ∀ (N : List Int) (F : T), wt (ren N F) = wt F
  | _, .leaf _ => rfl
  | N, .branch n k s => by
    simp only [ren]
    split
    · simp only [wt, ren_wt]
    · simp only [wt, ren_wt]
theorem ren_len : ∀ (N : List Int) (F : T), len (ren N F) = len F
  | _, .leaf _ => rfl
  | N, .branch n k s => by
    simp only [ren]
    split
    · simp only [len, ren_len]
    · simp only [len, ren_len]
theorem ren_ht : ∀ (N : List Int) (F : T), ht (ren N F) = ht F
  | _, .leaf _ => rfl
  | N, .branch n k s => by
    simp only [ren]
    split
    · simp only [ht, ren_ht]
    · simp only [ht, ren_ht]
theorem nt_len : ∀ (F : T) (N : List Int), N.length ≤ (nt N F).length ∧ (nt N F).length ≤ N.length + wt F
  | .leaf _, N => by simp [nt, wt]
  | .branch n k s, N => by
    simp only [nt, wt]
    split
    · have h1 := add1_len N (cl n)
      have h2 := nt_len s (add1 N (cl n))
      omega
    · have h1 := nt_len k N
      have h2 := nt_len s (nt N k)
      omega
/-- the numbers given so far: numbered 100, numbers 101 -/
def Nm (σ : zS) (N : List Int) : Prop := σ.1 101 = (N.length : Int) ∧ ∀ (i : Nat) (c : Int), N[i]? = some c → σ.2.1 100 (i : Int) = c
/-- what numbering may change -/
def Sn (lo hi : Int) (σ τ : zS) : Prop := (∀ j, j ≠ 101 → τ.1 j = σ.1 j) ∧ τ.2.2 = σ.2.2 ∧ ∀ j q, j ≠ 100 → ¬ (j = 43 ∧ lo ≤ q ∧ q < hi) → τ.2.1 j q = σ.2.1 j q
theorem Sn.refl {lo hi : Int} {σ : zS} : Sn lo hi σ σ := ⟨fun _ _ => rfl, rfl, fun _ _ _ _ => rfl⟩
theorem Sn.trans {lo hi : Int} {σ τ ρ : zS} (h : Sn lo hi σ τ) (g : Sn lo hi τ ρ) : Sn lo hi σ ρ := ⟨fun j w => by rw [g.1 j w, h.1 j w], by rw [g.2.1, h.2.1], fun j q a b => by rw [g.2.2 j q a b, h.2.2 j q a b]⟩
theorem Sn.w {lo hi lo2 hi2 : Int} {σ τ : zS} (h : Sn lo hi σ τ) (h1 : lo < hi → lo2 ≤ lo) (h2 : lo < hi → hi ≤ hi2) : Sn lo2 hi2 σ τ := ⟨h.1, h.2.1, fun j q a b => h.2.2 j q a (by omega)⟩
theorem Sn.pq {lo hi a b : Int} {σ τ : zS} (h : Sn lo hi σ τ) (hd : b ≤ lo ∨ hi ≤ a ∨ hi ≤ lo) : Pq σ τ a b := fun k i h1 h2 h3 => h.2.2 k i (by omega) (by omega)
theorem number_11_ok {σ : zS} {β : Nat} {x0 : Int} {N : List Int} (hN : Nm σ N) (h1 : 0 ≤ x0) (h2 : x0 < 420000) (hl : N.length ≤ 400) : ∀ (m i : Nat), i + m = idx N (σ.2.1 43 x0) → zE tM_number_11 β σ [x0, (i : Int)] = zE tM_number_40 β σ [x0, (idx N (σ.2.1 43 x0) : Int)]
  | 0, i, hi => by
    have hi' : i = idx N (σ.2.1 43 x0) := by omega
    have hle := idx_le N (σ.2.1 43 x0)
    rw [← hi', zq_number_11, kZ_number_11, hN.1]
    by_cases h : idx N (σ.2.1 43 x0) < N.length
    · rw [if_neg (by omega), if_pos (by omega), if_pos (by omega), if_pos (hN.2 i _ (by rw [hi']; exact idx_get h))]
    · rw [if_pos (by omega)]
  | m + 1, i, hi => by
    have hle := idx_le N (σ.2.1 43 x0)
    have hn := idx_ne (N := N) (c := σ.2.1 43 x0) (i := i) (by omega)
    obtain ⟨c, hc⟩ : ∃ c, N[i]? = some c := ⟨N[i]'(by omega), List.getElem?_eq_getElem (by omega)⟩
    rw [zq_number_11, kZ_number_11, hN.1, if_neg (by omega), if_pos (by omega), if_pos (by omega), if_neg (by rw [hN.2 i c hc]; intro w; exact hn (by rw [hc, w])), if_pos (by omega)]
    exact number_11_ok hN h1 h2 hl m (i + 1) (by omega)
theorem Nm_add {σ : zS} {N : List Int} {c : Int} (hN : Nm σ N) (h : ¬ idx N c < N.length) : Nm (zA (zI σ 101 ((N.length : Int) + 1)) 100 (N.length : Int) c) (add1 N c) := by
  have e : add1 N c = N ++ [c] := by unfold add1; rw [if_neg h]
  rw [e]
  refine ⟨by simp [zA, zI], fun i d hi => ?_⟩
  by_cases q : i < N.length
  · rw [List.getElem?_append_left q] at hi
    have : ¬ (i : Int) = (N.length : Int) := by omega
    simp only [zA, zI, this, and_false, if_false]
    exact hN.2 i d hi
  · rw [List.getElem?_append_right (by omega)] at hi
    have q2 : i = N.length := by
      apply Classical.byContradiction
      intro w
      have : i - N.length ≠ 0 := by omega
      cases hz : i - N.length with
      | zero => omega
      | succ z => rw [hz] at hi; simp at hi
    subst q2
    simp at hi
    simp [zA, hi]
/-- a VARIABLE's node -/
theorem number_var {σ : zS} {β : Nat} {x0 : Int} {N : List Int} (hN : Nm σ N) (h1 : 0 ≤ x0) (h2 : x0 < 420000) (hl : N.length < 400) (hc : σ.2.1 43 x0 < 0) : ∃ τ, zE tM_number β σ [x0] = some (τ, 0) ∧ Sn x0 (x0 + 1) σ τ ∧ Nm τ (add1 N (σ.2.1 43 x0)) ∧ τ.2.1 43 x0 = -1 - (idx N (σ.2.1 43 x0) : Int) := by
  have hle := idx_le N (σ.2.1 43 x0)
  have E : zE tM_number β σ [x0] = zE tM_number_40 β σ [x0, (idx N (σ.2.1 43 x0) : Int)] := by
    rw [zq_number, kZ_number, if_pos (by omega), if_neg (by omega)]
    exact number_11_ok hN h1 h2 (by omega) (idx N (σ.2.1 43 x0)) 0 (by omega)
  by_cases h : idx N (σ.2.1 43 x0) < N.length
  · refine ⟨zA σ 43 x0 (-1 - (idx N (σ.2.1 43 x0) : Int)), ?_, ⟨fun _ _ => rfl, rfl, fun j q a b => ?_⟩, ?_, by simp [zA]⟩
    · rw [E, zq_number_40, kZ_number_40, hN.1, if_neg (by omega), zq_number_70, kZ_number_70, if_pos (by omega), if_pos (by omega)]; rfl
    · have : ¬ (j = 43 ∧ q = x0) := by omega
      simp [zA, this]
    · have e : add1 N (σ.2.1 43 x0) = N := by unfold add1; rw [if_pos h]
      rw [e]
      exact ⟨hN.1, fun i c hi => by simp [zA]; exact hN.2 i c hi⟩
  · have hA := Nm_add (c := σ.2.1 43 x0) hN h
    refine ⟨zA (zA (zI σ 101 ((N.length : Int) + 1)) 100 (N.length : Int) (σ.2.1 43 x0)) 43 x0 (-1 - (idx N (σ.2.1 43 x0) : Int)), ?_, ⟨fun j w => ?_, rfl, fun j q a b => ?_⟩, ⟨hA.1, fun i c hi => ?_⟩, by simp [zA]⟩
    · rw [E, zq_number_40, kZ_number_40, hN.1, if_pos (by omega), if_pos (by omega)]
      show (if zb x0 420000 then _ else none) = _
      rw [if_pos (by omega), if_pos (by omega)]
      show zE tM_number_70 β (zA (zI σ 101 ((N.length : Int) + 1)) 100 (N.length : Int) (σ.2.1 43 x0)) [x0, (idx N (σ.2.1 43 x0) : Int)] = _
      rw [zq_number_70, kZ_number_70, if_pos (by omega), if_pos (by omega)]; rfl
    · simp [zA, zI, w]
    · have : ¬ (j = 43 ∧ q = x0) := by omega
      simp [zA, zI, this, a]
    · have := hA.2 i c hi
      simp only [zA] at this ⊢
      simpa using this
theorem number_loop {ar : Int → Nat} {p : Int → Prop} : ∀ (S : T) (σ : zS) (β : Nat) (x0 x1 : Int) (N : List Int), Pc σ S x1 → x1 + (wt S : Int) ≤ 420000 → wf ar p S → Nm σ N → N.length + wt S ≤ 400 → ht S ≤ β →
    ∃ τ, zE tM_number_87 β σ [x0, x1] = some (τ, 0) ∧ Sn x1 (x1 + (wt S : Int)) σ τ ∧ Nm τ (nt N S) ∧ Pc τ (ren N S) x1
  | .leaf (), σ, β, x0, x1, N, hS, _, hw, hN, hl, hd => by
    have h1 : x1 < 0 := hS
    exact ⟨σ, by rw [zq_number_87, kZ_number_87, if_pos h1], Sn.refl, hN, h1⟩
  | .branch n k s, σ, β, x0, x1, N, hS, hi, hw, hN, hl, hd => by
    have k1 := Pc_kid hS hi (by omega)
    have s1 := Pc_bes hS hi (by omega)
    obtain ⟨a1, a2, a3, a4, a5, a6, a7⟩ := hS
    simp only [ht] at hd
    simp only [wt] at hi hl
    -- the TERM at x1
    have key : ∃ τ, zE tM_number (β - 1) σ [x1] = some (τ, 0) ∧ Sn x1 (x1 + 1 + (wt k : Int)) σ τ ∧ Nm τ (if cl n < 0 then add1 N (cl n) else nt N k) ∧ Pt τ (if cl n < 0 then cu (-1 - (idx N (cl n) : Int)) else n) (if cl n < 0 then k else ren N k) x1 := by
      by_cases hc : cl n < 0
      · obtain ⟨τ, e, S1, N1, f1⟩ := number_var (β := β - 1) hN a1 (by omega) (by omega) (by rw [a2]; exact hc)
        rw [a2] at N1 f1
        simp only [hc, if_true]
        have hk : k = nl := len0 (by have := hw.1; rw [if_pos hc] at this; exact this)
        subst hk
        refine ⟨τ, e, S1.w (by omega) (by simp [wt]), N1, a1, ?_, ?_, ?_, ?_⟩
        · rw [f1, cl_cu]
        · rw [S1.2.2 46 x1 (by omega) (by omega)]; exact a3
        · rw [S1.2.2 44 x1 (by omega) (by omega)]; exact a4
        · rw [S1.2.2 44 x1 (by omega) (by omega)]; exact a5
      · obtain ⟨τ, e, S1, N1, P1⟩ := number_loop k σ (β - 1) x1 _ N a4 k1 hw.2.2.1 hN (by omega) (by omega)
        simp only [hc, if_false]
        have hb := Pc_bd a4
        have f : ∀ j, j ≠ 100 → τ.2.1 j x1 = σ.2.1 j x1 := fun j hj => S1.2.2 j x1 hj (by omega)
        refine ⟨τ, ?_, S1.w (by omega) (by omega), N1, a1, ?_, ?_, ?_, ?_⟩
        · rw [zq_number, kZ_number, if_pos (by omega), a2, if_pos (by omega)]; exact e
        · rw [f 43 (by omega)]; exact a2
        · rw [f 46 (by omega), ren_wt]; exact a3
        · rw [f 44 (by omega)]; exact P1
        · rw [f 44 (by omega), ren_wt]; exact a5
    obtain ⟨τ1, e1, S1, N1, P1⟩ := key
    have hb := Pc_bd a6
    have ps : Pc τ1 s (σ.2.1 45 x1) := Pc_q (S1.pq (by omega)) a6
    have hl2 : (if cl n < 0 then add1 N (cl n) else nt N k).length ≤ N.length + 1 + wt k := by
      split
      · have := add1_len N (cl n); omega
      · have := nt_len k N; omega
    obtain ⟨τ2, e2, S2, N2, P2⟩ := number_loop s τ1 β x0 (σ.2.1 45 x1) _ ps s1 hw.2.2.2 N1 (by omega) (by omega)
    have wk : wt (if cl n < 0 then k else ren N k) = wt k := by split <;> simp [ren_wt]
    have f5 : τ2.2.1 45 x1 = σ.2.1 45 x1 := by rw [S2.2.2 45 x1 (by omega) (by omega), S1.2.2 45 x1 (by omega) (by omega)]
    have P3 : Pt τ2 (if cl n < 0 then cu (-1 - (idx N (cl n) : Int)) else n) (if cl n < 0 then k else ren N k) x1 := Pt_q (S2.pq (by rw [wk]; omega)) P1
    refine ⟨τ2, ?_, (S1.w (by omega) (by simp only [wt]; omega)).trans (S2.w (by omega) (by simp only [wt]; omega)), ?_, ?_⟩
    · rw [zq_number_87, kZ_number_87, if_neg (by omega), if_pos (by omega), zbd_of e1, if_pos (by omega), S1.2.2 45 x1 (by omega) (by omega)]; exact e2
    · simp only [nt]
      by_cases hc : cl n < 0
      · simp only [hc, if_true] at N2 ⊢; exact N2
      · simp only [hc, if_false] at N2 ⊢; exact N2
    · simp only [ren]
      by_cases hc : cl n < 0
      · simp only [hc, if_true] at P2 P3 wk ⊢
        exact Pc_nd.mpr ⟨P3, by rw [f5]; exact P2, by rw [f5, ren_wt]; exact a7⟩
      · simp only [hc, if_false] at P2 P3 wk ⊢
        exact Pc_nd.mpr ⟨P3, by rw [f5]; exact P2, by rw [f5, ren_wt, wk]; exact a7⟩
theorem number_ok {ar : Int → Nat} {p : Int → Prop} {n : Nat} {k : T} {σ : zS} {β : Nat} {t : Int} {N : List Int} (hP : Pt σ n k t) (hi : t + 1 + (wt k : Int) ≤ 420000) (hw : wf ar p (nd n k nl)) (hN : Nm σ N) (hl : N.length + 1 + wt k ≤ 400) (hd : ht k ≤ β) :
    ∃ τ, zE tM_number β σ [t] = some (τ, 0) ∧ Sn t (t + 1 + (wt k : Int)) σ τ ∧ Nm τ (nt N (nd n k nl)) ∧ Pt τ (if cl n < 0 then cu (-1 - (idx N (cl n) : Int)) else n) (if cl n < 0 then k else ren N k) t := by
  have k1 := Pt_kid hP hi (by omega)
  obtain ⟨a1, a2, a3, a4, a5⟩ := hP
  by_cases hc : cl n < 0
  · obtain ⟨τ, e, S1, N1, f1⟩ := number_var (β := β) hN a1 (by omega) (by omega) (by rw [a2]; exact hc)
    rw [a2] at N1 f1
    simp only [hc, if_true, nt]
    have hk : k = nl := len0 (by have := hw.1; rw [if_pos hc] at this; exact this)
    subst hk
    refine ⟨τ, e, S1.w (by omega) (by simp [wt]), N1, a1, ?_, ?_, ?_, ?_⟩
    · rw [f1, cl_cu]
    · rw [S1.2.2 46 t (by omega) (by omega)]; exact a3
    · rw [S1.2.2 44 t (by omega) (by omega)]; exact a4
    · rw [S1.2.2 44 t (by omega) (by omega)]; exact a5
  · obtain ⟨τ, e, S1, N1, P1⟩ := number_loop k σ β t _ N a4 k1 hw.2.2.1 hN (by omega) hd
    simp only [hc, if_false, nt]
    have hb := Pc_bd a4
    have f : ∀ j, j ≠ 100 → τ.2.1 j t = σ.2.1 j t := fun j hj => S1.2.2 j t hj (by omega)
    refine ⟨τ, ?_, S1.w (by omega) (by omega), N1, a1, ?_, ?_, ?_, ?_⟩
    · rw [zq_number, kZ_number, if_pos (by omega), a2, if_pos (by omega)]; exact e
    · rw [f 43 (by omega)]; exact a2
    · rw [f 46 (by omega), ren_wt]; exact a3
    · rw [f 44 (by omega)]; exact P1
    · rw [f 44 (by omega), ren_wt]; exact a5
/-! the same without giving numbers -/
theorem note_11_ok {σ : zS} {β : Nat} {x0 : Int} {N : List Int} (hN : Nm σ N) (h1 : 0 ≤ x0) (h2 : x0 < 420000) (hl : N.length < 400) : ∀ (m i : Nat), i + m = idx N (σ.2.1 43 x0) → ∃ τ, zE tM_note_11 β σ [x0, (i : Int)] = some (τ, 0) ∧ Sn 0 0 σ τ ∧ Nm τ (add1 N (σ.2.1 43 x0))
  | 0, i, hi => by
    have hi' : i = idx N (σ.2.1 43 x0) := by omega
    have hle := idx_le N (σ.2.1 43 x0)
    rw [zq_note_11, kZ_note_11, hN.1]
    by_cases h : idx N (σ.2.1 43 x0) < N.length
    · rw [if_neg (by omega), if_pos (by omega), if_pos (by omega), if_pos (hN.2 i _ (by rw [hi']; exact idx_get h))]
      refine ⟨σ, rfl, Sn.refl, ?_⟩
      have e : add1 N (σ.2.1 43 x0) = N := by unfold add1; rw [if_pos h]
      rw [e]; exact hN
    · rw [if_pos (by omega), if_pos (by omega)]
      refine ⟨zA (zI σ 101 ((N.length : Int) + 1)) 100 (N.length : Int) (σ.2.1 43 x0), ?_, ⟨fun j w => by simp [zA, zI, w], rfl, fun j q a b => by simp [zA, zI, a]⟩, Nm_add (c := σ.2.1 43 x0) hN h⟩
      show (if zb x0 420000 then _ else none) = _
      rw [if_pos (by omega), if_pos (by omega)]; rfl
  | m + 1, i, hi => by
    have hle := idx_le N (σ.2.1 43 x0)
    have hn := idx_ne (N := N) (c := σ.2.1 43 x0) (i := i) (by omega)
    obtain ⟨c, hc⟩ : ∃ c, N[i]? = some c := ⟨N[i]'(by omega), List.getElem?_eq_getElem (by omega)⟩
    rw [zq_note_11, kZ_note_11, hN.1, if_neg (by omega), if_pos (by omega), if_pos (by omega), if_neg (by rw [hN.2 i c hc]; intro w; exact hn (by rw [hc, w])), if_pos (by omega)]
    exact note_11_ok hN h1 h2 hl m (i + 1) (by omega)
theorem note_of {σ : zS} {β : Nat} {t : Int} {n : Nat} {k : T} {N : List Int} (hP : Pt σ n k t) (hi : t + 1 + (wt k : Int) ≤ 420000) (hN : Nm σ N) (hl : N.length + 1 + wt k ≤ 400) (hk : ¬ cl n < 0 → ∃ τ, zE tM_note_71 β σ [t, σ.2.1 44 t] = some (τ, 0) ∧ Sn 0 0 σ τ ∧ Nm τ (nt N k)) : ∃ τ, zE tM_note β σ [t] = some (τ, 0) ∧ Sn 0 0 σ τ ∧ Nm τ (nt N (nd n k nl)) := by
  obtain ⟨a1, a2, a3, a4, a5⟩ := hP
  by_cases hc : cl n < 0
  · obtain ⟨τ, e, S1, N1⟩ := note_11_ok (β := β) hN a1 (by omega) (by omega) (idx N (σ.2.1 43 t)) 0 (by omega)
    rw [a2] at N1
    simp only [hc, if_true, nt]
    refine ⟨τ, ?_, S1, N1⟩
    rw [zq_note, kZ_note, if_pos (by omega), if_neg (by omega)]; exact e
  · obtain ⟨τ, e, S1, N1⟩ := hk hc
    simp only [hc, if_false, nt]
    refine ⟨τ, ?_, S1, N1⟩
    rw [zq_note, kZ_note, if_pos (by omega), if_pos (by omega)]; exact e
theorem note_loop : ∀ (S : T) (σ : zS) (β : Nat) (x0 x1 : Int) (N : List Int), Pc σ S x1 → x1 + (wt S : Int) ≤ 420000 → Nm σ N → N.length + wt S ≤ 400 → ht S ≤ β →
    ∃ τ, zE tM_note_71 β σ [x0, x1] = some (τ, 0) ∧ Sn 0 0 σ τ ∧ Nm τ (nt N S)
  | .leaf (), σ, β, x0, x1, N, hS, _, hN, hl, hd => by
    have h1 : x1 < 0 := hS
    exact ⟨σ, by rw [zq_note_71, kZ_note_71, if_pos h1], Sn.refl, hN⟩
  | .branch n k s, σ, β, x0, x1, N, hS, hi, hN, hl, hd => by
    have k1 := Pc_kid hS hi (by omega)
    have s1 := Pc_bes hS hi (by omega)
    have hS' := Pc_nd.mp hS
    obtain ⟨a1, a2, a3, a4, a5, a6, a7⟩ := hS
    simp only [ht] at hd
    simp only [wt] at hi hl
    obtain ⟨τ1, e1, S1, N1⟩ := note_of (β := β - 1) hS'.1 (by omega) hN (by omega) (fun _ => note_loop k σ (β - 1) x1 _ N a4 k1 hN (by omega) (by omega))
    have hl2 := nt_len (nd n k nl) N
    simp only [wt] at hl2
    obtain ⟨τ2, e2, S2, N2⟩ := note_loop s τ1 β x0 (σ.2.1 45 x1) _ (Pc_q (S1.pq (by omega)) a6) s1 N1 (by omega) (by omega)
    refine ⟨τ2, ?_, S1.trans S2, ?_⟩
    · rw [zq_note_71, kZ_note_71, if_neg (by omega), if_pos (by omega), zbd_of e1, if_pos (by omega), S1.2.2 45 x1 (by omega) (by omega)]; exact e2
    · simp only [nt] at N2 ⊢
      by_cases hc : cl n < 0
      · simp only [hc, if_true] at N2 ⊢; exact N2
      · simp only [hc, if_false] at N2 ⊢; exact N2
theorem note_ok {σ : zS} {β : Nat} {t : Int} {n : Nat} {k : T} {N : List Int} (hP : Pt σ n k t) (hi : t + 1 + (wt k : Int) ≤ 420000) (hN : Nm σ N) (hl : N.length + 1 + wt k ≤ 400) (hd : ht k ≤ β) : ∃ τ, zE tM_note β σ [t] = some (τ, 0) ∧ Sn 0 0 σ τ ∧ Nm τ (nt N (nd n k nl)) :=
  note_of hP hi hN hl (fun _ => note_loop k σ β t _ N hP.2.2.2.1 (Pt_kid hP hi (by omega)) hN (by omega) hd)
