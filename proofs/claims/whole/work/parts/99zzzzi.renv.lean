/-! the reference: VARIABLES around, weights -/
theorem pig : ∀ (N : Nat) (L : List Nat), L.Nodup → (∀ x ∈ L, x < N) → L.length ≤ N
  | 0, L, _, h => by
    match L, h with
    | [], _ => exact Nat.le_refl _
    | x :: L, h => exact absurd (h x (by simp)) (by omega)
  | N + 1, L, hn, h => by
    by_cases c : N ∈ L
    · have h1 := pig N (L.erase N) (hn.erase N) (fun x hx => by
        have hx2 := (hn.mem_erase_iff).mp hx
        have := h x hx2.2
        have := hx2.1
        omega)
      rw [List.length_erase_of_mem c] at h1
      omega
    · have := pig N L hn (fun x hx => by
        have := h x hx
        have : x ≠ N := fun e => c (by rw [← e]; exact hx)
        omega)
      omega
def c1k (n : Nat) : Int := if (n : Int) < 1000 then (n : Int) else 1000
theorem c1k_add (a b : Nat) : (if c1k a + c1k b < 1000 then c1k a + c1k b else (1000 : Int)) = c1k (a + b) := by
  unfold c1k
  split <;> split <;> split <;> (try split) <;> omega
theorem c1k_1 : c1k 1 = 1 := by unfold c1k; rw [if_pos (by decide)]; rfl
theorem c1k_b (a : Nat) : 0 ≤ c1k a ∧ c1k a ≤ 1000 := by unfold c1k; split <;> omega
def keysE (E : VE) : List Nat := E.map (fun x => x.1)
/-- around, aroundWeight, stays, as they lie -/
def REv (w : Nat → Nat) (σ : zS) (E : VE) : Prop := σ.1 62 = (E.length : Int) ∧ (keysE E).Nodup ∧ ∀ (i : Nat) x, E[i]? = some x → x.1 < 300 ∧ σ.2.1 59 (i : Int) = (x.1 : Int) ∧ σ.2.1 60 (i : Int) = c1k (tw x.2) ∧ ((σ.2.1 61 (x.1 : Int) = -1 ∧ x.2 = vt (x.1 : Int)) ∨ (σ.2.1 61 (x.1 : Int) = (i : Int) ∧ x.2 = (w x.1, eT (E.take i)) ∧ 0 ≤ cl (w x.1) ∧ σ.2.1 23 (x.1 : Int) = cl (w x.1)))
theorem REv.len {w : Nat → Nat} {σ : zS} {E : VE} (h : REv w σ E) : E.length ≤ 300 := by
  have := pig 300 (keysE E) h.2.1 (fun x hx => by
    obtain ⟨y, hy, e⟩ := List.mem_map.mp hx
    obtain ⟨i, hi⟩ := List.getElem?_of_mem hy
    have := (h.2.2 i y hi).1
    rw [← e]; exact this)
  unfold keysE at this
  rw [List.length_map] at this
  exact this
theorem REv.f {I A : List Nat} {w : Nat → Nat} {σ τ : zS} {E : VE} (h : REv w σ E) (f : FrC I A σ τ) (hI : I.elem 62 = false := by decide) (a1 : A.elem 59 = false := by decide) (a2 : A.elem 60 = false := by decide) (a3 : A.elem 61 = false := by decide) (a4 : A.elem 23 = false := by decide) : REv w τ E := ⟨by rw [f.1 62 hI]; exact h.1, h.2.1, fun i x hx => by rw [f.2.1 59 _ a1, f.2.1 60 _ a2, f.2.1 61 _ a3, f.2.1 23 _ a4]; exact h.2.2 i x hx⟩
theorem REv.inj {w : Nat → Nat} {σ : zS} {E : VE} (h : REv w σ E) {i j : Nat} {x y : Nat × Tm} (hx : E[i]? = some x) (hy : E[j]? = some y) (e : x.1 = y.1) : i = j := by
  have h1 : (keysE E)[i]? = some x.1 := by unfold keysE; rw [List.getElem?_map, hx]; rfl
  have h2 : (keysE E)[j]? = some x.1 := by unfold keysE; rw [List.getElem?_map, hy, e]; rfl
  obtain ⟨l1, e1⟩ := List.getElem?_eq_some_iff.mp h1
  obtain ⟨l2, e2⟩ := List.getElem?_eq_some_iff.mp h2
  have hp := List.pairwise_iff_getElem.mp h.2.1
  rcases Nat.lt_trichotomy i j with c | c | c
  · exact absurd (e1.trans e2.symm) (hp i j l1 l2 c)
  · exact c
  · exact absurd (e2.trans e1.symm) (hp j i l2 l1 c)
theorem rbind_ok {β : Nat} {w : Nat → Nat} {σ : zS} {E : VE} (h : REv w σ E) {v : Nat} (hv : v < 300) (hn : v ∉ keysE E) {stay : Bool} (hq : stay = false → 0 ≤ cl (w v) ∧ σ.2.1 23 (v : Int) = cl (w v)) : ∃ τ, zE tM_bind2 β σ [(v : Int), bi stay] = some (τ, 0) ∧ REv w τ (bE w E v stay) ∧ FrC [62] [59, 60, 61] σ τ ∧ (∀ q, q ≠ (v : Int) → τ.2.1 61 q = σ.2.1 61 q) ∧ (∀ q, q < (E.length : Int) → τ.2.1 59 q = σ.2.1 59 q ∧ τ.2.1 60 q = σ.2.1 60 q) ∧ τ.2.2 = σ.2.2 := by
  have hnd : (keysE E ++ [v]).Nodup := by
    rw [List.nodup_append]
    exact ⟨h.2.1, by simp, fun a ha b hb => by
      have := List.mem_singleton.mp hb
      subst this
      exact fun e => hn (by rw [← e]; exact ha)⟩
  have hl : E.length < 300 := by
    have := pig 300 (keysE E ++ [v]) hnd (fun x hx => by
      rcases List.mem_append.mp hx with hx | hx
      · obtain ⟨y, hy, e⟩ := List.mem_map.mp hx
        obtain ⟨i, hi⟩ := List.getElem?_of_mem hy
        have := (h.2.2 i y hi).1
        rw [← e]; exact this
      · rw [List.mem_singleton.mp hx]; exact hv)
    rw [List.length_append] at this
    unfold keysE at this
    rw [List.length_map] at this
    simp at this
    omega
  obtain ⟨h62, _, hc⟩ := id h
  obtain ⟨T, hT⟩ : ∃ T : Tm, T = if stay = true then vt (v : Int) else (w v, eT E) := ⟨_, rfl⟩
  obtain ⟨τ, hτ⟩ : ∃ x, x = zA (zI (zA (zA σ 61 (v : Int) (if stay = true then -1 else (E.length : Int))) 60 (E.length : Int) (c1k (tw T))) 62 ((E.length : Int) + 1)) 59 (E.length : Int) (v : Int) := ⟨_, rfl⟩
  have e57 : ∀ y : Int, y = (if stay = true then -1 else (E.length : Int)) → zE tM_bind2_57 β σ [(v : Int), bi stay, c1k (tw T), y, (v : Int)] = some (τ, 0) := fun y hy => by
    rw [zq_bind2_57, kZ_bind2_57, if_pos ⟨by omega, by omega⟩, lt_e, hy]
    have e1 : ∀ (x : zS) (a : Nat) (i y : Int), (zA x a i y).1 62 = x.1 62 := fun _ _ _ _ => rfl
    rw [e1, h62, if_pos ⟨by omega, by omega⟩, lt_e, e1, e1, h62, if_pos ⟨by omega, by omega⟩, lt_e, if_pos ⟨by omega, by omega⟩, lt_e, ← hτ]
  have e40 : zE tM_bind2_40 β σ [(v : Int), bi stay, c1k (tw T)] = some (τ, 0) := by
    rw [zq_bind2_40, kZ_bind2_40, h62]
    cases stay
    · rw [if_pos (show bi false = 0 from rfl)]; exact e57 _ rfl
    · rw [if_neg (show ¬ bi true = 0 by decide)]; exact e57 _ rfl
  have f : FrC [62] [59, 60, 61] σ τ := by
    rw [hτ]
    have g1 : FrC [62] [59, 60, 61] σ (zA σ 61 (v : Int) (if stay = true then -1 else (E.length : Int))) := FrC_A
    exact ((g1.trans FrC_A).trans FrC_I).trans FrC_A
  have k61 : ∀ q, τ.2.1 61 q = if q = (v : Int) then (if stay = true then -1 else (E.length : Int)) else σ.2.1 61 q := fun q => by rw [hτ]; simp [zA, zI]
  have k60 : ∀ q, τ.2.1 60 q = if q = (E.length : Int) then c1k (tw T) else σ.2.1 60 q := fun q => by rw [hτ]; simp [zA, zI]
  have k59 : ∀ q, τ.2.1 59 q = if q = (E.length : Int) then (v : Int) else σ.2.1 59 q := fun q => by rw [hτ]; simp [zA, zI]
  refine ⟨τ, ?_, ⟨?_, ?_, fun i x hx => ?_⟩, f, fun q hq => by rw [k61, if_neg hq], fun q hq => ⟨by rw [k59, if_neg (by omega)], by rw [k60, if_neg (by omega)]⟩, by rw [hτ]; rfl⟩
  · rw [zq_bind2, kZ_bind2]
    cases stay
    · rw [if_pos (show bi false = 0 from rfl)]
      have hTT : T = (w v, eT E) := by rw [hT]; rfl
      have loop : ∀ (m k : Nat), k + m = E.length → zE tM_bind2_9 β σ [(v : Int), bi false, c1k (1 + wt (eT (E.take k))), (k : Int)] = some (τ, 0) := by
        intro m
        induction m with
        | zero =>
          intro k hk
          rw [zq_bind2_9, kZ_bind2_9, if_pos (by omega)]
          have : 1 + wt (eT (E.take k)) = tw T := by
            rw [hTT, List.take_of_length_le (by omega)]
          rw [this]; exact e40
        | succ m ih =>
          intro k hk
          obtain ⟨y, hy⟩ : ∃ y, E[k]? = some y := ⟨E[k], List.getElem?_eq_getElem (by omega)⟩
          have hb1 := c1k_b (1 + wt (eT (E.take k)))
          have hb2 := c1k_b (tw y.2)
          have hw : 1 + wt (eT (E.take k)) + tw y.2 = 1 + wt (eT (E.take (k + 1))) := by
            rw [eT_take hy, wt_cat]
            simp only [tt, wt, tw]; omega
          have := ih (k + 1) (by omega)
          rw [zq_bind2_9, kZ_bind2_9, if_neg (by omega), if_pos ⟨by omega, by omega⟩, (hc k y hy).2.2.1, if_pos ⟨by omega, by omega⟩, if_pos ⟨by omega, by omega⟩, c1k_add, hw]
          exact this
      have l0 := loop E.length 0 (by omega)
      rw [show 1 + wt (eT (E.take 0)) = 1 from rfl, c1k_1] at l0
      exact l0
    · rw [if_neg (show ¬ bi true = 0 by decide)]
      have hTT : T = vt (v : Int) := by rw [hT]; rfl
      have : (1 : Int) = c1k (tw T) := by rw [hTT, show tw (vt (v : Int)) = 1 from rfl, c1k_1]
      rw [this]; exact e40
  · unfold bE
    rw [List.length_append, hτ]
    simp [zA, zI]
  · unfold keysE bE
    rw [List.map_append]
    exact hnd
  · unfold bE at hx ⊢
    by_cases c : i < E.length
    · rw [List.getElem?_append_left c] at hx
      rw [List.take_append_of_le_length (by omega)]
      have hne : x.1 ≠ v := fun e => hn (by rw [← e]; exact List.mem_map.mpr ⟨x, List.mem_of_getElem? hx, rfl⟩)
      rw [k59, if_neg (by omega), k60, if_neg (by omega), k61, if_neg (by omega), f.a 23]
      exact hc i x hx
    · have hi : i = E.length := by
        have := (List.getElem?_eq_some_iff.mp hx).1
        rw [List.length_append] at this
        simp at this
        omega
      subst hi
      rw [List.getElem?_append_right (Nat.le_refl _), Nat.sub_self] at hx
      cases hx
      rw [List.take_left, k59, if_pos rfl, k60, if_pos rfl, k61, if_pos rfl, f.a 23]
      refine ⟨hv, rfl, by rw [hT], ?_⟩
      cases stay
      · exact Or.inr ⟨rfl, rfl, hq rfl⟩
      · exact Or.inl ⟨rfl, rfl⟩
/-- weights of TERMS of the TEXT -/
theorem wof_v {β : Nat} {w : Nat → Nat} {σ : zS} {E : VE} (h : REv w σ E) {t : Int} (ht : 0 ≤ t ∧ t < 20100) {i : Nat} {x : Nat × Tm} (hx : E[i]? = some x) (hc : σ.2.1 34 t = -1 - (x.1 : Int)) : ∀ (m k : Nat), k + m = i → zE tM_weightOf_11 β σ [t, (k : Int)] = some (σ, c1k (tw x.2)) := by
  have hl := h.len
  have hi := (List.getElem?_eq_some_iff.mp hx).1
  obtain ⟨x1, x2, x3, _⟩ := h.2.2 i x hx
  intro m
  induction m with
  | zero =>
    intro k hk
    have : k = i := by omega
    subst this
    rw [zq_weightOf_11, kZ_weightOf_11, if_pos ⟨by omega, by omega⟩, if_pos ⟨by omega, by omega⟩, hc, if_pos ⟨by omega, by omega⟩, x2, if_pos (by omega), x3]
  | succ m ih =>
    intro k hk
    obtain ⟨y, hy⟩ : ∃ y, E[k]? = some y := ⟨E[k], List.getElem?_eq_getElem (by omega)⟩
    obtain ⟨_, y2, _⟩ := h.2.2 k y hy
    have hne : ¬ (y.1 : Int) = -1 - (-1 - (x.1 : Int)) := fun e => by
      have := h.inj hy hx (by omega)
      omega
    rw [zq_weightOf_11, kZ_weightOf_11, if_pos ⟨by omega, by omega⟩, if_pos ⟨by omega, by omega⟩, hc, if_pos ⟨by omega, by omega⟩, y2, if_neg hne, if_pos ⟨by omega, by omega⟩]
    exact ih (k + 1) (by omega)
theorem REv.ev {w : Nat → Nat} {σ : zS} {E : VE} (h : REv w σ E) {i : Nat} {x : Nat × Tm} (hx : E[i]? = some x) : eV E (x.1 : Int) = x.2 := eV_at hx (fun j y hy e => h.inj hy hx e)
/-- VARIABLES of a forest are around, and have nothing within -/
def VO (E : VE) : T → Prop
  | .leaf _ => True
  | .branch l k s => (cl l < 0 → k = nl ∧ ∃ x ∈ E, (x.1 : Int) = -1 - cl l) ∧ VO E k ∧ VO E s
theorem wof_ok {w : Nat → Nat} {σ : zS} {E : VE} (h : REv w σ E) : ∀ {F : T} {lo hi t : Int} {β : Nat} {x0 : Int} {a : Nat}, RTm σ F lo hi t → hi ≤ 20100 → VO E F → ht F ≤ β → zE tM_weightOf_50 β σ [x0, c1k a, t] = some (σ, c1k (a + wt (su (eV E) F)))
  | .leaf _, lo, hi, t, β, x0, a, hR, hh, hv, hb => by
    have hR : t = -1 := hR
    rw [zq_weightOf_50, kZ_weightOf_50, if_pos (by omega)]
    rfl
  | .branch l k s, lo, hi, t, β, x0, a, hR, hh, hv, hb => by
    obtain ⟨g0, g1, g2, g3, g4, g5⟩ := hR
    obtain ⟨v1, v2, v3⟩ := hv
    simp only [ht] at hb
    have one : zE tM_weightOf (β - 1) σ [t] = some (σ, c1k (tw (sbT (eV E) l (su (eV E) k)))) := by
      rw [zq_weightOf, kZ_weightOf, if_pos ⟨by omega, by omega⟩, g3]
      unfold sbT
      by_cases c : cl l < 0
      · rw [if_pos c, if_neg (by omega)]
        obtain ⟨_, x, hx, e⟩ := v1 c
        obtain ⟨i, hi2⟩ := List.getElem?_of_mem hx
        rw [← e, h.ev hi2]
        exact wof_v h (t := t) ⟨by omega, by omega⟩ hi2 (by rw [g3]; omega) i 0 (by omega)
      · clear v1
        rw [if_neg c, if_pos (by omega)]
        have := wof_ok h (F := k) (x0 := t) (a := 1) g4 (by omega) v2 (β := β - 1) (by omega)
        rw [c1k_1] at this
        exact this
    clear v1
    have b1 := c1k_b a
    have b2' := c1k_b (tw (sbT (eV E) l (su (eV E) k)))
    rw [zq_weightOf_50, kZ_weightOf_50, if_neg (by omega), if_pos (by omega), zbd_of one, if_pos ⟨by omega, by omega⟩, if_pos ⟨by omega, by omega⟩, c1k_add]
    have := wof_ok h (F := s) (x0 := x0) (a := a + tw (sbT (eV E) l (su (eV E) k))) g5 hh v3 (β := β) (by omega)
    rw [this]
    congr 3
    show _ = a + (1 + wt (sbT (eV E) l (su (eV E) k)).2 + wt (su (eV E) s))
    simp only [tw]
    omega
theorem wof_1 {w : Nat → Nat} {σ : zS} {E : VE} (h : REv w σ E) {x : Tm} {t : Int} {β : Nat} (hR : RTr σ x.1 x.2 t) (hh : σ.1 38 ≤ 20100) (hv : VO E (tt x)) (hb : ht x.2 ≤ β) : zE tM_weightOf β σ [t] = some (σ, c1k (tw (st (eV E) x))) := by
  obtain ⟨g0, g1, g2, g3⟩ := hR
  obtain ⟨v1, v2, _⟩ := hv
  rw [zq_weightOf, kZ_weightOf, if_pos ⟨by omega, by omega⟩, g2]
  show _ = some (σ, c1k (tw (sbT (eV E) x.1 (su (eV E) x.2))))
  unfold sbT
  by_cases c : cl x.1 < 0
  · rw [if_pos c, if_neg (by omega)]
    obtain ⟨_, y, hy, e⟩ := v1 c
    obtain ⟨i, hi⟩ := List.getElem?_of_mem hy
    rw [← e, h.ev hi]
    exact wof_v h (t := t) ⟨by omega, by omega⟩ hi (by rw [g2]; omega) i 0 (by omega)
  · clear v1
    rw [if_neg c, if_pos (by omega)]
    have := wof_ok h (F := x.2) (x0 := t) (a := 1) g3 (by omega) v2 hb
    rw [c1k_1] at this
    exact this
