/-! one count -/
theorem KC.u0 {σ : zS} {f : Nat → Int} {x : Int} (h : KC σ f) : KC (zI σ 5300 x) (fu f 87 x) := by
  obtain ⟨k0, k1, k2, k3, k4, k5, k6⟩ := h
  exact ⟨by rw [zI_1, fu_s], by rw [zI_o, fu_o]; exact k1, by rw [zI_o, fu_o]; exact k2, by rw [zI_o, fu_o]; exact k3, by rw [zI_o, fu_o]; exact k4, by rw [zI_o, fu_o]; exact k5, by rw [zI_o, fu_o]; exact k6⟩
theorem KC.u1 {σ : zS} {f : Nat → Int} {x : Int} (h : KC σ f) : KC (zI σ 5301 x) (fu f 89 x) := by
  obtain ⟨k0, k1, k2, k3, k4, k5, k6⟩ := h
  exact ⟨by rw [zI_o, fu_o]; exact k0, by rw [zI_1, fu_s], by rw [zI_o, fu_o]; exact k2, by rw [zI_o, fu_o]; exact k3, by rw [zI_o, fu_o]; exact k4, by rw [zI_o, fu_o]; exact k5, by rw [zI_o, fu_o]; exact k6⟩
theorem KC.u2 {σ : zS} {f : Nat → Int} {x : Int} (h : KC σ f) : KC (zI σ 5302 x) (fu f 90 x) := by
  obtain ⟨k0, k1, k2, k3, k4, k5, k6⟩ := h
  exact ⟨by rw [zI_o, fu_o]; exact k0, by rw [zI_o, fu_o]; exact k1, by rw [zI_1, fu_s], by rw [zI_o, fu_o]; exact k3, by rw [zI_o, fu_o]; exact k4, by rw [zI_o, fu_o]; exact k5, by rw [zI_o, fu_o]; exact k6⟩
theorem KC.u3 {σ : zS} {f : Nat → Int} {x : Int} (h : KC σ f) : KC (zI σ 5303 x) (fu f 91 x) := by
  obtain ⟨k0, k1, k2, k3, k4, k5, k6⟩ := h
  exact ⟨by rw [zI_o, fu_o]; exact k0, by rw [zI_o, fu_o]; exact k1, by rw [zI_o, fu_o]; exact k2, by rw [zI_1, fu_s], by rw [zI_o, fu_o]; exact k4, by rw [zI_o, fu_o]; exact k5, by rw [zI_o, fu_o]; exact k6⟩
theorem KC.u4 {σ : zS} {f : Nat → Int} {x : Int} (h : KC σ f) : KC (zI σ 5304 x) (fu f 92 x) := by
  obtain ⟨k0, k1, k2, k3, k4, k5, k6⟩ := h
  exact ⟨by rw [zI_o, fu_o]; exact k0, by rw [zI_o, fu_o]; exact k1, by rw [zI_o, fu_o]; exact k2, by rw [zI_o, fu_o]; exact k3, by rw [zI_1, fu_s], by rw [zI_o, fu_o]; exact k5, by rw [zI_o, fu_o]; exact k6⟩
theorem KC.u5 {σ : zS} {f : Nat → Int} {x : Int} (h : KC σ f) : KC (zI σ 5305 x) (fu f 93 x) := by
  obtain ⟨k0, k1, k2, k3, k4, k5, k6⟩ := h
  exact ⟨by rw [zI_o, fu_o]; exact k0, by rw [zI_o, fu_o]; exact k1, by rw [zI_o, fu_o]; exact k2, by rw [zI_o, fu_o]; exact k3, by rw [zI_o, fu_o]; exact k4, by rw [zI_1, fu_s], by rw [zI_o, fu_o]; exact k6⟩
theorem KC.u6 {σ : zS} {f : Nat → Int} {x : Int} (h : KC σ f) : KC (zI σ 5306 x) (fu f 94 x) := by
  obtain ⟨k0, k1, k2, k3, k4, k5, k6⟩ := h
  exact ⟨by rw [zI_o, fu_o]; exact k0, by rw [zI_o, fu_o]; exact k1, by rw [zI_o, fu_o]; exact k2, by rw [zI_o, fu_o]; exact k3, by rw [zI_o, fu_o]; exact k4, by rw [zI_o, fu_o]; exact k5, by rw [zI_1, fu_s]⟩
/-- the same, with what the rows hold given -/
theorem CI.g {ar : Int → Nat} {pd : Int → Prop} {m9 : Int} {I B : List Nat} {σ τ : zS} {A A2 : PA} (h : CI ar pd m9 σ A) (f : FrC I B σ τ) (hS : SC τ A2.1) (hK : KC τ A2.2) (hM : CM τ A2) (hN : ∃ N, DN τ N) (hT : MT τ) (hR : RL τ) (h8 : 0 ≤ τ.1 3905 ∧ τ.1 3905 ≤ 8) (hw : ∀ c ∈ A2.1, Wc ar m9 c.1) (hJ : ∀ (k : Nat) c, A2.1[k]? = some c → cst c = 1 → JG (τ.2.1 48) (pos A2.1 k) c.1) (a4 : B.elem 7 = false := by decide) (a5 : B.elem 12 = false := by decide) : CI ar pd m9 τ A2 := by
  obtain ⟨c1, c2, c3, c4, c5, c6, c7, c8, c9, c10, c11, c12⟩ := h
  refine ⟨⟨c1.1.q (fun q => f.2.1 7 q a4), c1.2.1, fun c a b => by rw [f.2.1 12 c a5]; exact c1.2.2.1 c a b, ?_, ?_, ?_⟩, c2, hS, hK, c5.m f.2.2.2, hR, hT, hN, h8, hw, hJ, hM⟩
  · have := hS.2.2.1; omega
  · exact hS.2.2.2.2.1.1
  · have := hS.2.2.2.2.1.2.1; omega
/-- counts alone -/
theorem CI.c {ar : Int → Nat} {pd : Int → Prop} {m9 : Int} {σ τ : zS} {A : PA} {g : Nat → Int} (h : CI ar pd m9 σ A) (f : FrC [5300, 5301, 5302, 5303, 5304, 5305, 5306] [] σ τ) (hK : KC τ g) : CI ar pd m9 τ (A.1, g) := by
  obtain ⟨c1, c2, c3, c4, c5, c6, c7, c8, c9, c10, c11, c12⟩ := id h
  refine h.g (A2 := (A.1, g)) f (c3.f f) hK (c12.f f) ?_ (c7.f f) (c6.f f) (by rw [f.i 3905]; exact c9) c10 (fun k c hk hs => ?_)
  · obtain ⟨N, hN⟩ := c8; exact ⟨N, hN.f f⟩
  · have := c11 k c hk hs
    unfold JG at *
    intro i a ha
    rw [f.a 48, f.a 48]; exact this i a ha
/-- a CLAUSE becomes PASSIVE or GONE -/
theorem CI.st {ar : Int → Nat} {pd : Int → Prop} {m9 : Int} {σ : zS} {A : PA} (h : CI ar pd m9 σ A) {k : Nat} {x : Int} (hk : k < A.1.length) (hx : x ≠ 1) : CI ar pd m9 (zA σ 52 ((k : Int) * 11 + 6) x) (stA A.1 k x, A.2) := by
  obtain ⟨c1, c2, c3, c4, c5, c6, c7, c8, c9, c10, c11, c12⟩ := id h
  have f : FrC [] [52] σ (zA σ 52 ((k : Int) * 11 + 6) x) := FrC_A
  refine h.g (A2 := (stA A.1 k x, A.2)) f (c3.st hk) (c4.f f) ⟨fun j j0 j1 => ?_, ?_⟩ ?_ (c7.f f) c6 c9 (fun c hc => ?_) (fun j c hj hs => ?_)
  · have j1' : j < ((stA A.1 k x).length : Int) := j1
    rw [stA_len] at j1'
    rw [zA_i (by omega)]; exact c12.1 j j0 j1'
  · show σ.1 4901 ≤ 60 * ((stA A.1 k x).length : Int)
    rw [stA_len]; exact c12.2
  · obtain ⟨N, hN⟩ := c8; exact ⟨N, hN.f f⟩
  · obtain ⟨j, hj⟩ := List.getElem?_of_mem hc
    by_cases e : j = k
    · subst e
      have hd := List.getElem?_eq_getElem hk
      rw [stA_s hd] at hj
      obtain rfl := Option.some.inj hj
      exact (c10 A.1[j] (List.mem_of_getElem? hd) :)
    · rw [stA_o e] at hj
      exact c10 c (List.mem_of_getElem? hj)
  · have hj' : (stA A.1 k x)[j]? = some c := hj
    show JG ((zA σ 52 ((k : Int) * 11 + 6) x).2.1 48) (pos (stA A.1 k x) j) c.1
    rw [stA_p]
    by_cases e : j = k
    · subst e
      rw [stA_s (List.getElem?_eq_getElem hk)] at hj'
      obtain rfl := Option.some.inj hj'
      exact absurd hs hx
    · rw [stA_o e] at hj'
      have := c11 j c hj' hs
      unfold JG at *
      intro i a ha
      rw [f.a 48, f.a 48]; exact this i a ha
/-- the row of those that REWROTE grows -/
theorem SC.r {I A : List Nat} {σ τ : zS} {Cs : List CL} {X U : List Int} (h : SC σ Cs) (f : FrC I A σ τ) (hX : RowC σ 4901 50 X) (hU : RowC τ 4901 50 (X ++ U)) (hc : τ.2.2 50 ≤ 265000) (i1 : I.elem 5402 = false := by decide) (i2 : I.elem 4701 = false := by decide) (i3 : I.elem 5101 = false := by decide) (a1 : A.elem 48 = false := by decide) (a3 : A.elem 52 = false := by decide) : SC τ Cs := by
  obtain ⟨gSK, n1, n2, n3, ⟨n4, n5, n6⟩, ⟨n7, n8, n9⟩, ⟨m1, m2, m3, m4⟩, m5⟩ := SC_iff.mp h
  have l48 := f.2.2.1 48 a1 (by decide) (by decide)
  have l52 := f.2.2.1 52 a3 (by decide) (by decide)
  have hu := hU.1
  have hx := hX.1
  have hu2 := hU.2.1
  rw [List.length_append] at hu hu2
  refine SC_iff.mpr ⟨fun i c hc => ?_, ?_⟩
  · have s := gSK i c hc
    have s6 := s.1.2.2.2.2.2.2.1
    have t : SK τ (i : Int) (pos Cs i) (cS c (cst c)) := SK_q s (fun w w0 w1 w2 => f.2.1 52 _ a3) (by rw [f.2.1 52 _ a3]; exact s6) (fun q => f.2.1 48 q a1) (by omega) (fun q q0 q1 => row_lo hX hU q0 (by omega))
    exact t
  · refine ⟨by rw [f.1 5402 i1]; exact n1, by rw [f.1 4701 i2]; exact n2, by rw [f.1 5101 i3]; exact n3, ⟨by rw [f.1 4701 i2, l48]; exact n4, by rw [l48]; exact n5, by rw [l48]; exact n6⟩, ⟨by rw [f.1 5101 i3, l52]; exact n7, by rw [l52]; exact n8, by rw [l52]; exact n9⟩, ⟨by omega, by omega, hc, hU.2.2.1⟩, m5⟩
/-- one more that REWROTE -/
def adU (U : List Int) (k : Int) : List Int := if k ∈ U then U else U ++ [k]
theorem adU_len (U : List Int) (k : Int) : (adU U k).length ≤ U.length + 1 := by
  unfold adU
  split
  · omega
  · simp
theorem note_p2 {β : Nat} {X U : List Int} {k : Int} : ∀ (m j : Nat) (σ : zS), RowC σ 4901 50 (X ++ U) → Mb σ → RL σ → σ.2.2 50 ≤ 265000 → X.length + U.length ≤ 131000 → (∀ i, i < j → U[i]? ≠ some k) → j + m = U.length → ∃ τ, yE tG_Sat_noteRewriter_p2 β σ [(X.length : Int), k, (X.length : Int) + (j : Int)] = some (τ, 0) ∧ FrC [4901] [50] σ τ ∧ RowC τ 4901 50 (X ++ adU U k) ∧ Mb τ ∧ RL τ ∧ τ.2.2 50 ≤ 265000
  | 0, j, σ, hR, hM, hL, hc, hb, hn, hm => by
    have h1 := hR.1
    rw [List.length_append] at h1
    have nm : ¬ k ∈ U := fun w => by
      obtain ⟨i, hi⟩ := List.getElem?_of_mem w
      have := (List.getElem?_eq_some_iff.mp hi).1
      exact hn i (by omega) hi
    obtain ⟨P0, P1, P2, P3, P4, P5⟩ := radd (x := k) (B := 265000) hR hM hL (by rw [List.length_append]; omega) hc (by rw [List.length_append]; omega)
    refine ⟨zAdd σ 4901 50 k, by rw [yq_Sat_noteRewriter_p2, kY_Sat_noteRewriter_p2, if_pos (by omega), if_pos P0, lt_e], P2, ?_, P3, P4, P5⟩
    unfold adU
    rw [if_neg nm, ← List.append_assoc]; exact P1
  | m + 1, j, σ, hR, hM, hL, hc, hb, hn, hm => by
    have h1 := hR.1
    have h2 := hR.2.1
    rw [List.length_append] at h1 h2
    obtain ⟨u, hu⟩ : ∃ u, U[j]? = some u := ⟨_, List.getElem?_eq_getElem (by omega)⟩
    have e : σ.2.1 50 ((X.length : Int) + (j : Int)) = u := by
      have := Fl_get (Fl_app.mp hR.2.2.2).2 hu
      rw [show (0 : Int) + (X.length : Int) + (j : Int) = (X.length : Int) + (j : Int) by omega] at this; exact this
    rw [yq_Sat_noteRewriter_p2, kY_Sat_noteRewriter_p2, if_neg (by omega), if_pos (by omega), e]
    by_cases g : u = k
    · refine ⟨σ, by rw [if_pos g], FrC.refl, ?_, hM, hL, hc⟩
      unfold adU
      rw [if_pos (by rw [← g]; exact List.mem_of_getElem? hu)]; exact hR
    · rw [if_neg g, if_pos (by omega), show (X.length : Int) + (j : Int) + 1 = (X.length : Int) + ((j + 1 : Nat) : Int) by omega]
      refine note_p2 m (j + 1) σ hR hM hL hc hb (fun i hi => ?_) (by omega)
      by_cases e : i = j
      · rw [e, hu]; exact fun w => g (Option.some.inj w)
      · exact hn i (by omega)
theorem cnote_ok {β : Nat} {σ : zS} {X U : List Int} {k : Int} (hR : RowC σ 4901 50 (X ++ U)) (hM : Mb σ) (hL : RL σ) (hc : σ.2.2 50 ≤ 265000) (hb : X.length + U.length ≤ 131000) : ∃ τ, yE tG_Sat_noteRewriter β σ [(X.length : Int), k] = some (τ, 0) ∧ FrC [4901] [50] σ τ ∧ RowC τ 4901 50 (X ++ adU U k) ∧ Mb τ ∧ RL τ ∧ τ.2.2 50 ≤ 265000 := by
  obtain ⟨τ, t1, t2⟩ := note_p2 (β := β) U.length 0 σ hR hM hL hc hb (fun i hi => by omega) (by omega)
  refine ⟨τ, ?_, t2⟩
  rw [show (X.length : Int) + ((0 : Nat) : Int) = (X.length : Int) by omega] at t1
  rw [yq_Sat_noteRewriter, kY_Sat_noteRewriter]; exact t1
/-- at most six VARIABLES -/
theorem nt6 {ar : Int → Nat} {m9 : Int} {E : List Lt} (w : WL ar (lb m9) E) : (ntL [] E).length ≤ 6 := by
  obtain ⟨_, x2, _⟩ := rnL_F (N := []) w
  rw [x2]
  have h : (ntF [] (flQ (toQ E))).length ≤ (ntF [] [-1, -2, -3, -4, -5, -6]).length := Wc_new.ntF_sub (m9 := m9) (fun c hc h0 => by
    obtain ⟨a, ha, hca⟩ := Wc_new.flQ_mem hc
    obtain ⟨_, w1, w2⟩ := w a ha
    obtain ⟨l1, l2⟩ := HL.lbs (a := a) w1 w2
    have : lb m9 c := hca.elim (l1 c) (l2 c)
    obtain ⟨b1, b2⟩ := this
    have : c = -1 ∨ c = -2 ∨ c = -3 ∨ c = -4 ∨ c = -5 ∨ c = -6 := by omega
    simpa using this)
  exact Nat.le_trans h (by decide)
