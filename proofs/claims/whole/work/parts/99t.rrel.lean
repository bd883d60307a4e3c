/-! the reference's CLAUSES: at 73, count 74, heavy 75, variables 76, kind 77, first 78, second 79, state 80, usedAt 81, usedCount 82, used 83; LITERALS 66 to 71 -/
def lpF : List CL → Nat
  | [] => 0
  | c :: Cs => c.1.length + lpF Cs
def lpos (Cs : List CL) (k : Nat) : Int := (lpF (Cs.take k) : Int)
def RLi (σ : zS) (j : Int) (a : Lt) : Prop := Px σ a.2.1 (σ.2.1 66 j) ∧ Px σ a.2.2 (σ.2.1 67 j) ∧ σ.2.1 66 j + (tw a.2.1 : Int) ≤ σ.1 105 ∧ σ.2.1 67 j + (tw a.2.2 : Int) ≤ σ.1 105 ∧ σ.2.1 68 j = a.1 ∧ σ.2.1 70 j = (lwt a : Int)
def RCk (σ : zS) (k p : Int) (c : CL) : Prop := σ.2.1 73 k = p ∧ σ.2.1 74 k = (c.1.length : Int) ∧ σ.2.1 75 k = (wtL c.1 : Int) ∧ σ.2.1 76 k = ((ntL [] c.1).length : Int) ∧ σ.2.1 77 k = c.2.1 ∧ σ.2.1 78 k = c.2.2.1 ∧ σ.2.1 79 k = c.2.2.2.1 ∧ σ.2.1 80 k = cst c ∧ σ.2.1 82 k = ((cus c).length : Int) ∧ 0 ≤ σ.2.1 81 k ∧ σ.2.1 81 k + ((cus c).length : Int) ≤ σ.1 86 ∧ Fl (σ.2.1 83) (σ.2.1 81 k) (cus c)
def RC (σ : zS) (Cs : List CL) : Prop := σ.1 84 = (Cs.length : Int) ∧ Cs.length ≤ 2000 ∧ σ.1 72 = (lpF Cs : Int) ∧ (0 ≤ σ.1 105 ∧ σ.1 105 ≤ 100 * (Cs.length : Int)) ∧ (0 ≤ σ.1 86 ∧ σ.1 86 ≤ 60 * (Cs.length : Int)) ∧ (∀ c ∈ Cs, c.1.length ≤ 8) ∧ (∀ (k : Nat) c, Cs[k]? = some c → RCk σ (k : Int) (lpos Cs k) c ∧ ∀ (i : Nat) a, c.1[i]? = some a → RLi σ (lpos Cs k + (i : Int)) a)
theorem lpF_le : ∀ {Cs : List CL} {k : Nat} {c : CL}, Cs[k]? = some c → lpF (Cs.take k) + c.1.length ≤ lpF Cs
  | [], k, c, h => by simp at h
  | d :: Cs, 0, c, h => by
    simp only [List.getElem?_cons_zero, Option.some.injEq] at h
    subst h
    simp [lpF]
  | d :: Cs, k + 1, c, h => by
    rw [List.getElem?_cons_succ] at h
    have := lpF_le h
    rw [List.take_succ_cons]
    simp only [lpF]; omega
theorem lpF_8 : ∀ {Cs : List CL}, (∀ c ∈ Cs, c.1.length ≤ 8) → lpF Cs ≤ 8 * Cs.length
  | [], _ => by simp [lpF]
  | c :: Cs, h => by
    have h1 := h c List.mem_cons_self
    have h2 := lpF_8 (Cs := Cs) (fun d hd => h d (List.mem_cons_of_mem _ hd))
    simp only [lpF, List.length_cons]; omega
theorem RC.k {σ : zS} {Cs : List CL} (h : RC σ Cs) {k : Nat} {c : CL} (hc : Cs[k]? = some c) : RCk σ (k : Int) (lpos Cs k) c ∧ 0 ≤ lpos Cs k ∧ lpos Cs k + (c.1.length : Int) ≤ 16000 ∧ k < Cs.length ∧ Cs.length ≤ 2000 ∧ c.1.length ≤ 8 := by
  obtain ⟨h1, h2, h3, h4, h5, h6, h7⟩ := h
  have l1 := lpF_le hc
  have l2 := lpF_8 h6
  exact ⟨(h7 k c hc).1, by unfold lpos; omega, by unfold lpos; omega, (List.getElem?_eq_some_iff.mp hc).1, h2, h6 c (List.mem_of_getElem? hc)⟩
theorem RC.l {σ : zS} {Cs : List CL} (h : RC σ Cs) {k : Nat} {c : CL} (hc : Cs[k]? = some c) {i : Nat} {a : Lt} (ha : c.1[i]? = some a) : RLi σ (lpos Cs k + (i : Int)) a := (h.2.2.2.2.2.2 k c hc).2 i a ha
theorem FrC.pq {I A : List Nat} {σ τ : zS} (f : FrC I A σ τ) {lo hi : Int} (h3 : A.elem 43 = false := by decide) (h4 : A.elem 44 = false := by decide) (h5 : A.elem 45 = false := by decide) (h6 : A.elem 46 = false := by decide) : Pq σ τ lo hi := fun k i _ _ w => by
  rcases w with rfl | rfl | rfl | rfl
  · exact f.2.1 43 i h3
  · exact f.2.1 44 i h4
  · exact f.2.1 45 i h5
  · exact f.2.1 46 i h6
abbrev PB (σ τ : zS) : Prop := Pq σ τ 0 205000
theorem PB.refl {σ : zS} : PB σ σ := fun _ _ _ _ _ => rfl
theorem PB.trans {σ τ ρ : zS} (h : PB σ τ) (g : PB τ ρ) : PB σ ρ := fun k i a b c => by rw [g k i a b c, h k i a b c]
theorem RC.f {I B : List Nat} {σ τ : zS} {Cs : List CL} (h : RC σ Cs) (f : FrC I B σ τ) (p : PB σ τ) (i1 : I.elem 84 = false := by decide) (i2 : I.elem 72 = false := by decide) (i3 : I.elem 105 = false := by decide) (i4 : I.elem 86 = false := by decide) (b1 : B.elem 66 = false := by decide) (b2 : B.elem 67 = false := by decide) (b3 : B.elem 68 = false := by decide) (b4 : B.elem 70 = false := by decide) (b5 : [73, 74, 75, 76, 77, 78, 79, 80, 81, 82, 83].all (fun j => !(B.elem j)) = true := by decide) : RC τ Cs := by
  obtain ⟨h1, h2, h3, ⟨h4, h4'⟩, h5, h6, h7⟩ := h
  have e : ∀ j, j ∈ [73, 74, 75, 76, 77, 78, 79, 80, 81, 82, 83] → ∀ q, τ.2.1 j q = σ.2.1 j q := fun j hj q => f.2.1 j q (by have := List.all_eq_true.mp b5 j hj; simpa using this)
  refine ⟨by rw [f.1 84 i1]; exact h1, h2, by rw [f.1 72 i2]; exact h3, by rw [f.1 105 i3]; exact ⟨h4, h4'⟩, by rw [f.1 86 i4]; exact h5, h6, fun k c hc => ⟨?_, fun i a ha => ?_⟩⟩
  · obtain ⟨c1, c2, c3, c4, c5, c6, c7, c8, c9, c10, c11, c12⟩ := (h7 k c hc).1
    unfold RCk
    rw [e 73 (by simp), e 74 (by simp), e 75 (by simp), e 76 (by simp), e 77 (by simp), e 78 (by simp), e 79 (by simp), e 80 (by simp), e 82 (by simp), e 81 (by simp), f.1 86 i4]
    exact ⟨c1, c2, c3, c4, c5, c6, c7, c8, c9, c10, c11, Fl_q (fun q _ _ => e 83 (by simp) q) c12⟩
  · obtain ⟨l1, l2, l3, l4, l5, l6⟩ := (h7 k c hc).2 i a ha
    have m := l1.1.1
    have m2 := l2.1.1
    unfold RLi
    rw [f.2.1 66 _ b1, f.2.1 67 _ b2, f.2.1 68 _ b3, f.2.1 70 _ b4, f.1 105 i3]
    exact ⟨Px_q l1 (Pq.w p m (by simp only [tw] at l3; omega)), Px_q l2 (Pq.w p m2 (by simp only [tw] at l4; omega)), l3, l4, l5, l6⟩
/-- judged -/
def wpF : List CL → Nat
  | [] => 0
  | c :: Cs => wtL c.1 + wpF Cs
def RJ (σ : zS) (Cs : List CL) : Prop := σ.1 105 = (wpF Cs : Int) ∧ ∀ (k : Nat) c, Cs[k]? = some c → ∀ (i : Nat) a, c.1[i]? = some a → σ.2.1 69 (lpos Cs k + (i : Int)) = ordL a ∧ σ.2.1 71 (lpos Cs k + (i : Int)) = b2 (elI c.1 i) ∧ σ.2.1 66 (lpos Cs k + (i : Int)) = (wpF (Cs.take k) : Int) + (wtL (c.1.take i) : Int) ∧ σ.2.1 67 (lpos Cs k + (i : Int)) = (wpF (Cs.take k) : Int) + (wtL (c.1.take i) : Int) + (tw a.2.1 : Int)
theorem RJ.f {I B : List Nat} {σ τ : zS} {Cs : List CL} (h : RJ σ Cs) (f : FrC I B σ τ) (b1 : B.elem 69 = false := by decide) (b2 : B.elem 71 = false := by decide) (b3 : B.elem 66 = false := by decide) (b4 : B.elem 67 = false := by decide) (i1 : I.elem 105 = false := by decide) : RJ τ Cs := ⟨by rw [f.1 105 i1]; exact h.1, fun k c hc i a ha => by
  rw [f.2.1 69 _ b1, f.2.1 71 _ b2, f.2.1 66 _ b3, f.2.1 67 _ b4]; exact h.2 k c hc i a ha⟩
def KM (σ : zS) (f : Nat → Int) : Prop := σ.1 87 = f 87 ∧ σ.1 89 = f 89 ∧ σ.1 90 = f 90 ∧ σ.1 91 = f 91 ∧ σ.1 92 = f 92 ∧ σ.1 93 = f 93 ∧ σ.1 94 = f 94
theorem KM.f {I A : List Nat} {σ τ : zS} {f : Nat → Int} (h : KM σ f) (g : FrC I A σ τ) (h1 : [87, 89, 90, 91, 92, 93, 94].all (fun j => !(I.elem j)) = true := by decide) : KM τ f := by
  have e : ∀ j, j ∈ [87, 89, 90, 91, 92, 93, 94] → τ.1 j = σ.1 j := fun j hj => g.1 j (by have := List.all_eq_true.mp h1 j hj; simpa using this)
  unfold KM at *
  rw [e 87 (by simp), e 89 (by simp), e 90 (by simp), e 91 (by simp), e 92 (by simp), e 93 (by simp), e 94 (by simp)]
  exact h
theorem KM.u {σ : zS} {f : Nat → Int} {j : Nat} {x : Int} (h : KM σ f) : KM (zI σ j x) (fu f j x) := by
  obtain ⟨k0, k1, k2, k3, k4, k5, k6⟩ := h
  have e : ∀ i, σ.1 i = f i → (zI σ j x).1 i = fu f j x i := fun i hi => by
    by_cases q : i = j
    · subst q; rw [zI_1, fu_s]
    · rw [zI_o q, fu_o q]; exact hi
  exact ⟨e 87 k0, e 89 k1, e 90 k2, e 91 k3, e 92 k4, e 93 k5, e 94 k6⟩
theorem Pd.f {I A : List Nat} {σ τ : zS} {m9 : Int} {pd : Int → Prop} (h : Pd σ m9 pd) (f : FrC I A σ τ) (h1 : A.elem 49 = false := by decide) : Pd τ m9 pd := ⟨h.1, fun c a b => by rw [f.2.1 49 c h1]; exact h.2 c a b⟩
/-- the reference, between two INFERENCES -/
def RI (ar : Int → Nat) (pd : Int → Prop) (m9 : Int) (σ : zS) (A : PA) : Prop := RC σ A.1 ∧ RJ σ A.1 ∧ Pd σ m9 pd ∧ KM σ A.2 ∧ 0 ≤ m9 ∧ ∀ c ∈ A.1, Wc ar m9 c.1
theorem zws_e {a b : Int} (h : zr (a - b)) : zws a b = a - b := by unfold zws; rw [e_sub rfl rfl, i32_to h]
/-! a TERM's value -/
theorem mixed_ok {β : Nat} {σ : zS} {h v : Int} : zE tM_mixed β σ [h, v] = some (σ, hmx h v) := by rw [zq_mixed, kZ_mixed]; rfl
theorem mea_fin {pd : Int → Prop} {m9 : Int} {σ : zS} (hp : Pd σ m9 pd) (h0 : σ.1 125 ≠ 0) {β : Nat} {t e h c : Int} (he : e < 0) (t0 : 0 ≤ t) (t1 : t < 420000) (hc : σ.2.1 43 t = c) (c0 : 0 ≤ c) (c1 : c < m9) : zE tM_meaning_56 β σ [t, h, e] = some (σ, hfn pd (σ.1 125) c h) := by
  have e129 : ∀ x1 x2 x3 : Int, zE tM_meaning_129 β σ [t, x1, x2, x3] = some (σ, x3) := fun x1 x2 x3 => by rw [zq_meaning_129, kZ_meaning_129]
  have hm := hp.1
  have hq := hp.2 c c0 c1
  rw [zq_meaning_56, kZ_meaning_56, if_pos he, if_pos (by omega), hc, if_pos (by omega)]
  unfold hfn
  by_cases p : pd c
  · rw [if_neg (fun w => hq.mp w p), e129, if_pos p]; rfl
  · rw [if_pos (hq.mpr p), if_neg h0, e129, if_neg p]; rfl
theorem mea_loop {ar : Int → Nat} {pd : Int → Prop} {m9 : Int} {σ : zS} (hp : Pd σ m9 pd) (h0 : σ.1 125 ≠ 0) : ∀ (S : T) (β : Nat) (x0 h x2 : Int), Pc σ S x2 → x2 + (wt S : Int) ≤ 420000 → wf ar (lb m9) S → ht S + 1 ≤ β → ∃ e, e < 0 ∧ zE tM_meaning_56 β σ [x0, h, x2] = zE tM_meaning_56 β σ [x0, mvF pd (σ.1 124) (σ.1 125) (fun v => σ.2.1 126 v) h S, e]
  | .leaf (), β, x0, h, x2, hP, _, _, _ => ⟨x2, hP, rfl⟩
  | .branch n k s, β, x0, h, x2, hP, hb, hw, hd => by
    have kb := Pc_kid hP hb (by omega)
    have sb := Pc_bes hP hb (by omega)
    obtain ⟨a1, a2, a3, a4, a5, a6, a7⟩ := hP
    obtain ⟨w1, w2, w3, w4⟩ := hw
    simp only [ht] at hd
    simp only [wt] at hb
    have v : zE tM_meaning (β - 1) σ [x2] = some (σ, mvT pd (σ.1 124) (σ.1 125) (fun v => σ.2.1 126 v) (n, k)) := by
      unfold mvT
      dsimp only
      rw [zq_meaning, kZ_meaning, if_pos (by omega), a2]
      by_cases hc : cl n < 0
      · have b6 := w2.1
        have h1 : ¬ 0 ≤ cl n := by omega
        have h2 : zr (-1 - cl n) := ⟨by omega, by omega⟩
        have h3 : zb (-1 - cl n) 6 := ⟨by omega, by omega⟩
        rw [if_neg h1, zws_e h2, if_pos h3, if_pos hc]
      · rw [if_pos (by omega), if_neg hc]
        by_cases hz : cl n = 0
        · rw [if_pos hz, if_pos hz]
        · rw [if_neg hz, if_neg hz, if_pos (by omega), zbd_of mixed_ok]
          obtain ⟨e, e1, e2⟩ := mea_loop hp h0 k (β - 1) x2 (hmx (σ.1 124) (cl n)) (σ.2.1 44 x2) a4 kb w3 (by omega)
          rw [e2]
          exact mea_fin hp h0 e1 a1 (by omega) a2 (by omega) w2.2
    obtain ⟨e, e1, e2⟩ := mea_loop hp h0 s β x0 (hmx h (mvT pd (σ.1 124) (σ.1 125) (fun v => σ.2.1 126 v) (n, k))) (σ.2.1 45 x2) a6 sb w4 (by omega)
    refine ⟨e, e1, ?_⟩
    rw [zq_meaning_56, kZ_meaning_56, if_neg (by omega), if_pos (by omega), zbd_of v, if_pos (by omega), zbd_of mixed_ok, if_pos (by omega), e2]
    rfl
theorem mea_ok {ar : Int → Nat} {pd : Int → Prop} {m9 : Int} {σ : zS} (hp : Pd σ m9 pd) (h0 : σ.1 125 ≠ 0) {x : Tm} {t : Int} (hx : Px σ x t) (wx : wf ar (lb m9) (tt x)) {β : Nat} (hd : ht x.2 + 2 ≤ β) : zE tM_meaning β σ [t] = some (σ, mvT pd (σ.1 124) (σ.1 125) (fun v => σ.2.1 126 v) x) := by
  obtain ⟨⟨a1, a2, a3, a4, a5⟩, hb⟩ := hx
  obtain ⟨w1, w2, w3, w4⟩ := wx
  have kb := Pt_kid (b := 420000) ⟨a1, a2, a3, a4, a5⟩ (by omega) (by omega)
  unfold mvT
  rw [zq_meaning, kZ_meaning, if_pos (by omega), a2]
  by_cases hc : cl x.1 < 0
  · have b6 := w2.1
    have h1 : ¬ 0 ≤ cl x.1 := by omega
    have h2 : zr (-1 - cl x.1) := ⟨by omega, by omega⟩
    have h3 : zb (-1 - cl x.1) 6 := ⟨by omega, by omega⟩
    rw [if_neg h1, zws_e h2, if_pos h3, if_pos hc]
  · rw [if_pos (by omega), if_neg hc]
    by_cases hz : cl x.1 = 0
    · rw [if_pos hz, if_pos hz]
    · rw [if_neg hz, if_neg hz, if_pos (by omega), zbd_of mixed_ok]
      obtain ⟨e, e1, e2⟩ := mea_loop hp h0 x.2 β t (hmx (σ.1 124) (cl x.1)) (σ.2.1 44 t) a4 kb w3 (by omega)
      rw [e2]
      exact mea_fin hp h0 e1 a1 (by omega) a2 (by omega) w2.2
