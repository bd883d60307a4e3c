/-! the class writes a CLAUSE of a FORMULA -/
/-- the nodes, whatever was reached -/
def NdW (σ : zS) (NN : List N6) : Prop := (7 * NN.length ≤ σ.2.2 19 ∧ σ.2.2 19 ≤ 430000 ∧ 16 ≤ σ.2.2 19) ∧ ∀ (i : Nat) x (j : Nat) c, NN[i]? = some x → j < 6 → (n6l x)[j]? = some c → σ.2.1 19 ((i : Int) * 7 + (j : Int)) = c
theorem NdR.nw {σ : zS} {NN : List N6} (h : NdR σ NN) : NdW σ NN := by
  have h1 := h.1.2.1
  rw [nfl_len] at h1
  exact ⟨⟨h1, h.2.1, h.1.2.2.1⟩, fun i x j c hx _ hc => (h.g hx hc).1⟩
theorem NdW.f {I A : List Nat} {σ τ : zS} {NN : List N6} (h : NdW σ NN) (f : FrC I A σ τ) (a1 : A.elem 19 = false := by decide) : NdW τ NN := ⟨by rw [f.2.2.1 19 a1 (by decide) (by decide)]; exact h.1, fun i x j c hx hj hc => by rw [f.2.1 19 _ a1]; exact h.2 i x j c hx hj hc⟩
theorem get_ok {β : Nat} {σ : zS} {NN : List N6} (h : NdW σ NN) {i j : Nat} {x : N6} {c : Int} (hx : NN[i]? = some x) (hj : j < 6) (hc : (n6l x)[j]? = some c) : yE tC_For_get β σ [(i : Int), (j : Int)] = some (σ, c) := by
  have hi := (List.getElem?_eq_some_iff.mp hx).1
  have h1 := h.1
  rw [yq_For_get, kY_For_get, if_pos ⟨by omega, by omega⟩, if_pos ⟨by omega, by omega⟩, if_pos ⟨by omega, by omega⟩, h.2 i x j c hx hj hc]
abbrev bi (s : Bool) : Int := if s = true then 1 else 0
def nc (x : N6) (s : Bool) : Int := if s = true then x.2.2.2.2.2 else x.2.2.2.2.1
theorem cof_ok {β : Nat} (hβ : 1 ≤ β) {σ : zS} {NN : List N6} (h : NdW σ NN) {i : Nat} {x : N6} (hx : NN[i]? = some x) (s : Bool) : yE tC_For_clausesOf β σ [(i : Int), bi s] = some (σ, nc x s) := by
  rw [yq_For_clausesOf, kY_For_clausesOf]
  cases s
  · rw [if_pos (show bi false = 0 from rfl), yq_For_clausesOf_p11, kY_For_clausesOf_p11, if_pos hβ, zbd_of (show yE tC_For_get (β - 1) σ [(i : Int), 4] = some (σ, x.2.2.2.2.1) from get_ok h hx (j := 4) (c := x.2.2.2.2.1) (by omega) rfl)]
    rfl
  · rw [if_neg (show ¬ bi true = 0 by decide), yq_For_clausesOf_p11, kY_For_clausesOf_p11, if_pos hβ, zbd_of (show yE tC_For_get (β - 1) σ [(i : Int), 5] = some (σ, x.2.2.2.2.2) from get_ok h hx (j := 5) (c := x.2.2.2.2.2) (by omega) rfl)]
    rfl
theorem later_ok {β : Nat} {σ : zS} {PP : List Int} (h : RowC σ 2901 30 PP) (hM : Mb σ ∧ RL σ) (hB : σ.2.2 30 ≤ 250000) (hP : PP.length ≤ 124000) {a c : Int} {s : Bool} : ∃ τ, yE tG_For_later β σ [a, bi s, c] = some (τ, 0) ∧ RowC τ 2901 30 (PP ++ [a, bi s, c]) ∧ FrC [2901] [30] σ τ ∧ (Mb τ ∧ RL τ) ∧ τ.2.2 30 ≤ 250000 := by
  obtain ⟨a1, a2, a3, a4, a5, a6⟩ := radd (x := a) (B := 250000) h hM.1 hM.2 (by omega) hB (by omega)
  obtain ⟨b1, b2, b3, b4, b5, b6⟩ := radd (x := bi s) (B := 250000) a2 a4 a5 (by rw [List.length_append]; simp; omega) a6 (by rw [List.length_append]; simp; omega)
  obtain ⟨c1, c2, c3, c4, c5, c6⟩ := radd (x := c) (B := 250000) b2 b4 b5 (by simp; omega) b6 (by simp; omega)
  refine ⟨_, ?_, ?_, (a3.trans b3).trans c3, ⟨c4, c5⟩, c6⟩
  · have key : yE tG_For_later_p21 β (zAdd σ 2901 30 a) [a, bi s, c, bi s] = some (zAdd (zAdd (zAdd σ 2901 30 a) 2901 30 (bi s)) 2901 30 c, 0) := by
      rw [yq_For_later_p21, kY_For_later_p21, if_pos b1, lt_e, if_pos c1, lt_e]
    rw [yq_For_later, kY_For_later, if_pos a1, lt_e]
    cases s
    · rw [if_pos (show bi false = 0 from rfl)]; exact key
    · rw [if_neg (show ¬ bi true = 0 by decide)]; exact key
  · have : PP ++ [a, bi s, c] = PP ++ [a] ++ [bi s] ++ [c] := by simp
    rw [this]; exact c2
/-- what is put on the row for two parts -/
def jnP (both s t : Bool) (n1 n2 i c1 c2 : Nat) : List Int := if both = true then (if i < c1 then [(n1 : Int), bi s, (i : Int)] else [(n2 : Int), bi t, ((i - c1 : Nat) : Int)]) else [(n2 : Int), bi t, ((i % c2 : Nat) : Int)] ++ [(n1 : Int), bi s, ((i / c2 : Nat) : Int)]
theorem cjoined_ok {β : Nat} (hβ : 2 ≤ β) {σ : zS} {NN : List N6} {PP : List Int} (hN : NdW σ NN) (hR : RowC σ 2901 30 PP) (hP : PP.length ≤ 123900) (hM : Mb σ ∧ RL σ) (hB : σ.2.2 30 ≤ 250000) {n1 n2 : Nat} {x y : N6} (hx : NN[n1]? = some x) (hy : NN[n2]? = some y) (both s t : Bool) {i c1 c2 : Nat} (h1 : both = true → nc x s = (c1 : Int)) (h2 : both = false → nc y t = (c2 : Int)) (p1 : 1 ≤ c1) (p2 : 1 ≤ c2) (q1 : c1 ≤ 1000) (q2 : c2 ≤ 1000) (hi : i ≤ 100000) :
    ∃ τ, yE tG_For_joined β σ [bi both, (n1 : Int), bi s, (n2 : Int), bi t, (i : Int)] = some (τ, 0) ∧ RowC τ 2901 30 (PP ++ jnP both s t n1 n2 i c1 c2) ∧ FrC [2901] [30] σ τ ∧ (Mb τ ∧ RL τ) ∧ τ.2.2 30 ≤ 250000 := by
  have e92 : ∀ (ρ : zS) (a b c d e f g : Int), yE tG_For_joined_p92 β ρ [a, b, c, d, e, f, g] = some (ρ, 0) := fun ρ a b c d e f g => by rw [yq_For_joined_p92, kY_For_joined_p92]
  rw [yq_For_joined, kY_For_joined]
  cases both
  · have h2 := h2 rfl
    rw [if_pos (show bi false = 0 from rfl), yq_For_joined_p12, kY_For_joined_p12, if_pos (show bi false = 0 from rfl), yq_For_joined_p22, kY_For_joined_p22, if_pos (by omega), zbd_of (cof_ok (by omega) hN hy t), h2, if_pos (show bi false = 0 from rfl)]
    have em : (if (1 : Int) < (c2 : Int) then (c2 : Int) else 1) = (c2 : Int) := by split <;> omega
    simp only [em]
    obtain ⟨σ1, a1, a2, a3, a4, a5⟩ := later_ok (β := β - 1) hR hM hB (by omega) (a := (n2 : Int)) (c := ((i % c2 : Nat) : Int)) (s := t)
    obtain ⟨σ2, b1, b2, b3, b4, b5⟩ := later_ok (β := β - 1) a2 a4 a5 (by simp; omega) (a := (n1 : Int)) (c := ((i / c2 : Nat) : Int)) (s := s)
    have em1 : Int.tmod (i : Int) (c2 : Int) = ((i % c2 : Nat) : Int) := by rw [Int.tmod_eq_emod_of_nonneg (by omega)]; rfl
    have ed1 : Int.tdiv (i : Int) (c2 : Int) = ((i / c2 : Nat) : Int) := by rw [Int.tdiv_eq_ediv_of_nonneg (by omega)]; rfl
    have hzr : zr ((i / c2 : Nat) : Int) := by
      have hd : i / c2 ≤ i := Nat.div_le_self _ _
      generalize i / c2 = k at hd
      exact ⟨by omega, by omega⟩
    refine ⟨σ2, ?_, ?_, a3.trans b3, b4, b5⟩
    · rw [if_neg (by omega), if_pos (by omega), em1, zbd_of a1, if_neg (by omega), ed1, if_pos hzr, if_pos (by omega), zbd_of b1, e92]
    · unfold jnP
      rw [if_neg (by decide), ← List.append_assoc]; exact b2
  · have h1 := h1 rfl
    rw [if_neg (show ¬ bi true = 0 by decide), yq_For_joined_p12, kY_For_joined_p12, if_neg (show ¬ bi true = 0 by decide), yq_For_joined_p22, kY_For_joined_p22, if_pos (by omega), zbd_of (cof_ok (by omega) hN hx s), h1, if_neg (show ¬ bi true = 0 by decide)]
    have em : (if (1 : Int) < (c1 : Int) then (c1 : Int) else 1) = (c1 : Int) := by split <;> omega
    simp only [em]
    by_cases c : i < c1
    · obtain ⟨σ1, a1, a2, a3, a4, a5⟩ := later_ok (β := β - 1) hR hM hB (by omega) (a := (n1 : Int)) (c := (i : Int)) (s := s)
      refine ⟨σ1, ?_, ?_, a3, a4, a5⟩
      · rw [if_neg (by omega), if_pos (by omega), zbd_of a1, e92]
      · unfold jnP
        rw [if_pos rfl, if_pos c]; exact a2
    · obtain ⟨σ1, a1, a2, a3, a4, a5⟩ := later_ok (β := β - 1) hR hM hB (by omega) (a := (n2 : Int)) (c := ((i - c1 : Nat) : Int)) (s := t)
      refine ⟨σ1, ?_, ?_, a3, a4, a5⟩
      · rw [if_pos (by omega), if_pos ⟨by omega, by omega⟩, if_pos (by omega), show (i : Int) - (c1 : Int) = ((i - c1 : Nat) : Int) by omega, zbd_of a1, e92]
      · unfold jnP
        rw [if_pos rfl, if_neg c]; exact a2
/-- the VARIABLES that are replaced have WITNESSES -/
def wk (q : Nat → Prop) : T → List (Bool → Prop)
  | .leaf _ => []
  | .branch l k s => (fun is => if l ≤ 2 then True else if l = 3 then (wk q k).getD 0 (fun _ => True) (!is) else if l ≤ 5 then (wk q k).getD 0 (fun _ => True) is ∧ (wk q k).getD 1 (fun _ => True) is else if l = 6 then (wk q k).getD 0 (fun _ => True) (!is) ∧ (wk q k).getD 1 (fun _ => True) is else if l = 7 then (∀ s, (wk q k).getD 0 (fun _ => True) s) ∧ (∀ s, (wk q k).getD 1 (fun _ => True) s) else ((is == (l % 2 == 0)) = false → q ((l - 8) / 2)) ∧ (wk q k).getD 0 (fun _ => True) is) :: wk q s
def wK (q : Nat → Prop) (f : Tm) : Bool → Prop := (wk q (tt f)).getD 0 (fun _ => True)
theorem wK_not {q : Nat → Prop} {g : Tm} {is : Bool} : wK q (mk1 3 g) is = wK q g (!is) := rfl
theorem wK_45 {q : Nat → Prop} {l : Nat} {g h : Tm} {is : Bool} (h1 : 4 ≤ l) (h2 : l ≤ 5) : wK q (mk2 l g h) is = (wK q g is ∧ wK q h is) := by
  show (if l ≤ 2 then True else if l = 3 then _ else if l ≤ 5 then (wK q g is ∧ wK q h is) else _) = _
  rw [if_neg (by omega), if_neg (by omega), if_pos h2]
theorem wK_6 {q : Nat → Prop} {g h : Tm} {is : Bool} : wK q (mk2 6 g h) is = (wK q g (!is) ∧ wK q h is) := rfl
theorem wK_7 {q : Nat → Prop} {g h : Tm} {is : Bool} : wK q (mk2 7 g h) is = ((∀ s, wK q g s) ∧ ∀ s, wK q h s) := rfl
theorem wK_q {q : Nat → Prop} {l : Nat} {g : Tm} {is : Bool} (h : 8 ≤ l) : wK q (mk1 l g) is = (((is == (l % 2 == 0)) = false → q ((l - 8) / 2)) ∧ wK q g is) := by
  show (if l ≤ 2 then True else if l = 3 then _ else if l ≤ 5 then _ else if l = 6 then _ else if l = 7 then _ else ((is == (l % 2 == 0)) = false → q ((l - 8) / 2)) ∧ wK q g is) = _
  rw [if_neg (by omega), if_neg (by omega), if_neg (by omega), if_neg (by omega), if_neg (by omega)]
theorem WT_wf {nm : PN} {V : Int → Prop} {ar : Int → Nat} {p : Int → Prop} (hn : ∀ (j : Nat) x, nm[j]? = some x → x.2.1 = 1 ∨ x.2.1 = 2 → x.2.2 = (ar ((j : Int) + 1) : Int) ∧ p ((j : Int) + 1)) (hV : ∀ v, V v → p (-1 - v)) : ∀ {F : T}, WT nm V F → wf ar p F ∧ ∀ c ∈ fl F, c < 0 → V (-1 - c)
  | .leaf _, _ => ⟨trivial, fun c h => by cases h⟩
  | .branch l k s, h => by
    obtain ⟨h1, h2, h3⟩ := h
    obtain ⟨a1, a2⟩ := WT_wf hn hV h2
    obtain ⟨b1, b2⟩ := WT_wf hn hV h3
    rcases h1 with ⟨c1, c2, c3⟩ | ⟨c1, x, c2, c3, c4⟩
    · refine ⟨⟨by rw [if_pos c1, c3]; rfl, by have := hV _ c2; rw [show -1 - (-1 - cl l) = cl l by omega] at this; exact this, a1, b1⟩, fun c hc h0 => ?_⟩
      have hc : c ∈ cl l :: (fl k ++ fl s) := hc
      rcases List.mem_cons.mp hc with e | hc
      · rw [e]; exact c2
      · rcases List.mem_append.mp hc with hc | hc
        · exact a2 c hc h0
        · exact b2 c hc h0
    · obtain ⟨d1, d2⟩ := hn _ x c2 (Or.inr c3)
      rw [show (((cl l - 1).toNat : Nat) : Int) + 1 = cl l by omega] at d1 d2
      refine ⟨⟨by rw [if_neg (by omega)]; omega, d2, a1, b1⟩, fun c hc h0 => ?_⟩
      have hc : c ∈ cl l :: (fl k ++ fl s) := hc
      rcases List.mem_cons.mp hc with e | hc
      · omega
      · rcases List.mem_append.mp hc with hc | hc
        · exact a2 c hc h0
        · exact b2 c hc h0
theorem TTa.fl {σ : zS} {TT L : List Int} {i : Int} (hR : RowC σ 1501 16 TT) (h : TTa TT i L) : Fl (σ.2.1 16) i L ∧ 0 ≤ i ∧ i + (L.length : Int) ≤ (σ.2.2 16 : Int) ∨ L = [] := by
  obtain ⟨h0, B, h⟩ := h
  by_cases hL : L = []
  · exact Or.inr hL
  · refine Or.inl ?_
    have e : TT = TT.take i.toNat ++ (L ++ B) := by rw [← h, List.take_append_drop]
    have hlen : i.toNat ≤ TT.length := by
      rcases Nat.lt_or_ge TT.length i.toNat with c | c
      · rw [List.drop_eq_nil_of_le (by omega)] at h
        have := congrArg List.length h
        rw [List.length_append] at this
        have : L.length = 0 := by simp only [List.length_nil] at this; omega
        exact absurd (List.length_eq_zero_iff.mp this) hL
      · exact c
    have hF := hR.2.2.2
    rw [e, Fl_app, Fl_app] at hF
    have ht : (TT.take i.toNat).length = i.toNat := by rw [List.length_take]; omega
    rw [ht, show (0 : Int) + ((i.toNat : Nat) : Int) = i by omega] at hF
    refine ⟨hF.2.1, h0, ?_⟩
    have h1 := congrArg List.length e
    rw [List.length_append, List.length_append, ht] at h1
    have h2 := hR.2.1
    omega
