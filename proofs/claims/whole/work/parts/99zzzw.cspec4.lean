/-! the CLAUSES are well made -/
/-- the VARIABLES that are replaced, with how many are around -/
def wk2 (q : Nat → Nat → Prop) : T → List (Nat → Bool → Prop)
  | .leaf _ => []
  | .branch l k s => (fun n is => if l ≤ 2 then True else if l = 3 then (wk2 q k).getD 0 (fun _ _ => True) n (!is) else if l ≤ 5 then (wk2 q k).getD 0 (fun _ _ => True) n is ∧ (wk2 q k).getD 1 (fun _ _ => True) n is else if l = 6 then (wk2 q k).getD 0 (fun _ _ => True) n (!is) ∧ (wk2 q k).getD 1 (fun _ _ => True) n is else if l = 7 then (∀ s, (wk2 q k).getD 0 (fun _ _ => True) n s) ∧ (∀ s, (wk2 q k).getD 1 (fun _ _ => True) n s) else ((is == (l % 2 == 0)) = false → q ((l - 8) / 2) n) ∧ (wk2 q k).getD 0 (fun _ _ => True) (n + 1) is) :: wk2 q s
def wK2 (q : Nat → Nat → Prop) (f : Tm) : Nat → Bool → Prop := (wk2 q (tt f)).getD 0 (fun _ _ => True)
theorem wK2_not {q : Nat → Nat → Prop} {g : Tm} {n : Nat} {is : Bool} : wK2 q (mk1 3 g) n is = wK2 q g n (!is) := rfl
theorem wK2_45 {q : Nat → Nat → Prop} {l : Nat} {g h : Tm} {n : Nat} {is : Bool} (h1 : 4 ≤ l) (h2 : l ≤ 5) : wK2 q (mk2 l g h) n is = (wK2 q g n is ∧ wK2 q h n is) := by
  show (if l ≤ 2 then True else if l = 3 then _ else if l ≤ 5 then (wK2 q g n is ∧ wK2 q h n is) else _) = _
  rw [if_neg (by omega), if_neg (by omega), if_pos h2]
theorem wK2_6 {q : Nat → Nat → Prop} {g h : Tm} {n : Nat} {is : Bool} : wK2 q (mk2 6 g h) n is = (wK2 q g n (!is) ∧ wK2 q h n is) := rfl
theorem wK2_7 {q : Nat → Nat → Prop} {g h : Tm} {n : Nat} {is : Bool} : wK2 q (mk2 7 g h) n is = ((∀ s, wK2 q g n s) ∧ ∀ s, wK2 q h n s) := rfl
theorem wK2_q {q : Nat → Nat → Prop} {l : Nat} {g : Tm} {n : Nat} {is : Bool} (h : 8 ≤ l) : wK2 q (mk1 l g) n is = (((is == (l % 2 == 0)) = false → q ((l - 8) / 2) n) ∧ wK2 q g (n + 1) is) := by
  show (if l ≤ 2 then True else if l = 3 then _ else if l ≤ 5 then _ else if l = 6 then _ else if l = 7 then _ else ((is == (l % 2 == 0)) = false → q ((l - 8) / 2) n) ∧ wK2 q g (n + 1) is) = _
  rw [if_neg (by omega), if_neg (by omega), if_neg (by omega), if_neg (by omega), if_neg (by omega)]
theorem wK2_bin {q : Nat → Nat → Prop} {l : Nat} {g h : Tm} {n : Nat} {is : Bool} (l4 : 4 ≤ l) (l7 : l ≤ 7) (hh : wK2 q (mk2 l g h) n is) {q2 : Nat → Nat → Prop} (ig : ∀ is, wK2 q g n is → wK2 q2 g n is) (ih : ∀ is, wK2 q h n is → wK2 q2 h n is) : wK2 q2 (mk2 l g h) n is := by
  have hl : l ≤ 5 ∨ l = 6 ∨ l = 7 := by omega
  rcases hl with e | e | e
  · rw [wK2_45 l4 e] at hh ⊢
    exact ⟨ig _ hh.1, ih _ hh.2⟩
  · subst e
    rw [wK2_6] at hh ⊢
    exact ⟨ig _ hh.1, ih _ hh.2⟩
  · subst e
    rw [wK2_7] at hh ⊢
    exact ⟨fun s => ig _ (hh.1 s), fun s => ih _ (hh.2 s)⟩
theorem wK2_1 {q : Nat → Nat → Prop} {q1 : Nat → Prop} (hq : ∀ v n, q v n → q1 v) : ∀ f, FS (tt f) → ∀ n is, wK2 q f n is → wK q1 f is := by
  refine FO_ind ?_ ?_ ?_ ?_ ?_
  · intro l1 k1 l2 k2 l h n is _
    show (if l ≤ 2 then True else _)
    rw [if_pos (by omega)]; trivial
  · intro h g n is _
    trivial
  · intro g _ ih n is h
    rw [wK_not]; exact ih n _ h
  · intro l g h l4 l7 _ _ ig ih n is hh
    have hl : l ≤ 5 ∨ l = 6 ∨ l = 7 := by omega
    rcases hl with e | e | e
    · rw [wK2_45 l4 e] at hh
      rw [wK_45 l4 e]
      exact ⟨ig _ _ hh.1, ih _ _ hh.2⟩
    · subst e
      rw [wK2_6] at hh
      rw [wK_6]
      exact ⟨ig _ _ hh.1, ih _ _ hh.2⟩
    · subst e
      rw [wK2_7] at hh
      rw [wK_7]
      exact ⟨fun s => ig _ _ (hh.1 s), fun s => ih _ _ (hh.2 s)⟩
  · intro l g l8 _ ih n is hh
    rw [wK2_q l8] at hh
    rw [wK_q l8]
    exact ⟨fun h => hq _ _ (hh.1 h), ih _ _ hh.2⟩
theorem su_len1 (θ : Vs) : ∀ F : T, len (su θ F) = len F
  | .leaf _ => rfl
  | .branch n k s => by show 1 + len (su θ s) = 1 + len s; rw [su_len1 θ s]
theorem su_wf1 {nm : PN} {V : Int → Prop} {ar : Int → Nat} {p : Int → Prop} (hn : ∀ (j : Nat) x, nm[j]? = some x → x.2.1 = 1 ∨ x.2.1 = 2 → x.2.2 = (ar ((j : Int) + 1) : Int) ∧ p ((j : Int) + 1)) {θ : Vs} (hV : ∀ v, V v → wf ar p (tt (θ v))) : ∀ {F : T}, WT nm V F → wf ar p (su θ F)
  | .leaf _, _ => trivial
  | .branch l k s, h => by
    obtain ⟨h1, h2, h3⟩ := h
    have a1 := su_wf1 hn hV h2
    have b1 := su_wf1 hn hV h3
    show len (sbT θ l (su θ k)).2 = (if cl (sbT θ l (su θ k)).1 < 0 then 0 else ar (cl (sbT θ l (su θ k)).1)) ∧ p (cl (sbT θ l (su θ k)).1) ∧ wf ar p (sbT θ l (su θ k)).2 ∧ wf ar p (su θ s)
    unfold sbT
    rcases h1 with ⟨c1, c2, c3⟩ | ⟨c1, x, c2, c3, c4⟩
    · rw [if_pos c1]
      obtain ⟨d1, d2, d3, _⟩ := hV _ c2
      exact ⟨d1, d2, d3, b1⟩
    · rw [if_neg (by omega)]
      obtain ⟨d1, d2⟩ := hn _ x c2 (Or.inr c3)
      rw [show (((cl l - 1).toNat : Nat) : Int) + 1 = cl l by omega] at d1 d2
      refine ⟨?_, d2, a1, b1⟩
      show len (su θ k) = (if cl l < 0 then 0 else ar (cl l))
      rw [su_len1, if_neg (by omega)]; omega
theorem eT_wf {ar : Int → Nat} {p : Int → Prop} : ∀ {E : VE}, (∀ x ∈ E, wf ar p (tt x.2)) → wf ar p (eT E) ∧ len (eT E) = E.length
  | [], _ => ⟨trivial, rfl⟩
  | x :: E, h => by
    obtain ⟨a, b⟩ := eT_wf (E := E) (fun y hy => h y (by simp [hy]))
    obtain ⟨c1, c2, c3, _⟩ := h x (by simp)
    exact ⟨⟨c1, c2, c3, a⟩, by show 1 + len (eT E) = _; rw [b, List.length_cons]; omega⟩
theorem eV_wf {ar : Int → Nat} {p : Int → Prop} : ∀ {E : VE} {v : Int}, (∀ x ∈ E, wf ar p (tt x.2)) → (∃ x ∈ E, (x.1 : Int) = v) → wf ar p (tt (eV E v))
  | [], v, _, h => by obtain ⟨x, hx, _⟩ := h; cases hx
  | y :: E, v, hw, h => by
    show wf ar p (tt (if (y.1 : Int) = v then y.2 else eV E v))
    by_cases c : (y.1 : Int) = v
    · rw [if_pos c]; exact hw y (by simp)
    · rw [if_neg c]
      obtain ⟨x, hx, e⟩ := h
      rcases List.mem_cons.mp hx with e2 | hx
      · subst e2; exact absurd e c
      · exact eV_wf (fun z hz => hw z (by simp [hz])) ⟨x, hx, e⟩
theorem bE_wf {w : Nat → Nat} {ar : Int → Nat} {p : Int → Prop} {E : VE} {v : Nat} {stay : Bool} (h : ∀ x ∈ E, wf ar p (tt x.2)) (hs : stay = true → p (-1 - (v : Int))) (hq : stay = false → 0 ≤ cl (w v) ∧ ar (cl (w v)) = E.length ∧ p (cl (w v))) : ∀ x ∈ bE w E v stay, wf ar p (tt x.2) := fun x hx => by
  unfold bE at hx
  rcases List.mem_append.mp hx with hx | hx
  · exact h x hx
  · have := List.mem_singleton.mp hx
    subst this
    cases stay
    · obtain ⟨q1, q2, q3⟩ := hq rfl
      obtain ⟨a, b⟩ := eT_wf h
      refine ⟨?_, q3, a, trivial⟩
      show len (eT E) = (if cl (w v) < 0 then 0 else ar (cl (w v)))
      rw [if_neg (by omega), b, q2]
    · refine ⟨?_, ?_, trivial, trivial⟩
      · show len nl = (if cl (cu (-1 - (v : Int))) < 0 then 0 else _)
        rw [cl_cu, if_pos (by omega)]
        rfl
      · show p (cl (cu (-1 - (v : Int))))
        rw [cl_cu]; exact hs rfl
theorem WL_ap {ar : Int → Nat} {p : Int → Prop} {a b : List Lt} (ha : WL ar p a) (hb : WL ar p b) : WL ar p (a ++ b) := fun x hx => by
  rcases List.mem_append.mp hx with hx | hx
  · exact ha x hx
  · exact hb x hx
theorem eaE_wl {ar : Int → Nat} {p : Int → Prop} {A B : List (List Lt)} (ha : ∀ c ∈ A, WL ar p c) (hb : ∀ c ∈ B, WL ar p c) : ∀ c ∈ eaE A B, WL ar p c := fun c hc => by
  obtain ⟨a, h1, h2⟩ := List.mem_flatMap.mp hc
  obtain ⟨b, h3, h4⟩ := List.mem_map.mp h2
  rw [← h4]
  exact WL_ap (ha a h1) (hb b h3)
theorem jn_wl {ar : Int → Nat} {p : Int → Prop} {A B : List (List Lt)} {both : Bool} (ha : ∀ c ∈ A, WL ar p c) (hb : ∀ c ∈ B, WL ar p c) : ∀ c ∈ jn both A B, WL ar p c := fun c hc => by
  unfold jn at hc
  cases both
  · rw [if_neg (by decide)] at hc
    exact eaE_wl ha hb c hc
  · rw [if_pos rfl] at hc
    rcases List.mem_append.mp hc with hc | hc
    · exact ha c hc
    · exact hb c hc
theorem cFm_wl {nm : PN} {w : Nat → Nat} {ar : Int → Nat} {p : Int → Prop} (hn : ∀ (j : Nat) x, nm[j]? = some x → x.2.1 = 1 ∨ x.2.1 = 2 → x.2.2 = (ar ((j : Int) + 1) : Int) ∧ p ((j : Int) + 1)) (hv : ∀ v, 0 ≤ v → v < 300 → p (-1 - v)) (h00 : ar 0 = 0) (hp0 : p 0) : ∀ f, FS (tt f) → ∀ (is : Bool) (E : VE), (∀ x ∈ E, wf ar p (tt x.2)) → WFo1 nm f (fun v => ∃ x ∈ E, (x.1 : Int) = v) → QV (fun v => v < 300) (tt f) → wK2 (fun v n => 0 ≤ cl (w v) ∧ ar (cl (w v)) = n ∧ p (cl (w v))) f E.length is → ∀ c ∈ cFm w f E is, WL ar p c := by
  refine FO_ind ?_ ?_ ?_ ?_ ?_
  · intro l1 k1 l2 k2 l hl is E hE hW hQ hK c hc
    have hW1 : (if l ≤ 1 then len (nd l1 k1 (nd l2 k2 nl)) = 2 ∧ WT nm (fun v => ∃ x ∈ E, (x.1 : Int) = v) (nd l1 k1 (nd l2 k2 nl)) else _) := hW.1
    rw [if_pos hl] at hW1
    have wt1 := hW1.2
    rw [cFm_at (by omega)] at hc
    have := List.mem_singleton.mp hc
    subst this
    intro a ha
    have := List.mem_singleton.mp ha
    subst this
    unfold clt
    rw [if_pos hl, if_pos hl]
    refine ⟨?_, su_wf1 hn (fun v h => eV_wf hE h) (F := nd l1 k1 nl) ⟨wt1.1, wt1.2.1, trivial⟩, su_wf1 hn (fun v h => eV_wf hE h) (F := nd l2 k2 nl) wt1.2.2⟩
    show (if _ then (1 : Int) else 0) = 0 ∨ (if _ then (1 : Int) else 0) = 1
    split
    · exact Or.inr rfl
    · exact Or.inl rfl
  · intro h g is E hE hW hQ hK c hc
    have hW1 : ∃ h' g'' x, (nd h g nl) = nd h' g'' nl ∧ 1 ≤ cl h' ∧ nm[(cl h' - 1).toNat]? = some x ∧ x.2.1 = 1 ∧ x.2.2 = (len g'' : Int) ∧ WT nm (fun v => ∃ x ∈ E, (x.1 : Int) = v) g'' := hW.1
    obtain ⟨_, _, x, e6, p1, p2, p3, p4, p5⟩ := hW1
    cases e6
    obtain ⟨d1, d2⟩ := hn _ x p2 (Or.inl p3)
    rw [show (((cl h - 1).toNat : Nat) : Int) + 1 = cl h by omega] at d1 d2
    rw [cFm_at (by omega)] at hc
    have := List.mem_singleton.mp hc
    subst this
    intro a ha
    have := List.mem_singleton.mp ha
    subst this
    refine ⟨?_, ⟨?_, d2, su_wf1 hn (fun v h => eV_wf hE h) p5, trivial⟩, ⟨?_, by show p (cl 0); rw [show cl 0 = 0 by decide]; exact hp0, trivial, trivial⟩⟩
    · show (if _ then (1 : Int) else 0) = 0 ∨ (if _ then (1 : Int) else 0) = 1
      split
      · exact Or.inr rfl
      · exact Or.inl rfl
    · show len (su (eV E) g) = (if cl h < 0 then 0 else ar (cl h))
      rw [su_len1, if_neg (by omega)]; omega
    · show 0 = (if cl 0 < 0 then 0 else ar (cl 0))
      rw [if_neg (by decide)]
      exact h00.symm
  · intro g _ ih is E hE hW hQ hK c hc
    exact ih (!is) E hE hW.1.2 (hQ.1.resolve_left (by show ¬ 3 ≤ 2; omega)).2 hK c hc
  · intro l g h l4 l7 fg fh ig ih is E hE hW hQ hK c hc
    have hW1 : (if l ≤ 1 then _ else if l = 2 then _ else if l = 3 then _ else if l ≤ 7 then len (nd g.1 g.2 (nd h.1 h.2 nl)) = 2 ∧ WFo nm (nd g.1 g.2 (nd h.1 h.2 nl)) (fun v => ∃ x ∈ E, (x.1 : Int) = v) else _) := hW.1
    rw [if_neg (by omega), if_neg (by omega), if_neg (by omega), if_pos l7] at hW1
    have wg : WFo1 nm g (fun v => ∃ x ∈ E, (x.1 : Int) = v) := ⟨hW1.2.1, trivial⟩
    have wh : WFo1 nm h (fun v => ∃ x ∈ E, (x.1 : Int) = v) := hW1.2.2
    have hQ1 := (hQ.1.resolve_left (by show ¬ l ≤ 2; omega)).2
    have qg : QV (fun v => v < 300) (tt g) := ⟨hQ1.1, trivial⟩
    have qh : QV (fun v => v < 300) (tt h) := hQ1.2
    rw [cFm_bin l4 l7] at hc
    have hl : l = 4 ∨ l = 5 ∨ l = 6 ∨ l = 7 := by omega
    rcases hl with e | e | e | e
    · subst e
      rw [wK2_45 (by omega) (by omega)] at hK
      exact jn_wl (ig is E hE wg qg hK.1) (ih is E hE wh qh hK.2) c hc
    · subst e
      rw [wK2_45 (by omega) (by omega)] at hK
      exact jn_wl (ig is E hE wg qg hK.1) (ih is E hE wh qh hK.2) c hc
    · subst e
      rw [wK2_6] at hK
      exact jn_wl (ig (!is) E hE wg qg hK.1) (ih is E hE wh qh hK.2) c hc
    · subst e
      rw [wK2_7] at hK
      have hc : c ∈ eaE (cFm w g E (!is)) (cFm w h E true) ++ (if is = true then eaE (cFm w h E false) (cFm w g E true) else eaE (cFm w g E false) (cFm w h E false)) := hc
      rcases List.mem_append.mp hc with hc | hc
      · exact eaE_wl (ig _ E hE wg qg (hK.1 _)) (ih _ E hE wh qh (hK.2 _)) c hc
      · split at hc
        · exact eaE_wl (ih _ E hE wh qh (hK.2 _)) (ig _ E hE wg qg (hK.1 _)) c hc
        · exact eaE_wl (ig _ E hE wg qg (hK.1 _)) (ih _ E hE wh qh (hK.2 _)) c hc
  · intro l g l8 fg ih is E hE hW hQ hK c hc
    have hW1 : (if l ≤ 1 then _ else if l = 2 then _ else if l = 3 then _ else if l ≤ 7 then _ else len (nd g.1 g.2 nl) = 1 ∧ WFo nm (nd g.1 g.2 nl) (fun u => (∃ x ∈ E, (x.1 : Int) = u) ∨ u = (((l - 8) / 2 : Nat) : Int))) := hW.1
    rw [if_neg (by omega), if_neg (by omega), if_neg (by omega), if_neg (by omega)] at hW1
    have hQ1 := hQ.1.resolve_left (by show ¬ l ≤ 2; omega)
    have hv3 : (l - 8) / 2 < 300 := hQ1.1 l8
    rw [wK2_q l8] at hK
    rw [cFm_q l8] at hc
    have el : (bE w E ((l - 8) / 2) (is == (l % 2 == 0))).length = E.length + 1 := by unfold bE; rw [List.length_append]; rfl
    refine ih is (bE w E ((l - 8) / 2) (is == (l % 2 == 0))) (bE_wf hE (fun _ => hv _ (by omega) (by omega)) (fun h => hK.1 h)) ?_ hQ1.2 (by rw [el]; exact hK.2) c hc
    refine WFo.mono NmE.rf (fun u hu => ?_) hW1.2
    unfold bE
    rcases hu with ⟨x, hx, e⟩ | hu
    · exact ⟨x, by simp [hx], e⟩
    · exact ⟨_, List.mem_append.mpr (Or.inr (List.mem_singleton.mpr rfl)), hu.symm⟩
theorem frE_wf {w : Nat → Nat} {ar : Int → Nat} {p : Int → Prop} {stay : Bool} : ∀ {L : List Int} {E : VE}, (∀ x ∈ E, wf ar p (tt x.2)) → (∀ v ∈ L, 0 ≤ v ∧ p (-1 - v)) → (stay = false → ∀ (i : Nat) v, L[i]? = some v → 0 ≤ cl (w v.toNat) ∧ ar (cl (w v.toNat)) = E.length + i ∧ p (cl (w v.toNat))) → ∀ x ∈ frE w stay L E, wf ar p (tt x.2)
  | [], E, h, _, _ => h
  | v :: L, E, h, hv, hq => by
    obtain ⟨v0, v1⟩ := hv v (by simp)
    show ∀ x ∈ frE w stay L (bE w E v.toNat stay), wf ar p (tt x.2)
    refine frE_wf (L := L) (E := bE w E v.toNat stay) (bE_wf h (fun _ => by rw [Int.toNat_of_nonneg v0]; exact v1) (fun hs => hq hs 0 v rfl)) (fun u hu => hv u (by simp [hu])) (fun hs i u hu => ?_)
    have := hq hs (i + 1) u hu
    have el : (bE w E v.toNat stay).length = E.length + 1 := by unfold bE; rw [List.length_append]; rfl
    rw [el]
    exact ⟨this.1, by rw [this.2.1]; omega, this.2.2⟩
