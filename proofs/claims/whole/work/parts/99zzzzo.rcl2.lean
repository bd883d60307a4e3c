/-! THE REFERENCE MAKES THE CLAUSES OF A FORMULA AS THE SPEC SAYS -/
/-- TERMS are not too deep -/
def FH : T → Prop
  | .leaf _ => True
  | .branch l k s => (if l ≤ 2 then ht k ≤ 100 else FH k) ∧ FH s
/-- VARIABLES of ! or ?, one behind the other -/
def qE (w : Nat → Nat) (stay : Bool) (first : Nat) : Nat → VE → VE
  | 0, E => E
  | j + 1, E => bE w (qE w stay first j E) (first + j) stay
theorem qE_pre {w : Nat → Nat} {stay : Bool} {first : Nat} : ∀ (j : Nat) (E : VE), ∃ X, qE w stay first j E = E ++ X ∧ X.length = j
  | 0, E => ⟨[], by simp [qE], rfl⟩
  | j + 1, E => by
    obtain ⟨X, h, hl⟩ := qE_pre (w := w) (stay := stay) (first := first) j E
    refine ⟨X ++ [(first + j, if stay = true then vt ((first + j : Nat) : Int) else (w (first + j), eT (qE w stay first j E)))], ?_, by simp [hl]⟩
    show qE w stay first j E ++ _ = _
    rw [h, List.append_assoc]
theorem qE_mem {w : Nat → Nat} {stay : Bool} {first : Nat} {v : Nat} : ∀ (j : Nat) (E : VE), v ∈ keysE (qE w stay first j E) ↔ (v ∈ keysE E ∨ (first ≤ v ∧ v < first + j))
  | 0, E => ⟨Or.inl, fun h => h.resolve_right (by omega)⟩
  | j + 1, E => by
    have ih := qE_mem (w := w) (stay := stay) (first := first) (v := v) j E
    have e : keysE (qE w stay first (j + 1) E) = keysE (qE w stay first j E) ++ [first + j] := by
      show keysE (bE w (qE w stay first j E) (first + j) stay) = _
      unfold keysE bE
      rw [List.map_append]
      rfl
    rw [e, List.mem_append, ih, List.mem_singleton]
    constructor
    · intro h
      rcases h with (h | h) | h
      · exact Or.inl h
      · exact Or.inr ⟨h.1, by omega⟩
      · exact Or.inr ⟨by omega, by omega⟩
    · intro h
      rcases h with h | h
      · exact Or.inl (Or.inl h)
      · by_cases c : v = first + j
        · exact Or.inr c
        · exact Or.inl (Or.inr ⟨h.1, by omega⟩)
theorem qst {k first j : Nat} (hk : k ≤ 1) (is : Bool) : (is == ((8 + k + 2 * (first + j)) % 2 == 0)) = (is == (k == 0)) := by
  have : (8 + k + 2 * (first + j)) % 2 = k := by omega
  rw [this]
theorem qvv {k first j : Nat} (hk : k ≤ 1) : (8 + k + 2 * (first + j) - 8) / 2 = first + j := by omega
theorem cFm_qn {w : Nat → Nat} {k first : Nat} (hk : k ≤ 1) : ∀ (j : Nat) {g : Tm} {E : VE} {is : Bool}, cFm w (qnt k first j g) E is = cFm w g (qE w (is == (k == 0)) first j E) is
  | 0, g, E, is => rfl
  | j + 1, g, E, is => by
    unfold qnt
    rw [cFm_qn hk j, cFm_q (by omega), qst hk, qvv hk]
    rfl
theorem nF_qn {k first : Nat} : ∀ (j : Nat) {g : Tm} {is : Bool}, nF (qnt k first j g) is = nF g is
  | 0, g, is => rfl
  | j + 1, g, is => by unfold qnt; rw [nF_qn j, nF_q (by omega)]
theorem eF_qn {k first : Nat} : ∀ (j : Nat) {g : Tm}, eF (qnt k first j g) = eF g
  | 0, g => rfl
  | j + 1, g => by unfold qnt; rw [eF_qn j, eF_q (by omega)]
theorem FS_q {l : Nat} {g : Tm} (hl : 8 ≤ l) (h : FS (tt (mk1 l g))) : FS (tt g) := by
  have h := h.1
  have h : (if l ≤ 1 then _ else if l = 2 then _ else if l ≤ 3 then _ else if l ≤ 7 then _ else len (nd g.1 g.2 nl) = 1 ∧ FS (nd g.1 g.2 nl)) := h
  rw [if_neg (by omega), if_neg (by omega), if_neg (by omega), if_neg (by omega)] at h
  exact h.2
theorem FS_qn {k first : Nat} : ∀ (j : Nat) {g : Tm}, FS (tt (qnt k first j g)) → FS (tt g)
  | 0, g, h => h
  | j + 1, g, h => by unfold qnt at h; exact FS_q (by omega) (FS_qn j h)
theorem FH_m1 {l : Nat} {g : Tm} (hl : 3 ≤ l) (h : FH (tt (mk1 l g))) : FH (tt g) := by
  have h := h.1
  have h : (if l ≤ 2 then _ else FH (tt g)) := h
  rw [if_neg (by omega)] at h
  exact h
theorem FH_qn {k first : Nat} : ∀ (j : Nat) {g : Tm}, FH (tt (qnt k first j g)) → FH (tt g)
  | 0, g, h => h
  | j + 1, g, h => by unfold qnt at h; exact FH_m1 (by omega) (FH_qn j h)
theorem UQs_q {l : Nat} {g : Tm} {lo hi : Nat} (hl : 8 ≤ l) (h : UQs (tt (mk1 l g)) lo hi) : ∃ hi2, lo ≤ (l - 8) / 2 ∧ UQs (tt g) ((l - 8) / 2 + 1) hi2 ∧ hi2 ≤ hi := by
  obtain ⟨mid, h1, h2⟩ := h
  have h1 : (if l ≤ 2 then _ else if l ≤ 7 then _ else lo ≤ (l - 8) / 2 ∧ UQs (tt g) ((l - 8) / 2 + 1) mid) := h1
  rw [if_neg (by omega), if_neg (by omega)] at h1
  exact ⟨mid, h1.1, h1.2, h2⟩
theorem UQs_qn {k first : Nat} (hk : k ≤ 1) : ∀ (j : Nat) {g : Tm} {lo hi : Nat}, UQs (tt (qnt k first j g)) lo hi → ∃ lo2 hi2, UQs (tt g) lo2 hi2 ∧ hi2 ≤ hi ∧ (1 ≤ j → lo2 = first + j)
  | 0, g, lo, hi, h => ⟨lo, hi, h, Nat.le_refl _, fun h => by omega⟩
  | j + 1, g, lo, hi, h => by
    unfold qnt at h
    obtain ⟨lo2, hi2, h1, h2, _⟩ := UQs_qn hk j h
    obtain ⟨hi3, _, h4, h5⟩ := UQs_q (by omega) h1
    rw [qvv hk] at h4
    exact ⟨first + j + 1, hi3, h4, by omega, fun _ => by omega⟩
theorem wK_qn {q : Nat → Prop} {k first : Nat} (hk : k ≤ 1) : ∀ (j : Nat) {g : Tm} {is : Bool}, wK q (qnt k first j g) is → ((is == (k == 0)) = false → ∀ i, i < j → q (first + i)) ∧ wK q g is
  | 0, g, is, h => ⟨fun _ i hi => by omega, h⟩
  | j + 1, g, is, h => by
    unfold qnt at h
    obtain ⟨h1, h2⟩ := wK_qn hk j h
    rw [wK_q (by omega), qst hk, qvv hk] at h2
    exact ⟨fun hs i hi => by
      by_cases c : i = j
      · rw [c]; exact h2.1 hs
      · exact h1 hs i (by omega), h2.2⟩
theorem WFo_q {nm : PN} {l : Nat} {g : Tm} {V : Int → Prop} (hl : 8 ≤ l) (h : WFo1 nm (mk1 l g) V) : WFo1 nm g (fun u => V u ∨ u = (((l - 8) / 2 : Nat) : Int)) := by
  have h1 := h.1
  have h1 : (if l ≤ 1 then _ else if l = 2 then _ else if l = 3 then _ else if l ≤ 7 then _ else len (nd g.1 g.2 nl) = 1 ∧ WFo nm (nd g.1 g.2 nl) (fun u => V u ∨ u = (((l - 8) / 2 : Nat) : Int))) := h1
  rw [if_neg (by omega), if_neg (by omega), if_neg (by omega), if_neg (by omega)] at h1
  exact h1.2
theorem WFo_qn {nm : PN} {k first : Nat} (hk : k ≤ 1) : ∀ (j : Nat) {g : Tm} {V : Int → Prop}, WFo1 nm (qnt k first j g) V → WFo1 nm g (fun u => V u ∨ ((first : Int) ≤ u ∧ u < ((first + j : Nat) : Int)))
  | 0, g, V, h => h.mono NmE.rf (fun v hv => Or.inl hv)
  | j + 1, g, V, h => by
    unfold qnt at h
    refine (WFo_q (by omega) (WFo_qn hk j h)).mono NmE.rf (fun v hv => ?_)
    rcases hv with (hv | hv) | hv
    · exact Or.inl hv
    · exact Or.inr ⟨hv.1, by omega⟩
    · rw [qvv hk] at hv
      exact Or.inr ⟨by omega, by omega⟩
theorem VO_of {nm : PN} {V : Int → Prop} {E : VE} (hV : ∀ v, V v → ∃ x ∈ E, (x.1 : Int) = v) : ∀ {F : T}, WT nm V F → VO E F
  | .leaf _, _ => trivial
  | .branch l k s, h => by
    obtain ⟨h1, h2, h3⟩ := h
    refine ⟨fun hc => ?_, VO_of hV h2, VO_of hV h3⟩
    rcases h1 with ⟨_, c2, c3⟩ | ⟨c1, _⟩
    · exact ⟨c3, hV _ c2⟩
    · omega
theorem REv.pre {w : Nat → Nat} {σ : zS} {E X : VE} (h : REv w σ (E ++ X)) : REv w (zI σ 62 (E.length : Int)) E := by
  refine ⟨by simp [zI], ?_, fun i x hx => ?_⟩
  · have := h.2.1
    unfold keysE at this ⊢
    rw [List.map_append, List.nodup_append] at this
    exact this.1
  · have hi := (List.getElem?_eq_some_iff.mp hx).1
    have := h.2.2 i x (by rw [List.getElem?_append_left hi]; exact hx)
    rw [List.take_append_of_le_length (by omega)] at this
    exact this
theorem atom_COk {w : Nat → Nat} {σ τ : zS} {E : VE} {a : Lt} (h1 : τ.1 3000 = 0) (h2 : CLf σ τ) (h3 : REv w τ E) (h4 : τ.1 65 = σ.1 65 + 1) (h5 : τ.1 47 ≤ σ.1 47 + 100) (h6 : RRw τ (σ.1 65) [a]) : COk w σ τ E [[a]] := by
  refine ⟨h1, h2, h3, fun i c hc => ?_, by rw [h4]; rfl, by rw [show lsz [[a]] = 1 from rfl]; omega, fun c hc => by rw [List.mem_singleton.mp hc]; simp⟩
  have hi : i = 0 := by
    have := (List.getElem?_eq_some_iff.mp hc).1
    simp at this; omega
  subst hi
  cases hc
  rw [show σ.1 65 + ((0 : Nat) : Int) = σ.1 65 by omega]; exact h6
/-- room for two parts -/
def RMs (x y : Int) (a b ra rb ea eb : Nat) (all : Bool) : Prop := x + 800 * ((a + ra + ea : Nat) : Int) ≤ 420000 ∧ x + 800 * ((a + b + rb + eb : Nat) : Int) ≤ 420000 ∧ y + ((3 * a + ra + ea : Nat) : Int) ≤ 1200 ∧ y + ((a + 3 * b + rb + eb : Nat) : Int) ≤ 1200 ∧ (all = false → y + ((a + b + a * b : Nat) : Int) ≤ 1200)
theorem RM_all {x y : Int} {a b ra rb ea eb : Nat} (h1 : x + 800 * ((a + b + max ra rb + (0 + max ea eb) : Nat) : Int) ≤ 420000) (h2 : y + ((3 * (a + b) + max ra rb + (0 + max ea eb) : Nat) : Int) ≤ 1200) : RMs x y a b ra rb ea eb true := ⟨by omega, by omega, by omega, by omega, fun h => by cases h⟩
theorem RM_each {x y : Int} {a b ra rb ea eb R e : Nat} (pa : 1 ≤ a) (pb' : 1 ≤ b) (hR : ra ≤ R ∧ rb ≤ R) (he : ea ≤ e ∧ eb ≤ e) (h1 : x + 800 * ((a * b + 1 + R + e : Nat) : Int) ≤ 420000) (h2 : y + ((3 * (a * b) + 1 + R + e : Nat) : Int) ≤ 1200) : RMs x y a b ra rb ea eb false := by
  have q1 := ab_mul pa pb'
  have q2 := ab3 pa pb'
  have q3 : a ≤ a * b := Nat.le_mul_of_pos_right _ pb'
  have q4 : b ≤ a * b := Nat.le_mul_of_pos_left _ pa
  unfold RMs
  generalize a * b = M at *
  exact ⟨by omega, by omega, by omega, by omega, fun _ => by omega⟩
theorem RM_ea2 {x y : Int} {a b ra rb ea eb : Nat} (pa : 1 ≤ a) (pb' : 1 ≤ b) (h1 : x + 800 * ((a * b + max ra (rb + 1) + (0 + max ea eb) : Nat) : Int) ≤ 420000) (h2 : y + ((3 * (a * b) + max ra (rb + 1) + (0 + max ea eb) : Nat) : Int) ≤ 1200) : RMs x y a b ra rb ea eb false := by
  have q1 := ab_mul pa pb'
  have q2 := ab3 pa pb'
  have q3 : a ≤ a * b := Nat.le_mul_of_pos_right _ pb'
  have q4 : b ≤ a * b := Nat.le_mul_of_pos_left _ pa
  unfold RMs
  generalize a * b = M at *
  exact ⟨by omega, by omega, by omega, by omega, fun _ => by omega⟩
theorem cls_ok {w : Nat → Nat} {nm : PN} : ∀ (h : Nat) (f : Tm), FS (tt f) → FH (tt f) → (∃ lo hi, UQs (tt f) lo hi ∧ hi ≤ 300) → ∀ is, CLs w nm h f is := by
  intro h
  induction h with
  | zero =>
    intro f _ _ _ is a E σ β hR
    exact hR.elim
  | succ h ih =>
    intro f hf hH hU is a E σ β hR hE hW hB hK h47 m1 h65 n1 h20 hβ
    obtain ⟨r0, r1, r2, rc⟩ := hR
    have e320 : ∀ (ρ : zS) (p q : Int), xE tX_clauses_320 β ρ [p, q] = some (zI ρ 3000 0, 0) := fun ρ p q => by rw [xq_clauses_320, kW_clauses_320, lt_e]
    -- an ATOM at b
    have atomEq : ∀ (β2 : Nat) (b : Int) (s : Bool) (l1 : Nat) (k1 : T) (l2 : Nat) (k2 : T), 300 ≤ β2 → 0 ≤ b → b < 20100 → RTr σ l1 k1 (σ.2.1 31 b) → RTr σ l2 k2 (σ.2.1 32 b) → WT nm (fun v => ∃ x ∈ E, (x.1 : Int) = v) (nd l1 k1 (nd l2 k2 nl)) → ht (nd l1 k1 (nd l2 k2 nl)) ≤ 100 → σ.1 47 + 100 ≤ 420000 → σ.1 65 < 1200 → ∃ τ, xE tX_atom2 β2 σ [b, bi s] = some (τ, 0) ∧ (COk w σ τ E [[(bi s, st (eV E) (l1, k1), st (eV E) (l2, k2))]] ∨ CBad σ τ [[(bi s, st (eV E) (l1, k1), st (eV E) (l2, k2))]]) := fun β2 b s l1 k1 l2 k2 hb2 b0 b1 t1 t2 hw hh q47 q65 => by
      have v1 : VO E (tt (l1, k1)) := VO_of (fun v hv => hv) (F := nd l1 k1 nl) ⟨hw.1, hw.2.1, trivial⟩
      have v2 : VO E (tt (l2, k2)) := VO_of (fun v hv => hv) (F := nd l2 k2 nl) hw.2.2
      have hh : max (1 + ht k1) (max (1 + ht k2) 0) ≤ 100 := hh
      obtain ⟨y1, y2⟩ := atq_ok (x := (l1, k1)) (y := (l2, k2)) (is := s) hb2 ⟨b0, b1⟩ h20.2.1 t1 t2 v1 v2 ⟨by show ht k1 ≤ 100; omega, by show ht k2 ≤ 100; omega⟩ hE ⟨h47, q47⟩ ⟨h65, q65⟩
      by_cases c : tw (st (eV E) (l1, k1)) + tw (st (eV E) (l2, k2)) ≤ 100
      · obtain ⟨τ, z1, z2, z3, z4, z5, z6, z7⟩ := y1 c
        exact ⟨τ, z1, Or.inl (atom_COk z2 z3 z4 z5 z6 z7)⟩
      · obtain ⟨τ, z1, z2, z3⟩ := y2 (by omega)
        exact ⟨τ, z1, Or.inr ⟨z2, z3, _, List.mem_singleton.mpr rfl, Or.inr ⟨_, List.mem_singleton.mpr rfl, by show 100 < tw (st (eV E) (l1, k1)) + tw (st (eV E) (l2, k2)); omega⟩⟩⟩
    -- what is behind a call
    have aft : ∀ (call : Option zR) (x1 : Int) (A : List (List Lt)), (∃ τ, call = some (τ, 0) ∧ (COk w σ τ E A ∨ CBad σ τ A)) → ∃ τ, zbd call (fun σ1 _ => if (σ1.1 3000) = 0 then (xE tX_clauses_320 β σ1 [a, x1]) else (some (σ1, 0))) = some (τ, 0) ∧ (COk w σ τ E A ∨ CBad σ τ A) := fun call x1 A hc => by
      obtain ⟨τ, t1, t2⟩ := hc
      rw [zbd_of t1]
      rcases t2 with t2 | t2
      · rw [if_pos t2.1, e320]
        exact ⟨_, rfl, Or.inl t2.z⟩
      · rw [if_neg (by rw [t2.1]; decide)]
        exact ⟨τ, rfl, Or.inr t2⟩
    rcases rc with ⟨l1, k1, l2, k2, c1, c2, c3, c4⟩ | ⟨l1, k1, l2, k2, b, c1, c2, c3, c4, c5, c6, c7, c8⟩ | ⟨l, k, p, c1, c2, c3, c4, c5, c6, c7, c8⟩ | ⟨g, c1, c2, c3⟩ | ⟨j, g1, g2, c1, c2, c3, c4, c5⟩ | ⟨kd, first, cnt, g, c1, c2, c3, c4, c5, c6, c7⟩
    · subst c1
      rw [nF_at (by omega)] at m1 n1
      have hW1 : len (nd l1 k1 (nd l2 k2 nl)) = 2 ∧ WT nm (fun v => ∃ x ∈ E, (x.1 : Int) = v) (nd l1 k1 (nd l2 k2 nl)) := hW.1
      have hc : cFm w (0, nd l1 k1 (nd l2 k2 nl)) E is = [[(bi is, st (eV E) (l1, k1), st (eV E) (l2, k2))]] := by
        rw [cFm_at (by omega)]
        cases is <;> rfl
      rw [hc]
      have hat := atomEq (β - 1) a is l1 k1 l2 k2 (by omega) r0 (by omega) c3 c4 hW1.2 hH.1 (by omega) (by omega)
      obtain ⟨τ, t1, t2⟩ := aft _ (bi is) _ hat
      refine ⟨τ, ?_, t2⟩
      rw [xq_clauses, kW_clauses, if_pos ⟨by omega, by omega⟩, c2, if_neg (by decide), if_pos rfl, if_pos (by omega)]
      exact t1
    · subst c1
      rw [nF_at (by omega)] at m1 n1
      have hW1 : len (nd l1 k1 (nd l2 k2 nl)) = 2 ∧ WT nm (fun v => ∃ x ∈ E, (x.1 : Int) = v) (nd l1 k1 (nd l2 k2 nl)) := hW.1
      have hc : cFm w (1, nd l1 k1 (nd l2 k2 nl)) E is = [[(bi (!is), st (eV E) (l1, k1), st (eV E) (l2, k2))]] := by
        rw [cFm_at (by omega)]
        cases is <;> rfl
      rw [hc]
      have hat := atomEq (β - 1 - 1) b (!is) l1 k1 l2 k2 (by omega) c4 (by omega) c7 c8 hW1.2 hH.1 (by omega) (by omega)
      have e320' : ∀ (ρ : zS) (p q : Int), xE tX_clauses_320 (β - 1) ρ [p, q] = some (zI ρ 3000 0, 0) := fun ρ p q => by rw [xq_clauses_320, kW_clauses_320, lt_e]
      have hin : ∃ τ, xE tX_clauses (β - 1) σ [b, bi (!is)] = some (τ, 0) ∧ (COk w σ τ E [[(bi (!is), st (eV E) (l1, k1), st (eV E) (l2, k2))]] ∨ CBad σ τ [[(bi (!is), st (eV E) (l1, k1), st (eV E) (l2, k2))]]) := by
        obtain ⟨τ, t1, t2⟩ := hat
        rw [xq_clauses, kW_clauses, if_pos ⟨by omega, by omega⟩, c6, if_neg (by decide), if_pos rfl, if_pos (by omega), zbd_of t1]
        rcases t2 with t2 | t2
        · rw [if_pos t2.1, e320']
          exact ⟨_, rfl, Or.inl t2.z⟩
        · rw [if_neg (by rw [t2.1]; decide)]
          exact ⟨τ, rfl, Or.inr t2⟩
      obtain ⟨τ, t1, t2⟩ := aft _ (bi is) _ hin
      refine ⟨τ, ?_, t2⟩
      have e69 : ∀ y : Int, y = bi (!is) → xE tX_clauses_69 β σ [a, bi is, y, b] = some (τ, 0) := fun y hy => by
        rw [xq_clauses_69, kW_clauses_69, if_pos (by omega), hy]
        exact t1
      rw [xq_clauses, kW_clauses, if_pos ⟨by omega, by omega⟩, c2, if_neg (by decide), if_neg (by decide), if_pos rfl, c3]
      cases is
      · rw [if_pos (show bi false = 0 from rfl)]; exact e69 1 rfl
      · rw [if_neg (show ¬ bi true = 0 by decide)]; exact e69 0 rfl
    · subst c1
      rw [show nF (mk1 2 (l, k)) is = 1 from nF_at (l := 2) (by omega)] at m1 n1
      have hW1 : ∃ h' g'' x, (nd l k nl) = nd h' g'' nl ∧ 1 ≤ cl h' ∧ nm[(cl h' - 1).toNat]? = some x ∧ x.2.1 = 1 ∧ x.2.2 = (len g'' : Int) ∧ WT nm (fun v => ∃ x ∈ E, (x.1 : Int) = v) g'' := hW.1
      obtain ⟨_, _, x, e6, p1, p2, p3, p4, p5⟩ := hW1
      cases e6
      have hh : max (1 + ht k) 0 ≤ 100 := hH.1
      have hc : cFm w (mk1 2 (l, k)) E is = [[(bi is, (l, su (eV E) k), (0, nl))]] := by
        rw [show cFm w (mk1 2 (l, k)) E is = [[clt (eV E) 2 (nd l k nl) is]] from cFm_at (l := 2) (by omega)]
        cases is <;> rfl
      rw [hc]
      obtain ⟨y1, y2⟩ := atp_ok (l := l) (k := k) (is := is) (β := β - 1) (a := a) (by omega) ⟨r0, by omega⟩ h20.2.1 c3 ⟨by omega, by omega⟩ (by rw [c4]; exact c7) (by rw [c4]; exact c8) (VO_of (fun v hv => hv) p5) (by omega) hE ⟨h47, by omega⟩ ⟨h65, by omega⟩
      have hat : ∃ τ, xE tX_atom2 (β - 1) σ [a, bi is] = some (τ, 0) ∧ (COk w σ τ E [[(bi is, (l, su (eV E) k), (0, nl))]] ∨ CBad σ τ [[(bi is, (l, su (eV E) k), (0, nl))]]) := by
        by_cases c : tw (l, su (eV E) k) + tw ((0, nl) : Tm) ≤ 100
        · obtain ⟨τ, z1, z2, z3, z4, z5, z6, z7⟩ := y1 c
          exact ⟨τ, z1, Or.inl (atom_COk z2 z3 z4 z5 z6 z7)⟩
        · obtain ⟨τ, z1, z2, z3⟩ := y2 (by omega)
          exact ⟨τ, z1, Or.inr ⟨z2, z3, _, List.mem_singleton.mpr rfl, Or.inr ⟨_, List.mem_singleton.mpr rfl, by show 100 < tw (l, su (eV E) k) + tw ((0, nl) : Tm); omega⟩⟩⟩
      obtain ⟨τ, t1, t2⟩ := aft _ (bi is) _ hat
      refine ⟨τ, ?_, t2⟩
      rw [xq_clauses, kW_clauses, if_pos ⟨by omega, by omega⟩, c2, if_neg (by decide), if_pos rfl, if_pos (by omega)]
      exact t1
    · subst c1
      have fg : FS (tt g) := hf.1.2
      have hU2 : ∃ lo hi, UQs (tt g) lo hi ∧ hi ≤ 300 := by
        obtain ⟨lo, hi, ⟨mid, u1, u2⟩, u3⟩ := hU
        have u2 : mid ≤ hi := u2
        exact ⟨lo, mid, u1, by omega⟩
      rw [nF_not, rF_not, eF_not] at m1 n1
      have o := ih g fg (FH_m1 (by omega) hH) hU2 (!is) (σ.2.1 31 a) E σ (β - 1) c3 hE hW.1.2 (fun v hv => hB v (bnF_m1 hv (by omega))) hK h47 m1 h65 n1 h20 (by omega)
      obtain ⟨τ, t1, t2⟩ := aft _ (bi is) _ o
      refine ⟨τ, ?_, t2⟩
      have e69 : ∀ y : Int, y = bi (!is) → xE tX_clauses_69 β σ [a, bi is, y, σ.2.1 31 a] = some (τ, 0) := fun y hy => by
        rw [xq_clauses_69, kW_clauses_69, if_pos (by omega), hy]
        exact t1
      rw [xq_clauses, kW_clauses, if_pos ⟨by omega, by omega⟩, c2, if_neg (by decide), if_neg (by decide), if_pos rfl]
      cases is
      · rw [if_pos (show bi false = 0 from rfl)]; exact e69 1 rfl
      · rw [if_neg (show ¬ bi true = 0 by decide)]; exact e69 0 rfl
    · subst c2
      have l7 : 4 + j ≤ 7 := by omega
      have hf1 : (if 4 + j ≤ 1 then _ else if 4 + j = 2 then _ else if 4 + j ≤ 3 then _ else if 4 + j ≤ 7 then len (nd g1.1 g1.2 (nd g2.1 g2.2 nl)) = 2 ∧ FS (nd g1.1 g1.2 (nd g2.1 g2.2 nl)) else _) := hf.1
      rw [if_neg (by omega), if_neg (by omega), if_neg (by omega), if_pos l7] at hf1
      have f1 : FS (tt g1) := ⟨hf1.2.1, trivial⟩
      have f2 : FS (tt g2) := hf1.2.2
      have hH1 : (if 4 + j ≤ 2 then _ else FH (nd g1.1 g1.2 (nd g2.1 g2.2 nl))) := hH.1
      rw [if_neg (by omega)] at hH1
      have hh1 : FH (tt g1) := ⟨hH1.1, trivial⟩
      have hh2 : FH (tt g2) := hH1.2
      have hUU : (∃ lo hi, UQs (tt g1) lo hi ∧ hi ≤ 300) ∧ (∃ lo hi, UQs (tt g2) lo hi ∧ hi ≤ 300) := by
        obtain ⟨lo, hi, ⟨mid, u1, u2⟩, u3⟩ := hU
        have u1 : (if 4 + j ≤ 2 then _ else if 4 + j ≤ 7 then UQs (nd g1.1 g1.2 (nd g2.1 g2.2 nl)) lo mid else _) := u1
        rw [if_neg (by omega), if_pos l7] at u1
        have u2 : mid ≤ hi := u2
        obtain ⟨m, v1, v2⟩ := u1
        have v2 : UQs (tt g2) m mid := v2
        exact ⟨⟨lo, m, ⟨m, v1, Nat.le_refl _⟩, by have := v2.le; omega⟩, ⟨m, mid, v2, by omega⟩⟩
      have hW1 : (if 4 + j ≤ 1 then _ else if 4 + j = 2 then _ else if 4 + j = 3 then _ else if 4 + j ≤ 7 then len (nd g1.1 g1.2 (nd g2.1 g2.2 nl)) = 2 ∧ WFo nm (nd g1.1 g1.2 (nd g2.1 g2.2 nl)) (fun v => ∃ x ∈ E, (x.1 : Int) = v) else _) := hW.1
      rw [if_neg (by omega), if_neg (by omega), if_neg (by omega), if_pos l7] at hW1
      have w1 : WFo1 nm g1 (fun v => ∃ x ∈ E, (x.1 : Int) = v) := ⟨hW1.2.1, trivial⟩
      have w2 : WFo1 nm g2 (fun v => ∃ x ∈ E, (x.1 : Int) = v) := hW1.2.2
      have b1 : ∀ v, bnF (tt g1) v → v ∉ keysE E := fun v hv => hB v (bnF_m2 (by omega) (Or.inl hv))
      have b2' : ∀ v, bnF (tt g2) v → v ∉ keysE E := fun v hv => hB v (bnF_m2 (by omega) (Or.inr hv))
      have i1 := ih g1 f1 hh1 hUU.1
      have i2 := ih g2 f2 hh2 hUU.2
      clear hU hUU hW hW1 hf hf1 hH hH1
      have p1 := nF_1 g1 f1
      have p2 := nF_1 g2 f2
      have mg : ∀ s t, nF g1 s ≤ nF g1 s * nF g2 t := fun s t => Nat.le_mul_of_pos_right _ (p2 t)
      have mh : ∀ s t, nF g2 t ≤ nF g1 s * nF g2 t := fun s t => Nat.le_mul_of_pos_left _ (p1 s)
      have am : ∀ s t, nF g1 s + nF g2 t ≤ nF g1 s * nF g2 t + 1 := fun s t => ab_mul (p1 s) (p2 t)
      have a3 : ∀ s t, nF g1 s + 3 * nF g2 t ≤ 3 * (nF g1 s * nF g2 t) + 1 := fun s t => ab3 (p1 s) (p2 t)
      have a3' : ∀ s t, nF g2 t + 3 * nF g1 s ≤ 3 * (nF g1 s * nF g2 t) + 1 := fun s t => by have := ab3 (p2 t) (p1 s); rw [Nat.mul_comm (nF g2 t)] at this; exact this
      rw [nF_bin (by omega) l7, rF_bin (by omega) l7, eF_bin (by omega) l7] at m1 n1
      rw [cFm_bin (by omega) l7]
      have hj : j = 0 ∨ j = 1 ∨ j = 2 ∨ j = 3 := by omega
      rcases hj with e | e | e | e
      · subst e
        rw [wK_45 (by omega) (by omega)] at hK
        have rm : RMs (σ.1 47) (σ.1 65) (nF g1 is) (nF g2 is) (rF g1 is) (rF g2 is) (eF g1) (eF g2) is := by
          cases is
          · exact RM_ea2 (p1 _) (p2 _) m1 n1
          · exact RM_all m1 n1
        have o := jnd_ok (all := is) (β := β - 1) f1 f2 (i1 is) (i2 is) c4 c5 hE w1 w2 b1 b2' hK.1 hK.2 h47 rm.1 rm.2.1 h65 rm.2.2.1 rm.2.2.2.1 rm.2.2.2.2 h20 (by omega)
        obtain ⟨τ, t1, t2⟩ := aft _ (bi is) _ o
        refine ⟨τ, ?_, t2⟩
        have e114 : xE tX_clauses_114 β σ [a, bi is, bi is, bi is, bi is, σ.2.1 32 a, σ.2.1 31 a] = some (τ, 0) := by
          rw [xq_clauses_114, kW_clauses_114, if_pos (by omega)]
          exact t1
        rw [xq_clauses, kW_clauses, if_pos ⟨by omega, by omega⟩, c3, if_neg (by decide), if_neg (by decide), if_neg (by decide), if_pos (by decide), if_pos (by decide), xq_clauses_105, kW_clauses_105]
        cases is
        · rw [if_neg (by decide)]; exact e114
        · rw [if_pos (show 1 = bi true from rfl)]; exact e114
      · subst e
        rw [wK_45 (by omega) (by omega)] at hK
        have rm : RMs (σ.1 47) (σ.1 65) (nF g1 is) (nF g2 is) (rF g1 is) (rF g2 is) (eF g1) (eF g2) (!is) := by
          cases is
          · exact RM_all m1 n1
          · exact RM_ea2 (p1 _) (p2 _) m1 n1
        have o := jnd_ok (all := !is) (β := β - 1) f1 f2 (i1 is) (i2 is) c4 c5 hE w1 w2 b1 b2' hK.1 hK.2 h47 rm.1 rm.2.1 h65 rm.2.2.1 rm.2.2.2.1 rm.2.2.2.2 h20 (by omega)
        obtain ⟨τ, t1, t2⟩ := aft _ (bi is) _ o
        refine ⟨τ, ?_, t2⟩
        have e114 : xE tX_clauses_114 β σ [a, bi is, bi (!is), bi is, bi is, σ.2.1 32 a, σ.2.1 31 a] = some (τ, 0) := by
          rw [xq_clauses_114, kW_clauses_114, if_pos (by omega)]
          exact t1
        rw [xq_clauses, kW_clauses, if_pos ⟨by omega, by omega⟩, c3, if_neg (by decide), if_neg (by decide), if_neg (by decide), if_neg (by decide), if_pos (by decide), if_neg (by decide), xq_clauses_105, kW_clauses_105]
        cases is
        · rw [if_pos (show 0 = bi false from rfl)]; exact e114
        · rw [if_neg (by decide)]; exact e114
      · subst e
        rw [wK_6] at hK
        have rm : RMs (σ.1 47) (σ.1 65) (nF g1 (!is)) (nF g2 is) (rF g1 (!is)) (rF g2 is) (eF g1) (eF g2) (!is) := by
          cases is
          · exact RM_all m1 n1
          · exact RM_ea2 (p1 _) (p2 _) m1 n1
        have o := jnd_ok (s := !is) (t := is) (all := !is) (β := β - 1) f1 f2 (i1 (!is)) (i2 is) c4 c5 hE w1 w2 b1 b2' hK.1 hK.2 h47 rm.1 rm.2.1 h65 rm.2.2.1 rm.2.2.2.1 rm.2.2.2.2 h20 (by omega)
        obtain ⟨τ, t1, t2⟩ := aft _ (bi is) _ o
        refine ⟨τ, ?_, t2⟩
        have e152 : xE tX_clauses_152 β σ [a, bi is, bi (!is), bi is, bi (!is), σ.2.1 32 a, σ.2.1 31 a] = some (τ, 0) := by
          rw [xq_clauses_152, kW_clauses_152, if_pos (by omega)]
          exact t1
        rw [xq_clauses, kW_clauses, if_pos ⟨by omega, by omega⟩, c3, if_neg (by decide), if_neg (by decide), if_neg (by decide), if_neg (by decide), if_neg (by decide), if_pos (by decide)]
        cases is
        · rw [if_pos (show bi false = 0 from rfl), xq_clauses_142, kW_clauses_142, if_pos (show bi false = 0 from rfl)]; exact e152
        · rw [if_neg (show ¬ bi true = 0 by decide), xq_clauses_142, kW_clauses_142, if_neg (show ¬ bi true = 0 by decide)]; exact e152
      · subst e
        rw [wK_7] at hK
        obtain ⟨R, hR⟩ : ∃ R, R = max (max (rF g1 true) (rF g1 false)) (max (rF g2 true) (rF g2 false)) := ⟨_, rfl⟩
        obtain ⟨e, he⟩ : ∃ e, e = max (eF g1) (eF g2) := ⟨_, rfl⟩
        have hRs : ∀ s t, rF g1 s ≤ R ∧ rF g2 t ≤ R := fun s t => by cases s <;> cases t <;> omega
        have hes : eF g1 ≤ e ∧ eF g2 ≤ e := by omega
        obtain ⟨C1, hC1⟩ : ∃ C, C = nF g1 (!is) * nF g2 true := ⟨_, rfl⟩
        obtain ⟨C2, hC2⟩ : ∃ C, C = (if is = true then nF g2 false * nF g1 true else nF g1 false * nF g2 false) := ⟨_, rfl⟩
        have m1 : σ.1 47 + 800 * ((C1 + C2 + R + (1 + e) : Nat) : Int) ≤ 420000 := by rw [hC1, hC2, hR, he]; exact m1
        have n1 : σ.1 65 + ((3 * (C1 + C2) + R + (1 + e) : Nat) : Int) ≤ 1200 := by rw [hC1, hC2, hR, he]; exact n1
        have hcb : cbin 7 (cFm w g1 E) (cFm w g2 E) is = eaE (cFm w g1 E (!is)) (cFm w g2 E true) ++ (if is = true then eaE (cFm w g2 E false) (cFm w g1 E true) else eaE (cFm w g1 E false) (cFm w g2 E false)) := rfl
        rw [show 4 + 3 = 7 from rfl, hcb]
        have rm1 : RMs (σ.1 47) (σ.1 65) (nF g1 (!is)) (nF g2 true) (rF g1 (!is)) (rF g2 true) (eF g1) (eF g2) false := RM_each (R := R) (e := e) (p1 _) (p2 _) (hRs _ _) hes (by rw [← hC1]; omega) (by rw [← hC1]; omega)
        obtain ⟨σ1, t1, o1⟩ := jnd_ok (s := !is) (t := true) (all := false) (β := β - 1) f1 f2 (i1 (!is)) (i2 true) c4 c5 hE w1 w2 b1 b2' (hK.1 _) (hK.2 _) h47 rm1.1 rm1.2.1 h65 rm1.2.2.1 rm1.2.2.2.1 rm1.2.2.2.2 h20 (by omega)
        have ejn : ∀ A B, jn false A B = eaE A B := fun A B => rfl
        rw [ejn] at o1
        have el1 : (eaE (cFm w g1 E (!is)) (cFm w g2 E true)).length = C1 := by rw [eaE_len, cFm_len g1 f1, cFm_len g2 f2, hC1]
        have start : xE tX_clauses β σ [a, bi is] = (if (σ1.1 3000) = 0 then (if bi is = 0 then (zbd (xE tX_joined2 (β - 1) σ1 [(σ1.2.1 31 a), (σ1.2.1 32 a), 0, 0, 0]) (fun σ2 r2 => if (σ2.1 3000) = 0 then (xE tX_clauses_320 β σ2 [a, bi is]) else (some (σ2, 0)))) else (zbd (xE tX_joined2 (β - 1) σ1 [(σ1.2.1 32 a), (σ1.2.1 31 a), 0, 1, 0]) (fun σ3 r3 => if (σ3.1 3000) = 0 then (xE tX_clauses_320 β σ3 [a, bi is]) else (some (σ3, 0))))) else (some (σ1, 0))) := by
          have e180 : ∀ y : Int, y = bi (!is) → xE tX_clauses_180 β σ [a, bi is, y, σ.2.1 32 a, σ.2.1 31 a] = (if (σ1.1 3000) = 0 then (if bi is = 0 then (zbd (xE tX_joined2 (β - 1) σ1 [(σ1.2.1 31 a), (σ1.2.1 32 a), 0, 0, 0]) (fun σ2 r2 => if (σ2.1 3000) = 0 then (xE tX_clauses_320 β σ2 [a, bi is]) else (some (σ2, 0)))) else (zbd (xE tX_joined2 (β - 1) σ1 [(σ1.2.1 32 a), (σ1.2.1 31 a), 0, 1, 0]) (fun σ3 r3 => if (σ3.1 3000) = 0 then (xE tX_clauses_320 β σ3 [a, bi is]) else (some (σ3, 0))))) else (some (σ1, 0))) := fun y hy => by
            rw [xq_clauses_180, kW_clauses_180, if_pos (show 1 ≤ β by omega), hy, zbd_of (show xE tX_joined2 (β - 1) σ [σ.2.1 31 a, σ.2.1 32 a, bi (!is), 1, 0] = some (σ1, 0) from t1)]
            by_cases c0 : σ1.1 3000 = 0
            · rw [if_pos c0, if_pos c0]
              by_cases c9 : bi is = 0
              · rw [if_pos c9, if_pos c9, if_pos (show zb a 20100 from ⟨by omega, by omega⟩), if_pos (show 1 ≤ β by omega)]
              · rw [if_neg c9, if_neg c9, if_pos (show zb a 20100 from ⟨by omega, by omega⟩), if_pos (show 1 ≤ β by omega)]
            · rw [if_neg c0, if_neg c0]
          rw [xq_clauses, kW_clauses, if_pos ⟨by omega, by omega⟩, c3, if_neg (by decide), if_neg (by decide), if_neg (by decide), if_neg (by decide), if_neg (by decide), if_neg (by decide)]
          cases is
          · rw [if_pos (show bi false = 0 from rfl)]; exact e180 1 rfl
          · rw [if_neg (show ¬ bi true = 0 by decide)]; exact e180 0 rfl
        rw [start]
        rcases o1 with o1 | o1
        · obtain ⟨d1, d2, d3, d4, d5, d6, d7⟩ := o1
          rw [el1] at d5
          have hl8 := lsz_8 d7
          rw [el1] at hl8
          rw [if_pos d1, d2.2.2.1 31 _ (by decide), d2.2.2.1 32 _ (by decide)]
          have i37 := d2.1 37 (by decide) (by decide) (by decide) (by decide)
          have i38 := d2.1 38 (by decide) (by decide) (by decide) (by decide)
          have i40 := d2.1 40 (by decide) (by decide) (by decide) (by decide)
          have ck : ∀ (f : Tm) (s : Bool), wK (fun v => 0 ≤ cl (w v) ∧ σ.2.1 23 (v : Int) = cl (w v)) f s → wK (fun v => 0 ≤ cl (w v) ∧ σ1.2.1 23 (v : Int) = cl (w v)) f s := fun f s hk => by
            rw [show (fun v : Nat => 0 ≤ cl (w v) ∧ σ1.2.1 23 (v : Int) = cl (w v)) = (fun v : Nat => 0 ≤ cl (w v) ∧ σ.2.1 23 (v : Int) = cl (w v)) from funext (fun v => by rw [d2.2.2.1 23 _ (by decide)])]
            exact hk
          -- the second half
          have half : ∀ (call : Option zR) (B : List (List Lt)), B.length = C2 → (∃ τ, call = some (τ, 0) ∧ (COk w σ1 τ E B ∨ CBad σ1 τ B)) → ∃ τ, zbd call (fun σ2 _ => if (σ2.1 3000) = 0 then (xE tX_clauses_320 β σ2 [a, bi is]) else (some (σ2, 0))) = some (τ, 0) ∧ (COk w σ τ E (eaE (cFm w g1 E (!is)) (cFm w g2 E true) ++ B) ∨ CBad σ τ (eaE (cFm w g1 E (!is)) (cFm w g2 E true) ++ B)) := fun call B hB2 hc => by
            obtain ⟨τ, u1, u2⟩ := hc
            rw [zbd_of u1]
            rcases u2 with u2 | u2
            · obtain ⟨v1, v2, v3, v4, v5, v6, v7⟩ := u2
              rw [if_pos v1, e320]
              refine ⟨_, rfl, Or.inl (COk.z ⟨v1, d2.tr v2 (by omega), v3, fun i c hc => ?_, by rw [v5, d5, List.length_append, el1]; omega, by rw [lsz_app]; omega, fun c hc => ?_⟩)⟩
              · by_cases ci : i < C1
                · rw [List.getElem?_append_left (by rw [el1]; exact ci)] at hc
                  exact (d4.c v2 (by rw [el1]; omega)) i c hc
                · rw [List.getElem?_append_right (by rw [el1]; omega), el1] at hc
                  have := v4 _ c hc
                  rw [d5, show σ.1 65 + (C1 : Int) + ((i - C1 : Nat) : Int) = σ.1 65 + (i : Int) by omega] at this
                  exact this
              · rcases List.mem_append.mp hc with hc | hc
                · exact d7 c hc
                · exact v7 c hc
            · rw [if_neg (by rw [u2.1]; decide)]
              exact ⟨τ, rfl, Or.inr ⟨u2.1, d2.tr u2.2.1 (by omega), Bd_ar u2.2.2⟩⟩
          cases is
          · rw [if_pos (show bi false = 0 from rfl), if_neg (by decide)]
            rw [if_neg (by decide)] at hC2
            have rm2 : RMs (σ1.1 47) (σ1.1 65) (nF g1 false) (nF g2 false) (rF g1 false) (rF g2 false) (eF g1) (eF g2) false := RM_each (R := R) (e := e) (p1 _) (p2 _) (hRs _ _) hes (by rw [← hC2]; omega) (by rw [← hC2]; omega)
            refine half _ _ (by rw [eaE_len, cFm_len g1 f1, cFm_len g2 f2, hC2]) ?_
            exact jnd_ok (s := false) (t := false) (all := false) (β := β - 1) f1 f2 (i1 false) (i2 false) (c4.x d2.ex) (c5.x d2.ex) d3 w1 w2 b1 b2' (ck _ _ (hK.1 _)) (ck _ _ (hK.2 _)) (by have := d2.2.2.2.2.1; omega) rm2.1 rm2.2.1 (by omega) rm2.2.2.1 rm2.2.2.2.1 rm2.2.2.2.2 (by rw [i37, i38, i40]; exact h20) (by omega)
          · rw [if_neg (show ¬ bi true = 0 by decide), if_pos rfl]
            rw [if_pos rfl] at hC2
            have rm2 : RMs (σ1.1 47) (σ1.1 65) (nF g2 false) (nF g1 true) (rF g2 false) (rF g1 true) (eF g2) (eF g1) false := RM_each (R := R) (e := e) (p2 _) (p1 _) ⟨(hRs true _).2, (hRs _ true).1⟩ ⟨hes.2, hes.1⟩ (by rw [← hC2]; omega) (by rw [← hC2]; omega)
            refine half _ _ (by rw [eaE_len, cFm_len g1 f1, cFm_len g2 f2, hC2]) ?_
            exact jnd_ok (s := false) (t := true) (all := false) (β := β - 1) f2 f1 (i2 false) (i1 true) (c5.x d2.ex) (c4.x d2.ex) d3 w2 w1 b2' b1 (ck _ _ (hK.2 _)) (ck _ _ (hK.1 _)) (by have := d2.2.2.2.2.1; omega) rm2.1 rm2.2.1 (by omega) rm2.2.2.1 rm2.2.2.2.1 rm2.2.2.2.2 (by rw [i37, i38, i40]; exact h20) (by omega)
        · rw [if_neg (by rw [o1.1]; decide)]
          exact ⟨σ1, rfl, Or.inr ⟨o1.1, o1.2.1, Bd_al o1.2.2⟩⟩
    · subst c4
      have fg := FS_qn cnt hf
      have hg := FH_qn cnt hH
      obtain ⟨lo, hi, hu, hu3⟩ := hU
      obtain ⟨lo2, hi2, hu2, hu4, hu5⟩ := UQs_qn c1 cnt hu
      have hlo := hu5 c2
      have hkd : (kd = 0 ∨ kd = 1) := by omega
      obtain ⟨stay, hst⟩ : ∃ x, x = (is == (kd == 0)) := ⟨_, rfl⟩
      obtain ⟨hq1, hK2⟩ := wK_qn c1 cnt hK
      rw [← hst] at hq1
      rw [nF_qn, rF_qnt, eF_qn] at m1 n1
      rw [cFm_qn c1, ← hst]
      have bq : ∀ v, (bnF (tt g) v ∨ (first ≤ v ∧ v < first + cnt)) → v ∉ keysE E := fun v hv => hB v (bnF_qn c1 cnt hv)
      have em : Int.tmod (σ.2.1 32 a) 1000 = (cnt : Int) := by rw [c6, Int.tmod_eq_emod_of_nonneg (by omega)]; omega
      have ed : Int.tdiv (σ.2.1 32 a) 1000 = (first : Int) := by rw [c6, Int.tdiv_eq_ediv_of_nonneg (by omega)]; omega
      have hl62 : σ.1 62 = (E.length : Int) := hE.1
      have loop : ∀ (m x : Nat) (ρ : zS), x + m = cnt → REv w ρ (qE w stay first x E) → FrC [62] [59, 60, 61] σ ρ → ρ.2.2 = σ.2.2 → ∃ ρ2, xE tX_clauses_241 β ρ [a, bi is, (E.length : Int), (x : Int)] = xE tX_clauses_241 β ρ2 [a, bi is, (E.length : Int), (cnt : Int)] ∧ REv w ρ2 (qE w stay first cnt E) ∧ FrC [62] [59, 60, 61] σ ρ2 ∧ ρ2.2.2 = σ.2.2 := by
        intro m
        induction m with
        | zero =>
          intro x ρ hx hR2 f fl
          rw [show x = cnt by omega] at hR2 ⊢
          exact ⟨ρ, rfl, hR2, f, fl⟩
        | succ m ihm =>
          intro x ρ hx hR2 f fl
          have hv : first + x < 300 := by have := hu2.le; omega
          have hnk : first + x ∉ keysE (qE w stay first x E) := fun hk => by
            rcases (qE_mem x E).mp hk with hk | hk
            · exact bq _ (Or.inr ⟨by omega, by omega⟩) hk
            · omega
          obtain ⟨ρ1, t1, t2, t3, _, _, t6⟩ := rbind_ok (β := β - 1) hR2 hv hnk (stay := stay) (fun hs => by
            have := hq1 hs x (by omega)
            exact ⟨this.1, by rw [f.a 23]; exact this.2⟩)
          obtain ⟨ρ2, u1, u2, u3⟩ := ihm (x + 1) ρ1 (by omega) t2 (f.trans t3) (by rw [t6]; exact fl)
          refine ⟨ρ2, ?_, u2, u3⟩
          rw [← u1]
          have e295 : ∀ y : Int, y = bi stay → xE tX_clauses_295 β ρ [a, bi is, (E.length : Int), (x : Int), y, (first : Int) + (x : Int)] = xE tX_clauses_241 β ρ1 [a, bi is, (E.length : Int), ((x + 1 : Nat) : Int)] := fun y hy => by
            rw [xq_clauses_295, kW_clauses_295, if_pos (by omega), hy, show (first : Int) + (x : Int) = ((first + x : Nat) : Int) by omega, zbd_of t1, if_pos ⟨by omega, by omega⟩]
            rfl
          have e286 : ∀ y : Int, y = bi (kd == 0) → xE tX_clauses_286 β ρ [a, bi is, (E.length : Int), (x : Int), y, (first : Int) + (x : Int)] = xE tX_clauses_241 β ρ1 [a, bi is, (E.length : Int), ((x + 1 : Nat) : Int)] := fun y hy => by
            rw [xq_clauses_286, kW_clauses_286, hy]
            rcases hkd with e | e <;> subst e <;> cases is <;> (have hst : stay = _ := hst.trans rfl) <;> subst hst
            · rw [if_neg (by decide)]; exact e295 0 rfl
            · rw [if_pos (by decide)]; exact e295 1 rfl
            · rw [if_pos (by decide)]; exact e295 1 rfl
            · rw [if_neg (by decide)]; exact e295 0 rfl
          rw [xq_clauses_241, kW_clauses_241, if_pos ⟨by omega, by omega⟩, f.a 32, em, if_neg (by omega), f.a 30, c5, ed]
          rcases hkd with e | e
          · subst e
            rw [if_pos (by decide), if_pos ⟨by omega, by omega⟩, if_pos ⟨by omega, by omega⟩]
            exact e286 1 rfl
          · subst e
            rw [if_neg (by decide), if_pos ⟨by omega, by omega⟩, if_pos ⟨by omega, by omega⟩]
            exact e286 0 rfl
      obtain ⟨ρ, u1, u2, u3, u4⟩ := loop cnt 0 σ (by omega) hE FrC.refl rfl
      have fρ : CLf σ ρ := ⟨fun j x1 x2 x3 x4 => u3.1 j (by simp [x2]), u4, fun j q hj => u3.2.1 j q (by
          cases he : ([59, 60, 61] : List Nat).elem j with
          | false => rfl
          | true =>
            have hm := List.elem_iff.mp he
            simp only [List.mem_cons, List.not_mem_nil, or_false] at hm
            rcases hm with e | e | e <;> subst e <;> exact absurd hj (by decide)), fun k q _ hk => u3.2.1 k q (by rcases hk with e | e | e | e <;> subst e <;> decide), by rw [u3.i 47]; exact Int.le_refl _, fun q _ => u3.a 63 q, fun q _ => u3.a 64 q⟩
      have i65 := u3.i 65
      have i47 := u3.i 47
      have i37 := u3.i 37
      have i38 := u3.i 38
      have i40 := u3.i 40
      have hW2 : WFo1 nm g (fun v => ∃ x ∈ qE w stay first cnt E, (x.1 : Int) = v) := by
        refine (WFo_qn c1 cnt hW).mono NmE.rf (fun v hv => ?_)
        have key : ∀ u : Nat, u ∈ keysE (qE w stay first cnt E) → ∃ x ∈ qE w stay first cnt E, (x.1 : Int) = (u : Int) := fun u hu => by
          obtain ⟨x, hx, e⟩ := List.mem_map.mp hu
          exact ⟨x, hx, by rw [← e]⟩
        rcases hv with ⟨x, hx, e⟩ | hv
        · rw [← e]
          exact key x.1 ((qE_mem cnt E).mpr (Or.inl (List.mem_map.mpr ⟨x, hx, rfl⟩)))
        · have := key v.toNat ((qE_mem cnt E).mpr (Or.inr ⟨by omega, by omega⟩))
          rw [Int.toNat_of_nonneg (by omega)] at this
          exact this
      have hB2 : ∀ v, bnF (tt g) v → v ∉ keysE (qE w stay first cnt E) := fun v hv hk => by
        rcases (qE_mem cnt E).mp hk with hk | hk
        · exact bq v (Or.inl hv) hk
        · have := hu2.b hv
          omega
      have hK3 : wK (fun v => 0 ≤ cl (w v) ∧ ρ.2.1 23 (v : Int) = cl (w v)) g is := by
        rw [show (fun v : Nat => 0 ≤ cl (w v) ∧ ρ.2.1 23 (v : Int) = cl (w v)) = (fun v : Nat => 0 ≤ cl (w v) ∧ σ.2.1 23 (v : Int) = cl (w v)) from funext (fun v => by rw [u3.a 23])]
        exact hK2
      obtain ⟨τ, t1, t2⟩ := ih g fg hg ⟨lo2, hi2, hu2, by omega⟩ is (σ.2.1 31 a) (qE w stay first cnt E) ρ (β - 1) (c7.x fρ.ex) u2 hW2 hB2 hK3 (by omega) (by omega) (by omega) (by omega) (by rw [i37, i38, i40]; exact h20) (by omega)
      have start : xE tX_clauses β σ [a, bi is] = (if (τ.1 3000) = 0 then xE tX_clauses_320 β (zI τ 62 (E.length : Int)) [a, bi is] else some (τ, 0)) := by
        have e0 : xE tX_clauses β σ [a, bi is] = xE tX_clauses_241 β σ [a, bi is, (E.length : Int), ((0 : Nat) : Int)] := by
          rw [xq_clauses, kW_clauses, if_pos ⟨by omega, by omega⟩, c5, if_pos (by omega), hl62]
          rfl
        rw [e0, u1, xq_clauses_241, kW_clauses_241, if_pos ⟨by omega, by omega⟩, u3.a 32, em, if_pos (by omega), if_pos (by omega), u3.a 31, zbd_of t1]
        by_cases c0 : τ.1 3000 = 0
        · rw [if_pos c0, if_pos c0, lt_e]
        · rw [if_neg c0, if_neg c0]
      rw [start]
      rcases t2 with t2 | t2
      · obtain ⟨d1, d2, d3, d4, d5, d6, d7⟩ := t2
        rw [if_pos d1, e320]
        obtain ⟨X, hX, _⟩ := qE_pre (w := w) (stay := stay) (first := first) cnt E
        rw [hX] at d3
        have fτ : CLf σ τ := fρ.tr d2 (by omega)
        have z1 : ∀ j, j ≠ 62 → (zI τ 62 (E.length : Int)).1 j = τ.1 j := fun j hj => by simp [zI, hj]
        have fz : CLf σ (zI τ 62 (E.length : Int)) := by
          obtain ⟨a1, a2, a3, a4, a5, a6, a7⟩ := fτ
          exact ⟨fun j x1 x2 x3 x4 => by rw [z1 j x2]; exact a1 j x1 x2 x3 x4, a2, a3, a4, by rw [z1 47 (by decide)]; exact a5, a6, a7⟩
        have d4' : RRs (zI τ 62 (E.length : Int)) (σ.1 65) (cFm w g (qE w stay first cnt E) is) := fun i c hc => by
          have := d4 i c hc
          rw [i65] at this
          exact this.m (fun k q _ _ => rfl) (by rw [z1 47 (by decide)]; exact Int.le_refl _) (fun q _ _ => rfl) rfl
        exact ⟨_, rfl, Or.inl (COk.z ⟨by rw [z1 3000 (by decide)]; exact d1, fz, d3.pre, d4', by rw [z1 65 (by decide), d5, i65], by rw [z1 47 (by decide)]; omega, d7⟩)⟩
      · rw [if_neg (by rw [t2.1]; decide)]
        exact ⟨τ, rfl, Or.inr ⟨t2.1, fρ.tr t2.2.1 (by omega), t2.2.2⟩⟩
