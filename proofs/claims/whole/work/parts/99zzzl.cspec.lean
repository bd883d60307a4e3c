/-! what a FORMULA's CLAUSES are -/
/-- VARIABLES around, outermost first, each with its TERM -/
abbrev VE : Type := List (Nat × Tm)
def eT : VE → T
  | [] => nl
  | x :: E => nd x.2.1 x.2.2 (eT E)
def eV : VE → Int → Tm
  | [], v => vt v
  | x :: E, v => if (x.1 : Int) = v then x.2 else eV E v
/-- one more is bound: it stays, or its WITNESS of all around stands for it -/
def bE (w : Nat → Nat) (E : VE) (v : Nat) (stay : Bool) : VE := E ++ [(v, if stay = true then vt (v : Int) else (w v, eT E))]
abbrev C2 : Type := Bool → List (List Lt)
def eaE (A B : List (List Lt)) : List (List Lt) := A.flatMap (fun a => B.map (fun b => a ++ b))
def jn (both : Bool) (A B : List (List Lt)) : List (List Lt) := if both = true then A ++ B else eaE A B
def cbin (l : Nat) (a b : C2) (is : Bool) : List (List Lt) :=
  if l = 4 then jn is (a is) (b is) else if l = 5 then jn (!is) (a is) (b is) else if l = 6 then jn (!is) (a (!is)) (b is)
  else eaE (a (!is)) (b true) ++ (if is = true then eaE (b false) (a true) else eaE (a false) (b false))
def hdT : T → Tm
  | .leaf _ => (0, nl)
  | .branch l k _ => (l, k)
def tlT : T → T
  | .leaf _ => nl
  | .branch _ _ s => s
/-- the LITERAL of an ATOM -/
def clt (θ : Vs) (l : Nat) (k : T) (is : Bool) : Lt :=
  (if is = (l != 1) then 1 else 0, (if l ≤ 1 then st θ (hdT k) else ((hdT k).1, su θ (hdT k).2)), (if l ≤ 1 then st θ (hdT (tlT k)) else (0, nl)))
def cn (w : Nat → Nat) : T → VE → List C2
  | .leaf _, _ => []
  | .branch l k s, E => (fun is => if l ≤ 2 then [[clt (eV E) l k is]] else if l = 3 then (cn w k E).getD 0 (fun _ => []) (!is) else if l ≤ 7 then cbin l ((cn w k E).getD 0 (fun _ => [])) ((cn w k E).getD 1 (fun _ => [])) is else (cn w k (bE w E ((l - 8) / 2) (is == (l % 2 == 0)))).getD 0 (fun _ => []) is) :: cn w s E
def cFm (w : Nat → Nat) (f : Tm) (E : VE) : C2 := (cn w (tt f) E).getD 0 (fun _ => [])
theorem cFm_at {w : Nat → Nat} {l : Nat} {k : T} {E : VE} {is : Bool} (h : l ≤ 2) : cFm w (l, k) E is = [[clt (eV E) l k is]] := by
  show (if l ≤ 2 then _ else _) = _
  rw [if_pos h]
theorem cFm_not {w : Nat → Nat} {g : Tm} {E : VE} {is : Bool} : cFm w (mk1 3 g) E is = cFm w g E (!is) := rfl
theorem cFm_bin {w : Nat → Nat} {l : Nat} {g h : Tm} {E : VE} {is : Bool} (h1 : 4 ≤ l) (h2 : l ≤ 7) : cFm w (mk2 l g h) E is = cbin l (cFm w g E) (cFm w h E) is := by
  show (if l ≤ 2 then _ else if l = 3 then _ else if l ≤ 7 then cbin l (cFm w g E) (cFm w h E) is else _) = _
  rw [if_neg (by omega), if_neg (by omega), if_pos h2]
theorem cFm_q {w : Nat → Nat} {l : Nat} {g : Tm} {E : VE} {is : Bool} (h : 8 ≤ l) : cFm w (mk1 l g) E is = cFm w g (bE w E ((l - 8) / 2) (is == (l % 2 == 0))) is := by
  show (if l ≤ 2 then _ else if l = 3 then _ else if l ≤ 7 then _ else cFm w g (bE w E ((l - 8) / 2) (is == (l % 2 == 0))) is) = _
  rw [if_neg (by omega), if_neg (by omega), if_neg (by omega)]
/-- the shape of FORMULAS -/
def FS : T → Prop
  | .leaf _ => True
  | .branch l k s => (if l ≤ 1 then len k = 2 else if l = 2 then len k = 1 else if l ≤ 3 then len k = 1 ∧ FS k else if l ≤ 7 then len k = 2 ∧ FS k else len k = 1 ∧ FS k) ∧ FS s
theorem len1 {k : T} (h : len k = 1) : ∃ l g, k = nd l g nl := by
  match k with
  | .leaf _ => simp [len] at h
  | .branch l g s =>
    simp only [len] at h
    have := len0 (F := s) (by omega)
    exact ⟨l, g, by rw [this]⟩
theorem len2 {k : T} (h : len k = 2) : ∃ l g l2 g2, k = nd l g (nd l2 g2 nl) := by
  match k with
  | .leaf _ => simp [len] at h
  | .branch l g s =>
    simp only [len] at h
    obtain ⟨l2, g2, e⟩ := len1 (k := s) (by omega)
    exact ⟨l, g, l2, g2, by rw [e]⟩
theorem FO_ind {P : Tm → Prop} (hA : ∀ l1 k1 l2 k2 l, l ≤ 1 → P (l, nd l1 k1 (nd l2 k2 nl))) (hP : ∀ h g, P (2, nd h g nl)) (hN : ∀ g, FS (tt g) → P g → P (mk1 3 g)) (hB : ∀ l g h, 4 ≤ l → l ≤ 7 → FS (tt g) → FS (tt h) → P g → P h → P (mk2 l g h)) (hQ : ∀ l g, 8 ≤ l → FS (tt g) → P g → P (mk1 l g)) : ∀ f, FS (tt f) → P f := by
  have main : ∀ (n : Nat) (f : Tm), wt f.2 ≤ n → FS (tt f) → P f := by
    intro n
    induction n with
    | zero =>
      intro f hf h
      obtain ⟨l, k⟩ := f
      have hk : k = nl := wt0 (by simpa using hf)
      subst hk
      have h := h.1
      simp only [len] at h
      by_cases c1 : l ≤ 1
      · rw [if_pos c1] at h; omega
      rw [if_neg c1] at h
      by_cases c2 : l = 2
      · rw [if_pos c2] at h; omega
      rw [if_neg c2] at h
      by_cases c3 : l ≤ 3
      · rw [if_pos c3] at h; omega
      rw [if_neg c3] at h
      by_cases c4 : l ≤ 7
      · rw [if_pos c4] at h; omega
      rw [if_neg c4] at h; omega
    | succ n ih =>
      intro f hf h
      obtain ⟨l, k⟩ := f
      have h := h.1
      have hf : wt k ≤ n + 1 := hf
      by_cases c1 : l ≤ 1
      · rw [if_pos c1] at h
        obtain ⟨l1, k1, l2, k2, e⟩ := len2 h
        have e : k = nd l1 k1 (nd l2 k2 nl) := e
        subst e; exact hA l1 k1 l2 k2 l c1
      rw [if_neg c1] at h
      by_cases c2 : l = 2
      · rw [if_pos c2] at h
        obtain ⟨l1, k1, e⟩ := len1 h
        have e : k = nd l1 k1 nl := e
        subst e; subst c2; exact hP l1 k1
      rw [if_neg c2] at h
      by_cases c3 : l ≤ 3
      · rw [if_pos c3] at h
        obtain ⟨l1, k1, e⟩ := len1 h.1
        subst e
        have : l = 3 := by omega
        subst this
        simp only [wt] at hf
        exact hN (l1, k1) h.2 (ih (l1, k1) (by show wt k1 ≤ n; omega) h.2)
      rw [if_neg c3] at h
      by_cases c4 : l ≤ 7
      · rw [if_pos c4] at h
        obtain ⟨l1, k1, l2, k2, e⟩ := len2 h.1
        subst e
        simp only [wt] at hf
        have q1 : FS (tt (l1, k1)) := ⟨h.2.1, trivial⟩
        exact hB l (l1, k1) (l2, k2) (by omega) c4 q1 h.2.2 (ih (l1, k1) (by show wt k1 ≤ n; omega) q1) (ih (l2, k2) (by show wt k2 ≤ n; omega) h.2.2)
      rw [if_neg c4] at h
      obtain ⟨l1, k1, e⟩ := len1 h.1
      subst e
      simp only [wt] at hf
      exact hQ l (l1, k1) (by omega) h.2 (ih (l1, k1) (by show wt k1 ≤ n; omega) h.2)
  exact fun f h => main _ f (Nat.le_refl _) h
theorem FS_of {nm : PN} : ∀ {F : T} {V : Int → Prop}, WFo nm F V → FS F
  | .leaf _, _, _ => trivial
  | .branch l k s, V, h => by
    obtain ⟨h1, h2⟩ := h
    refine ⟨?_, FS_of h2⟩
    by_cases c1 : l ≤ 1
    · rw [if_pos c1] at h1 ⊢; exact h1.1
    rw [if_neg c1] at h1 ⊢
    by_cases c2 : l = 2
    · rw [if_pos c2] at h1 ⊢
      obtain ⟨a, b, x, e, _⟩ := h1
      rw [e]; rfl
    rw [if_neg c2] at h1 ⊢
    by_cases c3 : l = 3
    · rw [if_pos c3] at h1
      rw [if_pos (by omega)]
      exact ⟨h1.1, FS_of h1.2⟩
    rw [if_neg c3] at h1
    rw [if_neg (by omega)]
    by_cases c4 : l ≤ 7
    · rw [if_pos c4] at h1 ⊢
      exact ⟨h1.1, FS_of h1.2⟩
    rw [if_neg c4] at h1 ⊢
    exact ⟨h1.1, FS_of h1.2⟩
/-! how many they are -/
abbrev N2 : Type := Bool → Nat
def nbin (l : Nat) (a b : N2) (is : Bool) : Nat :=
  if l = 4 then (if is = true then a is + b is else a is * b is) else if l = 5 then (if is = true then a is * b is else a is + b is) else if l = 6 then (if is = true then a (!is) * b is else a (!is) + b is)
  else a (!is) * b true + (if is = true then b false * a true else a false * b false)
def nn : T → List N2
  | .leaf _ => []
  | .branch l k s => (fun is => if l ≤ 2 then 1 else if l = 3 then (nn k).getD 0 (fun _ => 1) (!is) else if l ≤ 7 then nbin l ((nn k).getD 0 (fun _ => 1)) ((nn k).getD 1 (fun _ => 1)) is else (nn k).getD 0 (fun _ => 1) is) :: nn s
def nF (f : Tm) : N2 := (nn (tt f)).getD 0 (fun _ => 1)
theorem nF_at {l : Nat} {k : T} {is : Bool} (h : l ≤ 2) : nF (l, k) is = 1 := by
  show (if l ≤ 2 then _ else _) = _
  rw [if_pos h]
theorem nF_not {g : Tm} {is : Bool} : nF (mk1 3 g) is = nF g (!is) := rfl
theorem nF_bin {l : Nat} {g h : Tm} {is : Bool} (h1 : 4 ≤ l) (h2 : l ≤ 7) : nF (mk2 l g h) is = nbin l (nF g) (nF h) is := by
  show (if l ≤ 2 then _ else if l = 3 then _ else if l ≤ 7 then nbin l (nF g) (nF h) is else _) = _
  rw [if_neg (by omega), if_neg (by omega), if_pos h2]
theorem nF_q {l : Nat} {g : Tm} {is : Bool} (h : 8 ≤ l) : nF (mk1 l g) is = nF g is := by
  show (if l ≤ 2 then _ else if l = 3 then _ else if l ≤ 7 then _ else nF g is) = _
  rw [if_neg (by omega), if_neg (by omega), if_neg (by omega)]
theorem nbin_1 {l : Nat} {a b : N2} (ha : ∀ s, 1 ≤ a s) (hb : ∀ s, 1 ≤ b s) (is : Bool) : 1 ≤ nbin l a b is := by
  have m : ∀ s t, 1 ≤ a s * b t := fun s t => Nat.mul_pos (ha s) (hb t)
  unfold nbin
  have h1 := ha is
  have h2 := hb is
  have h3 := ha (!is)
  split
  · split
    · omega
    · exact m _ _
  split
  · split
    · exact m _ _
    · omega
  split
  · split
    · exact m _ _
    · omega
  · have := m (!is) true
    omega
theorem nF_1 : ∀ f, FS (tt f) → ∀ is, 1 ≤ nF f is :=
  FO_ind (fun l1 k1 l2 k2 l h is => by rw [nF_at (by omega)]; omega) (fun h g is => by rw [nF_at (by omega)]; omega) (fun g _ ih is => by rw [nF_not]; exact ih _) (fun l g h h1 h2 _ _ i1 i2 is => by rw [nF_bin h1 h2]; exact nbin_1 i1 i2 is) (fun l g h _ ih is => by rw [nF_q h]; exact ih is)
theorem eaE_len (A B : List (List Lt)) : (eaE A B).length = A.length * B.length := by
  unfold eaE
  induction A with
  | nil => simp
  | cons a A ih => rw [List.flatMap_cons, List.length_append, ih, List.length_map, List.length_cons, Nat.add_mul]; omega
theorem jn_len (b : Bool) (A B : List (List Lt)) : (jn b A B).length = if b = true then A.length + B.length else A.length * B.length := by
  unfold jn
  split
  · rw [List.length_append]
  · rw [eaE_len]
theorem cbin_len {l : Nat} {a b : C2} {x y : N2} (ha : ∀ s, (a s).length = x s) (hb : ∀ s, (b s).length = y s) (is : Bool) : (cbin l a b is).length = nbin l x y is := by
  unfold cbin nbin
  split
  · rw [jn_len, ha, hb]
  split
  · rw [jn_len, ha, hb]
    cases is <;> rfl
  split
  · rw [jn_len, ha, hb]
    cases is <;> rfl
  · rw [List.length_append, eaE_len, ha, hb]
    congr 1
    split
    · rw [eaE_len, ha, hb]
    · rw [eaE_len, ha, hb]
theorem cFm_len {w : Nat → Nat} : ∀ f, FS (tt f) → ∀ E is, (cFm w f E is).length = nF f is :=
  FO_ind (fun l1 k1 l2 k2 l h E is => by rw [nF_at (by omega), cFm_at (by omega)]; rfl) (fun h g E is => by rw [nF_at (by omega), cFm_at (by omega)]; rfl) (fun g _ ih E is => by rw [nF_not, cFm_not]; exact ih _ _) (fun l g h h1 h2 _ _ i1 i2 E is => by rw [nF_bin h1 h2, cFm_bin h1 h2]; exact cbin_len (i1 E) (i2 E) is) (fun l g h _ ih E is => by rw [nF_q h, cFm_q h]; exact ih _ is)
/-- CLAUSE i of each with each -/
theorem eaE_get : ∀ {A B : List (List Lt)} {i : Nat}, i < A.length * B.length → ∃ a b, A[i / B.length]? = some a ∧ B[i % B.length]? = some b ∧ (eaE A B)[i]? = some (a ++ b)
  | [], B, i, h => by simp at h
  | a :: A, B, i, h => by
    have e : eaE (a :: A) B = B.map (fun b => a ++ b) ++ eaE A B := List.flatMap_cons
    rw [e]
    simp only [List.length_cons, Nat.add_mul, Nat.one_mul] at h
    have hB : 0 < B.length := by
      rcases Nat.eq_zero_or_pos B.length with h0 | h0
      · rw [h0] at h; simp at h
      · exact h0
    by_cases c : i < B.length
    · refine ⟨a, B[i], ?_, ?_, ?_⟩
      · rw [Nat.div_eq_of_lt c]; rfl
      · rw [Nat.mod_eq_of_lt c]; exact List.getElem?_eq_getElem c
      · rw [List.getElem?_append_left (by rw [List.length_map]; exact c), List.getElem?_map, List.getElem?_eq_getElem c]; rfl
    · obtain ⟨x, y, h1, h2, h3⟩ := eaE_get (A := A) (B := B) (i := i - B.length) (by omega)
      refine ⟨x, y, ?_, ?_, ?_⟩
      · rw [Nat.div_eq_sub_div hB (by omega), List.getElem?_cons_succ]; exact h1
      · rw [Nat.mod_eq_sub_mod (by omega)]; exact h2
      · rw [List.getElem?_append_right (by rw [List.length_map]; omega), List.length_map]; exact h3
/-- the numbers as both programs count them -/
def cp1 (x : Nat) : Int := if 201 < (x : Int) then 201 else (x : Int)
theorem cp1_mul {a b : Nat} (ha : 1 ≤ a) (hb : 1 ≤ b) : (if 201 < cp1 a * cp1 b then (201 : Int) else cp1 a * cp1 b) = cp1 (a * b) := by
  have m1 : b ≤ a * b := Nat.le_mul_of_pos_left b ha
  have m2 : a ≤ a * b := Nat.le_mul_of_pos_right a hb
  by_cases h1 : 201 < a
  · have e1 : cp1 a = 201 := by unfold cp1; rw [if_pos (by omega)]
    have e2 : cp1 (a * b) = 201 := by unfold cp1; rw [if_pos (by omega)]
    rw [e1, e2]
    have : 1 ≤ cp1 b := by unfold cp1; split <;> omega
    split <;> omega
  · have e1 : cp1 a = (a : Int) := by unfold cp1; rw [if_neg (by omega)]
    by_cases h2 : 201 < b
    · have e2 : cp1 b = 201 := by unfold cp1; rw [if_pos (by omega)]
      have e3 : cp1 (a * b) = 201 := by unfold cp1; rw [if_pos (by omega)]
      rw [e1, e2, e3]
      split <;> omega
    · have e2 : cp1 b = (b : Int) := by unfold cp1; rw [if_neg (by omega)]
      rw [e1, e2, ← Int.natCast_mul]
      rfl
theorem cp1_add {a b : Nat} : (if 201 < cp1 a + cp1 b then (201 : Int) else cp1 a + cp1 b) = cp1 (a + b) := by
  unfold cp1
  split <;> split <;> split <;> (try split) <;> omega
theorem cp1_am {a b : Nat} {x : Int} (h0 : 1 ≤ a) (h : (if 201 < x then (201 : Int) else x) = cp1 b) (h1 : 1 ≤ b) : (if 201 < cp1 a + x then (201 : Int) else cp1 a + x) = cp1 (a + b) := by
  unfold cp1 at *
  split at h <;> split at h <;> (split <;> split <;> (try split) <;> omega)
theorem cp1_mm {a b : Nat} {x y : Int} (h : (if 201 < x then (201 : Int) else x) = cp1 a) (h2 : (if 201 < y then (201 : Int) else y) = cp1 b) (h3 : 1 ≤ a) (h4 : 1 ≤ b) : (if 201 < x + y then (201 : Int) else x + y) = cp1 (a + b) := by
  unfold cp1 at *
  split at h <;> split at h <;> split at h2 <;> split at h2 <;> (split <;> split <;> omega)
theorem cp1_mm2 {a b c d : Nat} (ha : 1 ≤ a) (hb : 1 ≤ b) (hc : 1 ≤ c) (hd : 1 ≤ d) : (if 201 < cp1 a * cp1 b + cp1 c * cp1 d then (201 : Int) else cp1 a * cp1 b + cp1 c * cp1 d) = cp1 (a * b + c * d) := cp1_mm (cp1_mul ha hb) (cp1_mul hc hd) (Nat.mul_pos ha hb) (Nat.mul_pos hc hd)
theorem cp1_c (a : Nat) : (if 201 < cp1 a then (201 : Int) else cp1 a) = cp1 a := by
  unfold cp1
  split <;> (try split) <;> omega
theorem cp2_cp1 {a b : Nat} : cp2 (cp1 a, cp1 b) = (cp1 a, cp1 b) := by
  show ((if 201 < cp1 a then (201 : Int) else cp1 a), (if 201 < cp1 b then (201 : Int) else cp1 b)) = _
  rw [cp1_c, cp1_c]
/-- what the class holds at the nodes -/
theorem cns_n : ∀ f : Tm, FS (tt f) → cns (tt f) = [(cp1 (nF f false), cp1 (nF f true))] := by
  refine FO_ind ?_ ?_ ?_ ?_ ?_
  · intro l1 k1 l2 k2 l h
    rw [nF_at (by omega), nF_at (by omega)]
    show [cnn l _] = _
    unfold cnn
    rw [if_pos (by omega)]
    rfl
  · intro h g
    rw [nF_at (by omega), nF_at (by omega)]
    rfl
  · intro g _ ih
    rw [nF_not, nF_not]
    show [cnn 3 (cns (tt g))] = _
    rw [ih]
    unfold cnn
    rw [if_neg (by omega)]
    show [cp2 (cp1 (nF g true), cp1 (nF g false))] = [(cp1 (nF g true), cp1 (nF g false))]
    rw [cp2_cp1]
  · intro l g h h1 h2 fg fh i1 i2
    have a1 := nF_1 g fg
    have a2 := nF_1 h fh
    rw [nF_bin h1 h2, nF_bin h1 h2]
    have e : cns (tt (mk2 l g h)) = [cnn l [(cp1 (nF g false), cp1 (nF g true)), (cp1 (nF h false), cp1 (nF h true))]] := by
      show [cnn l (cns (nd g.1 g.2 (nd h.1 h.2 nl)))] = _
      have e1 : cns (nd g.1 g.2 (nd h.1 h.2 nl)) = (cns (tt g)) ++ cns (tt h) := rfl
      rw [e1, i1, i2]
      rfl
    rw [e]
    unfold cnn
    rw [if_neg (by omega)]
    have ek : kk l = 10 + (l : Int) := by
      unfold kk
      rw [if_neg (by omega), if_neg (by omega), if_neg (by omega), if_pos h2]
    rw [ek]
    have hl : l = 4 ∨ l = 5 ∨ l = 6 ∨ l = 7 := by omega
    rcases hl with e | e | e | e <;> subst e
    · show [((if 201 < cp1 (nF g false) * cp1 (nF h false) then (201 : Int) else cp1 (nF g false) * cp1 (nF h false)), (if 201 < cp1 (nF g true) + cp1 (nF h true) then (201 : Int) else cp1 (nF g true) + cp1 (nF h true)))] = [(cp1 (nF g false * nF h false), cp1 (nF g true + nF h true))]
      rw [cp1_mul (a1 _) (a2 _), cp1_add]
    · show [((if 201 < cp1 (nF g false) + cp1 (nF h false) then (201 : Int) else cp1 (nF g false) + cp1 (nF h false)), (if 201 < cp1 (nF g true) * cp1 (nF h true) then (201 : Int) else cp1 (nF g true) * cp1 (nF h true)))] = [(cp1 (nF g false + nF h false), cp1 (nF g true * nF h true))]
      rw [cp1_mul (a1 _) (a2 _), cp1_add]
    · show [((if 201 < cp1 (nF g true) + cp1 (nF h false) then (201 : Int) else cp1 (nF g true) + cp1 (nF h false)), (if 201 < cp1 (nF g false) * cp1 (nF h true) then (201 : Int) else cp1 (nF g false) * cp1 (nF h true)))] = [(cp1 (nF g true + nF h false), cp1 (nF g false * nF h true))]
      rw [cp1_mul (a1 _) (a2 _), cp1_add]
    · show [((if 201 < cp1 (nF g true) * cp1 (nF h true) + cp1 (nF g false) * cp1 (nF h false) then (201 : Int) else cp1 (nF g true) * cp1 (nF h true) + cp1 (nF g false) * cp1 (nF h false)), (if 201 < cp1 (nF g false) * cp1 (nF h true) + cp1 (nF h false) * cp1 (nF g true) then (201 : Int) else cp1 (nF g false) * cp1 (nF h true) + cp1 (nF h false) * cp1 (nF g true)))] = [(cp1 (nF g true * nF h true + nF g false * nF h false), cp1 (nF g false * nF h true + nF h false * nF g true))]
      rw [cp1_mm2 (a1 _) (a2 _) (a1 _) (a2 _), cp1_mm2 (a1 _) (a2 _) (a2 _) (a1 _)]
  · intro l g h _ ih
    rw [nF_q h, nF_q h]
    show [cnn l (cns (tt g))] = _
    rw [ih]
    unfold cnn
    rw [if_neg (by omega)]
    have ek : kk l = 12 ∨ kk l = 13 := by
      unfold kk
      rw [if_neg (by omega), if_neg (by omega), if_neg (by omega), if_neg (by omega)]
      split
      · exact Or.inl rfl
      · exact Or.inr rfl
    have ec : ∀ x y, cmk (kk l) x y = x := fun x y => by
      unfold cmk
      rcases ek with e | e <;> rw [e] <;> rfl
    rw [ec]
    show [cp2 (cp1 (nF g false), cp1 (nF g true))] = _
    rw [cp2_cp1]
