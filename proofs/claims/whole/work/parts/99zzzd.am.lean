/-! FORMULAS with a row of open signs: the same as the spec's -/
def sgS (k : Int) : Int := if k = 126 then 6 else if k = 38 then 5 else if k = 124 then 4 else if k = 301 then 3 else if k = 302 then 2 else if k = 33 ∨ k = 63 then 1 else 0
def nsS (k : Int) : Int := if k = 126 ∨ k = 40 ∨ k = 33 ∨ k = 63 ∨ k = 301 then 1 else 0
def dpS : List (Int × Int) → Int
  | [] => 0
  | x :: S => nsS x.1 + dpS S
/-- signs (the last first), FORMULAS (the last first), what is read -/
abbrev AC : Type := List (Int × Int) × List Tm × PS
def wrp (kd : Nat) : List Int → Tm → Tm
  | [], f => f
  | v :: L, f => wrp kd L (mk1 (8 + kd + 2 * v.toNat) f)
def opc (k : Int) : Nat := if k = 38 then 4 else if k = 124 then 5 else if k = 301 then 6 else 7
/-- the sign on top becomes a FORMULA -/
def fT : AC → AC
  | ((k, b) :: S, w :: P, st) =>
    if k = 126 then (S, mk1 3 w :: P, st)
    else if k = 33 ∨ k = 63 then (S, wrp (if k = 33 then 0 else 1) (st.2.2.2.1.takeWhile (fun v => decide (b ≤ v))) w :: P, (st.1, st.2.1, st.2.2.1, st.2.2.2.1.dropWhile (fun v => decide (b ≤ v)), st.2.2.2.2))
    else match P with
      | a :: P => (S, mk2 (opc k) a w :: P, st)
      | [] => ((k, b) :: S, [w], st)
  | c => c
def tpS : List (Int × Int) → Int
  | [] => 0
  | x :: _ => sgS x.1
def flS (l : Int) : Nat → AC → AC
  | 0, c => c
  | N + 1, c => if l ≤ tpS c.1 then flS l N (fT c) else c
/-- all signs on top that bind at least as strongly -/
def foS (l : Int) (c : AC) : AC := flS l c.1.length c
def tpK : List (Int × Int) → Int
  | [] => 0
  | x :: _ => x.1
def mbE : Nat → AC → Option AC
  | 0, c => some c
  | N + 1, c => if tpK c.1 = 302 then (if tpK (fT c).1 = 33 ∨ tpK (fT c).1 = 63 then mbE N (foS 3 (fT (fT c))) else none) else some c
section AM
variable (X : Int → Int) (n : Int) (m : Nat)
/-- a FORMULA may begin (true), or a sign is due (false) -/
def amS : Nat → Bool → AC → PR (PS × Tm)
  | 0, _, _ => none
  | N + 1, true, c =>
    if 60 < dpS c.1 then pNo 3 (tq X n c.2.2.1)
    else if tk X n c.2.2.1 = 126 ∨ tk X n c.2.2.1 = 40 then amS N true ((tk X n c.2.2.1, -1) :: c.1, c.2.1, adv X n c.2.2)
    else if tk X n c.2.2.1 = 33 ∨ tk X n c.2.2.1 = 63 then
      pb (bdsS X n m (adv X n c.2.2)) (fun s1 => if s1.2.2.1.length = c.2.2.2.2.1.length ∨ tk X n s1.1 ≠ 58 then pNo 1 (tq X n s1.1) else amS N true ((tk X n c.2.2.1, (c.2.2.2.2.1.length : Int)) :: c.1, c.2.1, adv X n s1))
    else if tk X n c.2.2.1 = 1 ∨ tk X n c.2.2.1 = 2 then pb (atmS X n m (dpS c.1) c.2.2) (fun a => amS N false (c.1, a.2 :: c.2.1, a.1))
    else pNo 1 (tq X n c.2.2.1)
  | N + 1, false, c =>
    if tk X n c.2.2.1 = 41 then
      (match (foS 1 c).1 with
        | [] => pNo 1 (tq X n c.2.2.1)
        | _ :: S => amS N false (S, (foS 1 c).2.1, adv X n (foS 1 c).2.2))
    else if tk X n c.2.2.1 = 38 ∨ tk X n c.2.2.1 = 124 ∨ tk X n c.2.2.1 = 301 then
      amS N true ((tk X n c.2.2.1, -1) :: (foS (if tk X n c.2.2.1 = 38 then 5 else 4) c).1, (foS (if tk X n c.2.2.1 = 38 then 5 else 4) c).2.1, adv X n (foS (if tk X n c.2.2.1 = 38 then 5 else 4) c).2.2)
    else if tk X n c.2.2.1 = 302 then
      (match mbE (foS 3 c).1.length (foS 3 c) with
        | none => pNo 1 (tq X n c.2.2.1)
        | some e => amS N true ((302, -1) :: e.1, e.2.1, adv X n e.2.2))
    else if tk X n c.2.2.1 = 46 then
      (match (foS 1 c).1, (foS 1 c).2.1 with
        | [], [f] => pOk ((foS 1 c).2.2, f)
        | _, _ => pNo 1 (tq X n c.2.2.1))
    else pNo 1 (tq X n c.2.2.1)
def OutS (b : Bool) (c : AC) (r : (Int × Int) ⊕ (PS × Tm)) : Prop := ∃ N, amS X n m N b c = some r
end AM
theorem flS_1 {l : Int} {N : Nat} {c : AC} (h : l ≤ tpS c.1) : flS l (N + 1) c = flS l N (fT c) := if_pos h
theorem flS_0 {l : Int} {N : Nat} {c : AC} (h : ¬ l ≤ tpS c.1) : flS l N c = c := by
  cases N with
  | zero => rfl
  | succ N => exact if_neg h
theorem foS_0 {l : Int} {c : AC} (h : tpS c.1 < l) : foS l c = c := flS_0 (by omega)
/-- one sign folded -/
theorem foS_1 {l : Int} {k b : Int} {S : List (Int × Int)} {P : List Tm} {st : PS} (h : l ≤ sgS k) (hS : (fT ((k, b) :: S, P, st)).1 = S) : foS l ((k, b) :: S, P, st) = foS l (fT ((k, b) :: S, P, st)) := by
  unfold foS
  rw [hS]
  exact flS_1 h
theorem fT_p (c : AC) : (fT c).2.2.1 = c.2.2.1 := by
  match c with
  | ((k, b) :: S, w :: P, st) =>
    unfold fT
    dsimp only
    by_cases c1 : k = 126
    · rw [if_pos c1]
    · rw [if_neg c1]
      by_cases c2 : k = 33 ∨ k = 63
      · rw [if_pos c2]
      · rw [if_neg c2]
        match P with
        | a :: P => rfl
        | [] => rfl
  | ([], P, st) => rfl
  | (_ :: _, [], st) => rfl
theorem OutS.A {X : Int → Int} {n : Int} {m : Nat} {b b2 : Bool} {c c2 : AC} (h : ∀ N, amS X n m (N + 1) b c = amS X n m N b2 c2) {r : (Int × Int) ⊕ (PS × Tm)} (h2 : OutS X n m b2 c2 r) : OutS X n m b c r := by
  obtain ⟨N, h2⟩ := h2
  exact ⟨N + 1, (h N).trans h2⟩
/-- a sign is due: a sign on top that the present WORD folds may be folded before -/
theorem OutS.fold {X : Int → Int} {n : Int} {m : Nat} {k b : Int} {S : List (Int × Int)} {P : List Tm} {st : PS} (hS : (fT ((k, b) :: S, P, st)).1 = S) (hk : 1 ≤ sgS k) (h38 : tk X n st.1 = 38 → 5 ≤ sgS k) (h4 : tk X n st.1 = 124 ∨ tk X n st.1 = 301 → 4 ≤ sgS k) (h3 : tk X n st.1 = 302 → 3 ≤ sgS k) {r : (Int × Int) ⊕ (PS × Tm)} (h : OutS X n m false (fT ((k, b) :: S, P, st)) r) : OutS X n m false ((k, b) :: S, P, st) r := by
  obtain ⟨N, h⟩ := h
  refine ⟨N, ?_⟩
  rw [← h]
  have hp : (fT ((k, b) :: S, P, st)).2.2.1 = st.1 := fT_p _
  cases N with
  | zero => rfl
  | succ N =>
    unfold amS
    rw [hp]
    dsimp only
    by_cases c1 : tk X n st.1 = 41
    · rw [if_pos c1, if_pos c1, foS_1 hk hS]
    rw [if_neg c1, if_neg c1]
    by_cases c2 : tk X n st.1 = 38 ∨ tk X n st.1 = 124 ∨ tk X n st.1 = 301
    · rw [if_pos c2, if_pos c2]
      by_cases d : tk X n st.1 = 38
      · rw [if_pos d, foS_1 (h38 d) hS]
      · rw [if_neg d, foS_1 (h4 (by omega)) hS]
    rw [if_neg c2, if_neg c2]
    by_cases c3 : tk X n st.1 = 302
    · rw [if_pos c3, if_pos c3, foS_1 (h3 c3) hS]
    rw [if_neg c3, if_neg c3]
    by_cases c4 : tk X n st.1 = 46
    · rw [if_pos c4, if_pos c4, foS_1 hk hS]
    · rw [if_neg c4, if_neg c4]
theorem pb_up {α γ : Type} {o o2 : PR α} {f f2 : α → PR γ} (ho : ∀ r, o = some r → o2 = some r) (hf : ∀ a r, f a = some r → f2 a = some r) {r : (Int × Int) ⊕ γ} (h : pb o f = some r) : pb o2 f2 = some r := by
  rcases pb_r h with ⟨k, q, h1, rfl⟩ | ⟨a, h1, h2⟩
  · rw [ho _ h1]; rfl
  · rw [ho _ h1, pb_ok]; exact hf a r h2
theorem ite_up {c : Prop} [Decidable c] {α : Type} {a b a2 b2 : Option α} {r : α} (ha : c → a = some r → a2 = some r) (hb : ¬ c → b = some r → b2 = some r) (h : (if c then a else b) = some r) : (if c then a2 else b2) = some r := by
  by_cases hc : c
  · rw [if_pos hc] at h ⊢; exact ha hc h
  · rw [if_neg hc] at h ⊢; exact hb hc h
theorem sdS_up {X : Int → Int} {n : Int} : ∀ (m : Nat) (b : Bool) (d : Int) (st : PS) (r : (Int × Int) ⊕ (PS × T)), sdS X n m b d st = some r → sdS X n (m + 1) b d st = some r
  | 0, b, d, st, r, h => by cases h
  | m + 1, true, d, st, r, h => by
    unfold sdS at h ⊢
    refine pb_up (fun r => sdS_up m false d st r) (fun a r => ite_up (fun _ => pb_up (fun r => sdS_up m true d _ r) (fun _ _ h => h)) (fun _ h => h)) h
  | m + 1, false, d, st, r, h => by
    unfold sdS at h ⊢
    refine ite_up (fun _ h => h) (fun _ => ite_up (fun _ => pb_up (fun _ h => h) (fun a r => pb_up (fun r => ite_up (fun _ => pb_up (fun _ h => h) (fun dd r => sdS_up m true dd _ r)) (fun _ h => h)) (fun _ _ h => h))) (fun _ h => h)) h
theorem sdS_le {X : Int → Int} {n : Int} {b : Bool} {d : Int} {st : PS} {r : (Int × Int) ⊕ (PS × T)} : ∀ {m m2 : Nat}, m ≤ m2 → sdS X n m b d st = some r → sdS X n m2 b d st = some r := fun {m m2} hm h => by
  induction hm with
  | refl => exact h
  | step _ ih => exact sdS_up _ _ _ _ _ ih
theorem bdsS_up {X : Int → Int} {n : Int} : ∀ (m : Nat) (st : PS) (r : (Int × Int) ⊕ PS), bdsS X n m st = some r → bdsS X n (m + 1) st = some r
  | 0, st, r, h => by cases h
  | m + 1, st, r, h => by
    unfold bdsS at h ⊢
    exact ite_up (fun _ => pb_up (fun _ h => h) (fun a r => bdsS_up m _ r)) (fun _ h => h) h
theorem bdsS_le {X : Int → Int} {n : Int} {st : PS} {r : (Int × Int) ⊕ PS} : ∀ {m m2 : Nat}, m ≤ m2 → bdsS X n m st = some r → bdsS X n m2 st = some r := fun {m m2} hm h => by
  induction hm with
  | refl => exact h
  | step _ ih => exact bdsS_up _ _ _ ih
theorem atmS_le {X : Int → Int} {n : Int} {d : Int} {st : PS} {r : (Int × Int) ⊕ (PS × Tm)} {m m2 : Nat} (hm : m ≤ m2) (h : atmS X n m d st = some r) : atmS X n m2 d st = some r := by
  have he : ∀ (t : T) (d : Int) (st : PS) (r : (Int × Int) ⊕ (PS × Tm)), eqnS X n m t d st = some r → eqnS X n m2 t d st = some r := fun t d st r h => by
    unfold eqnS at h ⊢
    exact pb_up (fun r => sdS_le hm) (fun _ _ h => h) h
  unfold atmS at h ⊢
  refine ite_up (fun _ => pb_up (fun _ h => h) (fun a r => ite_up (fun _ h => he _ _ _ _ h) (fun _ h => h))) (fun _ => pb_up (fun _ h => h) (fun a r => pb_up (fun r => ite_up (fun _ => pb_up (fun _ h => h) (fun dd r => sdS_le hm)) (fun _ h => h)) (fun u r => pb_up (fun _ h => h) (fun s r => ite_up (fun _ h => he _ _ _ _ h) (fun _ h => h))))) h
/-- VARIABLES bound one after the other, the last first -/
def dsc (first : Nat) : Nat → List Int
  | 0 => []
  | j + 1 => ((first + j : Nat) : Int) :: dsc first j
theorem dsc_s (first : Nat) : ∀ j, dsc first (j + 1) = dsc (first + 1) j ++ [(first : Int)]
  | 0 => by simp [dsc]
  | j + 1 => by
    show ((first + (j + 1) : Nat) : Int) :: dsc first (j + 1) = (((first + 1) + j : Nat) : Int) :: dsc (first + 1) j ++ [(first : Int)]
    rw [dsc_s first j, show first + (j + 1) = first + 1 + j by omega]; rfl
theorem dsc_m {first : Nat} : ∀ {j : Nat} {v : Int}, v ∈ dsc first j → (first : Int) ≤ v ∧ v < ((first + j : Nat) : Int)
  | 0, v, h => by cases h
  | j + 1, v, h => by
    rcases List.mem_cons.mp h with h | h
    · omega
    · have := dsc_m h; omega
theorem wrp_dsc {kd first : Nat} : ∀ (j : Nat) (f : Tm), wrp kd (dsc first j) f = qnt kd first j f
  | 0, f => rfl
  | j + 1, f => by
    show wrp kd (dsc first j) (mk1 (8 + kd + 2 * (((first + j : Nat) : Int)).toNat) f) = qnt kd first j (mk1 (8 + kd + 2 * (first + j)) f)
    rw [wrp_dsc j, Int.toNat_natCast]
theorem bdsS_d {X : Int → Int} {n : Int} : ∀ (m : Nat) (st s1 : PS), bdsS X n m st = pOk s1 → st.2.2.1.length ≤ s1.2.2.1.length ∧ s1.2.2.2.1 = dsc st.2.2.1.length (s1.2.2.1.length - st.2.2.1.length) ++ st.2.2.2.1 ∧ (tk X n st.1 = 1 → st.2.2.1.length < s1.2.2.1.length)
  | 0, st, s1, h => by cases h
  | m + 1, st, s1, h => by
    unfold bdsS at h
    by_cases c1 : tk X n st.1 = 1
    · rw [if_pos c1] at h
      obtain ⟨r, h1, h2⟩ := pb_y h
      unfold bndS at h1
      by_cases hb : st.2.2.1.length = 300
      · rw [if_pos hb] at h1; cases h1
      · rw [if_neg hb] at h1
        cases h1
        obtain ⟨i1, i2, _⟩ := bdsS_d m _ s1 h2
        have hl : (st.2.2.1 ++ [(tq X n st.1, te X n st.1 - tq X n st.1)]).length = st.2.2.1.length + 1 := by rw [List.length_append]; rfl
        have i1 : (st.2.2.1 ++ [(tq X n st.1, te X n st.1 - tq X n st.1)]).length ≤ s1.2.2.1.length := i1
        have i2 : s1.2.2.2.1 = dsc (st.2.2.1 ++ [(tq X n st.1, te X n st.1 - tq X n st.1)]).length (s1.2.2.1.length - (st.2.2.1 ++ [(tq X n st.1, te X n st.1 - tq X n st.1)]).length) ++ (st.2.2.1.length : Int) :: st.2.2.2.1 := i2
        rw [hl] at i1 i2
        refine ⟨by omega, ?_, fun _ => by omega⟩
        rw [i2, show s1.2.2.1.length - st.2.2.1.length = (s1.2.2.1.length - (st.2.2.1.length + 1)) + 1 by omega, dsc_s]
        simp
    · rw [if_neg c1] at h
      cases h
      exact ⟨Nat.le_refl _, by simp [dsc], fun h => absurd h c1⟩
theorem tw_all {p : Int → Bool} {A B : List Int} (hA : ∀ v ∈ A, p v = true) (hB : ∀ v ∈ B, p v = false) : (A ++ B).takeWhile p = A ∧ (A ++ B).dropWhile p = B := by
  induction A with
  | nil =>
    cases B with
    | nil => exact ⟨rfl, rfl⟩
    | cons b B =>
      have := hB b List.mem_cons_self
      simp [List.takeWhile, List.dropWhile, this]
  | cons a A ih =>
    have h1 := hA a List.mem_cons_self
    obtain ⟨i1, i2⟩ := ih (fun v hv => hA v (List.mem_cons_of_mem _ hv))
    simp [List.takeWhile, List.dropWhile, h1, i1, i2]
theorem fT_not {b : Int} {S : List (Int × Int)} {w : Tm} {P : List Tm} {st : PS} : fT ((126, b) :: S, w :: P, st) = (S, mk1 3 w :: P, st) := rfl
theorem fT_bin {k b : Int} {S : List (Int × Int)} {w a : Tm} {P : List Tm} {st : PS} (h1 : k ≠ 126) (h2 : ¬ (k = 33 ∨ k = 63)) : fT ((k, b) :: S, w :: a :: P, st) = (S, mk2 (opc k) a w :: P, st) := by
  unfold fT
  dsimp only
  rw [if_neg h1, if_neg h2]
theorem fT_q {k : Int} {first j : Nat} {S : List (Int × Int)} {w : Tm} {P : List Tm} {st : PS} {sc : List Int} (h2 : k = 33 ∨ k = 63) (hs : st.2.2.2.1 = dsc first j ++ sc) (hsc : ∀ v ∈ sc, v < (first : Int)) : fT ((k, (first : Int)) :: S, w :: P, st) = (S, qnt (if k = 33 then 0 else 1) first j w :: P, (st.1, st.2.1, st.2.2.1, sc, st.2.2.2.2)) := by
  unfold fT
  obtain ⟨t1, t2⟩ := tw_all (p := fun v => decide ((first : Int) ≤ v)) (A := dsc first j) (B := sc) (fun v hv => by simpa using (dsc_m hv).1) (fun v hv => by have := hsc v hv; simp; omega)
  dsimp only
  rw [if_neg (by omega), if_pos h2, hs, t1, t2, wrp_dsc]
def ctxS (lvl : Nat) (S : List (Int × Int)) : Prop := match lvl with
  | 0 => tpS S ≤ 1
  | 1 => tpS S ≤ 3
  | 2 => tpS S ≤ 3
  | 5 => tpS S ≤ 3
  | 3 => tpS S ≤ 4
  | 6 => tpS S ≤ 4
  | _ => True
/-- what may follow -/
def folS (lvl : Nat) (t : Int) : Prop := match lvl with
  | 0 => t ≠ 38 ∧ t ≠ 124 ∧ t ≠ 301
  | 1 => t ≠ 38 ∧ t ≠ 124 ∧ t ≠ 301
  | 2 => t ≠ 38 ∧ t ≠ 124
  | 5 => t ≠ 38 ∧ t ≠ 124
  | 3 => t ≠ 38
  | 6 => t ≠ 38
  | _ => True
def LvS (X : Int → Int) (n : Int) (M k : Nat) : Prop := ∀ (lvl : Nat) (d : Int) (x : Tm) (st : PS) (S : List (Int × Int)) (P : List Tm) (r : (Int × Int) ⊕ (PS × Tm)), d = dpS S → d ≤ 60 → PV st → ctxS lvl S → (lvl = 5 → tk X n st.1 ≠ 38) → fmS X n k lvl d x st = some r →
  (∀ e, r = .inl e → OutS X n M (decide (lvl ≤ 4 ∨ 7 ≤ lvl)) (S, (if lvl = 5 ∨ lvl = 6 then x :: P else P), st) (.inl e)) ∧
  (∀ a, r = .inr a → folS lvl (tk X n a.1.1) ∧
    (lvl = 0 → tk X n a.1.1 = 302 → ∃ f g, a.2 = mk2 7 f g ∧ ∀ o, OutS X n M false ((302, -1) :: S, g :: f :: P, a.1) o → OutS X n M true (S, P, st) o) ∧
    (¬ (lvl = 0 ∧ tk X n a.1.1 = 302) → ∀ o, OutS X n M false (S, a.2 :: P, a.1) o → OutS X n M (decide (lvl ≤ 4 ∨ 7 ≤ lvl)) (S, (if lvl = 5 ∨ lvl = 6 then x :: P else P), st) o))
section AMR
variable {X : Int → Int} {n : Int} {M : Nat} {S : List (Int × Int)} {P : List Tm} {st : PS} {r : (Int × Int) ⊕ (PS × Tm)}
/-- too deep -/
theorem amA_deep (h : 60 < dpS S) : OutS X n M true (S, P, st) (.inl (3, tq X n st.1)) := ⟨1, by unfold amS; exact if_pos h⟩
theorem amA_push (h : ¬ 60 < dpS S) (hk : tk X n st.1 = 126 ∨ tk X n st.1 = 40) (h2 : OutS X n M true ((tk X n st.1, -1) :: S, P, adv X n st) r) : OutS X n M true (S, P, st) r := OutS.A (fun N => by
  show (if 60 < dpS S then _ else if _ then _ else _) = _
  rw [if_neg h, if_pos hk]) h2
theorem amA_atom (h : ¬ 60 < dpS S) (hk : tk X n st.1 = 1 ∨ tk X n st.1 = 2) {a : PS × Tm} (ha : atmS X n M (dpS S) st = pOk a) (h2 : OutS X n M false (S, a.2 :: P, a.1) r) : OutS X n M true (S, P, st) r := OutS.A (fun N => by
  show (if 60 < dpS S then _ else if tk X n st.1 = 126 ∨ tk X n st.1 = 40 then _ else if tk X n st.1 = 33 ∨ tk X n st.1 = 63 then _ else if tk X n st.1 = 1 ∨ tk X n st.1 = 2 then pb (atmS X n M (dpS S) st) (fun a => amS X n M N false (S, a.2 :: P, a.1)) else _) = _
  rw [if_neg h, if_neg (by omega), if_neg (by omega), if_pos hk, ha, pb_ok]) h2
theorem amA_atomN (h : ¬ 60 < dpS S) (hk : tk X n st.1 = 1 ∨ tk X n st.1 = 2) {k q : Int} (ha : atmS X n M (dpS S) st = pNo k q) : OutS X n M true (S, P, st) (.inl (k, q)) := ⟨1, by
  show (if 60 < dpS S then _ else if tk X n st.1 = 126 ∨ tk X n st.1 = 40 then _ else if tk X n st.1 = 33 ∨ tk X n st.1 = 63 then _ else if tk X n st.1 = 1 ∨ tk X n st.1 = 2 then pb (atmS X n M (dpS S) st) (fun a => amS X n M 0 false (S, a.2 :: P, a.1)) else _) = _
  rw [if_neg h, if_neg (by omega), if_neg (by omega), if_pos hk, ha]; rfl⟩
theorem amA_no (h : ¬ 60 < dpS S) (hk : ¬ (tk X n st.1 = 126 ∨ tk X n st.1 = 40 ∨ tk X n st.1 = 33 ∨ tk X n st.1 = 63 ∨ tk X n st.1 = 1 ∨ tk X n st.1 = 2)) : OutS X n M true (S, P, st) (.inl (1, tq X n st.1)) := ⟨1, by
  show (if 60 < dpS S then _ else if tk X n st.1 = 126 ∨ tk X n st.1 = 40 then _ else if tk X n st.1 = 33 ∨ tk X n st.1 = 63 then _ else if tk X n st.1 = 1 ∨ tk X n st.1 = 2 then _ else pNo 1 (tq X n st.1)) = _
  rw [if_neg h, if_neg (by omega), if_neg (by omega), if_neg (by omega)]⟩
theorem amA_qN (h : ¬ 60 < dpS S) (hk : tk X n st.1 = 33 ∨ tk X n st.1 = 63) {k q : Int} (ha : bdsS X n M (adv X n st) = pNo k q) : OutS X n M true (S, P, st) (.inl (k, q)) := ⟨1, by
  show (if 60 < dpS S then _ else if tk X n st.1 = 126 ∨ tk X n st.1 = 40 then _ else if tk X n st.1 = 33 ∨ tk X n st.1 = 63 then pb (bdsS X n M (adv X n st)) _ else _) = _
  rw [if_neg h, if_neg (by omega), if_pos hk, ha]; rfl⟩
theorem amA_qB (h : ¬ 60 < dpS S) (hk : tk X n st.1 = 33 ∨ tk X n st.1 = 63) {s1 : PS} (ha : bdsS X n M (adv X n st) = pOk s1) (hb : s1.2.2.1.length = st.2.2.1.length ∨ tk X n s1.1 ≠ 58) : OutS X n M true (S, P, st) (.inl (1, tq X n s1.1)) := ⟨1, by
  show (if 60 < dpS S then _ else if tk X n st.1 = 126 ∨ tk X n st.1 = 40 then _ else if tk X n st.1 = 33 ∨ tk X n st.1 = 63 then pb (bdsS X n M (adv X n st)) (fun s1 => if s1.2.2.1.length = st.2.2.1.length ∨ tk X n s1.1 ≠ 58 then pNo 1 (tq X n s1.1) else amS X n M 0 true ((tk X n st.1, (st.2.2.1.length : Int)) :: S, P, adv X n s1)) else _) = _
  rw [if_neg h, if_neg (by omega), if_pos hk, ha, pb_ok, if_pos hb]⟩
theorem amA_q (h : ¬ 60 < dpS S) (hk : tk X n st.1 = 33 ∨ tk X n st.1 = 63) {s1 : PS} (ha : bdsS X n M (adv X n st) = pOk s1) (hb : ¬ (s1.2.2.1.length = st.2.2.1.length ∨ tk X n s1.1 ≠ 58)) (h2 : OutS X n M true ((tk X n st.1, (st.2.2.1.length : Int)) :: S, P, adv X n s1) r) : OutS X n M true (S, P, st) r := OutS.A (fun N => by
  show (if 60 < dpS S then _ else if tk X n st.1 = 126 ∨ tk X n st.1 = 40 then _ else if tk X n st.1 = 33 ∨ tk X n st.1 = 63 then pb (bdsS X n M (adv X n st)) (fun s1 => if s1.2.2.1.length = st.2.2.1.length ∨ tk X n s1.1 ≠ 58 then pNo 1 (tq X n s1.1) else amS X n M N true ((tk X n st.1, (st.2.2.1.length : Int)) :: S, P, adv X n s1)) else _) = _
  rw [if_neg h, if_neg (by omega), if_pos hk, ha, pb_ok, if_neg hb]) h2
theorem amB_op (hk : tk X n st.1 = 38 ∨ tk X n st.1 = 124 ∨ tk X n st.1 = 301) (hS : tpS S < (if tk X n st.1 = 38 then 5 else 4)) (h2 : OutS X n M true ((tk X n st.1, -1) :: S, P, adv X n st) r) : OutS X n M false (S, P, st) r := OutS.A (fun N => by
  have hf : foS (if tk X n st.1 = 38 then 5 else 4) (S, P, st) = (S, P, st) := foS_0 hS
  show (if tk X n st.1 = 41 then _ else if tk X n st.1 = 38 ∨ tk X n st.1 = 124 ∨ tk X n st.1 = 301 then amS X n M N true ((tk X n st.1, -1) :: (foS (if tk X n st.1 = 38 then 5 else 4) (S, P, st)).1, (foS (if tk X n st.1 = 38 then 5 else 4) (S, P, st)).2.1, adv X n (foS (if tk X n st.1 = 38 then 5 else 4) (S, P, st)).2.2) else _) = _
  rw [if_neg (by omega), if_pos hk, hf]) h2
theorem amB_eq (hk : tk X n st.1 = 302) (hS : tpS S < 3) (hK : tpK S ≠ 302) (h2 : OutS X n M true ((302, -1) :: S, P, adv X n st) r) : OutS X n M false (S, P, st) r := OutS.A (fun N => by
  have hf : foS 3 (S, P, st) = (S, P, st) := foS_0 hS
  have hm : mbE S.length (S, P, st) = some (S, P, st) := by
    cases S with
    | nil => rfl
    | cons x S => exact if_neg hK
  show (if tk X n st.1 = 41 then _ else if tk X n st.1 = 38 ∨ tk X n st.1 = 124 ∨ tk X n st.1 = 301 then _ else if tk X n st.1 = 302 then (match mbE (foS 3 (S, P, st)).1.length (foS 3 (S, P, st)) with | none => pNo 1 (tq X n st.1) | some e => amS X n M N true ((302, -1) :: e.1, e.2.1, adv X n e.2.2)) else _) = _
  rw [if_neg (by omega), if_neg (by omega), if_pos hk, hf, hm]) h2
end AMR
theorem fT_len (c : AC) : (fT c).1.length ≤ c.1.length := by
  match c with
  | ((k, b) :: S, w :: P, st) =>
    unfold fT
    dsimp only
    by_cases c1 : k = 126
    · rw [if_pos c1]; simp
    · rw [if_neg c1]
      by_cases c2 : k = 33 ∨ k = 63
      · rw [if_pos c2]; simp
      · rw [if_neg c2]
        match P with
        | a :: P => simp
        | [] => exact Nat.le_refl _
  | ([], P, st) => exact Nat.le_refl _
  | (_ :: _, [], st) => exact Nat.le_refl _
theorem flS_len (l : Int) : ∀ (N : Nat) (c : AC), (flS l N c).1.length ≤ c.1.length
  | 0, c => Nat.le_refl _
  | N + 1, c => by
    unfold flS
    by_cases h : l ≤ tpS c.1
    · rw [if_pos h]; exact Nat.le_trans (flS_len l N (fT c)) (fT_len c)
    · rw [if_neg h]; exact Nat.le_refl _
theorem foS_len (l : Int) (c : AC) : (foS l c).1.length ≤ c.1.length := flS_len _ _ _
/-- an equivalence on top, and an open ! or ? below it: both go -/
theorem fT_2 {c : AC} (h1 : tpK c.1 = 302) (h2 : tpK (fT c).1 = 33 ∨ tpK (fT c).1 = 63) : (fT (fT c)).1.length + 2 = c.1.length := by
  match c, h1, h2 with
  | ((k, b) :: S, w :: a :: P, st), h1, h2 =>
    have hk : k = 302 := h1
    subst hk
    rw [fT_bin (by decide) (by decide)] at h2 ⊢
    match S, h2 with
    | (q, e) :: S, h2 =>
      have h2 : q = 33 ∨ q = 63 := h2
      unfold fT
      dsimp only
      rw [if_neg (by omega), if_pos h2]
      rfl
    | [], h2 => exact absurd h2 (by show ¬ ((0 : Int) = 33 ∨ (0 : Int) = 63); decide)
  | ((k, b) :: S, [w], st), h1, h2 =>
    have hk : k = 302 := h1
    subst hk
    exact absurd h2 (by show ¬ ((302 : Int) = 33 ∨ (302 : Int) = 63); decide)
  | ((k, b) :: S, [], st), h1, h2 =>
    have hk : k = 302 := h1
    subst hk
    exact absurd h2 (by show ¬ ((302 : Int) = 33 ∨ (302 : Int) = 63); decide)
  | ([], P, st), h1, _ => exact absurd h1 (by show ¬ (0 : Int) = 302; decide)
theorem mbE_fuel : ∀ (N : Nat) (c : AC), c.1.length ≤ N → ∀ N2, c.1.length ≤ N2 → mbE N c = mbE N2 c
  | 0, c, h, N2, h2 => by
    have hc : c.1 = [] := List.eq_nil_of_length_eq_zero (by omega)
    cases N2 with
    | zero => rfl
    | succ N2 =>
      unfold mbE
      rw [if_neg (by rw [hc]; show ¬ (0 : Int) = 302; decide)]
  | N + 1, c, h, 0, h2 => by
    have hc : c.1 = [] := List.eq_nil_of_length_eq_zero (by omega)
    unfold mbE
    rw [if_neg (by rw [hc]; show ¬ (0 : Int) = 302; decide)]
  | N + 1, c, h, N2 + 1, h2 => by
    unfold mbE
    by_cases h1 : tpK c.1 = 302
    · rw [if_pos h1, if_pos h1]
      by_cases h3 : tpK (fT c).1 = 33 ∨ tpK (fT c).1 = 63
      · rw [if_pos h3, if_pos h3]
        have h4 := fT_2 h1 h3
        have h5 := foS_len 3 (fT (fT c))
        exact mbE_fuel N _ (by omega) N2 (by omega)
      · rw [if_neg h3, if_neg h3]
    · rw [if_neg h1, if_neg h1]
section AMR2
variable {X : Int → Int} {n : Int} {M : Nat} {S : List (Int × Int)} {P : List Tm} {st : PS} {r : (Int × Int) ⊕ (PS × Tm)}
theorem amB_close {b : Int} (hk : tk X n st.1 = 41) (h2 : OutS X n M false (S, P, adv X n st) r) : OutS X n M false ((40, b) :: S, P, st) r := OutS.A (fun N => by
  have hf : foS 1 ((40, b) :: S, P, st) = ((40, b) :: S, P, st) := foS_0 (by show sgS 40 < 1; decide)
  show (if tk X n st.1 = 41 then (match (foS 1 ((40, b) :: S, P, st)).1 with | [] => pNo 1 (tq X n st.1) | _ :: S2 => amS X n M N false (S2, (foS 1 ((40, b) :: S, P, st)).2.1, adv X n (foS 1 ((40, b) :: S, P, st)).2.2)) else _) = _
  rw [if_pos hk, hf]) h2
/-- within ( nothing else may stand -/
theorem amB_par {b : Int} (hk : ¬ (tk X n st.1 = 41 ∨ tk X n st.1 = 38 ∨ tk X n st.1 = 124 ∨ tk X n st.1 = 301 ∨ tk X n st.1 = 302)) : OutS X n M false ((40, b) :: S, P, st) (.inl (1, tq X n st.1)) := ⟨1, by
  have hf : foS 1 ((40, b) :: S, P, st) = ((40, b) :: S, P, st) := foS_0 (by show sgS 40 < 1; decide)
  show (if tk X n st.1 = 41 then _ else if tk X n st.1 = 38 ∨ tk X n st.1 = 124 ∨ tk X n st.1 = 301 then _ else if tk X n st.1 = 302 then _ else if tk X n st.1 = 46 then (match (foS 1 ((40, b) :: S, P, st)).1, (foS 1 ((40, b) :: S, P, st)).2.1 with | [], [f] => pOk ((foS 1 ((40, b) :: S, P, st)).2.2, f) | _, _ => pNo 1 (tq X n st.1)) else pNo 1 (tq X n st.1)) = _
  rw [if_neg (by omega), if_neg (by omega), if_neg (by omega), hf]
  by_cases h46 : tk X n st.1 = 46
  · rw [if_pos h46]
  · rw [if_neg h46]⟩
/-- outside all ( : the end of the SENTENCE -/
theorem amB_dot {f : Tm} (hk : tk X n st.1 = 46) : OutS X n M false ([], [f], st) (.inr (st, f)) := ⟨1, by
  have hf : foS 1 (([], [f], st) : AC) = ([], [f], st) := rfl
  show (if tk X n st.1 = 41 then _ else if tk X n st.1 = 38 ∨ tk X n st.1 = 124 ∨ tk X n st.1 = 301 then _ else if tk X n st.1 = 302 then _ else if tk X n st.1 = 46 then (match (foS 1 (([], [f], st) : AC)).1, (foS 1 (([], [f], st) : AC)).2.1 with | [], [f] => pOk ((foS 1 (([], [f], st) : AC)).2.2, f) | _, _ => pNo 1 (tq X n st.1)) else pNo 1 (tq X n st.1)) = _
  rw [if_neg (by omega), if_neg (by omega), if_neg (by omega), hf, if_pos hk]
  rfl⟩
theorem amB_top {f : Tm} (hk : ¬ (tk X n st.1 = 46 ∨ tk X n st.1 = 38 ∨ tk X n st.1 = 124 ∨ tk X n st.1 = 301 ∨ tk X n st.1 = 302)) : OutS X n M false ([], [f], st) (.inl (1, tq X n st.1)) := ⟨1, by
  have hf : foS 1 (([], [f], st) : AC) = ([], [f], st) := rfl
  show (if tk X n st.1 = 41 then (match (foS 1 (([], [f], st) : AC)).1 with | [] => pNo 1 (tq X n st.1) | _ :: S2 => amS X n M 0 false (S2, (foS 1 (([], [f], st) : AC)).2.1, adv X n (foS 1 (([], [f], st) : AC)).2.2)) else if tk X n st.1 = 38 ∨ tk X n st.1 = 124 ∨ tk X n st.1 = 301 then _ else if tk X n st.1 = 302 then _ else if tk X n st.1 = 46 then _ else pNo 1 (tq X n st.1)) = _
  by_cases h41 : tk X n st.1 = 41
  · rw [if_pos h41]; rfl
  · rw [if_neg h41, if_neg (by omega), if_neg (by omega), if_neg (by omega)]⟩
/-- a second equivalence ends the FORMULA -/
theorem amB_second {f g : Tm} (hk : tk X n st.1 = 302) (hS : ¬ (tpK S = 33 ∨ tpK S = 63)) : OutS X n M false ((302, -1) :: S, g :: f :: P, st) (.inl (1, tq X n st.1)) := ⟨1, by
  obtain ⟨c, hc⟩ : ∃ c : AC, c = ((302, -1) :: S, g :: f :: P, st) := ⟨_, rfl⟩
  have hf : foS 3 c = c := by rw [hc]; exact foS_0 (by show sgS 302 < 3; decide)
  have hm : mbE c.1.length c = none := by
    rw [hc]
    show (if tpK ((302, -1) :: S) = 302 then (if tpK (fT ((302, -1) :: S, g :: f :: P, st)).1 = 33 ∨ tpK (fT ((302, -1) :: S, g :: f :: P, st)).1 = 63 then _ else none) else _) = none
    rw [if_pos (show tpK ((302, -1) :: S) = 302 from rfl), fT_bin (by decide) (by decide), if_neg hS]
  rw [← hc]
  have hst : c.2.2.1 = st.1 := by rw [hc]
  show (if tk X n c.2.2.1 = 41 then _ else if tk X n c.2.2.1 = 38 ∨ tk X n c.2.2.1 = 124 ∨ tk X n c.2.2.1 = 301 then _ else if tk X n c.2.2.1 = 302 then (match mbE (foS 3 c).1.length (foS 3 c) with | none => pNo 1 (tq X n c.2.2.1) | some e => amS X n M 0 true ((302, -1) :: e.1, e.2.1, adv X n e.2.2)) else _) = _
  rw [hst, if_neg (by omega), if_neg (by omega), if_pos hk, hf, hm]⟩
/-- or that of a ! or ?, and may be the first one around it -/
theorem amB_secondq {f g : Tm} {q e : Int} (hk : tk X n st.1 = 302) (hq : q = 33 ∨ q = 63) (h2 : OutS X n M false (fT ((q, e) :: S, mk2 7 f g :: P, st)) r) : OutS X n M false ((302, -1) :: (q, e) :: S, g :: f :: P, st) r := by
  obtain ⟨N, h⟩ := h2
  refine ⟨N, ?_⟩
  rw [← h]
  obtain ⟨c, hc⟩ : ∃ c : AC, c = ((302, -1) :: (q, e) :: S, g :: f :: P, st) := ⟨_, rfl⟩
  have e1 : fT c = ((q, e) :: S, mk2 7 f g :: P, st) := by rw [hc, fT_bin (by decide) (by decide)]; rfl
  have hp : (fT (fT c)).2.2.1 = st.1 := by rw [fT_p, fT_p, hc]
  have hf : foS 3 c = c := by rw [hc]; exact foS_0 (by show sgS 302 < 3; decide)
  have hst : c.2.2.1 = st.1 := by rw [hc]
  have ht1 : tpK c.1 = 302 := by rw [hc]; rfl
  have ht2 : tpK (fT c).1 = 33 ∨ tpK (fT c).1 = 63 := by rw [e1]; exact hq
  rw [← e1, ← hc]
  have hm : mbE c.1.length c = mbE (foS 3 (fT (fT c))).1.length (foS 3 (fT (fT c))) := by
    have hl := fT_2 ht1 ht2
    have hl2 := foS_len 3 (fT (fT c))
    obtain ⟨L, hL⟩ : ∃ L, c.1.length = L + 1 := ⟨c.1.length - 1, by omega⟩
    rw [hL]
    show (if tpK c.1 = 302 then (if tpK (fT c).1 = 33 ∨ tpK (fT c).1 = 63 then mbE L (foS 3 (fT (fT c))) else none) else some c) = _
    rw [if_pos ht1, if_pos ht2]
    exact mbE_fuel _ _ (by omega) _ (Nat.le_refl _)
  cases N with
  | zero => rfl
  | succ N =>
    unfold amS
    rw [hp, hst, if_neg (by omega), if_neg (by omega), if_pos hk, if_neg (by omega), if_neg (by omega), if_pos hk, hf, hm]
end AMR2
theorem ns_126 : nsS 126 = 1 := by decide
theorem ns_40 : nsS 40 = 1 := by decide
theorem ns_301 : nsS 301 = 1 := by decide
theorem nest_am {X : Int → Int} {n : Int} {M : Nat} {d : Int} {st : PS} {S : List (Int × Int)} {P : List Tm} {k b q p : Int} (hd : d = dpS S) (hk : nsS k = 1) (h : nstS X n d st = pNo q p) : OutS X n M true ((k, b) :: S, P, st) (.inl (q, p)) := by
  unfold nstS at h
  by_cases h60 : d = 60
  · rw [if_pos h60] at h
    cases h
    exact amA_deep (by show 60 < nsS k + dpS S; omega)
  · rw [if_neg h60] at h; cases h
theorem nest_y {X : Int → Int} {n : Int} {d d1 : Int} {st : PS} {S : List (Int × Int)} {k b : Int} (hd : d = dpS S) (h60 : d ≤ 60) (hk : nsS k = 1) (h : nstS X n d st = pOk d1) : d1 = dpS ((k, b) :: S) ∧ d1 ≤ 60 := by
  unfold nstS at h
  by_cases h9 : d = 60
  · rw [if_pos h9] at h; cases h
  · rw [if_neg h9] at h
    cases h
    refine ⟨?_, by omega⟩
    show d + 1 = nsS k + dpS S
    omega
theorem lv_all {X : Int → Int} {n : Int} (hn : n ≤ 20000) {M : Nat} : ∀ k, k ≤ M → LvS X n M k
  | 0, _ => fun lvl d x st S P r _ _ _ _ _ h => by cases h
  | k + 1, hkM => by
    have ih := lv_all (X := X) hn (M := M) k (by omega)
    intro lvl d x st S P r hd d60 hV hctx h38 hr
    have hnd : ¬ 60 < dpS S := by omega
    -- a binary sign, then a FORMULA of the level lv
    have bin : ∀ (t : Int) (lv : Nat) (dd : Int) (f : Tm) (s1 : PS) (u : PS × Tm), (t = 38 ∧ lv = 4) ∨ (t = 124 ∧ lv = 3) ∨ (t = 301 ∧ lv = 1) ∨ (t = 302 ∧ lv = 1) → dd = dpS ((t, -1) :: S) → dd ≤ 60 → PV s1 → fmS X n k lv dd x (adv X n s1) = pOk u → folS lv (tk X n u.1.1) ∧ ∀ o, OutS X n M false ((t, -1) :: S, u.2 :: f :: P, u.1) o → OutS X n M true ((t, -1) :: S, f :: P, adv X n s1) o := fun t lv dd f s1 u ht hdd h60 hV1 hu => by
      have h1 := ih lv dd x (adv X n s1) ((t, -1) :: S) (f :: P) _ hdd h60 (hV1.i (PI.adv s1) rfl) (by rcases ht with ⟨rfl, rfl⟩ | ⟨rfl, rfl⟩ | ⟨rfl, rfl⟩ | ⟨rfl, rfl⟩ <;> first | trivial | (show sgS _ ≤ _; decide)) (by intro h; omega) hu
      obtain ⟨_, h2⟩ := h1
      obtain ⟨f1, f2, f3⟩ := h2 u rfl
      refine ⟨f1, fun o ho => ?_⟩
      have h3 := f3 (by omega) o ho
      rw [show decide (lv ≤ 4 ∨ 7 ≤ lv) = true from decide_eq_true (by omega), if_neg (by omega)] at h3
      exact h3
    have binN : ∀ (t : Int) (lv : Nat) (dd : Int) (f : Tm) (s1 : PS) (e : Int × Int), (t = 38 ∧ lv = 4) ∨ (t = 124 ∧ lv = 3) ∨ (t = 301 ∧ lv = 1) ∨ (t = 302 ∧ lv = 1) → dd = dpS ((t, -1) :: S) → dd ≤ 60 → PV s1 → fmS X n k lv dd x (adv X n s1) = some (.inl e) → OutS X n M true ((t, -1) :: S, f :: P, adv X n s1) (.inl e) := fun t lv dd f s1 e ht hdd h60 hV1 hu => by
      have h1 := ih lv dd x (adv X n s1) ((t, -1) :: S) (f :: P) _ hdd h60 (hV1.i (PI.adv s1) rfl) (by rcases ht with ⟨rfl, rfl⟩ | ⟨rfl, rfl⟩ | ⟨rfl, rfl⟩ | ⟨rfl, rfl⟩ <;> first | trivial | (show sgS _ ≤ _; decide)) (by intro h; omega) hu
      have h3 := h1.1 e rfl
      rw [show decide (lv ≤ 4 ∨ 7 ≤ lv) = true from decide_eq_true (by omega), if_neg (by omega)] at h3
      exact h3
    -- a FORMULA of a level below, at the same place
    have sub : ∀ (lv : Nat) (r : (Int × Int) ⊕ (PS × Tm)), 1 ≤ lv → lv ≤ 4 → ctxS lv S → fmS X n k lv d x st = some r → (∀ e, r = .inl e → OutS X n M true (S, P, st) (.inl e)) ∧ (∀ a, r = .inr a → folS lv (tk X n a.1.1) ∧ PV a.1 ∧ ∀ o, OutS X n M false (S, a.2 :: P, a.1) o → OutS X n M true (S, P, st) o) := fun lv r l1 l4 hc h => by
      obtain ⟨h1, h2⟩ := ih lv d x st S P r hd d60 hV hc (by intro h; omega) h
      rw [show decide (lv ≤ 4 ∨ 7 ≤ lv) = true from decide_eq_true (by omega), if_neg (by omega)] at h1
      refine ⟨h1, fun a ha => ?_⟩
      obtain ⟨f1, f2, f3⟩ := h2 a ha
      rw [show decide (lv ≤ 4 ∨ 7 ≤ lv) = true from decide_eq_true (by omega), if_neg (by omega)] at f3
      subst ha
      obtain ⟨p1, p2, _⟩ := fmS_i (X := X) hn k lv d x st a hV (by intro h; omega) h
      exact ⟨f1, hV.i p1 p2, f3 (by omega)⟩
    have unit : ∀ r, (if tk X n st.1 = 126 then pb (nstS X n d (adv X n st)) (fun d1 => pb (fmS X n k 4 d1 x (adv X n st)) (fun r => pOk (r.1, mk1 3 r.2)))
    else if tk X n st.1 = 33 ∨ tk X n st.1 = 63 then
      if tk X n (adv X n st).1 = 1 then pb (bdsS X n k (adv X n st)) (fun s1 => if tk X n s1.1 = 58 then pb (nstS X n d (adv X n s1)) (fun d1 => pb (fmS X n k 0 d1 x (adv X n s1)) (fun r => pOk ((r.1.1, r.1.2.1, r.1.2.2.1, st.2.2.2.1, r.1.2.2.2.2), qnt (if tk X n st.1 = 33 then 0 else 1) st.2.2.1.length (s1.2.2.1.length - st.2.2.1.length) r.2))) else pNo 1 (tq X n s1.1))
      else pNo 1 (tq X n (adv X n st).1)
    else if tk X n st.1 = 40 then pb (nstS X n d (adv X n st)) (fun d1 => pb (fmS X n k 0 d1 x (adv X n st)) (fun r => if tk X n r.1.1 = 41 then pOk (adv X n r.1, r.2) else pNo 1 (tq X n r.1.1)))
    else if tk X n st.1 = 1 ∨ tk X n st.1 = 2 then atmS X n k d st
    else pNo 1 (tq X n st.1)) = some r → (∀ e, r = .inl e → OutS X n M true (S, P, st) (.inl e)) ∧ (∀ a, r = .inr a → ∀ o, OutS X n M false (S, a.2 :: P, a.1) o → OutS X n M true (S, P, st) o) := fun r h => by
      have hVa : PV (adv X n st) := hV.i (PI.adv st) rfl
      by_cases c1 : tk X n st.1 = 126
      · rw [if_pos c1] at h
        have psh : ∀ {r}, OutS X n M true ((126, -1) :: S, P, adv X n st) r → OutS X n M true (S, P, st) r := fun {r} ho => amA_push hnd (Or.inl c1) (by rw [c1]; exact ho)
        rcases pb_r h with ⟨q, p, h1, rfl⟩ | ⟨dd, h1, h2⟩
        · exact ⟨fun e he => by cases he; exact psh (nest_am hd ns_126 h1), fun a ha => (by cases ha)⟩
        · obtain ⟨e1, e2⟩ := nest_y (b := -1) hd d60 ns_126 h1
          rcases pb_r h2 with ⟨q, p, h3, rfl⟩ | ⟨u, h3, h4⟩
          · have h5 := (ih 4 dd x (adv X n st) ((126, -1) :: S) P _ e1 e2 hVa trivial (by intro h; omega) h3).1 _ rfl
            exact ⟨fun e he => by cases he; exact psh h5, fun a ha => (by cases ha)⟩
          · cases h4
            obtain ⟨_, _, f3⟩ := (ih 4 dd x (adv X n st) ((126, -1) :: S) P _ e1 e2 hVa trivial (by intro h; omega) h3).2 u rfl
            refine ⟨fun e he => (by cases he), fun a ha o ho => ?_⟩
            cases ha
            exact psh (f3 (by omega) o (OutS.fold rfl (by decide) (fun _ => by decide) (fun _ => by decide) (fun _ => by decide) (by rw [fT_not]; exact ho)))
      rw [if_neg c1] at h
      by_cases c2 : tk X n st.1 = 33 ∨ tk X n st.1 = 63
      · rw [if_pos c2] at h
        by_cases c3 : tk X n (adv X n st).1 = 1
        · rw [if_pos c3] at h
          rcases pb_r h with ⟨q, p, h1, rfl⟩ | ⟨s1, h1, h2⟩
          · exact ⟨fun e he => by cases he; exact amA_qN hnd c2 (bdsS_le (by omega) h1), fun a ha => (by cases ha)⟩
          · have hb1 := bdsS_le (m2 := M) (by omega) h1
            obtain ⟨b1, b2', b3⟩ := bdsS_d k _ s1 h1
            obtain ⟨y1, y2, y3, ⟨L1, y4⟩, L, y5, y6⟩ := bdsS_i k _ s1 h1
            have b3 := b3 c3
            have b2' : s1.2.2.2.1 = dsc st.2.2.1.length (s1.2.2.1.length - st.2.2.1.length) ++ st.2.2.2.1 := b2'
            have b3 : st.2.2.1.length < s1.2.2.1.length := b3
            by_cases c4 : tk X n s1.1 = 58
            · rw [if_pos c4] at h2
              have psh : ∀ {r}, OutS X n M true ((tk X n st.1, (st.2.2.1.length : Int)) :: S, P, adv X n s1) r → OutS X n M true (S, P, st) r := fun {r} ho => amA_q hnd c2 hb1 (by intro h; rcases h with h | h; omega; exact h c4) ho
              have hq1 : nsS (tk X n st.1) = 1 := by rcases c2 with c | c <;> (rw [c]; decide)
              have hVs : PV (adv X n s1) := by
                intro v hv
                show 0 ≤ v ∧ v < (s1.2.2.1.length : Int)
                rcases hv with hv | hv
                · have hv : v ∈ s1.2.2.2.1 := hv
                  rw [b2'] at hv
                  rcases List.mem_append.mp hv with hv | hv
                  · have := dsc_m hv; omega
                  · have := hV v (Or.inl hv); omega
                · have hv : v ∈ s1.2.2.2.2 := hv
                  rw [y3] at hv
                  have := hV v (Or.inr hv); omega
              rcases pb_r h2 with ⟨q, p, h3, rfl⟩ | ⟨dd, h3, h4⟩
              · exact ⟨fun e he => by cases he; exact psh (nest_am hd hq1 h3), fun a ha => (by cases ha)⟩
              · obtain ⟨e1, e2⟩ := nest_y (b := (st.2.2.1.length : Int)) hd d60 hq1 h3
                have hsg : sgS (tk X n st.1) = 1 := by rcases c2 with c | c <;> (rw [c]; decide)
                have hc0 : ctxS 0 ((tk X n st.1, (st.2.2.1.length : Int)) :: S) := by show sgS (tk X n st.1) ≤ 1; omega
                rcases pb_r h4 with ⟨q, p, h5, rfl⟩ | ⟨u, h5, h6⟩
                · have h7 := (ih 0 dd x (adv X n s1) ((tk X n st.1, (st.2.2.1.length : Int)) :: S) P _ e1 e2 hVs hc0 (by intro h; omega) h5).1 _ rfl
                  exact ⟨fun e he => by cases he; exact psh h7, fun a ha => (by cases ha)⟩
                · cases h6
                  obtain ⟨f1, f2, f3⟩ := (ih 0 dd x (adv X n s1) ((tk X n st.1, (st.2.2.1.length : Int)) :: S) P _ e1 e2 hVs hc0 (by intro h; omega) h5).2 u rfl
                  obtain ⟨g1, g2, g3⟩ := f1
                  obtain ⟨z1, z2, _⟩ := fmS_i (X := X) hn k 0 dd x (adv X n s1) u hVs (by intro h; omega) h5
                  have z2 : u.1.2.2.2.1 = dsc st.2.2.1.length (s1.2.2.1.length - st.2.2.1.length) ++ st.2.2.2.1 := z2.trans b2'
                  have hsc : ∀ v ∈ st.2.2.2.1, v < ((st.2.2.1.length : Nat) : Int) := fun v hv => (hV v (Or.inl hv)).2
                  have eF : ∀ w : Tm, fT ((tk X n st.1, (st.2.2.1.length : Int)) :: S, w :: P, u.1) = (S, qnt (if tk X n st.1 = 33 then 0 else 1) st.2.2.1.length (s1.2.2.1.length - st.2.2.1.length) w :: P, (u.1.1, u.1.2.1, u.1.2.2.1, st.2.2.2.1, u.1.2.2.2.2)) := fun w => fT_q c2 z2 hsc
                  refine ⟨fun e he => (by cases he), fun a ha o ho => ?_⟩
                  cases ha
                  refine psh ?_
                  by_cases c302 : tk X n u.1.1 = 302
                  · obtain ⟨f, g, hfg, f4⟩ := f2 rfl c302
                    refine f4 o (amB_secondq c302 c2 ?_)
                    rw [← hfg, eF]
                    exact ho
                  · refine f3 (by omega) o (OutS.fold (by rw [eF]) (by omega) (fun h => absurd h g1) (fun h => by omega) (fun h => absurd h c302) ?_)
                    rw [eF]
                    exact ho
            · rw [if_neg c4] at h2
              cases h2
              exact ⟨fun e he => by cases he; exact amA_qB hnd c2 hb1 (Or.inr c4), fun a ha => (by cases ha)⟩
        · rw [if_neg c3] at h
          cases h
          have hb1 : bdsS X n M (adv X n st) = pOk (adv X n st) := by
            obtain ⟨M9, hM9⟩ : ∃ M9, M = M9 + 1 := ⟨M - 1, by omega⟩
            rw [hM9]
            unfold bdsS
            rw [if_neg c3]
          exact ⟨fun e he => by cases he; exact amA_qB hnd c2 hb1 (Or.inl rfl), fun a ha => (by cases ha)⟩
      rw [if_neg c2] at h
      by_cases c5 : tk X n st.1 = 40
      · rw [if_pos c5] at h
        have psh : ∀ {r}, OutS X n M true ((40, -1) :: S, P, adv X n st) r → OutS X n M true (S, P, st) r := fun {r} ho => amA_push hnd (Or.inr c5) (by rw [c5]; exact ho)
        rcases pb_r h with ⟨q, p, h1, rfl⟩ | ⟨dd, h1, h2⟩
        · exact ⟨fun e he => by cases he; exact psh (nest_am hd ns_40 h1), fun a ha => (by cases ha)⟩
        · obtain ⟨e1, e2⟩ := nest_y (b := -1) hd d60 ns_40 h1
          have hc0 : ctxS 0 ((40, -1) :: S) := by show sgS 40 ≤ 1; decide
          rcases pb_r h2 with ⟨q, p, h3, rfl⟩ | ⟨u, h3, h4⟩
          · have h5 := (ih 0 dd x (adv X n st) ((40, -1) :: S) P _ e1 e2 hVa hc0 (by intro h; omega) h3).1 _ rfl
            exact ⟨fun e he => by cases he; exact psh h5, fun a ha => (by cases ha)⟩
          · obtain ⟨f1, f2, f3⟩ := (ih 0 dd x (adv X n st) ((40, -1) :: S) P _ e1 e2 hVa hc0 (by intro h; omega) h3).2 u rfl
            obtain ⟨g1, g2, g3⟩ := f1
            by_cases c6 : tk X n u.1.1 = 41
            · rw [if_pos c6] at h4
              cases h4
              refine ⟨fun e he => (by cases he), fun a ha o ho => ?_⟩
              cases ha
              exact psh (f3 (by omega) o (amB_close c6 ho))
            · rw [if_neg c6] at h4
              cases h4
              refine ⟨fun e he => ?_, fun a ha => (by cases ha)⟩
              cases he
              refine psh ?_
              by_cases c302 : tk X n u.1.1 = 302
              · obtain ⟨f, g, hfg, f4⟩ := f2 rfl c302
                exact f4 _ (amB_second c302 (by show ¬ ((40 : Int) = 33 ∨ (40 : Int) = 63); decide))
              · exact f3 (by omega) _ (amB_par (by omega))
      rw [if_neg c5] at h
      by_cases c7 : tk X n st.1 = 1 ∨ tk X n st.1 = 2
      · rw [if_pos c7] at h
        have h9 := atmS_le (m2 := M) (by omega) h
        rw [hd] at h9
        refine ⟨fun e he => ?_, fun a ha o ho => ?_⟩
        · subst he; exact amA_atomN hnd c7 h9
        · subst ha; exact amA_atom hnd c7 h9 ho
      · rw [if_neg c7] at h
        cases h
        exact ⟨fun e he => by cases he; exact amA_no hnd (by omega), fun a ha => (by cases ha)⟩
    match lvl, hctx, h38, hr with
    | 0, hctx, _, hr =>
      have hctx : tpS S ≤ 1 := hctx
      replace hr : pb (fmS X n k 1 d x st) (fun r => if tk X n r.1.1 = 302 then pb (fmS X n k 1 d x (adv X n r.1)) (fun u => pOk (u.1, mk2 7 r.2 u.2)) else pOk r) = some r := hr
      show (∀ e, r = .inl e → OutS X n M true (S, P, st) (.inl e)) ∧ (∀ a, r = .inr a → folS 0 (tk X n a.1.1) ∧ ((0 : Nat) = 0 → tk X n a.1.1 = 302 → ∃ f g, a.2 = mk2 7 f g ∧ ∀ o, OutS X n M false ((302, -1) :: S, g :: f :: P, a.1) o → OutS X n M true (S, P, st) o) ∧ (¬ ((0 : Nat) = 0 ∧ tk X n a.1.1 = 302) → ∀ o, OutS X n M false (S, a.2 :: P, a.1) o → OutS X n M true (S, P, st) o))
      have hsub := fun r => sub 1 r (by decide) (by decide) (by show tpS S ≤ 3; omega)
      have hK : tpK S ≠ 302 := by
        cases S with
        | nil => exact (by show ¬ (0 : Int) = 302; decide)
        | cons y S =>
          intro hy
          have hy : y.1 = 302 := hy
          have : sgS y.1 ≤ 1 := hctx
          rw [hy] at this
          exact absurd this (by decide)
      have hd2 : d = dpS ((302, -1) :: S) := by show d = nsS 302 + dpS S; rw [show nsS 302 = 0 by decide]; omega
      rcases pb_r hr with ⟨q, p, h2, rfl⟩ | ⟨a, h2, h3⟩
      · exact ⟨fun e he => by cases he; exact (hsub _ h2).1 _ rfl, fun a ha => (by cases ha)⟩
      · obtain ⟨f1, f2, f3⟩ := (hsub _ h2).2 a rfl
        by_cases c : tk X n a.1.1 = 302
        · rw [if_pos c] at h3
          have go : ∀ o, OutS X n M true ((302, -1) :: S, a.2 :: P, adv X n a.1) o → OutS X n M true (S, P, st) o := fun o ho => f3 o (amB_eq c (by omega) hK ho)
          rcases pb_r h3 with ⟨q, p, h4, rfl⟩ | ⟨u, h4, h5⟩
          · exact ⟨fun e he => by cases he; exact go _ (binN 302 1 d a.2 a.1 _ (by simp) hd2 d60 f2 h4), fun a ha => (by cases ha)⟩
          · cases h5
            obtain ⟨g1, g2⟩ := bin 302 1 d a.2 a.1 u (by simp) hd2 d60 f2 h4
            obtain ⟨w1, w2, w3⟩ := g1
            refine ⟨fun e he => (by cases he), fun b hb => ?_⟩
            cases hb
            refine ⟨⟨w1, w2, w3⟩, fun _ _ => ⟨a.2, u.2, rfl, fun o ho => go o (g2 o ho)⟩, fun hno o ho => go o (g2 o ?_)⟩
            have hno : ¬ tk X n u.1.1 = 302 := fun h => hno ⟨rfl, h⟩
            exact OutS.fold (by rw [fT_bin (by decide) (by decide)]) (by decide) (fun h => absurd h w1) (fun h => by omega) (fun h => absurd h hno) (by rw [fT_bin (by decide) (by decide)]; exact ho)
        · rw [if_neg c] at h3
          cases h3
          refine ⟨fun e he => (by cases he), fun b hb => ?_⟩
          cases hb
          exact ⟨f1, fun _ h => absurd h c, fun _ => f3⟩
    | 1, hctx, _, hr =>
      have hctx : tpS S ≤ 3 := hctx
      replace hr : pb (fmS X n k 2 d x st) (fun r => if tk X n r.1.1 = 301 then pb (nstS X n d (adv X n r.1)) (fun d1 => pb (fmS X n k 1 d1 x (adv X n r.1)) (fun u => pOk (u.1, mk2 6 r.2 u.2))) else pOk r) = some r := hr
      show (∀ e, r = .inl e → OutS X n M true (S, P, st) (.inl e)) ∧ (∀ a, r = .inr a → folS 1 (tk X n a.1.1) ∧ ((1 : Nat) = 0 → tk X n a.1.1 = 302 → ∃ f g, a.2 = mk2 7 f g ∧ ∀ o, OutS X n M false ((302, -1) :: S, g :: f :: P, a.1) o → OutS X n M true (S, P, st) o) ∧ (¬ ((1 : Nat) = 0 ∧ tk X n a.1.1 = 302) → ∀ o, OutS X n M false (S, a.2 :: P, a.1) o → OutS X n M true (S, P, st) o))
      have hsub := fun r => sub 2 r (by decide) (by decide) (by show tpS S ≤ 3; omega)
      rcases pb_r hr with ⟨q, p, h2, rfl⟩ | ⟨a, h2, h3⟩
      · exact ⟨fun e he => by cases he; exact (hsub _ h2).1 _ rfl, fun a ha => (by cases ha)⟩
      · obtain ⟨f1, f2, f3⟩ := (hsub _ h2).2 a rfl
        obtain ⟨v1, v2⟩ := f1
        by_cases c : tk X n a.1.1 = 301
        · rw [if_pos c] at h3
          have go : ∀ o, OutS X n M true ((301, -1) :: S, a.2 :: P, adv X n a.1) o → OutS X n M true (S, P, st) o := fun o ho => f3 o (amB_op (by omega) (by rw [if_neg (by omega)]; omega) (by rw [c]; exact ho))
          rcases pb_r h3 with ⟨q, p, h4, rfl⟩ | ⟨dd, h4, h5⟩
          · exact ⟨fun e he => by cases he; exact go _ (nest_am hd ns_301 h4), fun a ha => (by cases ha)⟩
          · obtain ⟨e1, e2⟩ := nest_y (b := -1) hd d60 ns_301 h4
            rcases pb_r h5 with ⟨q, p, h6, rfl⟩ | ⟨u, h6, h7⟩
            · exact ⟨fun e he => by cases he; exact go _ (binN 301 1 dd a.2 a.1 _ (by simp) e1 e2 f2 h6), fun a ha => (by cases ha)⟩
            · cases h7
              obtain ⟨g1, g2⟩ := bin 301 1 dd a.2 a.1 u (by simp) e1 e2 f2 h6
              obtain ⟨w1, w2, w3⟩ := g1
              refine ⟨fun e he => (by cases he), fun b hb => ?_⟩
              cases hb
              refine ⟨⟨w1, w2, w3⟩, fun h => absurd h (by decide), fun _ o ho => go o (g2 o ?_)⟩
              exact OutS.fold (by rw [fT_bin (by decide) (by decide)]) (by decide) (fun h => absurd h w1) (fun h => by omega) (fun _ => by decide) (by rw [fT_bin (by decide) (by decide)]; exact ho)
        · rw [if_neg c] at h3
          cases h3
          refine ⟨fun e he => (by cases he), fun b hb => ?_⟩
          cases hb
          exact ⟨⟨v1, v2, c⟩, fun h => absurd h (by decide), fun _ => f3⟩
    | 2, hctx, _, hr =>
      have hctx : tpS S ≤ 3 := hctx
      replace hr : pb (fmS X n k 3 d x st) (fun r => fmS X n k 5 d r.2 r.1) = some r := hr
      show (∀ e, r = .inl e → OutS X n M true (S, P, st) (.inl e)) ∧ (∀ a, r = .inr a → folS 2 (tk X n a.1.1) ∧ ((2 : Nat) = 0 → tk X n a.1.1 = 302 → ∃ f g, a.2 = mk2 7 f g ∧ ∀ o, OutS X n M false ((302, -1) :: S, g :: f :: P, a.1) o → OutS X n M true (S, P, st) o) ∧ (¬ ((2 : Nat) = 0 ∧ tk X n a.1.1 = 302) → ∀ o, OutS X n M false (S, a.2 :: P, a.1) o → OutS X n M true (S, P, st) o))
      have hsub := fun r => sub 3 r (by decide) (by decide) (by show tpS S ≤ 4; omega)
      rcases pb_r hr with ⟨q, p, h2, rfl⟩ | ⟨a, h2, h3⟩
      · exact ⟨fun e he => by cases he; exact (hsub _ h2).1 _ rfl, fun a ha => (by cases ha)⟩
      · obtain ⟨f1, f2, f3⟩ := (hsub _ h2).2 a rfl
        obtain ⟨j1, j2⟩ := ih 5 d a.2 a.1 S P r hd d60 f2 hctx (fun _ => f1) h3
        refine ⟨fun e he => f3 _ (j1 e he), fun b hb => ?_⟩
        obtain ⟨w1, w2, w3⟩ := j2 b hb
        exact ⟨w1, fun h => absurd h (by decide), fun _ o ho => f3 o (w3 (by omega) o ho)⟩
    | 3, hctx, _, hr =>
      have hctx : tpS S ≤ 4 := hctx
      replace hr : pb (fmS X n k 4 d x st) (fun r => fmS X n k 6 d r.2 r.1) = some r := hr
      show (∀ e, r = .inl e → OutS X n M true (S, P, st) (.inl e)) ∧ (∀ a, r = .inr a → folS 3 (tk X n a.1.1) ∧ ((3 : Nat) = 0 → tk X n a.1.1 = 302 → ∃ f g, a.2 = mk2 7 f g ∧ ∀ o, OutS X n M false ((302, -1) :: S, g :: f :: P, a.1) o → OutS X n M true (S, P, st) o) ∧ (¬ ((3 : Nat) = 0 ∧ tk X n a.1.1 = 302) → ∀ o, OutS X n M false (S, a.2 :: P, a.1) o → OutS X n M true (S, P, st) o))
      have hsub := fun r => sub 4 r (by decide) (by decide) trivial
      rcases pb_r hr with ⟨q, p, h2, rfl⟩ | ⟨a, h2, h3⟩
      · exact ⟨fun e he => by cases he; exact (hsub _ h2).1 _ rfl, fun a ha => (by cases ha)⟩
      · obtain ⟨f1, f2, f3⟩ := (hsub _ h2).2 a rfl
        obtain ⟨j1, j2⟩ := ih 6 d a.2 a.1 S P r hd d60 f2 hctx (by intro h; omega) h3
        refine ⟨fun e he => f3 _ (j1 e he), fun b hb => ?_⟩
        obtain ⟨w1, w2, w3⟩ := j2 b hb
        exact ⟨w1, fun h => absurd h (by decide), fun _ o ho => f3 o (w3 (by omega) o ho)⟩
    | 5, hctx, h38, hr =>
      have hctx : tpS S ≤ 3 := hctx
      have h38 := h38 rfl
      replace hr : (if tk X n st.1 = 124 then pb (fmS X n k 3 d x (adv X n st)) (fun r => fmS X n k 5 d (mk2 5 x r.2) r.1) else pOk (st, x)) = some r := hr
      show (∀ e, r = .inl e → OutS X n M false (S, x :: P, st) (.inl e)) ∧ (∀ a, r = .inr a → folS 5 (tk X n a.1.1) ∧ ((5 : Nat) = 0 → tk X n a.1.1 = 302 → ∃ f g, a.2 = mk2 7 f g ∧ ∀ o, OutS X n M false ((302, -1) :: S, g :: f :: P, a.1) o → OutS X n M true (S, P, st) o) ∧ (¬ ((5 : Nat) = 0 ∧ tk X n a.1.1 = 302) → ∀ o, OutS X n M false (S, a.2 :: P, a.1) o → OutS X n M false (S, x :: P, st) o))
      by_cases c : tk X n st.1 = 124
      · rw [if_pos c] at hr
        have hd2 : d = dpS ((124, -1) :: S) := by show d = nsS 124 + dpS S; rw [show nsS 124 = 0 by decide]; omega
        have go : ∀ o, OutS X n M true ((124, -1) :: S, x :: P, adv X n st) o → OutS X n M false (S, x :: P, st) o := fun o ho => amB_op (by omega) (by rw [if_neg (by omega)]; omega) (by rw [c]; exact ho)
        rcases pb_r hr with ⟨q, p, h2, rfl⟩ | ⟨u, h2, h3⟩
        · exact ⟨fun e he => by cases he; exact go _ (binN 124 3 d x st _ (by simp) hd2 d60 hV h2), fun a ha => (by cases ha)⟩
        · obtain ⟨g1, g2⟩ := bin 124 3 d x st u (by simp) hd2 d60 hV h2
          have g1 : tk X n u.1.1 ≠ 38 := g1
          obtain ⟨p1, p2, _⟩ := fmS_i (X := X) hn k 3 d x (adv X n st) u (hV.i (PI.adv st) rfl) (by intro h; omega) h2
          have hVu : PV u.1 := (hV.i (PI.adv st) rfl).i p1 p2
          obtain ⟨j1, j2⟩ := ih 5 d (mk2 5 x u.2) u.1 S P r hd d60 hVu hctx (fun _ => g1) h3
          have fol : ∀ o, OutS X n M false (S, mk2 5 x u.2 :: P, u.1) o → OutS X n M false (S, x :: P, st) o := fun o ho => go o (g2 o (OutS.fold (by rw [fT_bin (by decide) (by decide)]) (by decide) (fun h => absurd h g1) (fun _ => by decide) (fun _ => by decide) (by rw [fT_bin (by decide) (by decide)]; exact ho)))
          refine ⟨fun e he => fol _ (j1 e he), fun b hb => ?_⟩
          obtain ⟨w1, w2, w3⟩ := j2 b hb
          exact ⟨w1, fun h => absurd h (by decide), fun _ o ho => fol o (w3 (by omega) o ho)⟩
      · rw [if_neg c] at hr
        cases hr
        refine ⟨fun e he => (by cases he), fun b hb => ?_⟩
        cases hb
        exact ⟨⟨h38, c⟩, fun h => absurd h (by decide), fun _ o ho => ho⟩
    | 6, hctx, _, hr =>
      have hctx : tpS S ≤ 4 := hctx
      replace hr : (if tk X n st.1 = 38 then pb (fmS X n k 4 d x (adv X n st)) (fun r => fmS X n k 6 d (mk2 4 x r.2) r.1) else pOk (st, x)) = some r := hr
      show (∀ e, r = .inl e → OutS X n M false (S, x :: P, st) (.inl e)) ∧ (∀ a, r = .inr a → folS 6 (tk X n a.1.1) ∧ ((6 : Nat) = 0 → tk X n a.1.1 = 302 → ∃ f g, a.2 = mk2 7 f g ∧ ∀ o, OutS X n M false ((302, -1) :: S, g :: f :: P, a.1) o → OutS X n M true (S, P, st) o) ∧ (¬ ((6 : Nat) = 0 ∧ tk X n a.1.1 = 302) → ∀ o, OutS X n M false (S, a.2 :: P, a.1) o → OutS X n M false (S, x :: P, st) o))
      by_cases c : tk X n st.1 = 38
      · rw [if_pos c] at hr
        have hd2 : d = dpS ((38, -1) :: S) := by show d = nsS 38 + dpS S; rw [show nsS 38 = 0 by decide]; omega
        have go : ∀ o, OutS X n M true ((38, -1) :: S, x :: P, adv X n st) o → OutS X n M false (S, x :: P, st) o := fun o ho => amB_op (by omega) (by rw [if_pos c]; omega) (by rw [c]; exact ho)
        rcases pb_r hr with ⟨q, p, h2, rfl⟩ | ⟨u, h2, h3⟩
        · exact ⟨fun e he => by cases he; exact go _ (binN 38 4 d x st _ (by simp) hd2 d60 hV h2), fun a ha => (by cases ha)⟩
        · obtain ⟨_, g2⟩ := bin 38 4 d x st u (by simp) hd2 d60 hV h2
          obtain ⟨p1, p2, _⟩ := fmS_i (X := X) hn k 4 d x (adv X n st) u (hV.i (PI.adv st) rfl) (by intro h; omega) h2
          have hVu : PV u.1 := (hV.i (PI.adv st) rfl).i p1 p2
          obtain ⟨j1, j2⟩ := ih 6 d (mk2 4 x u.2) u.1 S P r hd d60 hVu hctx (by intro h; omega) h3
          have fol : ∀ o, OutS X n M false (S, mk2 4 x u.2 :: P, u.1) o → OutS X n M false (S, x :: P, st) o := fun o ho => go o (g2 o (OutS.fold (by rw [fT_bin (by decide) (by decide)]) (by decide) (fun _ => by decide) (fun _ => by decide) (fun _ => by decide) (by rw [fT_bin (by decide) (by decide)]; exact ho)))
          refine ⟨fun e he => fol _ (j1 e he), fun b hb => ?_⟩
          obtain ⟨w1, w2, w3⟩ := j2 b hb
          exact ⟨w1, fun h => absurd h (by decide), fun _ o ho => fol o (w3 (by omega) o ho)⟩
      · rw [if_neg c] at hr
        cases hr
        refine ⟨fun e he => (by cases he), fun b hb => ?_⟩
        cases hb
        exact ⟨c, fun h => absurd h (by decide), fun _ o ho => ho⟩
    | 4, hctx, _, hr =>
      obtain ⟨u1, u2⟩ := unit r hr
      exact ⟨u1, fun a ha => ⟨trivial, fun h => absurd h (by decide), fun _ => u2 a ha⟩⟩
    | l + 7, hctx, _, hr =>
      obtain ⟨u1, u2⟩ := unit r hr
      rw [show decide (l + 7 ≤ 4 ∨ 7 ≤ l + 7) = true from decide_eq_true (by omega), if_neg (by omega)]
      exact ⟨u1, fun a ha => ⟨trivial, fun h => absurd h (by omega), fun _ => u2 a ha⟩⟩
/-- a SENTENCE: the machine with the row of signs says what the spec says -/
theorem am_ok {X : Int → Int} {n : Int} (hn : n ≤ 20000) {M : Nat} {x : Tm} {st : PS} (hV : PV st) {r : (Int × Int) ⊕ (PS × Tm)} (h : fmS X n M 0 0 x st = some r) : (∀ e, r = .inl e → OutS X n M true ([], [], st) (.inl e)) ∧ (∀ a, r = .inr a → (tk X n a.1.1 = 46 → OutS X n M true ([], [], st) (.inr a)) ∧ (tk X n a.1.1 ≠ 46 → OutS X n M true ([], [], st) (.inl (1, tq X n a.1.1)))) := by
  obtain ⟨h1, h2⟩ := lv_all (X := X) hn M (Nat.le_refl _) 0 0 x st [] [] r rfl (by decide) hV (by show (0 : Int) ≤ 1; decide) (by intro h; omega) h
  refine ⟨h1, fun a ha => ?_⟩
  obtain ⟨⟨g1, g2, g3⟩, f2, f3⟩ := h2 a ha
  refine ⟨fun h46 => f3 (by omega) _ (amB_dot h46), fun h46 => ?_⟩
  by_cases c302 : tk X n a.1.1 = 302
  · obtain ⟨f, g, _, f4⟩ := f2 rfl c302
    exact f4 _ (amB_second c302 (by show ¬ ((0 : Int) = 33 ∨ (0 : Int) = 63); decide))
  · exact f3 (by omega) _ (amB_top (by omega))
