/-! what a TEXT says: its NAMES, bound VARIABLES, TERMS and FORMULAS, or its FAULT -/
/-- position, NAMES, bound VARIABLES (where, how long), those around (innermost first), the free ones of the SENTENCE -/
abbrev PS : Type := Int × PN × List (Int × Int) × List Int × List Int
abbrev PR (α : Type) : Type := Option ((Int × Int) ⊕ α)
def pb {α γ : Type} (o : PR α) (f : α → PR γ) : PR γ := match o with
  | none => none
  | some (.inl e) => some (.inl e)
  | some (.inr a) => f a
abbrev pOk {α : Type} (a : α) : PR α := some (.inr a)
abbrev pNo {α : Type} (k q : Int) : PR α := some (.inl (k, q))
theorem pb_r {α γ : Type} {o : PR α} {f : α → PR γ} {r : (Int × Int) ⊕ γ} (h : pb o f = some r) : (∃ k q, o = pNo k q ∧ r = .inl (k, q)) ∨ ∃ a, o = pOk a ∧ f a = some r := by
  unfold pb at h
  match o, h with
  | some (.inl (k, q)), h => cases h; exact Or.inl ⟨k, q, rfl, rfl⟩
  | some (.inr a), h => exact Or.inr ⟨a, rfl, h⟩
def wd (X : Int → Int) (q e : Int) : List Int := (List.range (e - q).toNat).map (fun (i : Nat) => X (q + (i : Int)))
section SPC
variable (X : Int → Int) (n : Int)
def adv (st : PS) : PS := (te X n st.1, st.2)
def cntS (st : PS) : Int := tq X n st.1
def nstS (d : Int) (st : PS) : PR Int := if d = 60 then pNo 3 (tq X n st.1) else pOk (d + 1)
def nmF (w : List Int) : PN → Int → Option Int
  | [], _ => none
  | x :: L, k => if x.1 = w then some k else nmF w L (k + 1)
def symS (st : PS) : PR (PS × Int) := match nmF (wd X (tq X n st.1) (te X n st.1)) st.2.1 1 with
  | some k => pOk (st, k)
  | none => if st.2.1.length = 250 then pNo 3 (tq X n st.1) else pOk ((st.1, st.2.1 ++ [(wd X (tq X n st.1) (te X n st.1), 0, 0)], st.2.2), (st.2.1.length : Int) + 1)
def bwd (bd : List (Int × Int)) (v : Int) : List Int := match bd[v.toNat]? with
  | some (a, s) => wd X a (a + s)
  | none => []
def vrF (w : List Int) (bd : List (Int × Int)) : List Int → Option Int
  | [] => none
  | v :: L => if bwd X bd v = w then some v else vrF w bd L
def bndS (st : PS) : PR (PS × Int) := if st.2.2.1.length = 300 then pNo 3 (tq X n st.1) else pOk ((st.1, st.2.1, st.2.2.1 ++ [(tq X n st.1, te X n st.1 - tq X n st.1)], st.2.2.2), (st.2.2.1.length : Int))
def varS (st : PS) : PR (PS × Int) := match vrF X (wd X (tq X n st.1) (te X n st.1)) st.2.2.1 st.2.2.2.1 with
  | some v => pOk (st, v)
  | none => match vrF X (wd X (tq X n st.1) (te X n st.1)) st.2.2.1 st.2.2.2.2 with
    | some v => pOk (st, v)
    | none => pb (bndS X n st) (fun r => pOk ((r.1.1, r.1.2.1, r.1.2.2.1, r.1.2.2.2.1, r.1.2.2.2.2 ++ [r.2]), r.2))
def chkS (st : PS) (k is a q : Int) : PR PS := match st.2.1[(k - 1).toNat]? with
  | none => none
  | some x => if x.2.1 = 0 then pOk (st.1, st.2.1.set (k - 1).toNat (x.1, is, a), st.2.2) else if x.2.1 = is ∧ x.2.2 = a then pOk st else pNo 2 q
/-- TERMS: one, or those in ( ) up to the bracket -/
def sdS : Nat → Bool → Int → PS → PR (PS × T)
  | 0, _, _, _ => none
  | m + 1, true, d, st => pb (sdS m false d st) (fun r => if tk X n r.1.1 = 44 then pb (sdS m true d (adv X n r.1)) (fun u => pOk (u.1, cat r.2 u.2)) else if tk X n r.1.1 = 41 then pOk (adv X n r.1, r.2) else pNo 1 (tq X n r.1.1))
  | m + 1, false, d, st =>
    if tk X n st.1 = 1 then pb (varS X n st) (fun r => pOk (adv X n r.1, nd (cu (-1 - r.2)) nl nl))
    else if tk X n st.1 = 2 then pb (symS X n st) (fun r =>
      pb (if tk X n (adv X n r.1).1 = 40 then pb (nstS X n d (adv X n (adv X n r.1))) (fun d1 => sdS m true d1 (adv X n (adv X n r.1))) else pOk (adv X n r.1, nl)) (fun u =>
        pb (chkS u.1 r.2 2 (len u.2 : Int) (tq X n st.1)) (fun st4 => pOk (st4, nd (cu r.2) u.2 nl))))
    else pNo 1 (tq X n st.1)
/-- FORMULAS: 0 equal, 1 unequal, 2 a PREDICATE, 3 not, 4 and, 5 or, 6 implies, 7 equivalent, 8 + 2 v all, 9 + 2 v some -/
def mk1 (l : Nat) (a : Tm) : Tm := (l, nd a.1 a.2 nl)
def mk2 (l : Nat) (a b : Tm) : Tm := (l, nd a.1 a.2 (nd b.1 b.2 nl))
def eqnS (m : Nat) (t : T) (d : Int) (st : PS) : PR (PS × Tm) := pb (sdS X n m false d (adv X n st)) (fun r => pOk (r.1, ((if tk X n st.1 = 300 then 1 else 0), cat t r.2)))
def atmS (m : Nat) (d : Int) (st : PS) : PR (PS × Tm) :=
  if tk X n st.1 = 1 then pb (varS X n st) (fun r => if tk X n (adv X n r.1).1 = 61 ∨ tk X n (adv X n r.1).1 = 300 then eqnS X n m (nd (cu (-1 - r.2)) nl nl) d (adv X n r.1) else pNo 1 (tq X n (adv X n r.1).1))
  else pb (symS X n st) (fun r =>
    pb (if tk X n (adv X n r.1).1 = 40 then pb (nstS X n d (adv X n (adv X n r.1))) (fun d1 => sdS X n m true d1 (adv X n (adv X n r.1))) else pOk (adv X n r.1, nl)) (fun u =>
      pb (chkS u.1 r.2 (if tk X n u.1.1 = 61 ∨ tk X n u.1.1 = 300 then 2 else 1) (len u.2 : Int) (tq X n st.1)) (fun st4 =>
        if tk X n u.1.1 = 61 ∨ tk X n u.1.1 = 300 then eqnS X n m (nd (cu r.2) u.2 nl) d st4 else pOk (st4, mk1 2 (cu r.2, u.2)))))
/-- the VARIABLES behind ! or ? -/
def bdsS : Nat → PS → PR PS
  | 0, _ => none
  | m + 1, st => if tk X n st.1 = 1 then pb (bndS X n st) (fun r => bdsS m (adv X n (r.1.1, r.1.2.1, r.1.2.2.1, r.2 :: r.1.2.2.2.1, r.1.2.2.2.2))) else pOk st
def qnt (k : Nat) (first : Nat) : Nat → Tm → Tm
  | 0, f => f
  | j + 1, f => qnt k first j (mk1 (8 + k + 2 * (first + j)) f)
def fmS : Nat → Nat → Int → Tm → PS → PR (PS × Tm)
  | 0, _, _, _, _ => none
  | m + 1, 0, d, x, st => pb (fmS m 1 d x st) (fun r => if tk X n r.1.1 = 302 then pb (fmS m 1 d x (adv X n r.1)) (fun u => pOk (u.1, mk2 7 r.2 u.2)) else pOk r)
  | m + 1, 1, d, x, st => pb (fmS m 2 d x st) (fun r => if tk X n r.1.1 = 301 then pb (nstS X n d (adv X n r.1)) (fun d1 => pb (fmS m 1 d1 x (adv X n r.1)) (fun u => pOk (u.1, mk2 6 r.2 u.2))) else pOk r)
  | m + 1, 2, d, x, st => pb (fmS m 3 d x st) (fun r => fmS m 5 d r.2 r.1)
  | m + 1, 3, d, x, st => pb (fmS m 4 d x st) (fun r => fmS m 6 d r.2 r.1)
  | m + 1, 5, d, x, st => if tk X n st.1 = 124 then pb (fmS m 3 d x (adv X n st)) (fun r => fmS m 5 d (mk2 5 x r.2) r.1) else pOk (st, x)
  | m + 1, 6, d, x, st => if tk X n st.1 = 38 then pb (fmS m 4 d x (adv X n st)) (fun r => fmS m 6 d (mk2 4 x r.2) r.1) else pOk (st, x)
  | m + 1, _, d, x, st =>
    if tk X n st.1 = 126 then pb (nstS X n d (adv X n st)) (fun d1 => pb (fmS m 4 d1 x (adv X n st)) (fun r => pOk (r.1, mk1 3 r.2)))
    else if tk X n st.1 = 33 ∨ tk X n st.1 = 63 then
      if tk X n (adv X n st).1 = 1 then pb (bdsS X n m (adv X n st)) (fun s1 => if tk X n s1.1 = 58 then pb (nstS X n d (adv X n s1)) (fun d1 => pb (fmS m 0 d1 x (adv X n s1)) (fun r => pOk ((r.1.1, r.1.2.1, r.1.2.2.1, st.2.2.2.1, r.1.2.2.2.2), qnt (if tk X n st.1 = 33 then 0 else 1) st.2.2.1.length (s1.2.2.1.length - st.2.2.1.length) r.2))) else pNo 1 (tq X n s1.1))
      else pNo 1 (tq X n (adv X n st).1)
    else if tk X n st.1 = 40 then pb (nstS X n d (adv X n st)) (fun d1 => pb (fmS m 0 d1 x (adv X n st)) (fun r => if tk X n r.1.1 = 41 then pOk (adv X n r.1, r.2) else pNo 1 (tq X n r.1.1)))
    else if tk X n st.1 = 1 ∨ tk X n st.1 = 2 then atmS X n m d st
    else pNo 1 (tq X n st.1)
/-- a SENTENCE: where it begins, is it to be proved, its FORMULA, its free VARIABLES -/
abbrev SE : Type := Int × Bool × Tm × List Int
def prvS (p : Int) : Bool := decide (tk X n p = 2 ∧ wd X (tq X n p) (te X n p) = [112, 114, 111, 118, 101])
def seS : Nat → PS → List SE → PR (PS × List SE)
  | 0, _, _ => none
  | m + 1, st, L => if tk X n st.1 = 0 then pOk (st, L) else
    pb (fmS X n m 0 0 (0, nl) ((if prvS X n st.1 then te X n st.1 else st.1), st.2.1, st.2.2.1, [], [])) (fun r =>
      if tk X n r.1.1 = 46 then seS m (adv X n r.1) (L ++ [(tq X n st.1, prvS X n st.1, r.2, r.1.2.2.2.2)]) else pNo 1 (tq X n r.1.1))
end SPC
