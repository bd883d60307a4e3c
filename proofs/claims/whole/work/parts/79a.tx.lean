/-! what is shown: the TEXT of a TERM, of a LITERAL, of a CLAUSE -/
/-- NAMES: the letters, what it is (0 not yet known, 1 PREDICATE, 2 function), how many TERMS -/
abbrev PN : Type := List (List Int × Int × Int)
/-- a NUMBER -/
def txN (n : Nat) : List Int := if n ≤ 9 then [48 + (n : Int)] else if n ≤ 99 then [48 + ((n / 10 : Nat) : Int), 48 + ((n % 10 : Nat) : Int)] else [48 + ((n / 100 : Nat) : Int), 48 + ((n / 10 % 10 : Nat) : Int), 48 + ((n % 10 : Nat) : Int)]
theorem txN_len {n : Nat} : (txN n).length ≤ 3 := by
  unfold txN
  split
  · simp
  · split <;> simp
/-- a WORD of a TERM -/
def txW (nm : PN) (c : Int) : List Int := if c < 0 then 88 :: txN (-1 - c).toNat else if (nm.length : Int) < c then 119 :: txN (c - (nm.length : Int) - 1).toNat else match nm[(c - 1).toNat]? with
  | some x => x.1
  | none => []
/-- TERMS beside each other, b ahead of the first -/
def txB (nm : PN) : Int → T → List Int
  | _, .leaf _ => []
  | b, .branch l k s => b :: (txW nm (cl l) ++ (if wt k = 0 then [] else txB nm 40 k ++ [41])) ++ txB nm 44 s
def txM (nm : PN) (x : Tm) : List Int := txW nm (cl x.1) ++ (if wt x.2 = 0 then [] else txB nm 40 x.2 ++ [41])
/-- TERMS that are shown: no TRUE, numbers of three figures -/
def SW : T → Prop
  | .leaf _ => True
  | .branch l k s => (cl l ≠ 0 ∧ -300 ≤ cl l ∧ cl l < 900 ∧ (cl l < 0 → wt k = 0)) ∧ SW k ∧ SW s
def SWm (x : Tm) : Prop := (cl x.1 ≠ 0 ∧ -300 ≤ cl x.1 ∧ cl x.1 < 900 ∧ (cl x.1 < 0 → wt x.2 = 0)) ∧ SW x.2
/-- a LITERAL -/
def txLt (nm : PN) (a : Lt) : List Int := if cl a.2.2.1 = 0 then (if a.1 = 0 then [126] else []) ++ txM nm a.2.1 else txM nm a.2.1 ++ [32] ++ (if a.1 = 0 then [33] else []) ++ [61, 32] ++ txM nm a.2.2
def txC2 (nm : PN) : List Lt → List Int
  | [] => []
  | a :: E => [32, 124, 32] ++ txLt nm a ++ txC2 nm E
def txCl (nm : PN) : List Lt → List Int
  | [] => [102, 97, 108, 115, 101]
  | a :: E => txLt nm a ++ txC2 nm E
def twL : List Lt → Nat
  | [] => 0
  | a :: E => 34 * (tw a.2.1 + tw a.2.2) + 7 + twL E
