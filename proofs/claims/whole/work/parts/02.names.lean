/-! names: classes, fields; a word of the tables by its place -/
def lw_tbg : List Cond := lw_tbl.filter goodWord
theorem tg_in {w : Cond} (h : w ∈ lw_tbl) (hg : goodWord w = true) : w ∈ lw_tbg := List.mem_filter.mpr ⟨h, hg⟩
theorem tg_of {w : Cond} (h : w ∈ lw_tbg) : w ∈ lw_tbl := (List.mem_filter.mp h).1
theorem tb_in {i : Nat} {w : Cond} (h : tables_1[i]? = some w) (hg : goodWord w = true) : w ∈ lw_tbg := tg_in (List.mem_append_right _ (List.mem_of_getElem? h)) hg
theorem tn_in {i : Nat} {w : Cond} (h : tables_1[i]? = some w) : w ∈ lw_tbl := List.mem_append_right _ (List.mem_of_getElem? h)
theorem pv_in {i : Nat} {w : Cond} (h : (k2_sels lw_privs)[i]? = some w) (hg : goodWord w = true) : w ∈ lw_tbg := tg_in (List.mem_append_left _ (List.mem_of_getElem? h)) hg
theorem tb_all {ws : List Cond} (ps : List Nat) (h : ws = ps.filterMap (fun i => tables_1[i]?)) (hg : ws.all goodWord = true) : ∀ w ∈ ws, w ∈ lw_tbg := by
  intro w hw
  have hg1 := List.all_eq_true.mp hg w hw
  rw [h] at hw
  obtain ⟨i, -, hi⟩ := List.mem_filterMap.mp hw
  exact tb_in hi hg1
/-- what the tables have of it: its number, name, fields, their types, what a new one holds -/
def ax_ok (cl : List vw_C) (ci : Nat) (C : String) (T : u_T) (N : Nat) (ty : Nat → FieldType) (fs : List Value) : Prop :=
  cl[ci]? = some (C, T, N) ∧ (∀ w ∈ u_ws C T N, w ∈ lw_tbg) ∧ (∀ k, k < N → parseFieldDescriptor (T k).2.2.1 = some (ty k)) ∧ (∀ a, a < N → ∀ b, b < N → a ≠ b → (T a).2.1 ≠ (T b).2.1) ∧ (∀ j, j < N → defaultValue (ty j) = vp_V fs j)
def R_Row : String := "ClauseProver$Row"
def F_Row : u_T := fun k => match k with
  | 0 => ("ClauseProver$Row", "at", "[I", false)
  | _ => ("ClauseProver$Row", "size", "I", false)
def t_Row : Nat → FieldType := fun k => match k with
  | 0 => .array .int
  | _ => .int
def z_Row : List Value := [.null, .int 0]
def R_Sym : String := "ClauseProver$Symbols"
def F_Sym : u_T := fun k => match k with
  | 0 => ("ClauseProver$Symbols", "arity", "[I", true)
  | 1 => ("ClauseProver$Symbols", "nameAt", "[I", true)
  | 2 => ("ClauseProver$Symbols", "nameSize", "[I", true)
  | 3 => ("ClauseProver$Symbols", "letters", "LClauseProver$Row;", true)
  | 4 => ("ClauseProver$Symbols", "names", "I", false)
  | 5 => ("ClauseProver$Symbols", "size", "I", false)
  | 6 => ("ClauseProver$Symbols", "kind", "[I", true)
  | _ => ("ClauseProver$Symbols", "balance", "[I", true)
def t_Sym : Nat → FieldType := fun k => match k with
  | 0 => .array .int
  | 1 => .array .int
  | 2 => .array .int
  | 3 => .object "ClauseProver$Row"
  | 4 => .int
  | 5 => .int
  | 6 => .array .int
  | _ => .array .int
def z_Sym : List Value := [.null, .null, .null, .null, .int 0, .int 0, .null, .null]
def R_For : String := "ClauseProver$Formulas"
def F_For : u_T := fun k => match k with
  | 0 => ("ClauseProver$Formulas", "terms", "LClauseProver$Row;", true)
  | 1 => ("ClauseProver$Formulas", "outer", "[I", true)
  | 2 => ("ClauseProver$Formulas", "variables", "I", false)
  | 3 => ("ClauseProver$Formulas", "scope", "I", false)
  | 4 => ("ClauseProver$Formulas", "symbols", "LClauseProver$Symbols;", true)
  | 5 => ("ClauseProver$Formulas", "nodes", "LClauseProver$Row;", true)
  | 6 => ("ClauseProver$Formulas", "sentences", "LClauseProver$Row;", true)
  | 7 => ("ClauseProver$Formulas", "wordAt", "[I", true)
  | 8 => ("ClauseProver$Formulas", "wordSize", "[I", true)
  | 9 => ("ClauseProver$Formulas", "level", "[I", true)
  | 10 => ("ClauseProver$Formulas", "sentenceOf", "[I", true)
  | 11 => ("ClauseProver$Formulas", "witness", "[I", true)
  | 12 => ("ClauseProver$Formulas", "replaced", "[Z", true)
  | 13 => ("ClauseProver$Formulas", "free", "[I", true)
  | 14 => ("ClauseProver$Formulas", "freeSize", "I", false)
  | _ => ("ClauseProver$Formulas", "pending", "LClauseProver$Row;", true)
def t_For : Nat → FieldType := fun k => match k with
  | 0 => .object "ClauseProver$Row"
  | 1 => .array .int
  | 2 => .int
  | 3 => .int
  | 4 => .object "ClauseProver$Symbols"
  | 5 => .object "ClauseProver$Row"
  | 6 => .object "ClauseProver$Row"
  | 7 => .array .int
  | 8 => .array .int
  | 9 => .array .int
  | 10 => .array .int
  | 11 => .array .int
  | 12 => .array .boolean
  | 13 => .array .int
  | 14 => .int
  | _ => .object "ClauseProver$Row"
def z_For : List Value := [.null, .null, .int 0, .int 0, .null, .null, .null, .null, .null, .null, .null, .null, .null, .null, .int 0, .null]
def R_Wds : String := "ClauseProver$Words"
def F_Wds : u_T := fun k => match k with
  | 0 => ("ClauseProver$Words", "text", "[I", false)
  | 1 => ("ClauseProver$Words", "length", "I", false)
  | 2 => ("ClauseProver$Words", "kind", "I", false)
  | 3 => ("ClauseProver$Words", "place", "I", false)
  | 4 => ("ClauseProver$Words", "size", "I", false)
  | 5 => ("ClauseProver$Words", "excess", "Z", false)
  | 6 => ("ClauseProver$Words", "next", "I", false)
  | _ => ("ClauseProver$Words", "number", "I", false)
def t_Wds : Nat → FieldType := fun k => match k with
  | 0 => .array .int
  | 1 => .int
  | 2 => .int
  | 3 => .int
  | 4 => .int
  | 5 => .boolean
  | 6 => .int
  | _ => .int
def z_Wds : List Value := [.null, .int 0, .int 0, .int 0, .int 0, .int 0, .int 0, .int 0]
def R_Par : String := "ClauseProver$Parser"
def F_Par : u_T := fun k => match k with
  | 0 => ("ClauseProver$Parser", "fault", "I", false)
  | 1 => ("ClauseProver$Parser", "faultPlace", "I", false)
  | 2 => ("ClauseProver$Parser", "words", "LClauseProver$Words;", true)
  | 3 => ("ClauseProver$Parser", "symbols", "LClauseProver$Symbols;", true)
  | 4 => ("ClauseProver$Parser", "formulas", "LClauseProver$Formulas;", true)
  | 5 => ("ClauseProver$Parser", "signs", "LClauseProver$Row;", true)
  | 6 => ("ClauseProver$Parser", "firstBound", "LClauseProver$Row;", true)
  | 7 => ("ClauseProver$Parser", "parts", "LClauseProver$Row;", true)
  | _ => ("ClauseProver$Parser", "depth", "I", false)
def t_Par : Nat → FieldType := fun k => match k with
  | 0 => .int
  | 1 => .int
  | 2 => .object "ClauseProver$Words"
  | 3 => .object "ClauseProver$Symbols"
  | 4 => .object "ClauseProver$Formulas"
  | 5 => .object "ClauseProver$Row"
  | 6 => .object "ClauseProver$Row"
  | 7 => .object "ClauseProver$Row"
  | _ => .int
def z_Par : List Value := [.int 0, .int 0, .null, .null, .null, .null, .null, .null, .int 0]
def R_Dra : String := "ClauseProver$Draft"
def F_Dra : u_T := fun k => match k with
  | 0 => ("ClauseProver$Draft", "cell", "[I", true)
  | 1 => ("ClauseProver$Draft", "start", "[I", true)
  | 2 => ("ClauseProver$Draft", "middle", "[I", true)
  | 3 => ("ClauseProver$Draft", "positive", "[Z", true)
  | 4 => ("ClauseProver$Draft", "used", "I", false)
  | 5 => ("ClauseProver$Draft", "literals", "I", false)
  | 6 => ("ClauseProver$Draft", "variables", "I", false)
  | 7 => ("ClauseProver$Draft", "beyond", "Z", false)
  | 8 => ("ClauseProver$Draft", "symbols", "LClauseProver$Symbols;", true)
  | 9 => ("ClauseProver$Draft", "slot", "[I", true)
  | 10 => ("ClauseProver$Draft", "met", "[I", true)
  | 11 => ("ClauseProver$Draft", "metSize", "I", false)
  | _ => ("ClauseProver$Draft", "renamed", "[I", true)
def t_Dra : Nat → FieldType := fun k => match k with
  | 0 => .array .int
  | 1 => .array .int
  | 2 => .array .int
  | 3 => .array .boolean
  | 4 => .int
  | 5 => .int
  | 6 => .int
  | 7 => .boolean
  | 8 => .object "ClauseProver$Symbols"
  | 9 => .array .int
  | 10 => .array .int
  | 11 => .int
  | _ => .array .int
def z_Dra : List Value := [.null, .null, .null, .null, .int 0, .int 0, .int 0, .int 0, .null, .null, .null, .int 0, .null]
def R_Sto : String := "ClauseProver$Store"
def F_Sto : u_T := fun k => match k with
  | 0 => ("ClauseProver$Store", "cells", "LClauseProver$Row;", true)
  | 1 => ("ClauseProver$Store", "rewriters", "LClauseProver$Row;", true)
  | 2 => ("ClauseProver$Store", "size", "I", false)
  | 3 => ("ClauseProver$Store", "textSize", "I", false)
  | 4 => ("ClauseProver$Store", "symbols", "LClauseProver$Symbols;", true)
  | _ => ("ClauseProver$Store", "facts", "LClauseProver$Row;", true)
def t_Sto : Nat → FieldType := fun k => match k with
  | 0 => .object "ClauseProver$Row"
  | 1 => .object "ClauseProver$Row"
  | 2 => .int
  | 3 => .int
  | 4 => .object "ClauseProver$Symbols"
  | _ => .object "ClauseProver$Row"
def z_Sto : List Value := [.null, .null, .int 0, .int 0, .null, .null]
def R_Mat : String := "ClauseProver$Matcher"
def F_Mat : u_T := fun k => match k with
  | 0 => ("ClauseProver$Matcher", "symbols", "LClauseProver$Symbols;", true)
  | 1 => ("ClauseProver$Matcher", "store", "LClauseProver$Store;", true)
  | 2 => ("ClauseProver$Matcher", "value", "[I", true)
  | 3 => ("ClauseProver$Matcher", "known", "I", false)
  | 4 => ("ClauseProver$Matcher", "image", "[I", true)
  | _ => ("ClauseProver$Matcher", "imageSize", "I", false)
def t_Mat : Nat → FieldType := fun k => match k with
  | 0 => .object "ClauseProver$Symbols"
  | 1 => .object "ClauseProver$Store"
  | 2 => .array .int
  | 3 => .int
  | 4 => .array .int
  | _ => .int
def z_Mat : List Value := [.null, .null, .null, .int 0, .null, .int 0]
def R_Uni : String := "ClauseProver$Unifier"
def F_Uni : u_T := fun k => match k with
  | 0 => ("ClauseProver$Unifier", "symbols", "LClauseProver$Symbols;", true)
  | 1 => ("ClauseProver$Unifier", "cells", "LClauseProver$Row;", true)
  | 2 => ("ClauseProver$Unifier", "root", "[I", true)
  | 3 => ("ClauseProver$Unifier", "place", "[I", true)
  | 4 => ("ClauseProver$Unifier", "shifts", "[I", true)
  | 5 => ("ClauseProver$Unifier", "valued", "I", false)
  | 6 => ("ClauseProver$Unifier", "firstBase", "I", false)
  | 7 => ("ClauseProver$Unifier", "secondBase", "I", false)
  | 8 => ("ClauseProver$Unifier", "met", "[Z", true)
  | _ => ("ClauseProver$Unifier", "meetings", "LClauseProver$Row;", true)
def t_Uni : Nat → FieldType := fun k => match k with
  | 0 => .object "ClauseProver$Symbols"
  | 1 => .object "ClauseProver$Row"
  | 2 => .array .int
  | 3 => .array .int
  | 4 => .array .int
  | 5 => .int
  | 6 => .int
  | 7 => .int
  | 8 => .array .boolean
  | _ => .object "ClauseProver$Row"
def z_Uni : List Value := [.null, .null, .null, .null, .null, .int 0, .int 0, .int 0, .null, .null]
def R_Sat : String := "ClauseProver$Saturation"
def F_Sat : u_T := fun k => match k with
  | 0 => ("ClauseProver$Saturation", "state", "I", false)
  | 1 => ("ClauseProver$Saturation", "steps", "I", false)
  | 2 => ("ClauseProver$Saturation", "inferences", "I", false)
  | 3 => ("ClauseProver$Saturation", "dropped", "I", false)
  | 4 => ("ClauseProver$Saturation", "subsumed", "I", false)
  | 5 => ("ClauseProver$Saturation", "rewritten", "I", false)
  | 6 => ("ClauseProver$Saturation", "tautologies", "I", false)
  | 7 => ("ClauseProver$Saturation", "proofRow", "LClauseProver$Row;", true)
  | 8 => ("ClauseProver$Saturation", "symbols", "LClauseProver$Symbols;", true)
  | 9 => ("ClauseProver$Saturation", "store", "LClauseProver$Store;", true)
  | 10 => ("ClauseProver$Saturation", "draft", "LClauseProver$Draft;", true)
  | 11 => ("ClauseProver$Saturation", "unifier", "LClauseProver$Unifier;", true)
  | 12 => ("ClauseProver$Saturation", "matcher", "LClauseProver$Matcher;", true)
  | _ => ("ClauseProver$Saturation", "singles", "LClauseProver$Row;", true)
def t_Sat : Nat → FieldType := fun k => match k with
  | 0 => .int
  | 1 => .int
  | 2 => .int
  | 3 => .int
  | 4 => .int
  | 5 => .int
  | 6 => .int
  | 7 => .object "ClauseProver$Row"
  | 8 => .object "ClauseProver$Symbols"
  | 9 => .object "ClauseProver$Store"
  | 10 => .object "ClauseProver$Draft"
  | 11 => .object "ClauseProver$Unifier"
  | 12 => .object "ClauseProver$Matcher"
  | _ => .object "ClauseProver$Row"
def z_Sat : List Value := [.int 0, .int 0, .int 0, .int 0, .int 0, .int 0, .int 0, .null, .null, .null, .null, .null, .null, .null]
def R_Mod : String := "ClauseProver$Model"
def F_Mod : u_T := fun k => match k with
  | 0 => ("ClauseProver$Model", "symbols", "LClauseProver$Symbols;", true)
  | 1 => ("ClauseProver$Model", "store", "LClauseProver$Store;", true)
  | 2 => ("ClauseProver$Model", "element", "[I", true)
  | 3 => ("ClauseProver$Model", "values", "[I", true)
  | 4 => ("ClauseProver$Model", "seed", "I", false)
  | _ => ("ClauseProver$Model", "elements", "I", false)
def t_Mod : Nat → FieldType := fun k => match k with
  | 0 => .object "ClauseProver$Symbols"
  | 1 => .object "ClauseProver$Store"
  | 2 => .array .int
  | 3 => .array .int
  | 4 => .int
  | _ => .int
def z_Mod : List Value := [.null, .null, .null, .null, .int 0, .int 0]
def R_CP : String := "ClauseProver"
def F_CP : u_T := fun k => match k with
  | 0 => ("ClauseProver", "tape", "LClauseProver$Row;", true)
  | 1 => ("ClauseProver", "shown", "LClauseProver$Row;", true)
  | 2 => ("ClauseProver", "openTerms", "[I", true)
  | 3 => ("ClauseProver", "symbols", "LClauseProver$Symbols;", true)
  | 4 => ("ClauseProver", "formulas", "LClauseProver$Formulas;", true)
  | 5 => ("ClauseProver", "parser", "LClauseProver$Parser;", true)
  | 6 => ("ClauseProver", "draft", "LClauseProver$Draft;", true)
  | 7 => ("ClauseProver", "store", "LClauseProver$Store;", true)
  | 8 => ("ClauseProver", "saturation", "LClauseProver$Saturation;", true)
  | 9 => ("ClauseProver", "model", "LClauseProver$Model;", true)
  | 10 => ("ClauseProver", "faultKind", "I", false)
  | _ => ("ClauseProver", "faultPlace", "I", false)
def t_CP : Nat → FieldType := fun k => match k with
  | 0 => .object "ClauseProver$Row"
  | 1 => .object "ClauseProver$Row"
  | 2 => .array .int
  | 3 => .object "ClauseProver$Symbols"
  | 4 => .object "ClauseProver$Formulas"
  | 5 => .object "ClauseProver$Parser"
  | 6 => .object "ClauseProver$Draft"
  | 7 => .object "ClauseProver$Store"
  | 8 => .object "ClauseProver$Saturation"
  | 9 => .object "ClauseProver$Model"
  | 10 => .int
  | _ => .int
def z_CP : List Value := [.null, .null, .null, .null, .null, .null, .null, .null, .null, .null, .int 0, .int 0]
def R_MM : String := "ClauseProverModel"
def F_MM : u_T := fun k => match k with
  | 0 => ("ClauseProverModel", "tape", "[B", true)
  | 1 => ("ClauseProverModel", "out", "[B", false)
  | 2 => ("ClauseProverModel", "size", "I", false)
  | 3 => ("ClauseProverModel", "outSize", "I", false)
  | 4 => ("ClauseProverModel", "thrown", "I", false)
  | 5 => ("ClauseProverModel", "faultKind", "I", false)
  | 6 => ("ClauseProverModel", "faultPlace", "I", false)
  | 7 => ("ClauseProverModel", "pos", "I", false)
  | 8 => ("ClauseProverModel", "token", "I", false)
  | 9 => ("ClauseProverModel", "tokenAt", "I", false)
  | 10 => ("ClauseProverModel", "tokenEnd", "I", false)
  | 11 => ("ClauseProverModel", "seen", "Z", false)
  | 12 => ("ClauseProverModel", "tokens", "I", false)
  | 13 => ("ClauseProverModel", "wordAt", "[I", true)
  | 14 => ("ClauseProverModel", "wordSize", "[I", true)
  | 15 => ("ClauseProverModel", "arity", "[I", true)
  | 16 => ("ClauseProverModel", "role", "[I", true)
  | 17 => ("ClauseProverModel", "words", "[B", true)
  | 18 => ("ClauseProverModel", "wordsUsed", "I", false)
  | 19 => ("ClauseProverModel", "symbols", "I", false)
  | 20 => ("ClauseProverModel", "nameCount", "I", false)
  | 21 => ("ClauseProverModel", "binderAt", "[I", true)
  | 22 => ("ClauseProverModel", "binderSize", "[I", true)
  | 23 => ("ClauseProverModel", "binderSymbol", "[I", true)
  | 24 => ("ClauseProverModel", "replaced", "[Z", true)
  | 25 => ("ClauseProverModel", "binders", "I", false)
  | 26 => ("ClauseProverModel", "scope", "[I", true)
  | 27 => ("ClauseProverModel", "implicit", "[I", true)
  | 28 => ("ClauseProverModel", "scopes", "I", false)
  | 29 => ("ClauseProverModel", "implicits", "I", false)
  | 30 => ("ClauseProverModel", "sort", "[I", true)
  | 31 => ("ClauseProverModel", "left", "[I", true)
  | 32 => ("ClauseProverModel", "right", "[I", true)
  | 33 => ("ClauseProverModel", "high", "[I", true)
  | 34 => ("ClauseProverModel", "termOf", "[I", true)
  | 35 => ("ClauseProverModel", "kidOf", "[I", true)
  | 36 => ("ClauseProverModel", "nextOf", "[I", true)
  | 37 => ("ClauseProverModel", "formulas", "I", false)
  | 38 => ("ClauseProverModel", "terms", "I", false)
  | 39 => ("ClauseProverModel", "held", "I", false)
  | 40 => ("ClauseProverModel", "predicates", "I", false)
  | 41 => ("ClauseProverModel", "headOf", "[I", true)
  | 42 => ("ClauseProverModel", "firstOf", "[I", true)
  | 43 => ("ClauseProverModel", "of", "[I", true)
  | 44 => ("ClauseProverModel", "kid", "[I", true)
  | 45 => ("ClauseProverModel", "beside", "[I", true)
  | 46 => ("ClauseProverModel", "weight", "[I", true)
  | 47 => ("ClauseProverModel", "top", "I", false)
  | 48 => ("ClauseProverModel", "terms2", "[I", true)
  | 49 => ("ClauseProverModel", "predicate", "[Z", true)
  | 50 => ("ClauseProverModel", "sentenceAt", "[I", true)
  | 51 => ("ClauseProverModel", "sentence", "[I", true)
  | 52 => ("ClauseProverModel", "firstImplicit", "[I", true)
  | 53 => ("ClauseProverModel", "implicitCount", "[I", true)
  | 54 => ("ClauseProverModel", "allImplicit", "[I", true)
  | 55 => ("ClauseProverModel", "sentences", "I", false)
  | 56 => ("ClauseProverModel", "implicitTotal", "I", false)
  | 57 => ("ClauseProverModel", "negated", "[Z", true)
  | 58 => ("ClauseProverModel", "binderArity", "[I", true)
  | 59 => ("ClauseProverModel", "around", "[I", true)
  | 60 => ("ClauseProverModel", "aroundWeight", "[I", true)
  | 61 => ("ClauseProverModel", "stays", "[I", true)
  | 62 => ("ClauseProverModel", "arounds", "I", false)
  | 63 => ("ClauseProverModel", "rowData", "[I", true)
  | 64 => ("ClauseProverModel", "rowSize", "[I", true)
  | 65 => ("ClauseProverModel", "rows", "I", false)
  | 66 => ("ClauseProverModel", "litLeft", "[I", true)
  | 67 => ("ClauseProverModel", "litRight", "[I", true)
  | 68 => ("ClauseProverModel", "litIs", "[Z", true)
  | 69 => ("ClauseProverModel", "greaterSide", "[I", true)
  | 70 => ("ClauseProverModel", "litWeight", "[I", true)
  | 71 => ("ClauseProverModel", "eligible", "[Z", true)
  | 72 => ("ClauseProverModel", "literals", "I", false)
  | 73 => ("ClauseProverModel", "at", "[I", true)
  | 74 => ("ClauseProverModel", "count", "[I", true)
  | 75 => ("ClauseProverModel", "heavy", "[I", true)
  | 76 => ("ClauseProverModel", "variables", "[I", true)
  | 77 => ("ClauseProverModel", "kind", "[I", true)
  | 78 => ("ClauseProverModel", "first", "[I", true)
  | 79 => ("ClauseProverModel", "second", "[I", true)
  | 80 => ("ClauseProverModel", "state", "[I", true)
  | 81 => ("ClauseProverModel", "usedAt", "[I", true)
  | 82 => ("ClauseProverModel", "usedCount", "[I", true)
  | 83 => ("ClauseProverModel", "used", "[I", true)
  | 84 => ("ClauseProverModel", "clauses", "I", false)
  | 85 => ("ClauseProverModel", "texts", "I", false)
  | 86 => ("ClauseProverModel", "usedTotal", "I", false)
  | 87 => ("ClauseProverModel", "standing", "I", false)
  | 88 => ("ClauseProverModel", "empty", "I", false)
  | 89 => ("ClauseProverModel", "steps", "I", false)
  | 90 => ("ClauseProverModel", "inferences", "I", false)
  | 91 => ("ClauseProverModel", "dropped", "I", false)
  | 92 => ("ClauseProverModel", "subsumed", "I", false)
  | 93 => ("ClauseProverModel", "rewritten", "I", false)
  | 94 => ("ClauseProverModel", "tautologies", "I", false)
  | 95 => ("ClauseProverModel", "newLeft", "[I", true)
  | 96 => ("ClauseProverModel", "newRight", "[I", true)
  | 97 => ("ClauseProverModel", "newIs", "[Z", true)
  | 98 => ("ClauseProverModel", "news", "I", false)
  | 99 => ("ClauseProverModel", "numberOf", "[I", true)
  | 100 => ("ClauseProverModel", "numbered", "[I", true)
  | 101 => ("ClauseProverModel", "numbers", "I", false)
  | 102 => ("ClauseProverModel", "times", "[I", true)
  | 103 => ("ClauseProverModel", "many", "[I", true)
  | 104 => ("ClauseProverModel", "others", "[I", true)
  | 105 => ("ClauseProverModel", "mainTop", "I", false)
  | 106 => ("ClauseProverModel", "valueOf", "[I", true)
  | 107 => ("ClauseProverModel", "bankOf", "[I", true)
  | 108 => ("ClauseProverModel", "planLeft", "[I", true)
  | 109 => ("ClauseProverModel", "planRight", "[I", true)
  | 110 => ("ClauseProverModel", "planBank", "[I", true)
  | 111 => ("ClauseProverModel", "planIs", "[Z", true)
  | 112 => ("ClauseProverModel", "planned", "I", false)
  | 113 => ("ClauseProverModel", "planPlace", "I", false)
  | 114 => ("ClauseProverModel", "planInstead", "I", false)
  | 115 => ("ClauseProverModel", "matched", "[I", true)
  | 116 => ("ClauseProverModel", "place", "I", false)
  | 117 => ("ClauseProverModel", "instead", "I", false)
  | 118 => ("ClauseProverModel", "by", "I", false)
  | 119 => ("ClauseProverModel", "listUsed", "[I", true)
  | 120 => ("ClauseProverModel", "listed", "I", false)
  | 121 => ("ClauseProverModel", "kept", "[[I", true)
  | 122 => ("ClauseProverModel", "textTop", "I", false)
  | 123 => ("ClauseProverModel", "inProof", "[Z", true)
  | 124 => ("ClauseProverModel", "seed", "I", false)
  | 125 => ("ClauseProverModel", "elements", "I", false)
  | _ => ("ClauseProverModel", "values", "[I", true)
def t_MM : Nat → FieldType := fun k => match k with
  | 0 => .array .byte
  | 1 => .array .byte
  | 2 => .int
  | 3 => .int
  | 4 => .int
  | 5 => .int
  | 6 => .int
  | 7 => .int
  | 8 => .int
  | 9 => .int
  | 10 => .int
  | 11 => .boolean
  | 12 => .int
  | 13 => .array .int
  | 14 => .array .int
  | 15 => .array .int
  | 16 => .array .int
  | 17 => .array .byte
  | 18 => .int
  | 19 => .int
  | 20 => .int
  | 21 => .array .int
  | 22 => .array .int
  | 23 => .array .int
  | 24 => .array .boolean
  | 25 => .int
  | 26 => .array .int
  | 27 => .array .int
  | 28 => .int
  | 29 => .int
  | 30 => .array .int
  | 31 => .array .int
  | 32 => .array .int
  | 33 => .array .int
  | 34 => .array .int
  | 35 => .array .int
  | 36 => .array .int
  | 37 => .int
  | 38 => .int
  | 39 => .int
  | 40 => .int
  | 41 => .array .int
  | 42 => .array .int
  | 43 => .array .int
  | 44 => .array .int
  | 45 => .array .int
  | 46 => .array .int
  | 47 => .int
  | 48 => .array .int
  | 49 => .array .boolean
  | 50 => .array .int
  | 51 => .array .int
  | 52 => .array .int
  | 53 => .array .int
  | 54 => .array .int
  | 55 => .int
  | 56 => .int
  | 57 => .array .boolean
  | 58 => .array .int
  | 59 => .array .int
  | 60 => .array .int
  | 61 => .array .int
  | 62 => .int
  | 63 => .array .int
  | 64 => .array .int
  | 65 => .int
  | 66 => .array .int
  | 67 => .array .int
  | 68 => .array .boolean
  | 69 => .array .int
  | 70 => .array .int
  | 71 => .array .boolean
  | 72 => .int
  | 73 => .array .int
  | 74 => .array .int
  | 75 => .array .int
  | 76 => .array .int
  | 77 => .array .int
  | 78 => .array .int
  | 79 => .array .int
  | 80 => .array .int
  | 81 => .array .int
  | 82 => .array .int
  | 83 => .array .int
  | 84 => .int
  | 85 => .int
  | 86 => .int
  | 87 => .int
  | 88 => .int
  | 89 => .int
  | 90 => .int
  | 91 => .int
  | 92 => .int
  | 93 => .int
  | 94 => .int
  | 95 => .array .int
  | 96 => .array .int
  | 97 => .array .boolean
  | 98 => .int
  | 99 => .array .int
  | 100 => .array .int
  | 101 => .int
  | 102 => .array .int
  | 103 => .array .int
  | 104 => .array .int
  | 105 => .int
  | 106 => .array .int
  | 107 => .array .int
  | 108 => .array .int
  | 109 => .array .int
  | 110 => .array .int
  | 111 => .array .boolean
  | 112 => .int
  | 113 => .int
  | 114 => .int
  | 115 => .array .int
  | 116 => .int
  | 117 => .int
  | 118 => .int
  | 119 => .array .int
  | 120 => .int
  | 121 => .array (.array .int)
  | 122 => .int
  | 123 => .array .boolean
  | 124 => .int
  | 125 => .int
  | _ => .array .int
def z_MM : List Value := [.null, .null, .int 0, .int 0, .int 0, .int 0, .int 0, .int 0, .int 0, .int 0, .int 0, .int 0, .int 0, .null, .null, .null, .null, .null, .int 0, .int 0, .int 0, .null, .null, .null, .null, .int 0, .null, .null, .int 0, .int 0, .null, .null, .null, .null, .null, .null, .null, .int 0, .int 0, .int 0, .int 0, .null, .null, .null, .null, .null, .null, .int 0, .null, .null, .null, .null, .null, .null, .null, .int 0, .int 0, .null, .null, .null, .null, .null, .int 0, .null, .null, .int 0, .null, .null, .null, .null, .null, .null, .int 0, .null, .null, .null, .null, .null, .null, .null, .null, .null, .null, .null, .int 0, .int 0, .int 0, .int 0, .int 0, .int 0, .int 0, .int 0, .int 0, .int 0, .int 0, .null, .null, .null, .int 0, .null, .null, .int 0, .null, .null, .null, .int 0, .null, .null, .null, .null, .null, .null, .int 0, .int 0, .int 0, .null, .int 0, .int 0, .int 0, .null, .int 0, .null, .int 0, .null, .int 0, .int 0, .null]
def R_Wro : String := "ClauseProverModel$Wrong"
def F_Wro : u_T := fun k => match k with
  | 0 => ("java/lang/Throwable", "cause", "Ljava/lang/Throwable;", false)
  | 1 => ("java/lang/Throwable", "stackTrace", "[Ljava/lang/StackTraceElement;", false)
  | 2 => ("java/lang/Throwable", "suppressedExceptions", "Ljava/util/List;", false)
  | 3 => ("java/lang/Throwable", "detailMessage", "Ljava/lang/String;", false)
  | 4 => ("java/lang/Throwable", "backtrace", "Ljava/lang/Object;", false)
  | 5 => ("ClauseProverModel$Wrong", "kind", "I", true)
  | 6 => ("ClauseProverModel$Wrong", "place", "I", true)
  | _ => ("java/lang/Throwable", "depth", "I", false)
def t_Wro : Nat → FieldType := fun k => match k with
  | 0 => .object "java/lang/Throwable"
  | 1 => .array (.object "java/lang/StackTraceElement")
  | 2 => .object "java/util/List"
  | 3 => .object "java/lang/String"
  | 4 => .object "java/lang/Object"
  | 5 => .int
  | 6 => .int
  | _ => .int
def z_Wro : List Value := [.null, .null, .null, .null, .null, .int 0, .int 0, .int 0]
def R_Bey : String := "ClauseProverModel$Beyond"
def F_Bey : u_T := fun k => match k with
  | 0 => ("java/lang/Throwable", "cause", "Ljava/lang/Throwable;", false)
  | 1 => ("java/lang/Throwable", "stackTrace", "[Ljava/lang/StackTraceElement;", false)
  | 2 => ("java/lang/Throwable", "suppressedExceptions", "Ljava/util/List;", false)
  | 3 => ("java/lang/Throwable", "detailMessage", "Ljava/lang/String;", false)
  | 4 => ("java/lang/Throwable", "backtrace", "Ljava/lang/Object;", false)
  | _ => ("java/lang/Throwable", "depth", "I", false)
def t_Bey : Nat → FieldType := fun k => match k with
  | 0 => .object "java/lang/Throwable"
  | 1 => .array (.object "java/lang/StackTraceElement")
  | 2 => .object "java/util/List"
  | 3 => .object "java/lang/String"
  | 4 => .object "java/lang/Object"
  | _ => .int
def z_Bey : List Value := [.null, .null, .null, .null, .null, .int 0]
abbrev ax_cl : List vw_C := [(R_Row, F_Row, 2), (R_Sym, F_Sym, 8), (R_For, F_For, 16), (R_Wds, F_Wds, 8), (R_Par, F_Par, 9), (R_Dra, F_Dra, 13), (R_Sto, F_Sto, 6), (R_Mat, F_Mat, 6), (R_Uni, F_Uni, 10), (R_Sat, F_Sat, 14), (R_Mod, F_Mod, 6), (R_CP, F_CP, 12), (R_MM, F_MM, 127), (R_Wro, F_Wro, 8), (R_Bey, F_Bey, 6)]
set_option maxRecDepth 20000 in
theorem k_Row_w : ∀ w ∈ u_ws R_Row F_Row 2, w ∈ lw_tbg := tb_all [65, 67] (by decide +kernel) (by decide +kernel)
set_option maxRecDepth 20000 in
theorem k_Row : ax_ok ax_cl 0 R_Row F_Row 2 t_Row z_Row := ⟨rfl, k_Row_w, by decide +kernel, by decide +kernel, by decide +kernel⟩
set_option maxRecDepth 20000 in
theorem k_Sym_w : ∀ w ∈ u_ws R_Sym F_Sym 8, w ∈ lw_tbg := tb_all [95, 97, 99, 101, 103, 105, 107, 109] (by decide +kernel) (by decide +kernel)
set_option maxRecDepth 20000 in
theorem k_Sym : ax_ok ax_cl 1 R_Sym F_Sym 8 t_Sym z_Sym := ⟨rfl, k_Sym_w, by decide +kernel, by decide +kernel, by decide +kernel⟩
set_option maxRecDepth 20000 in
theorem k_For_w : ∀ w ∈ u_ws R_For F_For 16, w ∈ lw_tbg := tb_all [140, 142, 144, 146, 148, 150, 152, 154, 156, 158, 160, 162, 164, 166, 168, 170] (by decide +kernel) (by decide +kernel)
set_option maxRecDepth 20000 in
theorem k_For : ax_ok ax_cl 2 R_For F_For 16 t_For z_For := ⟨rfl, k_For_w, by decide +kernel, by decide +kernel, by decide +kernel⟩
set_option maxRecDepth 20000 in
theorem k_Wds_w : ∀ w ∈ u_ws R_Wds F_Wds 8, w ∈ lw_tbg := tb_all [203, 205, 207, 209, 211, 213, 215, 217] (by decide +kernel) (by decide +kernel)
set_option maxRecDepth 20000 in
theorem k_Wds : ax_ok ax_cl 3 R_Wds F_Wds 8 t_Wds z_Wds := ⟨rfl, k_Wds_w, by decide +kernel, by decide +kernel, by decide +kernel⟩
set_option maxRecDepth 20000 in
theorem k_Par_w : ∀ w ∈ u_ws R_Par F_Par 9, w ∈ lw_tbg := tb_all [233, 235, 237, 239, 241, 243, 245, 247, 249] (by decide +kernel) (by decide +kernel)
set_option maxRecDepth 20000 in
theorem k_Par : ax_ok ax_cl 4 R_Par F_Par 9 t_Par z_Par := ⟨rfl, k_Par_w, by decide +kernel, by decide +kernel, by decide +kernel⟩
set_option maxRecDepth 20000 in
theorem k_Dra_w : ∀ w ∈ u_ws R_Dra F_Dra 13, w ∈ lw_tbg := tb_all [286, 288, 290, 292, 294, 296, 298, 300, 302, 304, 306, 308, 310] (by decide +kernel) (by decide +kernel)
set_option maxRecDepth 20000 in
theorem k_Dra : ax_ok ax_cl 5 R_Dra F_Dra 13 t_Dra z_Dra := ⟨rfl, k_Dra_w, by decide +kernel, by decide +kernel, by decide +kernel⟩
set_option maxRecDepth 20000 in
theorem k_Sto_w : ∀ w ∈ u_ws R_Sto F_Sto 6, w ∈ lw_tbg := tb_all [338, 340, 342, 344, 346, 348] (by decide +kernel) (by decide +kernel)
set_option maxRecDepth 20000 in
theorem k_Sto : ax_ok ax_cl 6 R_Sto F_Sto 6 t_Sto z_Sto := ⟨rfl, k_Sto_w, by decide +kernel, by decide +kernel, by decide +kernel⟩
set_option maxRecDepth 20000 in
theorem k_Mat_w : ∀ w ∈ u_ws R_Mat F_Mat 6, w ∈ lw_tbg := tb_all [410, 412, 414, 416, 418, 420] (by decide +kernel) (by decide +kernel)
set_option maxRecDepth 20000 in
theorem k_Mat : ax_ok ax_cl 7 R_Mat F_Mat 6 t_Mat z_Mat := ⟨rfl, k_Mat_w, by decide +kernel, by decide +kernel, by decide +kernel⟩
set_option maxRecDepth 20000 in
theorem k_Uni_w : ∀ w ∈ u_ws R_Uni F_Uni 10, w ∈ lw_tbg := tb_all [377, 379, 381, 383, 385, 387, 389, 391, 393, 395] (by decide +kernel) (by decide +kernel)
set_option maxRecDepth 20000 in
theorem k_Uni : ax_ok ax_cl 8 R_Uni F_Uni 10 t_Uni z_Uni := ⟨rfl, k_Uni_w, by decide +kernel, by decide +kernel, by decide +kernel⟩
set_option maxRecDepth 20000 in
theorem k_Sat_w : ∀ w ∈ u_ws R_Sat F_Sat 14, w ∈ lw_tbg := tb_all [445, 447, 449, 451, 453, 455, 457, 459, 461, 463, 465, 467, 469, 471] (by decide +kernel) (by decide +kernel)
set_option maxRecDepth 20000 in
theorem k_Sat : ax_ok ax_cl 9 R_Sat F_Sat 14 t_Sat z_Sat := ⟨rfl, k_Sat_w, by decide +kernel, by decide +kernel, by decide +kernel⟩
set_option maxRecDepth 20000 in
theorem k_Mod_w : ∀ w ∈ u_ws R_Mod F_Mod 6, w ∈ lw_tbg := tb_all [486, 488, 490, 492, 494, 496] (by decide +kernel) (by decide +kernel)
set_option maxRecDepth 20000 in
theorem k_Mod : ax_ok ax_cl 10 R_Mod F_Mod 6 t_Mod z_Mod := ⟨rfl, k_Mod_w, by decide +kernel, by decide +kernel, by decide +kernel⟩
set_option maxRecDepth 20000 in
theorem k_CP_w : ∀ w ∈ u_ws R_CP F_CP 12, w ∈ lw_tbg := tb_all [511, 513, 515, 517, 519, 521, 523, 525, 527, 529, 531, 533] (by decide +kernel) (by decide +kernel)
set_option maxRecDepth 20000 in
theorem k_CP : ax_ok ax_cl 11 R_CP F_CP 12 t_CP z_CP := ⟨rfl, k_CP_w, by decide +kernel, by decide +kernel, by decide +kernel⟩
set_option maxRecDepth 20000 in
theorem k_MM_w : ∀ w ∈ u_ws R_MM F_MM 127, w ∈ lw_tbg := tb_all [1648, 1650, 1652, 1654, 1656, 1658, 1660, 1662, 1664, 1666, 1668, 1670, 1672, 1674, 1676, 1678, 1680, 1682, 1684, 1686, 1688, 1690, 1692, 1694, 1696, 1698, 1700, 1702, 1704, 1706, 1708, 1710, 1712, 1714, 1716, 1718, 1720, 1722, 1724, 1726, 1728, 1730, 1732, 1734, 1736, 1738, 1740, 1742, 1744, 1746, 1748, 1750, 1752, 1754, 1756, 1758, 1760, 1762, 1764, 1766, 1768, 1770, 1772, 1774, 1776, 1778, 1780, 1782, 1784, 1786, 1788, 1790, 1792, 1794, 1796, 1798, 1800, 1802, 1804, 1806, 1808, 1810, 1812, 1814, 1816, 1818, 1820, 1822, 1824, 1826, 1828, 1830, 1832, 1834, 1836, 1838, 1840, 1842, 1844, 1846, 1848, 1850, 1852, 1854, 1856, 1858, 1860, 1862, 1864, 1866, 1868, 1870, 1872, 1874, 1876, 1878, 1880, 1882, 1884, 1886, 1888, 1890, 1892, 1894, 1896, 1898, 1900] (by decide +kernel) (by decide +kernel)
set_option maxRecDepth 20000 in
theorem k_MM : ax_ok ax_cl 12 R_MM F_MM 127 t_MM z_MM := ⟨rfl, k_MM_w, by decide +kernel, by decide +kernel, by decide +kernel⟩
set_option maxRecDepth 20000 in
theorem k_Wro_w : ∀ w ∈ u_ws R_Wro F_Wro 8, w ∈ lw_tbg := tb_all [1984, 1985, 1986, 1987, 1988, 2005, 2007, 2009] (by decide +kernel) (by decide +kernel)
set_option maxRecDepth 20000 in
theorem k_Wro : ax_ok ax_cl 13 R_Wro F_Wro 8 t_Wro z_Wro := ⟨rfl, k_Wro_w, by decide +kernel, by decide +kernel, by decide +kernel⟩
set_option maxRecDepth 20000 in
theorem k_Bey_w : ∀ w ∈ u_ws R_Bey F_Bey 6, w ∈ lw_tbg := tb_all [2129, 2130, 2131, 2132, 2133, 2138] (by decide +kernel) (by decide +kernel)
set_option maxRecDepth 20000 in
theorem k_Bey : ax_ok ax_cl 14 R_Bey F_Bey 6 t_Bey z_Bey := ⟨rfl, k_Bey_w, by decide +kernel, by decide +kernel, by decide +kernel⟩
