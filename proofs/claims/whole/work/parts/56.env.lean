/-! values step by step: a VARIABLE has a TERM, in which other VARIABLES may have values -/
abbrev Ev : Type := Int → Option Tm
/-- none comes back to itself: each VARIABLE within a value has a smaller number -/
def ac (B : Ev) (r : Int → Nat) : Prop := ∀ v x, B v = some x → ∀ w, vi w (tt x) → r w < r v
/-- these values obey B -/
def cm (τ : Vs) (B : Ev) : Prop := ∀ v x, B v = some x → τ v = st τ x
def rv (B : Ev) : Nat → Vs
  | 0 => vt
  | m + 1 => fun v => match B v with
    | none => vt v
    | some x => st (rv B m) x
theorem st_c {τ θ : Vs} {x : Tm} (h : ∀ v, vi v (tt x) → τ v = θ v) : st τ x = st θ x := by
  have e := su_c (F := tt x) h
  have e1 : su τ (tt x) = nd (st τ x).1 (st τ x).2 nl := rfl
  have e2 : su θ (tt x) = nd (st θ x).1 (st θ x).2 nl := rfl
  rw [e1, e2] at e
  injection e with a b c
  exact Prod.ext a b
theorem rv_st {B : Ev} {r : Int → Nat} (h : ac B r) : ∀ (m : Nat) (v : Int), r v < m → rv B m v = rv B (m + 1) v
  | 0, v, hr => by omega
  | m + 1, v, hr => by
    show (match B v with | none => vt v | some x => st (rv B m) x) = (match B v with | none => vt v | some x => st (rv B (m + 1)) x)
    cases hb : B v with
    | none => rfl
    | some x => exact st_c (fun w hw => rv_st h m w (by have := h v x hb w hw; omega))
/-- all values put in -/
def rs (B : Ev) : Vs := rv B 40
theorem rs_cm {B : Ev} {r : Int → Nat} (h : ac B r) (hr : ∀ v x, B v = some x → r v < 40) : cm (rs B) B := fun v x hb => by
  have e := rv_st h 40 v (hr v x hb)
  have e2 : rv B 41 v = st (rv B 40) x := by
    show (match B v with | none => vt v | some x => st (rv B 40) x) = _
    rw [hb]
  exact e.trans e2
theorem rs_none {B : Ev} {v : Int} (h : B v = none) : rs B v = vt v := by
  show (match B v with | none => vt v | some x => st (rv B 39) x) = _
  rw [h]
theorem vi_nn {v : Int} : ∀ {F : T}, vi v F → 0 ≤ v
  | .leaf _, h => h.elim
  | .branch n k s, h => by
    rcases h with h | h
    · by_cases hc : cl n < 0
      · simp only [hc, if_true] at h; omega
      · simp only [hc, if_false] at h; exact vi_nn h
    · exact vi_nn h
theorem st_vt {τ : Vs} {v : Int} (h : 0 ≤ v) : st τ (vt v) = τ v := by
  rw [st_v τ (x := vt v) (by rw [cl_vt]; omega), cl_vt]
  congr 1
  omega
/-- values that obey B are those of rs, with more put in -/
theorem cm_rv {B : Ev} {τ : Vs} (hc : cm τ B) : ∀ (m : Nat) (v : Int), 0 ≤ v → τ v = st τ (rv B m v)
  | 0, v, h => (st_vt h).symm
  | m + 1, v, h => by
    show τ v = st τ (match B v with | none => vt v | some x => st (rv B m) x)
    cases hb : B v with
    | none => exact (st_vt h).symm
    | some x =>
      show τ v = st τ (st (rv B m) x)
      rw [st_st, hc v x hb]
      refine st_c (fun w hw => ?_)
      exact cm_rv hc m w (vi_nn hw)
