/-! values for all VARIABLES, put into TERMS -/
abbrev Vs : Type := Int → Tm
def vt (v : Int) : Tm := (cu (-1 - v), nl)
theorem cl_vt (v : Int) : cl (vt v).1 = -1 - v := cl_cu _
def sbT (θ : Vs) (n : Nat) (y : T) : Tm := if cl n < 0 then θ (-1 - cl n) else (n, y)
def su (θ : Vs) : T → T
  | .leaf _ => nl
  | .branch n k s => nd (sbT θ n (su θ k)).1 (sbT θ n (su θ k)).2 (su θ s)
/-- of a TERM -/
def st (θ : Vs) (x : Tm) : Tm := sbT θ x.1 (su θ x.2)
theorem su_nd (θ : Vs) (n : Nat) (k s : T) : su θ (nd n k s) = nd (st θ (n, k)).1 (st θ (n, k)).2 (su θ s) := rfl
theorem st_v (θ : Vs) {x : Tm} (h : cl x.1 < 0) : st θ x = θ (-1 - cl x.1) := by unfold st sbT; rw [if_pos h]
theorem st_f (θ : Vs) {x : Tm} (h : ¬ cl x.1 < 0) : st θ x = (x.1, su θ x.2) := by unfold st sbT; rw [if_neg h]
theorem su_len (θ : Vs) : ∀ F : T, len (su θ F) = len F
  | .leaf _ => rfl
  | .branch n k s => by simp only [su, len, su_len θ s]
/-- one after the other -/
def vc (τ θ : Vs) : Vs := fun v => st τ (θ v)
theorem su_su (τ θ : Vs) : ∀ F : T, su τ (su θ F) = su (vc τ θ) F
  | .leaf _ => rfl
  | .branch n k s => by
    have hk := su_su τ θ k
    have hs := su_su τ θ s
    have e : st τ (sbT θ n (su θ k)) = sbT (vc τ θ) n (su (vc τ θ) k) := by
      by_cases h : cl n < 0
      · simp only [sbT, h, if_true, vc]
      · have e1 : sbT θ n (su θ k) = (n, su θ k) := by simp only [sbT, h, if_false]
        have e2 : sbT (vc τ θ) n (su (vc τ θ) k) = (n, su (vc τ θ) k) := by simp only [sbT, h, if_false]
        rw [e1, e2, st_f τ (x := (n, su θ k)) h, hk]
    show nd (st τ ((sbT θ n (su θ k)).1, (sbT θ n (su θ k)).2)).1 (st τ ((sbT θ n (su θ k)).1, (sbT θ n (su θ k)).2)).2 (su τ (su θ s)) = nd (sbT (vc τ θ) n (su (vc τ θ) k)).1 (sbT (vc τ θ) n (su (vc τ θ) k)).2 (su (vc τ θ) s)
    rw [show ((sbT θ n (su θ k)).1, (sbT θ n (su θ k)).2) = sbT θ n (su θ k) from rfl, e, hs]
theorem st_st (τ θ : Vs) (x : Tm) : st τ (st θ x) = st (vc τ θ) x := by
  by_cases h : cl x.1 < 0
  · rw [st_v θ h, st_v (vc τ θ) h]; rfl
  · rw [st_f θ h, st_f (vc τ θ) h, st_f τ (x := (x.1, su θ x.2)) h, su_su]
/-- VARIABLE v stands in it -/
def vi (v : Int) : T → Prop
  | .leaf _ => False
  | .branch n k s => (if cl n < 0 then -1 - cl n = v else vi v k) ∨ vi v s
theorem su_c {τ θ : Vs} : ∀ {F : T}, (∀ v, vi v F → τ v = θ v) → su τ F = su θ F
  | .leaf _, _ => rfl
  | .branch n k s, h => by
    have hs : su τ s = su θ s := su_c (fun v q => h v (Or.inr q))
    have e : sbT τ n (su τ k) = sbT θ n (su θ k) := by
      by_cases hc : cl n < 0
      · have := h (-1 - cl n) (Or.inl (by simp only [hc, if_true]))
        simp only [sbT, hc, if_true, this]
      · have hk : su τ k = su θ k := su_c (fun v q => h v (Or.inl (by simp only [hc, if_false]; exact q)))
        simp only [sbT, hc, if_false, hk]
    simp only [su, e, hs]
/-- a VARIABLE's value is not larger than what it stands in -/
theorem su_wt {θ : Vs} {v : Int} : ∀ {F : T}, vi v F → tw (θ v) ≤ wt (su θ F)
  | .leaf _, h => h.elim
  | .branch n k s, h => by
    simp only [su, wt]
    rcases h with h | h
    · by_cases hc : cl n < 0
      · simp only [hc, if_true] at h
        subst h
        simp only [sbT, hc, if_true, tw]
        omega
      · simp only [hc, if_false] at h
        have := su_wt (θ := θ) h
        simp only [sbT, hc, if_false]
        omega
    · have := su_wt (θ := θ) h
      omega
theorem su_id : ∀ {ar : Int → Nat} {p : Int → Prop} {F : T}, wf ar p F → su vt F = F
  | ar, p, .leaf (), _ => rfl
  | ar, p, .branch n k s, h => by
    have hs := su_id h.2.2.2
    have e : sbT vt n (su vt k) = (n, k) := by
      by_cases hc : cl n < 0
      · have hk : k = nl := len0 (by have := h.1; rw [if_pos hc] at this; exact this)
        have e1 : cu (-1 - (-1 - cl n)) = n := by rw [show (-1 - (-1 - cl n) : Int) = cl n by omega]; exact cu_cl n
        simp only [sbT, hc, if_true, vt, e1, hk]
      · simp only [sbT, hc, if_false, su_id h.2.2.1]
    simp only [su, e, hs]
