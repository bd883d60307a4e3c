/-! a row that grows, over Int -/
def zAdd (σ : zS) (r a : Nat) (x : Int) : zS := if σ.1 r = (σ.2.2 a : Int) then ((fun j => if j = r then σ.1 r + 1 else σ.1 j), (fun j q => if j = a then (if q = (σ.2.2 a : Int) then x else if q < (σ.2.2 a : Int) then σ.2.1 a q else 0) else σ.2.1 j q), (fun j => if j = 3002 then σ.2.2 3002 + (2 * σ.2.2 a + 1) else if j = 3001 then σ.2.2 3001 + 1 else if j = a then 2 * σ.2.2 a + 1 else σ.2.2 j)) else ((fun j => if j = r then σ.1 r + 1 else σ.1 j), (fun j q => if j = a ∧ q = σ.1 r then x else σ.2.1 j q), σ.2.2)
abbrev zrok (σ : zS) (r a : Nat) : Prop := 0 ≤ σ.1 r ∧ σ.1 r ≤ (σ.2.2 a : Int) ∧ σ.2.2 a ≤ 30000000 ∧ σ.2.2 3001 ≤ 2000000000 ∧ σ.2.2 3002 ≤ 2000000000
theorem cv_Add {σ : zS} {r a : Nat} {X : Int32} {x : Int} (e : X = i32 x) (hσ : zOK σ) (h1 : a ≠ 3001) (h2 : a ≠ 3002) (h : zrok σ r a) : rAdd (cv σ) r a X = cv (zAdd σ r a x) := by
  obtain ⟨b1, b2, b3, b4, b5⟩ := h
  have el : Int32.ofNat ((cv σ).2.2 a) = i32 (σ.2.2 a : Int) := e_len hσ a
  have hr : zr (σ.2.2 a : Int) := ⟨by omega, by omega⟩
  unfold rAdd zAdd
  by_cases q : σ.1 r = (σ.2.2 a : Int)
  · have q2 : (cv σ).1 r = Int32.ofNat ((cv σ).2.2 a) := by rw [el]; show i32 (σ.1 r) = _; rw [q]
    rw [if_pos q2, if_pos q]
    refine Prod.ext ?_ (Prod.ext ?_ ?_)
    · funext j
      show (if j = r then i32 (σ.1 r) + 1 else i32 (σ.1 j)) = i32 (if j = r then σ.1 r + 1 else σ.1 j)
      by_cases hj : j = r
      · rw [if_pos hj, if_pos hj]; exact e_add rfl (by decide)
      · rw [if_neg hj, if_neg hj]
    · funext j n
      show (va_up (cv σ).2.1 a (upd (va_cpy ((cv σ).2.1 a) (fun _ => 0) 0 0 (σ.2.2 a)) (σ.2.2 a) X)) j n = i32 (if j = a then (if (n : Int) = (σ.2.2 a : Int) then x else if (n : Int) < (σ.2.2 a : Int) then σ.2.1 a n else 0) else σ.2.1 j n)
      by_cases hj : j = a
      · subst hj
        rw [if_pos rfl]
        have : va_up (cv σ).2.1 j (upd (va_cpy ((cv σ).2.1 j) (fun _ => 0) 0 0 (σ.2.2 j)) (σ.2.2 j) X) j n = upd (va_cpy ((cv σ).2.1 j) (fun _ => 0) 0 0 (σ.2.2 j)) (σ.2.2 j) X n := by simp [va_up]
        rw [this]
        show (if n = σ.2.2 j then X else (if 0 ≤ n ∧ n < 0 + σ.2.2 j then (cv σ).2.1 j (0 + (n - 0)) else 0)) = _
        by_cases hn : n = σ.2.2 j
        · rw [if_pos hn, if_pos (by omega)]; exact e
        · rw [if_neg hn, if_neg (show ¬ (n : Int) = (σ.2.2 j : Int) by omega)]
          by_cases hl : n < σ.2.2 j
          · rw [if_pos (show 0 ≤ n ∧ n < 0 + σ.2.2 j from ⟨Nat.zero_le _, by omega⟩), if_pos (show (n : Int) < (σ.2.2 j : Int) by omega)]
            show i32 (σ.2.1 j ((0 + (n - 0) : Nat) : Int)) = _
            have e9 : ((0 + (n - 0) : Nat) : Int) = (n : Int) := by omega
            rw [e9]
          · rw [if_neg (show ¬ (0 ≤ n ∧ n < 0 + σ.2.2 j) from fun w => hl (by have := w.2; omega)), if_neg (show ¬ (n : Int) < (σ.2.2 j : Int) by omega)]; decide
      · rw [if_neg hj]
        simp [va_up, hj, cv]
    · funext j
      show va_up (va_up (va_up σ.2.2 a (2 * σ.2.2 a + 1)) 3001 (σ.2.2 3001 + 1)) 3002 (σ.2.2 3002 + (2 * σ.2.2 a + 1)) j = _
      simp only [va_up]
      rfl
  · have q2 : ¬ (cv σ).1 r = Int32.ofNat ((cv σ).2.2 a) := by
      rw [el]
      intro w
      exact q ((i32_eq (hσ.1 r) hr).mp w)
    rw [if_neg q2, if_neg q]
    refine Prod.ext ?_ (Prod.ext ?_ rfl)
    · funext j
      show (if j = r then i32 (σ.1 r) + 1 else i32 (σ.1 j)) = i32 (if j = r then σ.1 r + 1 else σ.1 j)
      by_cases hj : j = r
      · rw [if_pos hj, if_pos hj]; exact e_add rfl (by decide)
      · rw [if_neg hj, if_neg hj]
    · have := congrArg (fun s : mS => s.2.1) (cv_A (σ := σ) (k := a) (n := σ.2.2 a) (I := i32 (σ.1 r)) (i := σ.1 r) rfl ⟨⟨b1, by omega⟩, hσ.1 r⟩ e)
      exact this
theorem zAdd_ok {σ : zS} {r a : Nat} {x : Int} (hx : zr x) (hσ : zOK σ) (h : zrok σ r a) : zOK (zAdd σ r a x) := by
  obtain ⟨b1, b2, b3, b4, b5⟩ := h
  unfold zAdd
  have h1 : ∀ j, zr (if j = r then σ.1 r + 1 else σ.1 j) := fun j => by
    by_cases hj : j = r
    · rw [if_pos hj]; exact ⟨by omega, by omega⟩
    · rw [if_neg hj]; exact hσ.1 j
  split
  · refine ⟨h1, fun j q => ?_, fun j => ?_⟩
    · exact zr_ite (zr_ite hx (zr_ite (hσ.2.1 _ _) (by decide))) (hσ.2.1 _ _)
    · by_cases c1 : j = 3002
      · simp only [c1, if_true]; exact ⟨by omega, by omega⟩
      · by_cases c2 : j = 3001
        · simp only [c2, if_true, show ¬ (3001 : Nat) = 3002 by decide, if_false]; exact ⟨by omega, by omega⟩
        · by_cases c3 : j = a
          · simp only [c1, c2, c3, if_true, if_false]
            have d1 : ¬ a = 3002 := fun w => c1 (by rw [c3, w])
            have d2 : ¬ a = 3001 := fun w => c2 (by rw [c3, w])
            simp only [d1, d2, if_false]
            exact ⟨by omega, by omega⟩
          · simp only [c1, c2, c3, if_false]; exact hσ.2.2 j
  · exact ⟨h1, fun j q => zr_ite hx (hσ.2.1 _ _), hσ.2.2⟩
theorem Rf_Add {σ : zS} {r a : Nat} {X : Int32} {x : Int} {f : zS → Option zR} {g : mS → Option mR} {β : Nat} (e : X = i32 x) (hx : zr x) (hσ : zOK σ) (h1 : a ≠ 3001) (h2 : a ≠ 3002) (h3 : r ≠ 3001) (h4 : r ≠ 3002) (h : ∀ σ1, zOK σ1 → Rf (f σ1) (g (cv σ1)) β) : Rf (if zrok σ r a then lt_ (zAdd σ r a x) f else none) (if rok (cv σ) r a = true then lt_ (rAdd (cv σ) r a X) g else none) β := by
  by_cases q : zrok σ r a
  · have hk : rok (cv σ) r a = true := by
      have el : Int32.ofNat ((cv σ).2.2 a) = i32 (σ.2.2 a : Int) := e_len hσ a
      obtain ⟨b1, b2, b3, b4, b5⟩ := q
      simp only [rok, Bool.and_eq_true, Bool.or_eq_true, decide_eq_true_eq]
      refine ⟨b3, ?_⟩
      by_cases w : σ.1 r = (σ.2.2 a : Int)
      · left; rw [el]; show i32 (σ.1 r) = _; rw [w]
      · right; exact (bin_i32 (hσ.1 r)).mpr ⟨b1, by show σ.1 r < (σ.2.2 a : Int); omega⟩
    rw [if_pos q, if_pos hk]
    show Rf (f (zAdd σ r a x)) (g (rAdd (cv σ) r a X)) β
    rw [cv_Add e hσ h1 h2 q]
    exact h _ (zAdd_ok hx hσ q)
  · rw [if_neg q]; exact Rf_none
/-! an exception -/
def zT (σ : zS) (c : Nat) : zS := (σ.1, σ.2.1, va_up (va_up (va_up σ.2.2 3000 c) 3001 (σ.2.2 3001 + 1)) 3002 (σ.2.2 3002 + 6))
abbrev zrT (σ : zS) : Prop := σ.2.2 3001 ≤ 2000000000 ∧ σ.2.2 3002 ≤ 2000000000
theorem Rf_T {σ : zS} {c : Nat} {f : zS → Option zR} {g : mS → Option mR} {β : Nat} (hσ : zOK σ) (hc : c ≤ 4) (h : ∀ σ1, zOK σ1 → Rf (f σ1) (g (cv σ1)) β) : Rf (if zrT σ then lt_ (zT σ c) f else none) (lt_ (mT (cv σ) c) g) β := by
  by_cases q : zrT σ
  · rw [if_pos q]
    refine h (zT σ c) ⟨hσ.1, hσ.2.1, fun j => ?_⟩
    have := q.1
    have := q.2
    show zr ((va_up (va_up (va_up σ.2.2 3000 c) 3001 (σ.2.2 3001 + 1)) 3002 (σ.2.2 3002 + 6) j : Nat) : Int)
    simp only [va_up]
    split
    · exact ⟨by omega, by omega⟩
    · split
      · exact ⟨by omega, by omega⟩
      · split
        · exact ⟨by omega, by omega⟩
        · exact hσ.2.2 j
  · rw [if_neg q]; exact Rf_none
