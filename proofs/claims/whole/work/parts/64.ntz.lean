/-! how many zeros at the end -/
theorem ntz_mask2 : ∀ a b : Fin 64, 64 * a.val + b.val ≠ 0 → ∃ r : Fin 12, (i32 ((64 * a.val + b.val : Nat) : Int)).toBitVec.getLsbD r.val = true ∧ (i32 (-1 - ((64 * a.val + b.val : Nat) : Int)) &&& i32 (((64 * a.val + b.val : Nat) : Int) - 1)).toInt = ((2 ^ r.val - 1 : Nat) : Int) := by decide +kernel
theorem ntz_mask (i : Nat) (h : i < 4096) (h0 : i ≠ 0) : ∃ r : Fin 12, (i32 ((i : Nat) : Int)).toBitVec.getLsbD r.val = true ∧ (i32 (-1 - ((i : Nat) : Int)) &&& i32 (((i : Nat) : Int) - 1)).toInt = ((2 ^ r.val - 1 : Nat) : Int) := by
  have := ntz_mask2 ⟨i / 64, by omega⟩ ⟨i % 64, by omega⟩
  have e : 64 * (i / 64) + i % 64 = i := by omega
  simp only [e] at this
  exact this h0
theorem ntz_ok {σ : zS} {β : Nat} {f : Int} (h0 : 0 < f) (h1 : f < 4096) : ∃ r, 0 ≤ r ∧ r < 12 ∧ bt f r ∧ yE tC_Integer_numberOfTrailingZeros β σ [f] = some (σ, r) := by
  obtain ⟨r, a, b⟩ := ntz_mask f.toNat (by omega) (by omega)
  have ef : ((f.toNat : Nat) : Int) = f := Int.toNat_of_nonneg (by omega)
  simp only [ef] at a b
  refine ⟨(r.val : Int), by omega, by have := r.isLt; omega, by unfold bt; simpa using a, ?_⟩
  replace b : zand (-1 - f) (f - 1) = ((2 ^ r.val - 1 : Nat) : Int) := b
  obtain ⟨r, hr⟩ := r
  have : r = 0 ∨ r = 1 ∨ r = 2 ∨ r = 3 ∨ r = 4 ∨ r = 5 ∨ r = 6 ∨ r = 7 ∨ r = 8 ∨ r = 9 ∨ r = 10 ∨ r = 11 := by omega
  rcases this with rfl | rfl | rfl | rfl | rfl | rfl | rfl | rfl | rfl | rfl | rfl | rfl
  · have e : zand (-1 - f) (f - 1) = 0 := b.trans (by show ((2 ^ 0 - 1 : Nat) : Int) = 0; decide)
    rw [yq_Integer_numberOfTrailingZeros, kY_Integer_numberOfTrailingZeros, if_pos (by omega), e, if_neg (by decide)]
    first | rfl | decide +kernel | (congr 2; decide +kernel)
  · have e : zand (-1 - f) (f - 1) = 1 := b.trans (by show ((2 ^ 1 - 1 : Nat) : Int) = 1; decide)
    rw [yq_Integer_numberOfTrailingZeros, kY_Integer_numberOfTrailingZeros, if_pos (by omega), e, if_pos (by decide), if_pos (by decide), yq_Integer_numberOfTrailingZeros_p34, kY_Integer_numberOfTrailingZeros_p34, if_pos (by decide), yq_Integer_numberOfTrailingZeros_p49, kY_Integer_numberOfTrailingZeros_p49, if_pos (by decide), yq_Integer_numberOfTrailingZeros_p62, kY_Integer_numberOfTrailingZeros_p62, if_pos (by decide), yq_Integer_numberOfTrailingZeros_p74, kY_Integer_numberOfTrailingZeros_p74, show zushr 1 1 = 0 by decide +kernel, if_pos (by decide)]
    first | rfl | decide +kernel | (congr 2; decide +kernel)
  · have e : zand (-1 - f) (f - 1) = 3 := b.trans (by show ((2 ^ 2 - 1 : Nat) : Int) = 3; decide)
    rw [yq_Integer_numberOfTrailingZeros, kY_Integer_numberOfTrailingZeros, if_pos (by omega), e, if_pos (by decide), if_pos (by decide), yq_Integer_numberOfTrailingZeros_p34, kY_Integer_numberOfTrailingZeros_p34, if_pos (by decide), yq_Integer_numberOfTrailingZeros_p49, kY_Integer_numberOfTrailingZeros_p49, if_pos (by decide), yq_Integer_numberOfTrailingZeros_p62, kY_Integer_numberOfTrailingZeros_p62, if_pos (by decide), yq_Integer_numberOfTrailingZeros_p74, kY_Integer_numberOfTrailingZeros_p74, show zushr 3 1 = 1 by decide +kernel, if_pos (by decide)]
    first | rfl | decide +kernel | (congr 2; decide +kernel)
  · have e : zand (-1 - f) (f - 1) = 7 := b.trans (by show ((2 ^ 3 - 1 : Nat) : Int) = 7; decide)
    rw [yq_Integer_numberOfTrailingZeros, kY_Integer_numberOfTrailingZeros, if_pos (by omega), e, if_pos (by decide), if_pos (by decide), yq_Integer_numberOfTrailingZeros_p34, kY_Integer_numberOfTrailingZeros_p34, if_pos (by decide), yq_Integer_numberOfTrailingZeros_p49, kY_Integer_numberOfTrailingZeros_p49, if_pos (by decide), yq_Integer_numberOfTrailingZeros_p62, kY_Integer_numberOfTrailingZeros_p62, if_neg (by decide), if_pos (by decide), show zushr 7 2 = 1 by decide +kernel, yq_Integer_numberOfTrailingZeros_p74, kY_Integer_numberOfTrailingZeros_p74, show zushr 1 1 = 0 by decide +kernel, if_pos (by decide)]
    first | rfl | decide +kernel | (congr 2; decide +kernel)
  · have e : zand (-1 - f) (f - 1) = 15 := b.trans (by show ((2 ^ 4 - 1 : Nat) : Int) = 15; decide)
    rw [yq_Integer_numberOfTrailingZeros, kY_Integer_numberOfTrailingZeros, if_pos (by omega), e, if_pos (by decide), if_pos (by decide), yq_Integer_numberOfTrailingZeros_p34, kY_Integer_numberOfTrailingZeros_p34, if_pos (by decide), yq_Integer_numberOfTrailingZeros_p49, kY_Integer_numberOfTrailingZeros_p49, if_pos (by decide), yq_Integer_numberOfTrailingZeros_p62, kY_Integer_numberOfTrailingZeros_p62, if_neg (by decide), if_pos (by decide), show zushr 15 2 = 3 by decide +kernel, yq_Integer_numberOfTrailingZeros_p74, kY_Integer_numberOfTrailingZeros_p74, show zushr 3 1 = 1 by decide +kernel, if_pos (by decide)]
    first | rfl | decide +kernel | (congr 2; decide +kernel)
  · have e : zand (-1 - f) (f - 1) = 31 := b.trans (by show ((2 ^ 5 - 1 : Nat) : Int) = 31; decide)
    rw [yq_Integer_numberOfTrailingZeros, kY_Integer_numberOfTrailingZeros, if_pos (by omega), e, if_pos (by decide), if_pos (by decide), yq_Integer_numberOfTrailingZeros_p34, kY_Integer_numberOfTrailingZeros_p34, if_pos (by decide), yq_Integer_numberOfTrailingZeros_p49, kY_Integer_numberOfTrailingZeros_p49, if_neg (by decide), if_pos (by decide), show zushr 31 4 = 1 by decide +kernel, yq_Integer_numberOfTrailingZeros_p62, kY_Integer_numberOfTrailingZeros_p62, if_pos (by decide), yq_Integer_numberOfTrailingZeros_p74, kY_Integer_numberOfTrailingZeros_p74, show zushr 1 1 = 0 by decide +kernel, if_pos (by decide)]
    first | rfl | decide +kernel | (congr 2; decide +kernel)
  · have e : zand (-1 - f) (f - 1) = 63 := b.trans (by show ((2 ^ 6 - 1 : Nat) : Int) = 63; decide)
    rw [yq_Integer_numberOfTrailingZeros, kY_Integer_numberOfTrailingZeros, if_pos (by omega), e, if_pos (by decide), if_pos (by decide), yq_Integer_numberOfTrailingZeros_p34, kY_Integer_numberOfTrailingZeros_p34, if_pos (by decide), yq_Integer_numberOfTrailingZeros_p49, kY_Integer_numberOfTrailingZeros_p49, if_neg (by decide), if_pos (by decide), show zushr 63 4 = 3 by decide +kernel, yq_Integer_numberOfTrailingZeros_p62, kY_Integer_numberOfTrailingZeros_p62, if_pos (by decide), yq_Integer_numberOfTrailingZeros_p74, kY_Integer_numberOfTrailingZeros_p74, show zushr 3 1 = 1 by decide +kernel, if_pos (by decide)]
    first | rfl | decide +kernel | (congr 2; decide +kernel)
  · have e : zand (-1 - f) (f - 1) = 127 := b.trans (by show ((2 ^ 7 - 1 : Nat) : Int) = 127; decide)
    rw [yq_Integer_numberOfTrailingZeros, kY_Integer_numberOfTrailingZeros, if_pos (by omega), e, if_pos (by decide), if_pos (by decide), yq_Integer_numberOfTrailingZeros_p34, kY_Integer_numberOfTrailingZeros_p34, if_pos (by decide), yq_Integer_numberOfTrailingZeros_p49, kY_Integer_numberOfTrailingZeros_p49, if_neg (by decide), if_pos (by decide), show zushr 127 4 = 7 by decide +kernel, yq_Integer_numberOfTrailingZeros_p62, kY_Integer_numberOfTrailingZeros_p62, if_neg (by decide), if_pos (by decide), show zushr 7 2 = 1 by decide +kernel, yq_Integer_numberOfTrailingZeros_p74, kY_Integer_numberOfTrailingZeros_p74, show zushr 1 1 = 0 by decide +kernel, if_pos (by decide)]
    first | rfl | decide +kernel | (congr 2; decide +kernel)
  · have e : zand (-1 - f) (f - 1) = 255 := b.trans (by show ((2 ^ 8 - 1 : Nat) : Int) = 255; decide)
    rw [yq_Integer_numberOfTrailingZeros, kY_Integer_numberOfTrailingZeros, if_pos (by omega), e, if_pos (by decide), if_pos (by decide), yq_Integer_numberOfTrailingZeros_p34, kY_Integer_numberOfTrailingZeros_p34, if_pos (by decide), yq_Integer_numberOfTrailingZeros_p49, kY_Integer_numberOfTrailingZeros_p49, if_neg (by decide), if_pos (by decide), show zushr 255 4 = 15 by decide +kernel, yq_Integer_numberOfTrailingZeros_p62, kY_Integer_numberOfTrailingZeros_p62, if_neg (by decide), if_pos (by decide), show zushr 15 2 = 3 by decide +kernel, yq_Integer_numberOfTrailingZeros_p74, kY_Integer_numberOfTrailingZeros_p74, show zushr 3 1 = 1 by decide +kernel, if_pos (by decide)]
    first | rfl | decide +kernel | (congr 2; decide +kernel)
  · have e : zand (-1 - f) (f - 1) = 511 := b.trans (by show ((2 ^ 9 - 1 : Nat) : Int) = 511; decide)
    rw [yq_Integer_numberOfTrailingZeros, kY_Integer_numberOfTrailingZeros, if_pos (by omega), e, if_pos (by decide), if_pos (by decide), yq_Integer_numberOfTrailingZeros_p34, kY_Integer_numberOfTrailingZeros_p34, if_neg (by decide), if_pos (by decide), show zushr 511 8 = 1 by decide +kernel, yq_Integer_numberOfTrailingZeros_p49, kY_Integer_numberOfTrailingZeros_p49, if_pos (by decide), yq_Integer_numberOfTrailingZeros_p62, kY_Integer_numberOfTrailingZeros_p62, if_pos (by decide), yq_Integer_numberOfTrailingZeros_p74, kY_Integer_numberOfTrailingZeros_p74, show zushr 1 1 = 0 by decide +kernel, if_pos (by decide)]
    first | rfl | decide +kernel | (congr 2; decide +kernel)
  · have e : zand (-1 - f) (f - 1) = 1023 := b.trans (by show ((2 ^ 10 - 1 : Nat) : Int) = 1023; decide)
    rw [yq_Integer_numberOfTrailingZeros, kY_Integer_numberOfTrailingZeros, if_pos (by omega), e, if_pos (by decide), if_pos (by decide), yq_Integer_numberOfTrailingZeros_p34, kY_Integer_numberOfTrailingZeros_p34, if_neg (by decide), if_pos (by decide), show zushr 1023 8 = 3 by decide +kernel, yq_Integer_numberOfTrailingZeros_p49, kY_Integer_numberOfTrailingZeros_p49, if_pos (by decide), yq_Integer_numberOfTrailingZeros_p62, kY_Integer_numberOfTrailingZeros_p62, if_pos (by decide), yq_Integer_numberOfTrailingZeros_p74, kY_Integer_numberOfTrailingZeros_p74, show zushr 3 1 = 1 by decide +kernel, if_pos (by decide)]
    first | rfl | decide +kernel | (congr 2; decide +kernel)
  · have e : zand (-1 - f) (f - 1) = 2047 := b.trans (by show ((2 ^ 11 - 1 : Nat) : Int) = 2047; decide)
    rw [yq_Integer_numberOfTrailingZeros, kY_Integer_numberOfTrailingZeros, if_pos (by omega), e, if_pos (by decide), if_pos (by decide), yq_Integer_numberOfTrailingZeros_p34, kY_Integer_numberOfTrailingZeros_p34, if_neg (by decide), if_pos (by decide), show zushr 2047 8 = 7 by decide +kernel, yq_Integer_numberOfTrailingZeros_p49, kY_Integer_numberOfTrailingZeros_p49, if_pos (by decide), yq_Integer_numberOfTrailingZeros_p62, kY_Integer_numberOfTrailingZeros_p62, if_neg (by decide), if_pos (by decide), show zushr 7 2 = 1 by decide +kernel, yq_Integer_numberOfTrailingZeros_p74, kY_Integer_numberOfTrailingZeros_p74, show zushr 1 1 = 0 by decide +kernel, if_pos (by decide)]
    first | rfl | decide +kernel | (congr 2; decide +kernel)
