/-! bits of small numbers -/
def bt (a i : Int) : Prop := (i32 a).toBitVec.getLsbD i.toNat = true
theorem i32_zand (a b : Int) : i32 (zand a b) = i32 a &&& i32 b := to_i32 _
theorem i32_zor (a b : Int) : i32 (zor a b) = i32 a ||| i32 b := to_i32 _
theorem bt_and {a b i : Int} : bt (zand a b) i ↔ bt a i ∧ bt b i := by
  unfold bt
  rw [i32_zand, Int32.toBitVec_and, BitVec.getLsbD_and, Bool.and_eq_true]
theorem bt_or {a b i : Int} : bt (zor a b) i ↔ bt a i ∨ bt b i := by
  unfold bt
  rw [i32_zor, Int32.toBitVec_or, BitVec.getLsbD_or, Bool.or_eq_true]
theorem bt_not {a i : Int} (h1 : i < 32) : bt (-1 - a) i ↔ ¬ bt a i := by
  unfold bt
  have e : i32 (-1 - a) = ~~~ (i32 a) := by
    have := (e_not (A := i32 a) (a := a) rfl).symm
    rw [this, Int32.xor_neg_one]
  rw [e, Int32.toBitVec_not, BitVec.getLsbD_not]
  have : i.toNat < 32 := by omega
  simp [this]
theorem c12 {P : Int → Prop} (h0 : P 0) (h1 : P 1) (h2 : P 2) (h3 : P 3) (h4 : P 4) (h5 : P 5) (h6 : P 6) (h7 : P 7) (h8 : P 8) (h9 : P 9) (h10 : P 10) (h11 : P 11) {r : Int} (a : 0 ≤ r) (b : r < 12) : P r := by
  have : r = 0 ∨ r = 1 ∨ r = 2 ∨ r = 3 ∨ r = 4 ∨ r = 5 ∨ r = 6 ∨ r = 7 ∨ r = 8 ∨ r = 9 ∨ r = 10 ∨ r = 11 := by omega
  rcases this with rfl | rfl | rfl | rfl | rfl | rfl | rfl | rfl | rfl | rfl | rfl | rfl <;> assumption
theorem zshl_1 {r : Int} (a : 0 ≤ r) (b : r < 12) : zshl 1 r = ((2 ^ r.toNat : Nat) : Int) := by
  refine c12 (P := fun r => zshl 1 r = ((2 ^ r.toNat : Nat) : Int)) ?_ ?_ ?_ ?_ ?_ ?_ ?_ ?_ ?_ ?_ ?_ ?_ a b <;> decide +kernel
theorem bt_pow {r : Nat} (h : r < 31) {i : Int} (h0 : 0 ≤ i) (h1 : i < 32) : bt ((2 ^ r : Nat) : Int) i ↔ i = (r : Int) := by
  unfold bt i32
  have e : (Int32.ofInt ((2 ^ r : Nat) : Int)).toBitVec = BitVec.twoPow 32 r := by
    apply BitVec.eq_of_toNat_eq
    rw [BitVec.toNat_twoPow]
    show (BitVec.ofInt 32 ((2 ^ r : Nat) : Int)).toNat = _
    rw [BitVec.ofInt_natCast, BitVec.toNat_ofNat]
  rw [e, BitVec.getLsbD_twoPow]
  have hr : r < 32 := by omega
  simp [hr]
  omega
theorem bt_shl {r i : Int} (a : 0 ≤ r) (b : r < 12) (h0 : 0 ≤ i) (h1 : i < 32) : bt (zshl 1 r) i ↔ i = r := by
  rw [zshl_1 a b, bt_pow (by omega) h0 h1]
  omega
theorem bt_0 {i : Int} : ¬ bt 0 i := by
  unfold bt
  have : (i32 0).toBitVec = 0#32 := by decide
  rw [this]
  simp
theorem bt_ext {a : Int} (hz : zr a) (h : ∀ i, 0 ≤ i → i < 32 → ¬ bt a i) : a = 0 := by
  have e : (i32 a).toBitVec = 0#32 := by
    apply BitVec.eq_of_getLsbD_eq
    intro i hi
    have := h (i : Int) (by omega) (by omega)
    unfold bt at this
    simp only [Int.toNat_natCast, Bool.not_eq_true] at this
    rw [this]; simp
  have e2 : i32 a = i32 0 := Int32.toBitVec_inj.mp (by rw [e]; decide)
  have := (i32_eq hz (b := 0) (by decide)).mp e2
  exact this
/-- the test that the class makes -/
theorem bt_test {a i : Int} (h0 : 0 ≤ i) (h1 : i < 31) : zand (zshr a i) 1 = 1 ↔ bt a i := by
  have e1 : i32 (zshr a i) = i32 a >>> (i32 i &&& 31) := to_i32 _
  have e2 : (i32 i &&& 31) = i32 i := by
    have : ∀ j : Fin 31, (i32 ((j.val : Nat) : Int) &&& 31) = i32 ((j.val : Nat) : Int) := by decide +kernel
    have := this ⟨i.toNat, by omega⟩
    simp only [Int.toNat_of_nonneg h0] at this
    exact this
  have one : ∀ i9, bt 1 i9 → i9.toNat = 0 := fun i9 h => by
    unfold bt at h
    have : (i32 1).toBitVec = 1#32 := by decide
    rw [this] at h
    simpa using h
  have sft : ∀ j : Int, 0 ≤ j → j < 32 → (bt (zshr a i) 0 ↔ bt a i) := fun j _ _ => by
    unfold bt
    rw [e1, e2]
    show ((i32 a >>> i32 i).toBitVec.getLsbD (0 : Int).toNat = true) ↔ _
    rw [Int32.toBitVec_shiftRight]
    have e3 : ((i32 i).toBitVec.smod 32).toNat = i.toNat := by
      have : ∀ j : Fin 31, ((i32 ((j.val : Nat) : Int)).toBitVec.smod 32).toNat = j.val := by decide +kernel
      have := this ⟨i.toNat, by omega⟩
      simp only [Int.toNat_of_nonneg h0] at this
      exact this
    rw [BitVec.sshiftRight_eq', e3, BitVec.getLsbD_sshiftRight]
    have : i.toNat < 32 := by omega
    simp [this]
  have s0 := sft 0 (by omega) (by omega)
  constructor
  · intro h
    rw [← s0]
    have h2 : bt (zand (zshr a i) 1) 0 := by rw [h]; unfold bt; decide
    exact (bt_and.mp h2).1
  · intro h
    have hb := s0.mpr h
    have key : ∀ x y : Int32, (x &&& 1 = 1) ∨ (x &&& 1 = 0) := fun x _ => by
      have : ∀ z : BitVec 32, z &&& 1#32 = 1#32 ∨ z &&& 1#32 = 0#32 := fun z => by
        by_cases hz : z.getLsbD 0 = true
        · left
          apply BitVec.eq_of_getLsbD_eq
          intro k hk
          rw [BitVec.getLsbD_and]
          by_cases k0 : k = 0
          · subst k0; rw [hz]; rfl
          · have : (1#32).getLsbD k = false := by simp [BitVec.getLsbD_one, k0]
            rw [this]; simp
        · right
          apply BitVec.eq_of_getLsbD_eq
          intro k hk
          rw [BitVec.getLsbD_and]
          by_cases k0 : k = 0
          · subst k0; rw [show z.getLsbD 0 = false from by cases h : z.getLsbD 0 with | true => exact absurd h hz | false => rfl]; simp
          · have : (1#32).getLsbD k = false := by simp [BitVec.getLsbD_one, k0]
            rw [this]; simp
      rcases this x.toBitVec with h | h
      · left; exact Int32.toBitVec_inj.mp (by rw [Int32.toBitVec_and]; exact h)
      · right; exact Int32.toBitVec_inj.mp (by rw [Int32.toBitVec_and]; exact h)
    have e4 : zand (zshr a i) 1 = (i32 (zshr a i) &&& 1).toInt := rfl
    rcases key (i32 (zshr a i)) 0 with k | k
    · rw [e4, k]; decide
    · exfalso
      have h3 : bt (zand (zshr a i) 1) 0 := bt_and.mpr ⟨hb, by unfold bt; decide⟩
      have e5 : zand (zshr a i) 1 = 0 := by rw [e4, k]; decide
      rw [e5] at h3
      exact bt_0 h3
theorem zr_zand (a b : Int) : zr (zand a b) := zr_to _
theorem zr_zor (a b : Int) : zr (zor a b) := zr_to _
