/-! states and answers over Int; a block has a budget: how deep its calls may go -/
abbrev zS : Type := (Nat → Int) × (Nat → Int → Int) × (Nat → Nat)
abbrev zR : Type := zS × Int
abbrev zF : Type := Nat → Nat → zS → List Int → Option zR
abbrev zr (x : Int) : Prop := -2147483648 ≤ x ∧ x ≤ 2147483647
abbrev zb (x : Int) (n : Nat) : Prop := 0 ≤ x ∧ x < (n : Int)
abbrev zcp (sp dp n : Int) (n0 n1 : Nat) : Prop := 0 ≤ sp ∧ 0 ≤ dp ∧ 0 ≤ n ∧ sp + n ≤ (n0 : Int) ∧ dp + n ≤ (n1 : Int)
def i32 (x : Int) : Int32 := Int32.ofInt x
def zI (σ : zS) (k : Nat) (x : Int) : zS := (fun j => if j = k then x else σ.1 j, σ.2)
def zA (σ : zS) (k : Nat) (i x : Int) : zS := (σ.1, (fun j q => if j = k ∧ q = i then x else σ.2.1 j q), σ.2.2)
def zFl (σ : zS) (k : Nat) (x : Int) (n : Nat) : zS := (σ.1, (fun j q => if j = k ∧ 0 ≤ q ∧ q < (n : Int) then x else σ.2.1 j q), σ.2.2)
def zCp (σ : zS) (k j : Nat) (sp dp n : Int) : zS := (σ.1, (fun a q => if a = j ∧ dp ≤ q ∧ q < dp + n then σ.2.1 k (sp + (q - dp)) else σ.2.1 a q), σ.2.2)
def cv (σ : zS) : mS := (fun k => i32 (σ.1 k), fun k i => i32 (σ.2.1 k (i : Int)), σ.2.2)
def zwa (a b : Int) : Int := (i32 a + i32 b).toInt
def zws (a b : Int) : Int := (i32 a - i32 b).toInt
def zwm (a b : Int) : Int := (i32 a * i32 b).toInt
def zand (a b : Int) : Int := (i32 a &&& i32 b).toInt
def zor (a b : Int) : Int := (i32 a ||| i32 b).toInt
def zxor (a b : Int) : Int := (i32 a ^^^ i32 b).toInt
def zushr (a b : Int) : Int := (((i32 a).toUInt32 >>> ((i32 b).toUInt32 &&& Int32.toUInt32 31)).toInt32).toInt
def zshl (a b : Int) : Int := (i32 a <<< (i32 b &&& 31)).toInt
def zshr (a b : Int) : Int := (i32 a >>> (i32 b &&& 31)).toInt
def zi2b (a : Int) : Int := ((i32 a).toInt8.toInt32).toInt
def znb (a : Int) : Int := (vp_nar .byte (i32 a)).toInt
theorem zr_to (x : Int32) : zr x.toInt := ⟨Int32.le_toInt x, by have := Int32.toInt_lt x; omega⟩
theorem i32_to {x : Int} (h : zr x) : (i32 x).toInt = x := Int32.toInt_ofInt_of_le h.1 (by have := h.2; omega)
theorem to_i32 (x : Int32) : i32 x.toInt = x := Int32.ofInt_toInt x
theorem i32_nat {x : Int} {n : Nat} (h : zb x n) (hx : zr x) : (i32 x).toNatClampNeg = x.toNat := Int32.toNatClampNeg_ofInt_of_le hx.1 (by have := hx.2; omega)
def zOK (σ : zS) : Prop := (∀ k, zr (σ.1 k)) ∧ (∀ k i, zr (σ.2.1 k i)) ∧ (∀ k, zr (σ.2.2 k : Nat))
theorem zr_ite {c : Prop} {i : Decidable c} {a b : Int} (ha : zr a) (hb : zr b) : zr (if c then a else b) := by
  by_cases h : c
  · rw [if_pos h]; exact ha
  · rw [if_neg h]; exact hb
theorem tmod_abs (a b : Int) : (a.tmod b).natAbs ≤ a.natAbs := by
  rw [Int.natAbs_tmod]
  exact Nat.mod_le _ _
theorem zr_tmod {a : Int} (ha : zr a) (b : Int) : zr (a.tmod b) := by
  have h1 := tmod_abs a b
  obtain ⟨h2, h3⟩ := ha
  rcases Int.lt_or_le a 0 with h | h
  · have h4 : a.tmod b ≤ 0 := by
      have := Int.tmod_nonneg (a := -a) b (by omega)
      rw [Int.neg_tmod] at this
      omega
    constructor <;> omega
  · have h4 : 0 ≤ a.tmod b := Int.tmod_nonneg b h
    constructor <;> omega
theorem e_add {A B : Int32} {a b : Int} (ha : A = i32 a) (hb : B = i32 b) : A + B = i32 (a + b) := by rw [ha, hb]; exact (Int32.ofInt_add a b).symm
theorem e_sub {A B : Int32} {a b : Int} (ha : A = i32 a) (hb : B = i32 b) : A - B = i32 (a - b) := by rw [ha, hb]; exact (Int32.ofInt_sub a b).symm
theorem e_mul {A B : Int32} {a b : Int} (ha : A = i32 a) (hb : B = i32 b) : A * B = i32 (a * b) := by rw [ha, hb]; exact (Int32.ofInt_mul a b).symm
theorem e_wadd {A B : Int32} {a b : Int} (ha : A = i32 a) (hb : B = i32 b) : A + B = i32 (zwa a b) := by rw [ha, hb]; exact (to_i32 _).symm
theorem e_wsub {A B : Int32} {a b : Int} (ha : A = i32 a) (hb : B = i32 b) : A - B = i32 (zws a b) := by rw [ha, hb]; exact (to_i32 _).symm
theorem e_wmul {A B : Int32} {a b : Int} (ha : A = i32 a) (hb : B = i32 b) : A * B = i32 (zwm a b) := by rw [ha, hb]; exact (to_i32 _).symm
theorem e_div {A B : Int32} {a b : Int} (ha : A = i32 a) (hb : B = i32 b) (ra : zr a) (rb : zr b) : A / B = i32 (a.tdiv b) := by
  apply Int32.toInt_inj.mp
  rw [Int32.toInt_div, ha, hb, i32_to ra, i32_to rb]
  exact (Int32.toInt_ofInt (n := a.tdiv b)).symm
theorem e_mod {A B : Int32} {a b : Int} (ha : A = i32 a) (hb : B = i32 b) (ra : zr a) (rb : zr b) : A - A / B * B = i32 (a.tmod b) := by
  have h : a.tmod b = a - a.tdiv b * b := by have := Int.tmod_def a b; rw [Int.mul_comm] at this; exact this
  rw [h]
  exact e_sub ha (e_mul (e_div ha hb ra rb) hb)
theorem e_and {A B : Int32} {a b : Int} (ha : A = i32 a) (hb : B = i32 b) : A &&& B = i32 (zand a b) := by rw [ha, hb]; exact (to_i32 _).symm
theorem e_or {A B : Int32} {a b : Int} (ha : A = i32 a) (hb : B = i32 b) : A ||| B = i32 (zor a b) := by rw [ha, hb]; exact (to_i32 _).symm
theorem e_xor {A B : Int32} {a b : Int} (ha : A = i32 a) (hb : B = i32 b) : A ^^^ B = i32 (zxor a b) := by rw [ha, hb]; exact (to_i32 _).symm
theorem e_not {A : Int32} {a : Int} (ha : A = i32 a) : A ^^^ (-1) = i32 (-1 - a) := by
  rw [ha, Int32.xor_neg_one, Int32.not_eq_neg_sub]
  show -Int32.ofInt a - 1 = Int32.ofInt (-1 - a)
  rw [show (-1 - a : Int) = -a - 1 by omega, Int32.ofInt_sub, Int32.ofInt_neg]
  rfl
theorem zr_not {a : Int} (h : zr a) : zr (-1 - a) := ⟨by have := h.2; omega, by have := h.1; omega⟩
theorem e_ushr {A B : Int32} {a b : Int} (ha : A = i32 a) (hb : B = i32 b) : (A.toUInt32 >>> (B.toUInt32 &&& Int32.toUInt32 31)).toInt32 = i32 (zushr a b) := by rw [ha, hb]; exact (to_i32 _).symm
theorem e_shl {A B : Int32} {a b : Int} (ha : A = i32 a) (hb : B = i32 b) : A <<< (B &&& 31) = i32 (zshl a b) := by rw [ha, hb]; exact (to_i32 _).symm
theorem e_shr {A B : Int32} {a b : Int} (ha : A = i32 a) (hb : B = i32 b) : A >>> (B &&& 31) = i32 (zshr a b) := by rw [ha, hb]; exact (to_i32 _).symm
theorem e_i2b {A : Int32} {a : Int} (ha : A = i32 a) : A.toInt8.toInt32 = i32 (zi2b a) := by rw [ha]; exact (to_i32 _).symm
theorem e_nb {A : Int32} {a : Int} (ha : A = i32 a) : vp_nar .byte A = i32 (znb a) := by rw [ha]; exact (to_i32 _).symm
theorem e_bool {A : Int32} {a : Int} (ha : A = i32 a) (h : a = 0 ∨ a = 1) : vp_nar .boolean A = i32 a := by
  rw [ha]
  rcases h with rfl | rfl <;> decide
theorem e_len {σ : zS} (h : zOK σ) (k : Nat) : Int32.ofNat ((cv σ).2.2 k) = i32 ((σ.2.2 k : Nat) : Int) := (Int32.ofInt_eq_ofNat (n := σ.2.2 k)).symm
theorem e_ite {A B C D : Int32} {a b c d : Int} (ha : A = i32 a) (hb : B = i32 b) (ra : zr a) (rb : zr b) (hc : C = i32 c) (hd : D = i32 d) : (if A < B then C else D) = i32 (if a < b then c else d) := by
  have h : A < B ↔ a < b := by rw [Int32.lt_iff_toInt_lt, ha, hb, i32_to ra, i32_to rb]
  by_cases q : a < b
  · rw [if_pos q, if_pos (h.mpr q)]; exact hc
  · rw [if_neg q, if_neg (fun w => q (h.mp w))]; exact hd
theorem zb_r {x : Int} {n : Nat} (h : zb x n) (hn : n ≤ 2147483648 := by decide) : zr x := ⟨by have := h.1; omega, by have := h.2; omega⟩
theorem e_rd {σ : zS} {k : Nat} {I : Int32} {i : Int} {n : Nat} (e : I = i32 i) (h : zb i n ∧ zr i) : (cv σ).2.1 k (Int32.toNatClampNeg I) = i32 (σ.2.1 k i) := by
  rw [e, i32_nat h.1 h.2]
  show i32 (σ.2.1 k (i.toNat : Int)) = _
  rw [Int.toNat_of_nonneg h.1.1]
theorem e_kslot {I : Int32} {i : Int} {n : Nat} (e : I = i32 i) (h : zb i n ∧ zr i) : 1000 + Int32.toNatClampNeg I = 1000 + i.toNat := by rw [e, i32_nat h.1 h.2]
theorem e_rdk {σ : zS} {J I : Int32} {j i : Int} {n n' : Nat} (ej : J = i32 j) (hj : zb j n' ∧ zr j) (e : I = i32 i) (h : zb i n ∧ zr i) : (cv σ).2.1 (1000 + Int32.toNatClampNeg J) (Int32.toNatClampNeg I) = i32 (σ.2.1 (1000 + j.toNat) i) := by
  rw [e_kslot ej hj]; exact e_rd e h
theorem e_cons {X : Int32} {x : Int} {Xs : List Int32} {xs : List Int} (e : X = i32 x) (es : Xs = xs.map i32) : X :: Xs = (x :: xs).map i32 := by rw [e, es]; rfl
theorem zrs_nil : ∀ x ∈ ([] : List Int), zr x := fun x h => by cases h
theorem zrs_cons {a : Int} {xs : List Int} (h : zr a) (hs : ∀ x ∈ xs, zr x) : ∀ x ∈ a :: xs, zr x := fun x hx => by
  rcases List.mem_cons.mp hx with rfl | q
  · exact h
  · exact hs x q
def zbd (o : Option zR) (k : zS → Int → Option zR) : Option zR := match o with
  | none => none
  | some r => k r.1 r.2
/-! Z's answer is M's -/
def Rf (oz : Option zR) (om : Option mR) (β : Nat) : Prop := ∀ σ r, oz = some (σ, r) → zOK σ ∧ zr r ∧ ∃ d, d ≤ β ∧ om = some (cv σ, i32 r, d)
def Rc (rz : zF) (rm : mF) : Prop := ∀ t β σ xs, zOK σ → (∀ x ∈ xs, zr x) → Rf (rz t β σ xs) (rm t (cv σ) (xs.map i32)) β
theorem Rf_none {om : Option mR} {β : Nat} : Rf none om β := fun σ r h => by cases h
theorem Rf_some {σ : zS} {x : Int} {X : Int32} {β : Nat} (h : zOK σ) (hx : zr x) (e : X = i32 x) : Rf (some (σ, x)) (some (cv σ, X, 0)) β := fun σ1 r h1 => by
  cases h1; rw [e]; exact ⟨h, hx, 0, Nat.zero_le _, rfl⟩
theorem Rf_g {c : Prop} {i : Decidable c} {A : Option zR} {B : Option mR} {β : Nat} (h : c → Rf A B β) : Rf (if c then A else none) B β := by
  by_cases q : c
  · rw [if_pos q]; exact h q
  · rw [if_neg q]; exact Rf_none
theorem bin_i32 {x : Int} {n : Nat} (hx : zr x) : bin (i32 x) n = true ↔ zb x n := by
  have h1 : (i32 x < 0) ↔ x < 0 := by rw [Int32.lt_iff_toInt_lt, i32_to hx]; exact Iff.rfl
  have h2 : (i32 x).toNatClampNeg = x.toNat := Int32.toNatClampNeg_ofInt_of_le hx.1 (by have := hx.2; omega)
  simp only [bin, Bool.not_eq_true', Bool.or_eq_false_iff, decide_eq_false_iff_not, h1, h2]
  constructor
  · intro h; exact ⟨by omega, by omega⟩
  · intro h; exact ⟨by have := h.1; omega, by have := h.1; have := h.2; omega⟩
theorem Rf_rd {X : Int32} {x : Int} {n : Nat} {A : Option zR} {B : Option mR} {β : Nat} (e : X = i32 x) (hx : zr x) (h : zb x n ∧ zr x → Rf A B β) : Rf (if zb x n then A else none) (if bin X n = true then B else none) β := by
  by_cases q : zb x n
  · rw [if_pos q, if_pos (by rw [e]; exact (bin_i32 hx).mpr q)]; exact h ⟨q, hx⟩
  · rw [if_neg q]; exact Rf_none
theorem Rf_rd2 {X : Int32} {x : Int} {n : Nat} {A : Option zR} {B : Option mR} {β : Nat} (e : X = i32 x) (hb : zb x n ∧ zr x) (h : Rf A B β) : Rf A (if bin X n = true then B else none) β := by
  rw [if_pos (by rw [e]; exact (bin_i32 hb.2).mpr hb.1)]; exact h
theorem bcp_i32 {sp dp n : Int} {n0 n1 : Nat} (h1 : zr sp) (h2 : zr dp) (h3 : zr n) (h : zcp sp dp n n0 n1) : bcp (i32 sp) (i32 dp) (i32 n) n0 n1 = true := by
  have l : ∀ {x : Int}, zr x → ((i32 x < 0) ↔ x < 0) := fun hx => by rw [Int32.lt_iff_toInt_lt, i32_to hx]; exact Iff.rfl
  have t : ∀ {x : Int}, zr x → (i32 x).toNatClampNeg = x.toNat := fun hx => Int32.toNatClampNeg_ofInt_of_le hx.1 (by have := hx.2; omega)
  obtain ⟨a, b, c, d, f⟩ := h
  simp only [bcp, Bool.and_eq_true, Bool.not_eq_true', Bool.or_eq_false_iff, decide_eq_false_iff_not, decide_eq_true_eq, l h1, l h2, l h3, t h1, t h2, t h3]
  refine ⟨⟨⟨⟨?_, ?_⟩, ?_⟩, ?_⟩, ?_⟩ <;> omega
theorem Rf_cp {S D N : Int32} {sp dp n : Int} {n0 n1 : Nat} {A : Option zR} {B : Option mR} {β : Nat} (e1 : S = i32 sp) (e2 : D = i32 dp) (e3 : N = i32 n) (h1 : zr sp) (h2 : zr dp) (h3 : zr n) (h : zcp sp dp n n0 n1 ∧ zr sp ∧ zr dp ∧ zr n → Rf A B β) : Rf (if zcp sp dp n n0 n1 then A else none) (if bcp S D N n0 n1 = true then B else none) β := by
  by_cases q : zcp sp dp n n0 n1
  · rw [if_pos q, if_pos (by rw [e1, e2, e3]; exact bcp_i32 h1 h2 h3 q)]; exact h ⟨q, h1, h2, h3⟩
  · rw [if_neg q]; exact Rf_none
theorem Rf_nz {X : Int32} {A : Option zR} {B : Option mR} {β : Nat} (hX : ¬ X = 0) (h : Rf A B β) : Rf A (if X = 0 then none else B) β := by rw [if_neg hX]; exact h
theorem i32_eq {a b : Int} (ha : zr a) (hb : zr b) : i32 a = i32 b ↔ a = b := by rw [← Int32.toInt_inj, i32_to ha, i32_to hb]
theorem Rf_z {X : Int32} {x : Int} {A : Option zR} {B : Option mR} {β : Nat} (e : X = i32 x) (hx : zr x) (h : ¬ x = 0 → Rf A B β) : Rf (if x = 0 then none else A) (if X = 0 then none else B) β := by
  by_cases q : x = 0
  · rw [if_pos q]; exact Rf_none
  · rw [if_neg q, if_neg (show ¬ X = 0 from fun w => q ((i32_eq hx (b := 0) (by decide)).mp (e.symm.trans (w.trans (by decide)))))]; exact h q
theorem Rf_eq {X Y : Int32} {x y : Int} {A A2 : Option zR} {B B2 : Option mR} {β : Nat} (ex : X = i32 x) (ey : Y = i32 y) (hx : zr x) (hy : zr y) (h1 : x = y → Rf A B β) (h2 : ¬ x = y → Rf A2 B2 β) : Rf (if x = y then A else A2) (if X = Y then B else B2) β := by
  by_cases q : x = y
  · rw [if_pos q, if_pos (by rw [ex, ey, q])]; exact h1 q
  · rw [if_neg q, if_neg (fun w => q ((i32_eq hx hy).mp (by rw [← ex, ← ey]; exact w)))]; exact h2 q
theorem Rf_lt {X Y : Int32} {x y : Int} {A A2 : Option zR} {B B2 : Option mR} {β : Nat} (ex : X = i32 x) (ey : Y = i32 y) (hx : zr x) (hy : zr y) (h1 : x < y → Rf A B β) (h2 : ¬ x < y → Rf A2 B2 β) : Rf (if x < y then A else A2) (if X < Y then B else B2) β := by
  have h : X < Y ↔ x < y := by rw [Int32.lt_iff_toInt_lt, ex, ey, i32_to hx, i32_to hy]
  by_cases q : x < y
  · rw [if_pos q, if_pos (h.mpr q)]; exact h1 q
  · rw [if_neg q, if_neg (fun w => q (h.mp w))]; exact h2 q
theorem Rf_le {X Y : Int32} {x y : Int} {A A2 : Option zR} {B B2 : Option mR} {β : Nat} (ex : X = i32 x) (ey : Y = i32 y) (hx : zr x) (hy : zr y) (h1 : x ≤ y → Rf A B β) (h2 : ¬ x ≤ y → Rf A2 B2 β) : Rf (if x ≤ y then A else A2) (if X ≤ Y then B else B2) β := by
  have h : X ≤ Y ↔ x ≤ y := by rw [Int32.le_iff_toInt_le, ex, ey, i32_to hx, i32_to hy]
  by_cases q : x ≤ y
  · rw [if_pos q, if_pos (h.mpr q)]; exact h1 q
  · rw [if_neg q, if_neg (fun w => q (h.mp w))]; exact h2 q
theorem Rf_out {X : Int32} {x lo hi : Int} {A A2 : Option zR} {B B2 : Option mR} {β : Nat} (ex : X = i32 x) (hx : zr x) (h1 : x < lo ∨ hi < x → Rf A B β) (h2 : ¬ (x < lo ∨ hi < x) → Rf A2 B2 β) : Rf (if x < lo ∨ hi < x then A else A2) (if X.toInt < lo ∨ hi < X.toInt then B else B2) β := by
  have h : X.toInt = x := by rw [ex, i32_to hx]
  rw [h]
  by_cases q : x < lo ∨ hi < x
  · rw [if_pos q, if_pos q]; exact h1 q
  · rw [if_neg q, if_neg q]; exact h2 q
theorem Rf_01 {X : Int32} {x : Int} {A : Option zR} {B : Option mR} {β : Nat} (ex : X = i32 x) (hx : zr x) (h : x = 0 ∨ x = 1 → Rf A B β) : Rf (if x = 0 ∨ x = 1 then A else none) (if X = 0 ∨ X = 1 then B else none) β := by
  by_cases q : x = 0 ∨ x = 1
  · rw [if_pos q, if_pos (by rw [ex]; rcases q with rfl | rfl <;> decide)]; exact h q
  · rw [if_neg q]; exact Rf_none
theorem Rf_tail {rz : zF} {rm : mF} {t β : Nat} {σ : zS} {xs : List Int} {Xs : List Int32} (hR : Rc rz rm) (hσ : zOK σ) (hx : ∀ x ∈ xs, zr x) (e : Xs = xs.map i32) : Rf (rz t β σ xs) (rm t (cv σ) Xs) β := by rw [e]; exact hR t β σ xs hσ hx
theorem Rf_bnd {rz : zF} {rm : mF} {t β : Nat} {σ : zS} {xs : List Int} {Xs : List Int32} {k : zS → Int → Option zR} {k2 : mS → Int32 → Option mR} (hR : Rc rz rm) (hσ : zOK σ) (hx : ∀ x ∈ xs, zr x) (e : Xs = xs.map i32) (h : ∀ σ1 r1, zOK σ1 → zr r1 → Rf (k σ1 r1) (k2 (cv σ1) (i32 r1)) β) : Rf (if 1 ≤ β then zbd (rz t (β - 1) σ xs) k else none) (bnd (rm t (cv σ) Xs) k2) β := by
  by_cases hβ : 1 ≤ β
  · rw [if_pos hβ]
    intro σ2 r2 h2
    cases h1 : rz t (β - 1) σ xs with
    | none => rw [h1] at h2; cases h2
    | some q =>
      obtain ⟨σ1, r1⟩ := q
      rw [h1] at h2
      obtain ⟨o1, z1, d1, hd1, e1⟩ := hR t (β - 1) σ xs hσ hx σ1 r1 h1
      obtain ⟨o2, z2, d2, hd2, e2⟩ := h σ1 r1 o1 z1 σ2 r2 h2
      refine ⟨o2, z2, max d2 (d1 + 1), ?_, ?_⟩
      · exact Nat.max_le.mpr ⟨hd2, by omega⟩
      · rw [e, e1]; unfold bnd; simp only [e2]
  · rw [if_neg hβ]; exact Rf_none
theorem Rf_I {σ : zS} {k : Nat} {X : Int32} {x : Int} {f : zS → Option zR} {g : mS → Option mR} {β : Nat} (e : X = i32 x) (hx : zr x) (hσ : zOK σ) (h : ∀ σ1, zOK σ1 → Rf (f σ1) (g (cv σ1)) β) : Rf (lt_ (zI σ k x) f) (lt_ (mI (cv σ) k X) g) β := by
  have e1 : mI (cv σ) k X = cv (zI σ k x) := by
    rw [e]
    refine Prod.ext ?_ rfl
    funext j
    show (if j = k then i32 x else i32 (σ.1 j)) = i32 (if j = k then x else σ.1 j)
    by_cases q : j = k <;> simp [q]
  show Rf (f (zI σ k x)) (g (mI (cv σ) k X)) β
  rw [e1]
  exact h _ ⟨fun j => zr_ite hx (hσ.1 j), hσ.2⟩
theorem cv_A {σ : zS} {k n : Nat} {I X : Int32} {i x : Int} (ei : I = i32 i) (hb : zb i n ∧ zr i) (e : X = i32 x) : mA (cv σ) k (Int32.toNatClampNeg I) X = cv (zA σ k i x) := by
  rw [e, ei, i32_nat hb.1 hb.2]
  refine Prod.ext rfl (Prod.ext ?_ rfl)
  funext j q
  show va_up (cv σ).2.1 k (upd ((cv σ).2.1 k) i.toNat (i32 x)) j q = i32 (if j = k ∧ (q : Int) = i then x else σ.2.1 j q)
  have hi : (i.toNat : Int) = i := Int.toNat_of_nonneg hb.1.1
  by_cases h : j = k
  · subst h
    have h3 : va_up (cv σ).2.1 j (upd ((cv σ).2.1 j) i.toNat (i32 x)) j q = upd ((cv σ).2.1 j) i.toNat (i32 x) q := by simp [va_up]
    rw [h3]
    show (if q = i.toNat then i32 x else (cv σ).2.1 j q) = _
    by_cases h2 : q = i.toNat
    · rw [if_pos h2, if_pos ⟨rfl, by omega⟩]
    · rw [if_neg h2, if_neg (by intro w; exact h2 (by have := w.2; omega))]; rfl
  · have h3 : va_up (cv σ).2.1 k (upd ((cv σ).2.1 k) i.toNat (i32 x)) j q = (cv σ).2.1 j q := by simp [va_up, h]
    rw [h3, if_neg (fun w => h w.1)]; rfl
theorem Rf_A {σ : zS} {k n : Nat} {I X : Int32} {i x : Int} {f : zS → Option zR} {g : mS → Option mR} {β : Nat} (ei : I = i32 i) (hb : zb i n ∧ zr i) (e : X = i32 x) (hx : zr x) (hσ : zOK σ) (h : ∀ σ1, zOK σ1 → Rf (f σ1) (g (cv σ1)) β) : Rf (lt_ (zA σ k i x) f) (lt_ (mA (cv σ) k (Int32.toNatClampNeg I) X) g) β := by
  show Rf (f (zA σ k i x)) (g (mA (cv σ) k (Int32.toNatClampNeg I) X)) β
  rw [cv_A ei hb e]
  exact h _ ⟨hσ.1, fun j q => zr_ite hx (hσ.2.1 j q), hσ.2.2⟩
theorem Rf_Fl {σ : zS} {k n : Nat} {X : Int32} {x : Int} {f : zS → Option zR} {g : mS → Option mR} {β : Nat} (e : X = i32 x) (hx : zr x) (hσ : zOK σ) (h : ∀ σ1, zOK σ1 → Rf (f σ1) (g (cv σ1)) β) : Rf (lt_ (zFl σ k x n) f) (lt_ (mFl (cv σ) k X n) g) β := by
  have e1 : mFl (cv σ) k X n = cv (zFl σ k x n) := by
    rw [e]
    refine Prod.ext rfl (Prod.ext ?_ rfl)
    funext j q
    show va_up (cv σ).2.1 k (ax_fill ((cv σ).2.1 k) (i32 x) n) j q = i32 (if j = k ∧ 0 ≤ (q : Int) ∧ (q : Int) < (n : Int) then x else σ.2.1 j q)
    by_cases h : j = k
    · subst h
      have h3 : va_up (cv σ).2.1 j (ax_fill ((cv σ).2.1 j) (i32 x) n) j q = ax_fill ((cv σ).2.1 j) (i32 x) n q := by simp [va_up]
      rw [h3]
      show (if q < n then i32 x else (cv σ).2.1 j q) = _
      by_cases h2 : q < n
      · rw [if_pos h2, if_pos ⟨rfl, by omega, by omega⟩]
      · rw [if_neg h2, if_neg (by intro w; exact h2 (by have := w.2.2; omega))]; rfl
    · have h3 : va_up (cv σ).2.1 k (ax_fill ((cv σ).2.1 k) (i32 x) n) j q = (cv σ).2.1 j q := by simp [va_up, h]
      rw [h3, if_neg (fun w => h w.1)]; rfl
  show Rf (f (zFl σ k x n)) (g (mFl (cv σ) k X n)) β
  rw [e1]
  exact h _ ⟨hσ.1, fun j q => zr_ite hx (hσ.2.1 j q), hσ.2.2⟩
theorem Rf_Cp {σ : zS} {k k2 j j2 n0 n1 : Nat} {S D N : Int32} {sp dp n : Int} {f : zS → Option zR} {g : mS → Option mR} {β : Nat} (ek : k2 = k) (ej : j2 = j) (e1 : S = i32 sp) (e2 : D = i32 dp) (e3 : N = i32 n) (hb : zcp sp dp n n0 n1 ∧ zr sp ∧ zr dp ∧ zr n) (hσ : zOK σ) (h : ∀ σ1, zOK σ1 → Rf (f σ1) (g (cv σ1)) β) : Rf (lt_ (zCp σ k j sp dp n) f) (lt_ (mCp (cv σ) k2 j2 (Int32.toNatClampNeg S) (Int32.toNatClampNeg D) (Int32.toNatClampNeg N)) g) β := by
  have t : ∀ {x : Int}, zr x → (i32 x).toNatClampNeg = x.toNat := fun hx => Int32.toNatClampNeg_ofInt_of_le hx.1 (by have := hx.2; omega)
  obtain ⟨⟨b1, b2, b3, _, _⟩, r1, r2, r3⟩ := hb
  have e : mCp (cv σ) k2 j2 (Int32.toNatClampNeg S) (Int32.toNatClampNeg D) (Int32.toNatClampNeg N) = cv (zCp σ k j sp dp n) := by
    rw [ek, ej, e1, e2, e3, t r1, t r2, t r3]
    refine Prod.ext rfl (Prod.ext ?_ rfl)
    funext a q
    show va_up (cv σ).2.1 j (va_cpy ((cv σ).2.1 k) ((cv σ).2.1 j) sp.toNat dp.toNat n.toNat) a q = i32 (if a = j ∧ dp ≤ (q : Int) ∧ (q : Int) < dp + n then σ.2.1 k (sp + ((q : Int) - dp)) else σ.2.1 a q)
    by_cases h : a = j
    · subst h
      have h3 : va_up (cv σ).2.1 a (va_cpy ((cv σ).2.1 k) ((cv σ).2.1 a) sp.toNat dp.toNat n.toNat) a q = va_cpy ((cv σ).2.1 k) ((cv σ).2.1 a) sp.toNat dp.toNat n.toNat q := by simp [va_up]
      rw [h3]
      show (if dp.toNat ≤ q ∧ q < dp.toNat + n.toNat then (cv σ).2.1 k (sp.toNat + (q - dp.toNat)) else (cv σ).2.1 a q) = _
      by_cases h2 : dp.toNat ≤ q ∧ q < dp.toNat + n.toNat
      · rw [if_pos h2, if_pos ⟨rfl, by omega, by omega⟩]
        show i32 (σ.2.1 k ((sp.toNat + (q - dp.toNat) : Nat) : Int)) = _
        have e9 : ((sp.toNat + (q - dp.toNat) : Nat) : Int) = sp + ((q : Int) - dp) := by omega
        rw [e9]
      · rw [if_neg h2, if_neg (by intro w; exact h2 (by have := w.2; omega))]; rfl
    · have h3 : va_up (cv σ).2.1 j (va_cpy ((cv σ).2.1 k) ((cv σ).2.1 j) sp.toNat dp.toNat n.toNat) a q = (cv σ).2.1 a q := by simp [va_up, h]
      rw [h3, if_neg (fun w => h w.1)]; rfl
  show Rf (f (zCp σ k j sp dp n)) (g (mCp (cv σ) k2 j2 (Int32.toNatClampNeg S) (Int32.toNatClampNeg D) (Int32.toNatClampNeg N))) β
  rw [e]
  exact h _ ⟨hσ.1, fun a q => zr_ite (hσ.2.1 _ _) (hσ.2.1 a q), hσ.2.2⟩
