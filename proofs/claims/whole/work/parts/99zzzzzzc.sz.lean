/-! the reference's show over Int -/
def zSay (σ : zS) (x : Int) : zS := if σ.1 3 = (σ.2.2 1 : Int) then ((fun j => if j = 3 then σ.1 3 + 1 else σ.1 j), (fun j q => if j = 1 then (if q = (σ.2.2 1 : Int) then znb (zi2b x) else if q < (σ.2.2 1 : Int) then σ.2.1 1 q else 0) else σ.2.1 j q), (fun j => if j = 3002 then σ.2.2 3002 + 2 * σ.2.2 1 else if j = 3001 then σ.2.2 3001 + 1 else if j = 1 then 2 * σ.2.2 1 else σ.2.2 j)) else ((fun j => if j = 3 then σ.1 3 + 1 else σ.1 j), (fun j q => if j = 1 ∧ q = σ.1 3 then znb (zi2b x) else σ.2.1 j q), σ.2.2)
abbrev zsok (σ : zS) : Prop := (0 ≤ σ.1 3 ∧ σ.1 3 ≤ (σ.2.2 1 : Int) ∧ 0 < σ.2.2 1 ∧ σ.2.2 1 ≤ 30000000 ∧ σ.2.2 3001 ≤ 2000000000 ∧ σ.2.2 3002 ≤ 2000000000) ∧ ∀ i, i < σ.2.2 1 → -128 ≤ σ.2.1 1 ((i : Nat) : Int) ∧ σ.2.1 1 ((i : Nat) : Int) ≤ 127
theorem fits_b {y : Int} (h : -128 ≤ y ∧ y ≤ 127) : fits .byte (.int (i32 y)) = true := by
  have e : (i32 y).toInt = y := i32_to ⟨by omega, by omega⟩
  have h1 : (-128 : Int32) ≤ i32 y := by
    rw [Int32.le_iff_toInt_le, e]
    have : Int32.toInt (-128) = -128 := rfl
    omega
  have h2 : i32 y ≤ (127 : Int32) := by
    rw [Int32.le_iff_toInt_le, e]
    have : Int32.toInt 127 = 127 := rfl
    omega
  show (decide ((-128 : Int32) ≤ i32 y) && decide (i32 y ≤ (127 : Int32))) = true
  rw [decide_eq_true h1, decide_eq_true h2]; rfl
theorem cv_Say {σ : zS} {X : Int32} {x : Int} (e : X = i32 x) (hσ : zOK σ) (h : zsok σ) : mSay (cv σ) X = cv (zSay σ x) := by
  obtain ⟨⟨b1, b2, b0, b3, b4, b5⟩, _⟩ := h
  have el : Int32.ofNat ((cv σ).2.2 1) = i32 (σ.2.2 1 : Int) := e_len hσ 1
  have hr : zr (σ.2.2 1 : Int) := ⟨by omega, by omega⟩
  have ex : vp_nar .byte X.toInt8.toInt32 = i32 (znb (zi2b x)) := e_nb (e_i2b e)
  unfold mSay zSay
  by_cases q : σ.1 3 = (σ.2.2 1 : Int)
  · have q2 : (cv σ).1 3 = Int32.ofNat ((cv σ).2.2 1) := by rw [el]; show i32 (σ.1 3) = _; rw [q]
    rw [if_pos q2, if_pos q]
    refine Prod.ext ?_ (Prod.ext ?_ ?_)
    · funext j
      show (if j = 3 then i32 (σ.1 3) + 1 else i32 (σ.1 j)) = i32 (if j = 3 then σ.1 3 + 1 else σ.1 j)
      by_cases hj : j = 3
      · rw [if_pos hj, if_pos hj]; exact e_add rfl (by decide)
      · rw [if_neg hj, if_neg hj]
    · funext j n
      show (va_up (cv σ).2.1 1 (upd (va_cpy ((cv σ).2.1 1) (fun _ => 0) 0 0 (σ.2.2 1)) (σ.2.2 1) (vp_nar .byte X.toInt8.toInt32))) j n = i32 (if j = 1 then (if (n : Int) = (σ.2.2 1 : Int) then znb (zi2b x) else if (n : Int) < (σ.2.2 1 : Int) then σ.2.1 1 n else 0) else σ.2.1 j n)
      by_cases hj : j = 1
      · subst hj
        rw [if_pos rfl]
        have : va_up (cv σ).2.1 1 (upd (va_cpy ((cv σ).2.1 1) (fun _ => 0) 0 0 (σ.2.2 1)) (σ.2.2 1) (vp_nar .byte X.toInt8.toInt32)) 1 n = upd (va_cpy ((cv σ).2.1 1) (fun _ => 0) 0 0 (σ.2.2 1)) (σ.2.2 1) (vp_nar .byte X.toInt8.toInt32) n := by simp [va_up]
        rw [this]
        show (if n = σ.2.2 1 then vp_nar .byte X.toInt8.toInt32 else (if 0 ≤ n ∧ n < 0 + σ.2.2 1 then (cv σ).2.1 1 (0 + (n - 0)) else 0)) = _
        by_cases hn : n = σ.2.2 1
        · rw [if_pos hn, if_pos (by omega)]; exact ex
        · rw [if_neg hn, if_neg (show ¬ (n : Int) = (σ.2.2 1 : Int) by omega)]
          by_cases hl : n < σ.2.2 1
          · rw [if_pos (show 0 ≤ n ∧ n < 0 + σ.2.2 1 from ⟨Nat.zero_le _, by omega⟩), if_pos (show (n : Int) < (σ.2.2 1 : Int) by omega)]
            show i32 (σ.2.1 1 ((0 + (n - 0) : Nat) : Int)) = _
            have e9 : ((0 + (n - 0) : Nat) : Int) = (n : Int) := by omega
            rw [e9]
          · rw [if_neg (show ¬ (0 ≤ n ∧ n < 0 + σ.2.2 1) from fun w => hl (by have := w.2; omega)), if_neg (show ¬ (n : Int) < (σ.2.2 1 : Int) by omega)]; decide
      · rw [if_neg hj]
        simp [va_up, hj, cv]
    · funext j
      show va_up (va_up (va_up σ.2.2 1 (2 * σ.2.2 1)) 3001 (σ.2.2 3001 + 1)) 3002 (σ.2.2 3002 + 2 * σ.2.2 1) j = _
      simp only [va_up]
      rfl
  · have q2 : ¬ (cv σ).1 3 = Int32.ofNat ((cv σ).2.2 1) := by
      rw [el]
      intro w
      exact q ((i32_eq (hσ.1 3) hr).mp w)
    rw [if_neg q2, if_neg q]
    refine Prod.ext ?_ (Prod.ext ?_ rfl)
    · funext j
      show (if j = 3 then i32 (σ.1 3) + 1 else i32 (σ.1 j)) = i32 (if j = 3 then σ.1 3 + 1 else σ.1 j)
      by_cases hj : j = 3
      · rw [if_pos hj, if_pos hj]; exact e_add rfl (by decide)
      · rw [if_neg hj, if_neg hj]
    · have := congrArg (fun s : mS => s.2.1) (cv_A (σ := σ) (k := 1) (n := σ.2.2 1) (I := i32 (σ.1 3)) (i := σ.1 3) rfl ⟨⟨b1, by omega⟩, hσ.1 3⟩ ex)
      exact this
theorem zSay_ok {σ : zS} {x : Int} (hσ : zOK σ) (h : zsok σ) : zOK (zSay σ x) := by
  obtain ⟨⟨b1, b2, b0, b3, b4, b5⟩, _⟩ := h
  have hx : zr (znb (zi2b x)) := zr_to _
  unfold zSay
  have h1 : ∀ j, zr (if j = 3 then σ.1 3 + 1 else σ.1 j) := fun j => by
    by_cases hj : j = 3
    · rw [if_pos hj]; exact ⟨by omega, by omega⟩
    · rw [if_neg hj]; exact hσ.1 j
  split
  · refine ⟨h1, fun j q => ?_, fun j => ?_⟩
    · exact zr_ite (zr_ite hx (zr_ite (hσ.2.1 _ _) (by decide))) (hσ.2.1 _ _)
    · by_cases c1 : j = 3002
      · simp only [c1, if_true]; exact ⟨by omega, by omega⟩
      · by_cases c2 : j = 3001
        · simp only [c2, if_true, show ¬ (3001 : Nat) = 3002 by decide, if_false]; exact ⟨by omega, by omega⟩
        · by_cases c3 : j = 1
          · subst c3
            simp only [show ¬ (1 : Nat) = 3002 by decide, show ¬ (1 : Nat) = 3001 by decide, if_true, if_false]
            exact ⟨by omega, by omega⟩
          · simp only [c1, c2, c3, if_false]; exact hσ.2.2 j
  · exact ⟨h1, fun j q => zr_ite hx (hσ.2.1 _ _), hσ.2.2⟩
theorem Rf_Say {σ : zS} {X : Int32} {x : Int} {f : zS → Option zR} {g : mS → Option mR} {β : Nat} (e : X = i32 x) (_hx : zr x) (hσ : zOK σ) (h : ∀ σ1, zOK σ1 → Rf (f σ1) (g (cv σ1)) β) : Rf (if zsok σ then lt_ (zSay σ x) f else none) (if sok (cv σ) = true then lt_ (mSay (cv σ) X) g else none) β := by
  by_cases q : zsok σ
  · have hk : sok (cv σ) = true := by
      have el : Int32.ofNat ((cv σ).2.2 1) = i32 (σ.2.2 1 : Int) := e_len hσ 1
      obtain ⟨⟨b1, b2, b0, b3, b4, b5⟩, b6⟩ := q
      simp only [sok, Bool.and_eq_true, Bool.or_eq_true, decide_eq_true_eq]
      refine ⟨⟨b0, b3, fun i hi => fits_b (b6 i hi)⟩, ?_⟩
      by_cases w : σ.1 3 = (σ.2.2 1 : Int)
      · left; rw [el]; show i32 (σ.1 3) = _; rw [w]
      · right; exact (bin_i32 (hσ.1 3)).mpr ⟨b1, by show σ.1 3 < (σ.2.2 1 : Int); omega⟩
    rw [if_pos q, if_pos hk]
    show Rf (f (zSay σ x)) (g (mSay (cv σ) X)) β
    rw [cv_Say e hσ q]
    exact h _ (zSay_ok hσ q)
  · rw [if_neg q]; exact Rf_none
def kV_refuse (rec : zF) (β : Nat) (σ : zS) (x0 x1 : Int) : Option zR := if x1 = 0 then (rec tS_refuse_9 β σ [x0, x1]) else (lt_ (zI σ 4 x0) (fun σ1 => rec tS_refuse_9 β σ1 [x0, x1]))
def kV_refuse_9 (rec : zF) (β : Nat) (σ : zS) (x0 x1 : Int) : Option zR := if x1 = 0 ∨ x1 = 1 then (some (σ, x1)) else none
def kV_none (rec : zF) (β : Nat) (σ : zS) (x0 : Int) : Option zR := lt_ (zI σ 4 0) (fun σ1 => if x0 < 0 then (rec tS_none_19 β σ1 [x0, 1]) else (if x0 < (σ1.1 84) then (rec tS_none_24 β σ1 [x0, 0, 1]) else (rec tS_none_19 β σ1 [x0, 1])))
def kV_none_19 (rec : zF) (β : Nat) (σ : zS) (x0 x1 : Int) : Option zR := rec tS_none_24 β σ [x0, 1, x1]
def kV_none_24 (rec : zF) (β : Nat) (σ : zS) (x0 x1 x2 : Int) : Option zR := if 1 ≤ β then (zbd (rec tS_refuse (β - 1) σ [x2, x1]) (fun σ1 r1 => if r1 = 0 ∨ r1 = 1 then (some (σ1, r1)) else none)) else none
def kV_isPredicate (rec : zF) (β : Nat) (σ : zS) (x0 : Int) : Option zR := if zb x0 420000 then (if (σ.2.1 43 x0) < 0 then (rec tS_isPredicate_27 β σ [x0]) else (if zb (σ.2.1 43 x0) 900 then (if (σ.2.1 49 (σ.2.1 43 x0)) = 0 then (rec tS_isPredicate_27 β σ [x0]) else (rec tS_isPredicate_28 β σ [x0, 1])) else none)) else none
def kV_isPredicate_27 (rec : zF) (β : Nat) (σ : zS) (x0 : Int) : Option zR := rec tS_isPredicate_28 β σ [x0, 0]
def kV_isPredicate_28 (rec : zF) (β : Nat) (σ : zS) (x0 x1 : Int) : Option zR := if x1 = 0 ∨ x1 = 1 then (some (σ, x1)) else none
def kV_sayNumber (rec : zF) (β : Nat) (σ : zS) (x0 : Int) : Option zR := if x0 ≤ 9 then (rec tS_sayNumber_14 β σ [x0]) else (if zr (Int.tdiv x0 10) then (if 1 ≤ β then (zbd (rec tS_sayNumber (β - 1) σ [(Int.tdiv x0 10)]) (fun σ1 r1 => rec tS_sayNumber_14 β σ1 [x0])) else none) else none)
def kV_sayNumber_14 (rec : zF) (β : Nat) (σ : zS) (x0 : Int) : Option zR := if zr (48 + (Int.tmod x0 10)) then (if zsok σ then (lt_ (zSay σ (48 + (Int.tmod x0 10))) (fun σ1 => some (σ1, 0))) else none) else none
def kV_sayTerm (rec : zF) (β : Nat) (σ : zS) (x0 : Int) : Option zR := if zb x0 420000 then (if 0 ≤ (σ.2.1 43 x0) then (if (σ.2.1 43 x0) ≤ (σ.1 20) then (rec tS_sayTerm_69 β σ [x0, 0]) else (if zsok σ then (lt_ (zSay σ 119) (fun σ1 => if zr ((σ1.2.1 43 x0) - (σ1.1 20)) then (if zr (((σ1.2.1 43 x0) - (σ1.1 20)) - 1) then (if 1 ≤ β then (zbd (rec tS_sayNumber (β - 1) σ1 [(((σ1.2.1 43 x0) - (σ1.1 20)) - 1)]) (fun σ2 r2 => rec tS_sayTerm_112 β σ2 [x0])) else none) else none) else none)) else none)) else (if zsok σ then (lt_ (zSay σ 88) (fun σ3 => if zr ((-1) - (σ3.2.1 43 x0)) then (if 1 ≤ β then (zbd (rec tS_sayNumber (β - 1) σ3 [((-1) - (σ3.2.1 43 x0))]) (fun σ4 r4 => some (σ4, 0))) else none) else none)) else none)) else none
def kV_sayTerm_69 (rec : zF) (β : Nat) (σ : zS) (x0 x1 : Int) : Option zR := if zb x0 420000 then (if zb (σ.2.1 43 x0) 900 then (if (σ.2.1 14 (σ.2.1 43 x0)) ≤ x1 then (rec tS_sayTerm_112 β σ [x0]) else (if zr ((σ.2.1 13 (σ.2.1 43 x0)) + x1) then (if zb ((σ.2.1 13 (σ.2.1 43 x0)) + x1) 9000 then (if zsok σ then (lt_ (zSay σ (σ.2.1 17 ((σ.2.1 13 (σ.2.1 43 x0)) + x1))) (fun σ1 => if zr (x1 + 1) then (rec tS_sayTerm_69 β σ1 [x0, (x1 + 1)]) else none)) else none) else none) else none)) else none) else none
def kV_sayTerm_112 (rec : zF) (β : Nat) (σ : zS) (x0 : Int) : Option zR := if zb x0 420000 then (if 0 ≤ (σ.2.1 44 x0) then (rec tS_sayTerm_132 β σ [x0, 40, (σ.2.1 44 x0)]) else (some (σ, 0))) else none
def kV_sayTerm_132 (rec : zF) (β : Nat) (σ : zS) (x0 x1 x2 : Int) : Option zR := if x2 < 0 then (if zsok σ then (lt_ (zSay σ 41) (fun σ1 => some (σ1, 0))) else none) else (if zsok σ then (lt_ (zSay σ x1) (fun σ2 => if 1 ≤ β then (zbd (rec tS_sayTerm (β - 1) σ2 [x2]) (fun σ3 r3 => if zb x2 420000 then (rec tS_sayTerm_132 β σ3 [x0, 44, (σ3.2.1 45 x2)]) else none)) else none)) else none)
def kV_sayLiteral (rec : zF) (β : Nat) (σ : zS) (x0 : Int) : Option zR := if zb x0 16100 then (if 1 ≤ β then (zbd (rec tS_isPredicate (β - 1) σ [(σ.2.1 66 x0)]) (fun σ1 r1 => if r1 = 0 then (rec tS_sayLiteral_36 β σ1 [x0]) else (if zb (σ1.2.1 66 x0) 420000 then (if (σ1.2.1 43 (σ1.2.1 66 x0)) ≤ 0 then (rec tS_sayLiteral_36 β σ1 [x0]) else (rec tS_sayLiteral_73 β σ1 [x0, (σ1.2.1 66 x0)])) else none))) else none) else none
def kV_sayLiteral_36 (rec : zF) (β : Nat) (σ : zS) (x0 : Int) : Option zR := if zb x0 16100 then (if 1 ≤ β then (zbd (rec tS_isPredicate (β - 1) σ [(σ.2.1 67 x0)]) (fun σ1 r1 => if r1 = 0 then (rec tS_sayLiteral_72 β σ1 [x0]) else (if zb (σ1.2.1 67 x0) 420000 then (if (σ1.2.1 43 (σ1.2.1 67 x0)) ≤ 0 then (rec tS_sayLiteral_72 β σ1 [x0]) else (rec tS_sayLiteral_73 β σ1 [x0, (σ1.2.1 67 x0)])) else none))) else none) else none
def kV_sayLiteral_72 (rec : zF) (β : Nat) (σ : zS) (x0 : Int) : Option zR := rec tS_sayLiteral_73 β σ [x0, (-1)]
def kV_sayLiteral_73 (rec : zF) (β : Nat) (σ : zS) (x0 x1 : Int) : Option zR := if x1 < 0 then (if zb x0 16100 then (if 1 ≤ β then (zbd (rec tS_sayTerm (β - 1) σ [(σ.2.1 66 x0)]) (fun σ1 r1 => if zsok σ1 then (lt_ (zSay σ1 32) (fun σ2 => if (σ2.2.1 68 x0) = 0 then (if zsok σ2 then (lt_ (zSay σ2 33) (fun σ3 => rec tS_sayLiteral_130 β σ3 [x0, x1])) else none) else (rec tS_sayLiteral_130 β σ2 [x0, x1]))) else none)) else none) else none) else (if zb x0 16100 then (if (σ.2.1 68 x0) = 0 then (if zsok σ then (lt_ (zSay σ 126) (fun σ4 => rec tS_sayLiteral_93 β σ4 [x0, x1])) else none) else (rec tS_sayLiteral_93 β σ [x0, x1])) else none)
def kV_sayLiteral_93 (rec : zF) (β : Nat) (σ : zS) (x0 x1 : Int) : Option zR := if 1 ≤ β then (zbd (rec tS_sayTerm (β - 1) σ [x1]) (fun σ1 r1 => some (σ1, 0))) else none
def kV_sayLiteral_130 (rec : zF) (β : Nat) (σ : zS) (x0 x1 : Int) : Option zR := if zsok σ then (lt_ (zSay σ 61) (fun σ1 => if zsok σ1 then (lt_ (zSay σ1 32) (fun σ2 => if zb x0 16100 then (if 1 ≤ β then (zbd (rec tS_sayTerm (β - 1) σ2 [(σ2.2.1 67 x0)]) (fun σ3 r3 => some (σ3, 0))) else none) else none)) else none)) else none
def kV_show (rec : zF) (β : Nat) (σ : zS) (x0 : Int) : Option zR := if 1 ≤ β then (zbd (rec tS_none (β - 1) σ [x0]) (fun σ1 r1 => if r1 = 0 then (lt_ (zI σ1 3 0) (fun σ2 => if zb x0 2001 then (rec tS_show_22 β σ2 [x0, (σ2.2.1 73 x0)]) else none)) else (some (σ1, 0)))) else none
def kV_show_22 (rec : zF) (β : Nat) (σ : zS) (x0 x1 : Int) : Option zR := if zb x0 2001 then (if zr ((σ.2.1 73 x0) + (σ.2.1 74 x0)) then (if ((σ.2.1 73 x0) + (σ.2.1 74 x0)) ≤ x1 then (if (σ.2.1 74 x0) = 0 then (if zsok σ then (lt_ (zSay σ 102) (fun σ1 => if zsok σ1 then (lt_ (zSay σ1 97) (fun σ2 => if zsok σ2 then (lt_ (zSay σ2 108) (fun σ3 => if zsok σ3 then (lt_ (zSay σ3 115) (fun σ4 => if zsok σ4 then (lt_ (zSay σ4 101) (fun σ5 => rec tS_show_117 β σ5 [x0, x1])) else none)) else none)) else none)) else none)) else none) else (rec tS_show_117 β σ [x0, x1])) else (if x1 ≤ (σ.2.1 73 x0) then (rec tS_show_67 β σ [x0, x1]) else (if zsok σ then (lt_ (zSay σ 32) (fun σ6 => if zsok σ6 then (lt_ (zSay σ6 124) (fun σ7 => if zsok σ7 then (lt_ (zSay σ7 32) (fun σ8 => rec tS_show_67 β σ8 [x0, x1])) else none)) else none)) else none))) else none) else none
def kV_show_67 (rec : zF) (β : Nat) (σ : zS) (x0 x1 : Int) : Option zR := if 1 ≤ β then (zbd (rec tS_sayLiteral (β - 1) σ [x1]) (fun σ1 r1 => if zr (x1 + 1) then (rec tS_show_22 β σ1 [x0, (x1 + 1)]) else none)) else none
def kV_show_117 (rec : zF) (β : Nat) (σ : zS) (x0 x1 : Int) : Option zR := some (σ, (σ.1 3))
theorem rV_refuse (rz : zF) (rm : mF) (hR : Rc rz rm) (β : Nat) (σ : zS) (hσ : zOK σ) (x0 x1 : Int) (hx0 : zr x0) (hx1 : zr x1) : Rf (kV_refuse rz β σ x0 x1) (kS_refuse rm (cv σ) (i32 x0) (i32 x1)) β := by
  unfold kV_refuse kS_refuse
  refine Rf_eq rfl (by decide) hx1 (by decide) (fun _ => ?_) (fun _ => ?_)
  · exact Rf_tail hR hσ (zrs_cons hx0 (zrs_cons hx1 zrs_nil)) (e_cons rfl (e_cons rfl rfl))
  · refine Rf_I rfl hx0 hσ (fun σ1 hσ1 => ?_)
    exact Rf_tail hR hσ1 (zrs_cons hx0 (zrs_cons hx1 zrs_nil)) (e_cons rfl (e_cons rfl rfl))
theorem rV_refuse_9 (rz : zF) (rm : mF) (hR : Rc rz rm) (β : Nat) (σ : zS) (hσ : zOK σ) (x0 x1 : Int) (hx0 : zr x0) (hx1 : zr x1) : Rf (kV_refuse_9 rz β σ x0 x1) (kS_refuse_9 rm (cv σ) (i32 x0) (i32 x1)) β := by
  unfold kV_refuse_9 kS_refuse_9
  refine Rf_01 rfl hx1 (fun hb1 => ?_)
  exact Rf_some hσ hx1 rfl
theorem rV_none (rz : zF) (rm : mF) (hR : Rc rz rm) (β : Nat) (σ : zS) (hσ : zOK σ) (x0 : Int) (hx0 : zr x0) : Rf (kV_none rz β σ x0) (kS_none rm (cv σ) (i32 x0)) β := by
  unfold kV_none kS_none
  refine Rf_I (by decide) (by decide) hσ (fun σ1 hσ1 => ?_)
  refine Rf_lt rfl (by decide) hx0 (by decide) (fun _ => ?_) (fun _ => ?_)
  · exact Rf_tail hR hσ1 (zrs_cons hx0 (zrs_cons (by decide) zrs_nil)) (e_cons rfl (e_cons (by decide) rfl))
  · refine Rf_lt rfl rfl hx0 (hσ1.1 84) (fun _ => ?_) (fun _ => ?_)
    · exact Rf_tail hR hσ1 (zrs_cons hx0 (zrs_cons (by decide) (zrs_cons (by decide) zrs_nil))) (e_cons rfl (e_cons (by decide) (e_cons (by decide) rfl)))
    · exact Rf_tail hR hσ1 (zrs_cons hx0 (zrs_cons (by decide) zrs_nil)) (e_cons rfl (e_cons (by decide) rfl))
theorem rV_none_19 (rz : zF) (rm : mF) (hR : Rc rz rm) (β : Nat) (σ : zS) (hσ : zOK σ) (x0 x1 : Int) (hx0 : zr x0) (hx1 : zr x1) : Rf (kV_none_19 rz β σ x0 x1) (kS_none_19 rm (cv σ) (i32 x0) (i32 x1)) β := by
  unfold kV_none_19 kS_none_19
  exact Rf_tail hR hσ (zrs_cons hx0 (zrs_cons (by decide) (zrs_cons hx1 zrs_nil))) (e_cons rfl (e_cons (by decide) (e_cons rfl rfl)))
theorem rV_none_24 (rz : zF) (rm : mF) (hR : Rc rz rm) (β : Nat) (σ : zS) (hσ : zOK σ) (x0 x1 x2 : Int) (hx0 : zr x0) (hx1 : zr x1) (hx2 : zr x2) : Rf (kV_none_24 rz β σ x0 x1 x2) (kS_none_24 rm (cv σ) (i32 x0) (i32 x1) (i32 x2)) β := by
  unfold kV_none_24 kS_none_24
  refine Rf_bnd hR hσ (zrs_cons hx2 (zrs_cons hx1 zrs_nil)) (e_cons rfl (e_cons rfl rfl)) (fun σ1 r1 hσ1 hr1 => ?_)
  refine Rf_01 rfl hr1 (fun hb1 => ?_)
  exact Rf_some hσ1 hr1 rfl
theorem rV_isPredicate (rz : zF) (rm : mF) (hR : Rc rz rm) (β : Nat) (σ : zS) (hσ : zOK σ) (x0 : Int) (hx0 : zr x0) : Rf (kV_isPredicate rz β σ x0) (kS_isPredicate rm (cv σ) (i32 x0)) β := by
  unfold kV_isPredicate kS_isPredicate
  refine Rf_rd rfl hx0 (fun hb1 => ?_)
  refine Rf_lt (e_rd rfl hb1) (by decide) (hσ.2.1 _ _) (by decide) (fun _ => ?_) (fun _ => ?_)
  · exact Rf_tail hR hσ (zrs_cons hx0 zrs_nil) (e_cons rfl rfl)
  · refine Rf_rd2 rfl hb1 ?_
    refine Rf_rd (e_rd rfl hb1) (hσ.2.1 _ _) (fun hb2 => ?_)
    refine Rf_eq (e_rd (e_rd rfl hb1) hb2) (by decide) (hσ.2.1 _ _) (by decide) (fun _ => ?_) (fun _ => ?_)
    · exact Rf_tail hR hσ (zrs_cons hx0 zrs_nil) (e_cons rfl rfl)
    · exact Rf_tail hR hσ (zrs_cons hx0 (zrs_cons (by decide) zrs_nil)) (e_cons rfl (e_cons (by decide) rfl))
theorem rV_isPredicate_27 (rz : zF) (rm : mF) (hR : Rc rz rm) (β : Nat) (σ : zS) (hσ : zOK σ) (x0 : Int) (hx0 : zr x0) : Rf (kV_isPredicate_27 rz β σ x0) (kS_isPredicate_27 rm (cv σ) (i32 x0)) β := by
  unfold kV_isPredicate_27 kS_isPredicate_27
  exact Rf_tail hR hσ (zrs_cons hx0 (zrs_cons (by decide) zrs_nil)) (e_cons rfl (e_cons (by decide) rfl))
theorem rV_isPredicate_28 (rz : zF) (rm : mF) (hR : Rc rz rm) (β : Nat) (σ : zS) (hσ : zOK σ) (x0 x1 : Int) (hx0 : zr x0) (hx1 : zr x1) : Rf (kV_isPredicate_28 rz β σ x0 x1) (kS_isPredicate_28 rm (cv σ) (i32 x0) (i32 x1)) β := by
  unfold kV_isPredicate_28 kS_isPredicate_28
  refine Rf_01 rfl hx1 (fun hb1 => ?_)
  exact Rf_some hσ hx1 rfl
theorem rV_sayNumber (rz : zF) (rm : mF) (hR : Rc rz rm) (β : Nat) (σ : zS) (hσ : zOK σ) (x0 : Int) (hx0 : zr x0) : Rf (kV_sayNumber rz β σ x0) (kS_sayNumber rm (cv σ) (i32 x0)) β := by
  unfold kV_sayNumber kS_sayNumber
  refine Rf_le rfl (by decide) hx0 (by decide) (fun _ => ?_) (fun _ => ?_)
  · exact Rf_tail hR hσ (zrs_cons hx0 zrs_nil) (e_cons rfl rfl)
  · refine Rf_nz (by decide) ?_
    refine Rf_g (fun hg1 => ?_)
    refine Rf_bnd hR hσ (zrs_cons hg1 zrs_nil) (e_cons (e_div rfl (by decide) hx0 (by decide)) rfl) (fun σ1 r1 hσ1 hr1 => ?_)
    exact Rf_tail hR hσ1 (zrs_cons hx0 zrs_nil) (e_cons rfl rfl)
theorem rV_sayNumber_14 (rz : zF) (rm : mF) (hR : Rc rz rm) (β : Nat) (σ : zS) (hσ : zOK σ) (x0 : Int) (hx0 : zr x0) : Rf (kV_sayNumber_14 rz β σ x0) (kS_sayNumber_14 rm (cv σ) (i32 x0)) β := by
  unfold kV_sayNumber_14 kS_sayNumber_14
  refine Rf_nz (by decide) ?_
  refine Rf_g (fun hg1 => ?_)
  refine Rf_Say (e_add (by decide) (e_mod rfl (by decide) hx0 (by decide))) hg1 hσ (fun σ1 hσ1 => ?_)
  exact Rf_some hσ1 (by decide) (by decide)
theorem rV_sayTerm (rz : zF) (rm : mF) (hR : Rc rz rm) (β : Nat) (σ : zS) (hσ : zOK σ) (x0 : Int) (hx0 : zr x0) : Rf (kV_sayTerm rz β σ x0) (kS_sayTerm rm (cv σ) (i32 x0)) β := by
  unfold kV_sayTerm kS_sayTerm
  refine Rf_rd rfl hx0 (fun hb1 => ?_)
  refine Rf_le (by decide) (e_rd rfl hb1) (by decide) (hσ.2.1 _ _) (fun _ => ?_) (fun _ => ?_)
  · refine Rf_rd2 rfl hb1 ?_
    refine Rf_le (e_rd rfl hb1) rfl (hσ.2.1 _ _) (hσ.1 20) (fun _ => ?_) (fun _ => ?_)
    · exact Rf_tail hR hσ (zrs_cons hx0 (zrs_cons (by decide) zrs_nil)) (e_cons rfl (e_cons (by decide) rfl))
    · refine Rf_Say (by decide) (by decide) hσ (fun σ1 hσ1 => ?_)
      refine Rf_rd2 rfl hb1 ?_
      refine Rf_g (fun hg2 => ?_)
      refine Rf_g (fun hg3 => ?_)
      refine Rf_bnd hR hσ1 (zrs_cons hg3 zrs_nil) (e_cons (e_sub (e_sub (e_rd rfl hb1) rfl) (by decide)) rfl) (fun σ2 r2 hσ2 hr2 => ?_)
      exact Rf_tail hR hσ2 (zrs_cons hx0 zrs_nil) (e_cons rfl rfl)
  · refine Rf_Say (by decide) (by decide) hσ (fun σ3 hσ3 => ?_)
    refine Rf_rd2 rfl hb1 ?_
    refine Rf_g (fun hg4 => ?_)
    refine Rf_bnd hR hσ3 (zrs_cons hg4 zrs_nil) (e_cons (e_sub (by decide) (e_rd rfl hb1)) rfl) (fun σ4 r4 hσ4 hr4 => ?_)
    exact Rf_some hσ4 (by decide) (by decide)
theorem rV_sayTerm_69 (rz : zF) (rm : mF) (hR : Rc rz rm) (β : Nat) (σ : zS) (hσ : zOK σ) (x0 x1 : Int) (hx0 : zr x0) (hx1 : zr x1) : Rf (kV_sayTerm_69 rz β σ x0 x1) (kS_sayTerm_69 rm (cv σ) (i32 x0) (i32 x1)) β := by
  unfold kV_sayTerm_69 kS_sayTerm_69
  refine Rf_rd rfl hx0 (fun hb1 => ?_)
  refine Rf_rd (e_rd rfl hb1) (hσ.2.1 _ _) (fun hb2 => ?_)
  refine Rf_le (e_rd (e_rd rfl hb1) hb2) rfl (hσ.2.1 _ _) hx1 (fun _ => ?_) (fun _ => ?_)
  · exact Rf_tail hR hσ (zrs_cons hx0 zrs_nil) (e_cons rfl rfl)
  · refine Rf_rd2 rfl hb1 ?_
    refine Rf_rd2 (e_rd rfl hb1) hb2 ?_
    refine Rf_g (fun hg3 => ?_)
    refine Rf_rd (e_add (e_rd (e_rd rfl hb1) hb2) rfl) hg3 (fun hb4 => ?_)
    refine Rf_Say (e_rd (e_add (e_rd (e_rd rfl hb1) hb2) rfl) hb4) (hσ.2.1 _ _) hσ (fun σ1 hσ1 => ?_)
    refine Rf_g (fun hg5 => ?_)
    exact Rf_tail hR hσ1 (zrs_cons hx0 (zrs_cons hg5 zrs_nil)) (e_cons rfl (e_cons (e_add rfl (by decide)) rfl))
theorem rV_sayTerm_112 (rz : zF) (rm : mF) (hR : Rc rz rm) (β : Nat) (σ : zS) (hσ : zOK σ) (x0 : Int) (hx0 : zr x0) : Rf (kV_sayTerm_112 rz β σ x0) (kS_sayTerm_112 rm (cv σ) (i32 x0)) β := by
  unfold kV_sayTerm_112 kS_sayTerm_112
  refine Rf_rd rfl hx0 (fun hb1 => ?_)
  refine Rf_le (by decide) (e_rd rfl hb1) (by decide) (hσ.2.1 _ _) (fun _ => ?_) (fun _ => ?_)
  · refine Rf_rd2 rfl hb1 ?_
    exact Rf_tail hR hσ (zrs_cons hx0 (zrs_cons (by decide) (zrs_cons (hσ.2.1 _ _) zrs_nil))) (e_cons rfl (e_cons (by decide) (e_cons (e_rd rfl hb1) rfl)))
  · exact Rf_some hσ (by decide) (by decide)
theorem rV_sayTerm_132 (rz : zF) (rm : mF) (hR : Rc rz rm) (β : Nat) (σ : zS) (hσ : zOK σ) (x0 x1 x2 : Int) (hx0 : zr x0) (hx1 : zr x1) (hx2 : zr x2) : Rf (kV_sayTerm_132 rz β σ x0 x1 x2) (kS_sayTerm_132 rm (cv σ) (i32 x0) (i32 x1) (i32 x2)) β := by
  unfold kV_sayTerm_132 kS_sayTerm_132
  refine Rf_lt rfl (by decide) hx2 (by decide) (fun _ => ?_) (fun _ => ?_)
  · refine Rf_Say (by decide) (by decide) hσ (fun σ1 hσ1 => ?_)
    exact Rf_some hσ1 (by decide) (by decide)
  · refine Rf_Say rfl hx1 hσ (fun σ2 hσ2 => ?_)
    refine Rf_bnd hR hσ2 (zrs_cons hx2 zrs_nil) (e_cons rfl rfl) (fun σ3 r3 hσ3 hr3 => ?_)
    refine Rf_rd rfl hx2 (fun hb1 => ?_)
    exact Rf_tail hR hσ3 (zrs_cons hx0 (zrs_cons (by decide) (zrs_cons (hσ3.2.1 _ _) zrs_nil))) (e_cons rfl (e_cons (by decide) (e_cons (e_rd rfl hb1) rfl)))
theorem rV_sayLiteral (rz : zF) (rm : mF) (hR : Rc rz rm) (β : Nat) (σ : zS) (hσ : zOK σ) (x0 : Int) (hx0 : zr x0) : Rf (kV_sayLiteral rz β σ x0) (kS_sayLiteral rm (cv σ) (i32 x0)) β := by
  unfold kV_sayLiteral kS_sayLiteral
  refine Rf_rd rfl hx0 (fun hb1 => ?_)
  refine Rf_bnd hR hσ (zrs_cons (hσ.2.1 _ _) zrs_nil) (e_cons (e_rd rfl hb1) rfl) (fun σ1 r1 hσ1 hr1 => ?_)
  refine Rf_eq rfl (by decide) hr1 (by decide) (fun _ => ?_) (fun _ => ?_)
  · exact Rf_tail hR hσ1 (zrs_cons hx0 zrs_nil) (e_cons rfl rfl)
  · refine Rf_rd2 rfl hb1 ?_
    refine Rf_rd (e_rd rfl hb1) (hσ1.2.1 _ _) (fun hb2 => ?_)
    refine Rf_le (e_rd (e_rd rfl hb1) hb2) (by decide) (hσ1.2.1 _ _) (by decide) (fun _ => ?_) (fun _ => ?_)
    · exact Rf_tail hR hσ1 (zrs_cons hx0 zrs_nil) (e_cons rfl rfl)
    · refine Rf_rd2 rfl hb1 ?_
      exact Rf_tail hR hσ1 (zrs_cons hx0 (zrs_cons (hσ1.2.1 _ _) zrs_nil)) (e_cons rfl (e_cons (e_rd rfl hb1) rfl))
theorem rV_sayLiteral_36 (rz : zF) (rm : mF) (hR : Rc rz rm) (β : Nat) (σ : zS) (hσ : zOK σ) (x0 : Int) (hx0 : zr x0) : Rf (kV_sayLiteral_36 rz β σ x0) (kS_sayLiteral_36 rm (cv σ) (i32 x0)) β := by
  unfold kV_sayLiteral_36 kS_sayLiteral_36
  refine Rf_rd rfl hx0 (fun hb1 => ?_)
  refine Rf_bnd hR hσ (zrs_cons (hσ.2.1 _ _) zrs_nil) (e_cons (e_rd rfl hb1) rfl) (fun σ1 r1 hσ1 hr1 => ?_)
  refine Rf_eq rfl (by decide) hr1 (by decide) (fun _ => ?_) (fun _ => ?_)
  · exact Rf_tail hR hσ1 (zrs_cons hx0 zrs_nil) (e_cons rfl rfl)
  · refine Rf_rd2 rfl hb1 ?_
    refine Rf_rd (e_rd rfl hb1) (hσ1.2.1 _ _) (fun hb2 => ?_)
    refine Rf_le (e_rd (e_rd rfl hb1) hb2) (by decide) (hσ1.2.1 _ _) (by decide) (fun _ => ?_) (fun _ => ?_)
    · exact Rf_tail hR hσ1 (zrs_cons hx0 zrs_nil) (e_cons rfl rfl)
    · refine Rf_rd2 rfl hb1 ?_
      exact Rf_tail hR hσ1 (zrs_cons hx0 (zrs_cons (hσ1.2.1 _ _) zrs_nil)) (e_cons rfl (e_cons (e_rd rfl hb1) rfl))
theorem rV_sayLiteral_72 (rz : zF) (rm : mF) (hR : Rc rz rm) (β : Nat) (σ : zS) (hσ : zOK σ) (x0 : Int) (hx0 : zr x0) : Rf (kV_sayLiteral_72 rz β σ x0) (kS_sayLiteral_72 rm (cv σ) (i32 x0)) β := by
  unfold kV_sayLiteral_72 kS_sayLiteral_72
  exact Rf_tail hR hσ (zrs_cons hx0 (zrs_cons (by decide) zrs_nil)) (e_cons rfl (e_cons (by decide) rfl))
theorem rV_sayLiteral_73 (rz : zF) (rm : mF) (hR : Rc rz rm) (β : Nat) (σ : zS) (hσ : zOK σ) (x0 x1 : Int) (hx0 : zr x0) (hx1 : zr x1) : Rf (kV_sayLiteral_73 rz β σ x0 x1) (kS_sayLiteral_73 rm (cv σ) (i32 x0) (i32 x1)) β := by
  unfold kV_sayLiteral_73 kS_sayLiteral_73
  refine Rf_lt rfl (by decide) hx1 (by decide) (fun _ => ?_) (fun _ => ?_)
  · refine Rf_rd rfl hx0 (fun hb1 => ?_)
    refine Rf_bnd hR hσ (zrs_cons (hσ.2.1 _ _) zrs_nil) (e_cons (e_rd rfl hb1) rfl) (fun σ1 r1 hσ1 hr1 => ?_)
    refine Rf_Say (by decide) (by decide) hσ1 (fun σ2 hσ2 => ?_)
    refine Rf_rd2 rfl hb1 ?_
    refine Rf_eq (e_rd rfl hb1) (by decide) (hσ2.2.1 _ _) (by decide) (fun _ => ?_) (fun _ => ?_)
    · refine Rf_Say (by decide) (by decide) hσ2 (fun σ3 hσ3 => ?_)
      exact Rf_tail hR hσ3 (zrs_cons hx0 (zrs_cons hx1 zrs_nil)) (e_cons rfl (e_cons rfl rfl))
    · exact Rf_tail hR hσ2 (zrs_cons hx0 (zrs_cons hx1 zrs_nil)) (e_cons rfl (e_cons rfl rfl))
  · refine Rf_rd rfl hx0 (fun hb2 => ?_)
    refine Rf_eq (e_rd rfl hb2) (by decide) (hσ.2.1 _ _) (by decide) (fun _ => ?_) (fun _ => ?_)
    · refine Rf_Say (by decide) (by decide) hσ (fun σ4 hσ4 => ?_)
      exact Rf_tail hR hσ4 (zrs_cons hx0 (zrs_cons hx1 zrs_nil)) (e_cons rfl (e_cons rfl rfl))
    · exact Rf_tail hR hσ (zrs_cons hx0 (zrs_cons hx1 zrs_nil)) (e_cons rfl (e_cons rfl rfl))
theorem rV_sayLiteral_93 (rz : zF) (rm : mF) (hR : Rc rz rm) (β : Nat) (σ : zS) (hσ : zOK σ) (x0 x1 : Int) (hx0 : zr x0) (hx1 : zr x1) : Rf (kV_sayLiteral_93 rz β σ x0 x1) (kS_sayLiteral_93 rm (cv σ) (i32 x0) (i32 x1)) β := by
  unfold kV_sayLiteral_93 kS_sayLiteral_93
  refine Rf_bnd hR hσ (zrs_cons hx1 zrs_nil) (e_cons rfl rfl) (fun σ1 r1 hσ1 hr1 => ?_)
  exact Rf_some hσ1 (by decide) (by decide)
theorem rV_sayLiteral_130 (rz : zF) (rm : mF) (hR : Rc rz rm) (β : Nat) (σ : zS) (hσ : zOK σ) (x0 x1 : Int) (hx0 : zr x0) (hx1 : zr x1) : Rf (kV_sayLiteral_130 rz β σ x0 x1) (kS_sayLiteral_130 rm (cv σ) (i32 x0) (i32 x1)) β := by
  unfold kV_sayLiteral_130 kS_sayLiteral_130
  refine Rf_Say (by decide) (by decide) hσ (fun σ1 hσ1 => ?_)
  refine Rf_Say (by decide) (by decide) hσ1 (fun σ2 hσ2 => ?_)
  refine Rf_rd rfl hx0 (fun hb1 => ?_)
  refine Rf_bnd hR hσ2 (zrs_cons (hσ2.2.1 _ _) zrs_nil) (e_cons (e_rd rfl hb1) rfl) (fun σ3 r3 hσ3 hr3 => ?_)
  exact Rf_some hσ3 (by decide) (by decide)
theorem rV_show (rz : zF) (rm : mF) (hR : Rc rz rm) (β : Nat) (σ : zS) (hσ : zOK σ) (x0 : Int) (hx0 : zr x0) : Rf (kV_show rz β σ x0) (kS_show rm (cv σ) (i32 x0)) β := by
  unfold kV_show kS_show
  refine Rf_bnd hR hσ (zrs_cons hx0 zrs_nil) (e_cons rfl rfl) (fun σ1 r1 hσ1 hr1 => ?_)
  refine Rf_eq rfl (by decide) hr1 (by decide) (fun _ => ?_) (fun _ => ?_)
  · refine Rf_I (by decide) (by decide) hσ1 (fun σ2 hσ2 => ?_)
    refine Rf_rd rfl hx0 (fun hb1 => ?_)
    exact Rf_tail hR hσ2 (zrs_cons hx0 (zrs_cons (hσ2.2.1 _ _) zrs_nil)) (e_cons rfl (e_cons (e_rd rfl hb1) rfl))
  · exact Rf_some hσ1 (by decide) (by decide)
theorem rV_show_22 (rz : zF) (rm : mF) (hR : Rc rz rm) (β : Nat) (σ : zS) (hσ : zOK σ) (x0 x1 : Int) (hx0 : zr x0) (hx1 : zr x1) : Rf (kV_show_22 rz β σ x0 x1) (kS_show_22 rm (cv σ) (i32 x0) (i32 x1)) β := by
  unfold kV_show_22 kS_show_22
  refine Rf_rd rfl hx0 (fun hb1 => ?_)
  refine Rf_rd2 rfl hb1 ?_
  refine Rf_g (fun hg2 => ?_)
  refine Rf_le (e_add (e_rd rfl hb1) (e_rd rfl hb1)) rfl hg2 hx1 (fun _ => ?_) (fun _ => ?_)
  · refine Rf_rd2 rfl hb1 ?_
    refine Rf_eq (e_rd rfl hb1) (by decide) (hσ.2.1 _ _) (by decide) (fun _ => ?_) (fun _ => ?_)
    · refine Rf_Say (by decide) (by decide) hσ (fun σ1 hσ1 => ?_)
      refine Rf_Say (by decide) (by decide) hσ1 (fun σ2 hσ2 => ?_)
      refine Rf_Say (by decide) (by decide) hσ2 (fun σ3 hσ3 => ?_)
      refine Rf_Say (by decide) (by decide) hσ3 (fun σ4 hσ4 => ?_)
      refine Rf_Say (by decide) (by decide) hσ4 (fun σ5 hσ5 => ?_)
      exact Rf_tail hR hσ5 (zrs_cons hx0 (zrs_cons hx1 zrs_nil)) (e_cons rfl (e_cons rfl rfl))
    · exact Rf_tail hR hσ (zrs_cons hx0 (zrs_cons hx1 zrs_nil)) (e_cons rfl (e_cons rfl rfl))
  · refine Rf_rd2 rfl hb1 ?_
    refine Rf_le rfl (e_rd rfl hb1) hx1 (hσ.2.1 _ _) (fun _ => ?_) (fun _ => ?_)
    · exact Rf_tail hR hσ (zrs_cons hx0 (zrs_cons hx1 zrs_nil)) (e_cons rfl (e_cons rfl rfl))
    · refine Rf_Say (by decide) (by decide) hσ (fun σ6 hσ6 => ?_)
      refine Rf_Say (by decide) (by decide) hσ6 (fun σ7 hσ7 => ?_)
      refine Rf_Say (by decide) (by decide) hσ7 (fun σ8 hσ8 => ?_)
      exact Rf_tail hR hσ8 (zrs_cons hx0 (zrs_cons hx1 zrs_nil)) (e_cons rfl (e_cons rfl rfl))
theorem rV_show_67 (rz : zF) (rm : mF) (hR : Rc rz rm) (β : Nat) (σ : zS) (hσ : zOK σ) (x0 x1 : Int) (hx0 : zr x0) (hx1 : zr x1) : Rf (kV_show_67 rz β σ x0 x1) (kS_show_67 rm (cv σ) (i32 x0) (i32 x1)) β := by
  unfold kV_show_67 kS_show_67
  refine Rf_bnd hR hσ (zrs_cons hx1 zrs_nil) (e_cons rfl rfl) (fun σ1 r1 hσ1 hr1 => ?_)
  refine Rf_g (fun hg1 => ?_)
  exact Rf_tail hR hσ1 (zrs_cons hx0 (zrs_cons hg1 zrs_nil)) (e_cons rfl (e_cons (e_add rfl (by decide)) rfl))
theorem rV_show_117 (rz : zF) (rm : mF) (hR : Rc rz rm) (β : Nat) (σ : zS) (hσ : zOK σ) (x0 x1 : Int) (hx0 : zr x0) (hx1 : zr x1) : Rf (kV_show_117 rz β σ x0 x1) (kS_show_117 rm (cv σ) (i32 x0) (i32 x1)) β := by
  unfold kV_show_117 kS_show_117
  exact Rf_some hσ (hσ.1 3) rfl
