/-! the law's loop -/
theorem and15 (x : Int32) : (x &&& 15).toInt = x.toInt % 16 := by
  have h : (x &&& 15).toInt = ((x.toBitVec &&& 15#32).toInt) := rfl
  have h2 : x.toInt = x.toBitVec.toInt := rfl
  rw [h, h2, BitVec.toInt_eq_toNat_cond, BitVec.toInt_eq_toNat_cond, BitVec.toNat_and]
  have e : (x.toBitVec.toNat &&& (15#32).toNat) = x.toBitVec.toNat % 16 := Nat.and_two_pow_sub_one_eq_mod _ 4
  have hl := x.toBitVec.isLt
  rw [e]
  split <;> split <;> omega
theorem ofN_i {n : Nat} (h : n < 2147483648) : (Int32.ofNat n).toInt = (n : Int) := nI_toInt (n := n) (by omega)
theorem sub6 {n : Nat} (h : n ≤ 3072) : (Int32.ofNat n - 6).toInt = (n : Int) - 6 := by
  rw [Int32.toInt_sub, ofN_i (by omega)]
  have : Int32.toInt 6 = 6 := rfl
  rw [this]
  exact Int.bmod_eq_of_le (by omega) (by omega)
set_option maxRecDepth 4000 in
theorem law_loop {p : Program} {e : Env} {s : State} {m : MethodId} {below : List Frame} {meth : Method} {c : Code} {l : Launch} {D : va_G} {kA : Nat → ClassId} {b L : Nat} {xs : Nat → Int32} {o z : Nat} {u : Nat → Nat} (C : ax_C p s m #[Value.ref b] meth c code "ClauseProverLaw" 7 ret D kA (fun q => s.heap.size ≤ q)) (hX : ax_X (fun q => s.heap.size ≤ q) s s.heap) (hXb : va_X b L xs s s.heap) (hbl : b < s.heap.size) (hbA : ¬ s.heap.size ≤ b) (htr : l.stackTraces = false) (hL : L ≤ 3072) (hRl : ∀ qo σ ρ n, TL qo σ ρ n → rl σ + qo ≤ 2400000) (hSh : ∀ {i : Nat} {f : Nat → Int64} {σ ρ : zS} {w v : Nat → Nat} {tx : Value} {cells slots : Nat}, i + 6 ≤ L → LI i σ ρ cells slots → (∀ (f2 : Nat → Int64) (σ2 ρ2 : zS) (w2 v2 : Nat → Nat) (tx2 : Value) (c2 s2 : Nat), LI (i + 6) σ2 ρ2 c2 s2 → AW p l e room_1 s m #[Value.ref b] below meth c D kA (fun q => s.heap.size ≤ q) 7 (lw_Z below #[Value.ref b] s) 1012 [(4, .int (Int32.ofNat i)), (3, .ref o), (2, .ref z), (1, .ref (u 0)), (0, .ref b)] [] (lgO kA o f2 :: (cpW kA u w2 tx2 (cv σ2) ++ mmW kA z v2 (cv ρ2))) (c2) (s2)) → AW p l e room_1 s m #[Value.ref b] below meth c D kA (fun q => s.heap.size ≤ q) 7 (lw_Z below #[Value.ref b] s) 590 [(4, .int (Int32.ofNat i)), (3, .ref o), (2, .ref z), (1, .ref (u 0)), (0, .ref b)] [] (lgO kA o f :: (cpW kA u w tx (cv σ) ++ mmW kA z v (cv ρ))) (cells) (slots)) : ∀ (k i : Nat) (f : Nat → Int64) (σ ρ : zS) (w v : Nat → Nat) (tx : Value) (cells slots : Nat), L ≤ i + 6 * k + 5 → i ≤ 3072 → LI i σ ρ cells slots → AW p l e room_1 s m #[Value.ref b] below meth c D kA (fun q => s.heap.size ≤ q) 7 (lw_Z below #[Value.ref b] s) 23 [(4, .int (Int32.ofNat i)), (3, .ref o), (2, .ref z), (1, .ref (u 0)), (0, .ref b)] [] (lgO kA o f :: (cpW kA u w tx (cv σ) ++ mmW kA z v (cv ρ))) (cells) (slots)
  | 0, i, f, σ, ρ, w, v, tx, cells, slots, hk0, hi3, hI => by
    refine ax_iload (pc := 23) C d_Law_law_23 0 rfl ?_
    refine ax_aload_n (pc := 25) C d_Law_law_25 rfl 4 rfl ?_
    refine ax_slen (pc := 26) C hXb hbl hbA d_Law_law_26 ?_
    refine ax_bipush (pc := 27) C 6 d_Law_law_27 (by decide +kernel) ?_
    refine ax_isub (pc := 29) C d_Law_law_29 ?_
    refine ax_icmp_gt (pc := 30) C 1018 d_Law_law_30 (by decide) (fun _ => ?_) (fun hgt => absurd (show Int32.ofNat L - 6 < Int32.ofNat i by rw [Int32.lt_iff_toInt_lt, sub6 hL, ofN_i (by omega)]; omega) hgt)
    · refine ax_iconst (pc := 1018) C 1 d_Law_law_1018 (by decide +kernel) ?_
      obtain ⟨rm1, rm2⟩ := hI.rm hi3 hRl
      exact ax_end (pc := 1019) C d_Law_law_1019 (by omega) (by omega)
  | k + 1, i, f, σ, ρ, w, v, tx, cells, slots, hk0, hi3, hI => by
    refine ax_iload (pc := 23) C d_Law_law_23 0 rfl ?_
    refine ax_aload_n (pc := 25) C d_Law_law_25 rfl 4 rfl ?_
    refine ax_slen (pc := 26) C hXb hbl hbA d_Law_law_26 ?_
    refine ax_bipush (pc := 27) C 6 d_Law_law_27 (by decide +kernel) ?_
    refine ax_isub (pc := 29) C d_Law_law_29 ?_
    refine ax_icmp_gt (pc := 30) C 1018 d_Law_law_30 (by decide) (fun _ => ?_) (fun hgt => ?_)
    · refine ax_iconst (pc := 1018) C 1 d_Law_law_1018 (by decide +kernel) ?_
      obtain ⟨rm1, rm2⟩ := hI.rm hi3 hRl
      exact ax_end (pc := 1019) C d_Law_law_1019 (by omega) (by omega)
    have hle : i + 6 ≤ L := by
      rw [Int32.lt_iff_toInt_lt, sub6 hL, ofN_i (by omega)] at hgt
      omega
    refine ax_aload_n (pc := 33) C d_Law_law_33 rfl 4 rfl ?_
    refine ax_iload (pc := 34) C d_Law_law_34 0 rfl ?_
    refine ax_sld (pc := 36) C hXb hbl hbA d_Law_law_36 (ix_in (by omega) hL) ?_
    refine ax_nrm (xs i) (by rw [ix_n (by omega)]) ?_
    refine ax_bipush (pc := 37) C 15 d_Law_law_37 (by decide +kernel) ?_
    refine ax_iand (pc := 39) C d_Law_law_39 ?_
    have ha := and15 (xs i)
    have h0 := Int.emod_nonneg (xs i).toInt (b := 16) (by decide)
    have h1 := Int.emod_lt_of_pos (xs i).toInt (b := 16) (by decide)
    obtain ⟨q, hq⟩ : ∃ q : Int, (xs i &&& 15).toInt = q := ⟨_, rfl⟩
    have hk : ∀ (f2 : Nat → Int64) (σ2 ρ2 : zS) (w2 v2 : Nat → Nat) (tx2 : Value) (c2 s2 : Nat), LI (i + 6) σ2 ρ2 c2 s2 → AW p l e room_1 s m #[Value.ref b] below meth c D kA (fun q => s.heap.size ≤ q) 7 (lw_Z below #[Value.ref b] s) 1012 [(4, .int (Int32.ofNat i)), (3, .ref o), (2, .ref z), (1, .ref (u 0)), (0, .ref b)] [] (lgO kA o f2 :: (cpW kA u w2 tx2 (cv σ2) ++ mmW kA z v2 (cv ρ2))) (c2) (s2) := fun f2 σ2 ρ2 w2 v2 tx2 c2 s2 hI2 => by
      refine ax_iinc (pc := 1012) C (Int32.ofNat (i + 6)) d_Law_law_1012 0 rfl (ix_a (j := 6)) (Nat.le_of_ble_eq_true rfl) ([(4, .int (Int32.ofNat (i + 6))), (3, .ref o), (2, .ref z), (1, .ref (u 0)), (0, .ref b)]) rfl ?_
      refine ax_goto (pc := 1015) C 23 d_Law_law_1015 (by decide) ?_
      exact law_loop C hX hXb hbl hbA htr hL hRl hSh k (i + 6) f2 σ2 ρ2 w2 v2 tx2 c2 s2 (by omega) (by omega) hI2
    rcases (show q = 0 ∨ q = 1 ∨ q = 2 ∨ q = 3 ∨ q = 4 ∨ q = 5 ∨ q = 6 ∨ q = 7 ∨ q = 8 ∨ q = 9 ∨ q = 10 ∨ q = 11 ∨ q = 12 ∨ q = 13 ∨ q = 14 ∨ q = 15 by omega) with rfl | rfl | rfl | rfl | rfl | rfl | rfl | rfl | rfl | rfl | rfl | rfl | rfl | rfl | rfl | rfl
    · refine ax_tableIn (pc := 40) C 120 d_Law_law_40 (by rw [hq]; decide) (by rw [hq]; decide) (off := 80) (by rw [hq]; rfl) (by decide) ?_
      exact st_feed C hX hXb hbl hbA htr hle hL hRl hI hk
    · refine ax_tableIn (pc := 40) C 224 d_Law_law_40 (by rw [hq]; decide) (by rw [hq]; decide) (off := 184) (by rw [hq]; rfl) (by decide) ?_
      exact st_end C hX hXb hbl hbA htr hle hL hRl hI hk
    · refine ax_tableIn (pc := 40) C 280 d_Law_law_40 (by rw [hq]; decide) (by rw [hq]; decide) (off := 240) (by rw [hq]; rfl) (by decide) ?_
      exact st_read C hX hXb hbl hbA htr hle hL hRl hI hk
    · refine ax_tableIn (pc := 40) C 293 d_Law_law_40 (by rw [hq]; decide) (by rw [hq]; decide) (off := 253) (by rw [hq]; rfl) (by decide) ?_
      exact st_fault C hX hXb hbl hbA htr hle hL hRl hI hk
    · refine ax_tableIn (pc := 40) C 318 d_Law_law_40 (by rw [hq]; decide) (by rw [hq]; decide) (off := 278) (by rw [hq]; rfl) (by decide) ?_
      exact st_run C hX hXb hbl hbA htr hle hL hRl hI hk
    · refine ax_tableIn (pc := 40) C 374 d_Law_law_40 (by rw [hq]; decide) (by rw [hq]; decide) (off := 334) (by rw [hq]; rfl) (by decide) ?_
      exact st_clause C hX hXb hbl hbA htr hle hL hRl hI hk
    · refine ax_tableIn (pc := 40) C 442 d_Law_law_40 (by rw [hq]; decide) (by rw [hq]; decide) (off := 402) (by rw [hq]; rfl) (by decide) ?_
      exact st_rewrote C hX hXb hbl hbA htr hle hL hRl hI hk
    · refine ax_tableIn (pc := 40) C 510 d_Law_law_40 (by rw [hq]; decide) (by rw [hq]; decide) (off := 470) (by rw [hq]; rfl) (by decide) ?_
      exact st_literal C hX hXb hbl hbA htr hle hL hRl hI hk
    · refine ax_tableIn (pc := 40) C 590 d_Law_law_40 (by rw [hq]; decide) (by rw [hq]; decide) (off := 550) (by rw [hq]; rfl) (by decide) ?_
      exact hSh hle hI hk
    · refine ax_tableIn (pc := 40) C 646 d_Law_law_40 (by rw [hq]; decide) (by rw [hq]; decide) (off := 606) (by rw [hq]; rfl) (by decide) ?_
      exact st_out C hX hXb hbl hbA htr hle hL hRl hI hk
    · refine ax_tableIn (pc := 40) C 702 d_Law_law_40 (by rw [hq]; decide) (by rw [hq]; decide) (off := 662) (by rw [hq]; rfl) (by decide) ?_
      exact st_symbol C hX hXb hbl hbA htr hle hL hRl hI hk
    · refine ax_tableIn (pc := 40) C 770 d_Law_law_40 (by rw [hq]; decide) (by rw [hq]; decide) (off := 730) (by rw [hq]; rfl) (by decide) ?_
      exact st_proof C hX hXb hbl hbA htr hle hL hRl hI hk
    · refine ax_tableIn (pc := 40) C 783 d_Law_law_40 (by rw [hq]; decide) (by rw [hq]; decide) (off := 743) (by rw [hq]; rfl) (by decide) ?_
      exact st_step C hX hXb hbl hbA htr hle hL hRl hI hk
    · refine ax_tableIn (pc := 40) C 839 d_Law_law_40 (by rw [hq]; decide) (by rw [hq]; decide) (off := 799) (by rw [hq]; rfl) (by decide) ?_
      exact st_look C hX hXb hbl hbA htr hle hL hRl hI hk
    · refine ax_tableIn (pc := 40) C 907 d_Law_law_40 (by rw [hq]; decide) (by rw [hq]; decide) (off := 867) (by rw [hq]; rfl) (by decide) ?_
      exact st_search C hX hXb hbl hbA htr hle hL hRl hI hk
    · refine ax_tableIn (pc := 40) C 987 d_Law_law_40 (by rw [hq]; decide) (by rw [hq]; decide) (off := 947) (by rw [hq]; rfl) (by decide) ?_
      exact st_count C hX hXb hbl hbA htr hle hL hRl hI hk
