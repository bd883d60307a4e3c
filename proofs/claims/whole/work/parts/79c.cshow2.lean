/-! the class shows TERMS: how many each ( still waits for -/
/-- the row of open TERMS, the innermost first -/
def OS (g : Int → Int) : List Nat → Prop
  | [] => True
  | n :: O => g (O.length : Int) = (n : Int) ∧ OS g O
theorem OS_q {g h : Int → Int} : ∀ {O : List Nat}, (∀ i : Int, 0 ≤ i → i < (O.length : Int) → h i = g i) → OS g O → OS h O
  | [], _, _ => trivial
  | n :: O, q, w => ⟨by rw [q _ (by omega) (by simp only [List.length_cons]; omega)]; exact w.1, OS_q (fun i h0 h1 => q i h0 (by simp only [List.length_cons]; omega)) w.2⟩
/-- what is written behind a TERM, and which still wait -/
def fn1 : List Nat → List Int
  | [] => []
  | n :: O => if n = 1 then 41 :: fn1 O else [44]
def fn2 : List Nat → List Nat
  | [] => []
  | n :: O => if n = 1 then fn2 O else (n - 1) :: O
theorem fn1_len : ∀ O : List Nat, (fn1 O).length ≤ O.length
  | [] => Nat.le_refl _
  | n :: O => by
    have := fn1_len O
    simp only [fn1]
    split <;> simp <;> omega
theorem cf_ok {β : Nat} {ρ : zS} {x0 x1 x3 x4 x5 : Int} : ∀ (O : List Nat) (σ : zS) (L : List Int) (G : Int → Int), HS ρ σ L G → OS G O → (∀ n ∈ O, 1 ≤ n ∧ n ≤ 1000) → O.length ≤ 101 → L.length + O.length ≤ 19950 → ∃ τ G', jE tH_CP_writeTerm_p87 β σ [x0, x1, (O.length : Int), x3, x4, x5] = jE tH_CP_writeTerm_p137 β τ [x0, x1, ((fn2 O).length : Int), x3, x4, x5] ∧ HS ρ τ (L ++ fn1 O) G' ∧ OS G' (fn2 O)
  | [], σ, L, G, hS, hO, _, _, _ => by
    have e : jE tH_CP_writeTerm_p87 β σ [x0, x1, 0, x3, x4, x5] = jE tH_CP_writeTerm_p137 β σ [x0, x1, 0, x3, x4, x5] := by
      rw [jq_CP_writeTerm_p87, kJ_CP_writeTerm_p87, if_pos (Int.le_refl 0), jq_CP_writeTerm_p115, kJ_CP_writeTerm_p115, if_pos (Int.le_refl 0)]
    refine ⟨σ, G, e, ?_, hO⟩
    show HS ρ σ (L ++ []) G
    rw [List.append_nil]; exact hS
  | n :: O, σ, L, G, hS, hO, hn, hl, hL => by
    obtain ⟨o1, o2⟩ := hO
    have hb := hn n List.mem_cons_self
    have el : ((n :: O).length : Int) = (O.length : Int) + 1 := by simp
    have hl' : O.length ≤ 100 := by simp only [List.length_cons] at hl; omega
    have hL' : L.length + O.length + 1 ≤ 19950 := by simp only [List.length_cons] at hL; omega
    have e5 : σ.2.1 5 (O.length : Int) = (n : Int) := by rw [hS.2.2.2]; exact o1
    have es : (O.length : Int) + 1 - 1 = (O.length : Int) := by omega
    have z1 : zr (O.length : Int) := ⟨by omega, by omega⟩
    have z2 : zb (O.length : Int) 101 := ⟨by omega, by omega⟩
    rw [el]
    by_cases h1 : n = 1
    · obtain ⟨k1, k2⟩ := hS.add (by omega) 41
      obtain ⟨τ, G', t1, t2, t3⟩ := cf_ok (β := β) (x0 := x0) (x1 := x1) (x3 := x3) (x4 := x4) (x5 := x5) O (zAdd σ 301 4 41) (L ++ [41]) G k2 o2 (fun m hm => hn m (List.mem_cons_of_mem _ hm)) (by omega) (by simp; omega)
      have f1 : fn1 (n :: O) = 41 :: fn1 O := by simp only [fn1]; rw [if_pos h1]
      have f2 : fn2 (n :: O) = fn2 O := by simp only [fn2]; rw [if_pos h1]
      rw [f1, f2]
      refine ⟨τ, G', ?_, ?_, t3⟩
      · have ea : (O.length : Int) + 1 + (-1) = (O.length : Int) := by omega
        rw [jq_CP_writeTerm_p87, kJ_CP_writeTerm_p87, if_neg (by omega), es, if_pos z1, if_pos z2, e5, if_pos (by omega), if_pos k1, lt_e, ea, if_pos z1]
        exact t1
      · rw [List.append_assoc] at t2; exact t2
    · obtain ⟨k1, k2⟩ := hS.add (by omega) 44
      have f1 : fn1 (n :: O) = [44] := by simp only [fn1]; rw [if_neg h1]
      have f2 : fn2 (n :: O) = (n - 1) :: O := by simp only [fn2]; rw [if_neg h1]
      rw [f1, f2]
      refine ⟨zA (zAdd σ 301 4 44) 5 (O.length : Int) ((n : Int) - 1), _, ?_, k2.ar5, ?_, OS_q (fun i i0 i1 => ?_) o2⟩
      · have e5' : (zAdd σ 301 4 44).2.1 5 (O.length : Int) = (n : Int) := by rw [k2.2.2.2]; exact o1
        have ez : ((((n - 1) :: O).length : Nat) : Int) = (O.length : Int) + 1 := by simp
        rw [jq_CP_writeTerm_p87, kJ_CP_writeTerm_p87, if_neg (by omega), es, if_pos z1, if_pos z2, e5, if_neg (by omega), jq_CP_writeTerm_p115, kJ_CP_writeTerm_p115, if_neg (by omega), if_pos k1, lt_e, es, if_pos z1, if_pos z2, e5', if_pos (show zr ((n : Int) - 1) from ⟨by omega, by omega⟩), lt_e, ez]
      · show (if (O.length : Int) = (O.length : Int) then (n : Int) - 1 else G (O.length : Int)) = ((n - 1 : Nat) : Int)
        rw [if_pos rfl]; omega
      · show (if i = (O.length : Int) then (n : Int) - 1 else G i) = G i
        rw [if_neg (by omega)]
section
variable {ρ : zS} {nm : PN} {ar : Int → Nat} {m9 : Int}
/-- a SYMBOL without TERMS, or a VARIABLE -/
theorem ct_sy (hN : NC ρ nm) (hA : ArC ρ ar (lb m9)) {β : Nat} (hβ : 2 ≤ β) {x0 x1 i c : Int} {σ : zS} {L : List Int} {G : Int → Int} {O : List Nat} (hS : HS ρ σ L G) (hO : OS G O) (hn : ∀ n ∈ O, 1 ≤ n ∧ n ≤ 1000) (ho : O.length ≤ 101) (hl : L.length ≤ 19800) (hi : zb i (ρ.2.2 48)) (h48 : ρ.2.2 48 ≤ 1000000) (he : ρ.2.1 48 i = c) (hc : lb m9 c) (h0 : c ≠ 0) (h2 : c < 900) (ha : (if c < 0 then 0 else ar c) = 0) (hx : i < x1) : ∃ τ G', jE tH_CP_writeTerm_p5 β σ [x0, x1, (O.length : Int), i] = jE tH_CP_writeTerm_p5 β τ [x0, x1, ((fn2 O).length : Int), i + 1] ∧ HS ρ τ (L ++ txW nm c ++ fn1 O) G' ∧ OS G' (fn2 O) := by
  have e48 : σ.2.1 48 i = c := by rw [hS.2.1.a 48 _]; exact he
  have l48 : σ.2.2 48 = ρ.2.2 48 := hS.2.1.l 48
  obtain ⟨i0, i1⟩ := hi
  obtain ⟨c6, c9⟩ := hc
  obtain ⟨σ1, s1, s2⟩ := cwd_ok (β := β - 1) (by omega) hN hS (by omega) h0 (by omega) h2
  have hW := cxW_len hN c
  have hd : jE tH_CP_writeTerm_p5 β σ [x0, x1, (O.length : Int), i] = jE tH_CP_writeTerm_p87 β σ1 [x0, x1, (O.length : Int), i, c, 0] := by
    rw [jq_CP_writeTerm_p5, kJ_CP_writeTerm_p5, if_neg (by omega), if_pos (show zb i (σ.2.2 48) from ⟨i0, by rw [l48]; exact i1⟩), if_pos (by omega), e48, zbd_of s1]
    by_cases c0 : c < 0
    · rw [if_neg (by omega), jq_CP_writeTerm_p51, kJ_CP_writeTerm_p51, if_pos (Int.le_refl 0)]
    · rw [if_neg c0] at ha
      obtain ⟨b1, b2⟩ := hA c ⟨c6, c9⟩ (by omega)
      have e7 : σ1.2.1 7 c = 0 := (s2.2.1.a 7 c).trans (b2.trans (by omega))
      rw [if_pos (by omega), if_pos (show zb c 551 from ⟨by omega, by omega⟩), e7, jq_CP_writeTerm_p51, kJ_CP_writeTerm_p51, if_pos (Int.le_refl 0)]
  obtain ⟨τ, G', t1, t2, t3⟩ := cf_ok (β := β) (x0 := x0) (x1 := x1) (x3 := i) (x4 := c) (x5 := 0) O σ1 (L ++ txW nm c) G s2 hO hn ho (by simp only [List.length_append]; omega)
  refine ⟨τ, G', ?_, t2, t3⟩
  rw [hd, t1, jq_CP_writeTerm_p137, kJ_CP_writeTerm_p137, if_pos (show zr (i + 1) from ⟨by omega, by omega⟩)]
/-- a SYMBOL with TERMS, and ( -/
theorem ct_op (hN : NC ρ nm) (hA : ArC ρ ar (lb m9)) {β : Nat} (hβ : 2 ≤ β) {x0 x1 i c : Int} {σ : zS} {L : List Int} {G : Int → Int} {O : List Nat} (hS : HS ρ σ L G) (hO : OS G O) (ho : O.length ≤ 100) (hl : L.length ≤ 19800) (hi : zb i (ρ.2.2 48)) (h48 : ρ.2.2 48 ≤ 1000000) (he : ρ.2.1 48 i = c) (hc : lb m9 c) (h0 : 0 < c) (h2 : c < 900) (ha : 0 < ar c) (ha2 : ar c ≤ 1000) (hx : i < x1) : ∃ τ G', jE tH_CP_writeTerm_p5 β σ [x0, x1, (O.length : Int), i] = jE tH_CP_writeTerm_p5 β τ [x0, x1, ((ar c :: O).length : Int), i + 1] ∧ HS ρ τ (L ++ txW nm c ++ [40]) G' ∧ OS G' (ar c :: O) := by
  have e48 : σ.2.1 48 i = c := by rw [hS.2.1.a 48 _]; exact he
  have l48 : σ.2.2 48 = ρ.2.2 48 := hS.2.1.l 48
  obtain ⟨i0, i1⟩ := hi
  obtain ⟨c6, c9⟩ := hc
  obtain ⟨σ1, s1, s2⟩ := cwd_ok (β := β - 1) (by omega) hN hS (by omega) (by omega) (by omega) h2
  have hW := cxW_len hN c
  obtain ⟨b1, b2⟩ := hA c ⟨c6, c9⟩ (by omega)
  have e7 : σ1.2.1 7 c = (ar c : Int) := by rw [s2.2.1.a 7 _, b2]
  obtain ⟨k1, k2⟩ := s2.add (by simp only [List.length_append]; omega) 40
  have ez : (((ar c :: O).length : Nat) : Int) = (O.length : Int) + 1 := by simp
  refine ⟨zA (zAdd σ1 301 4 40) 5 (O.length : Int) (ar c : Int), _, ?_, k2.ar5, ?_, OS_q (fun j j0 j1 => ?_) hO⟩
  · rw [jq_CP_writeTerm_p5, kJ_CP_writeTerm_p5, if_neg (by omega), if_pos (show zb i (σ.2.2 48) from ⟨i0, by rw [l48]; exact i1⟩), if_pos (by omega), e48, zbd_of s1, if_pos (by omega), if_pos (show zb c 551 from ⟨by omega, by omega⟩), e7, jq_CP_writeTerm_p51, kJ_CP_writeTerm_p51, if_neg (by omega), if_neg (by omega), if_pos k1, lt_e, if_pos (show zb (O.length : Int) 101 from ⟨by omega, by omega⟩), lt_e, if_pos (show zr ((O.length : Int) + 1) from ⟨by omega, by omega⟩), jq_CP_writeTerm_p137, kJ_CP_writeTerm_p137, if_pos (show zr (i + 1) from ⟨by omega, by omega⟩), ez]
  · show (if (O.length : Int) = (O.length : Int) then (ar c : Int) else G (O.length : Int)) = (ar c : Int)
    rw [if_pos rfl]
  · show (if j = (O.length : Int) then (ar c : Int) else G j) = G j
    rw [if_neg (by omega)]
/-- TERMS beside each other, without what stands ahead of the first -/
def txQ (nm : PN) : T → List Int
  | .leaf _ => []
  | .branch l k s => (txW nm (cl l) ++ (if wt k = 0 then [] else txB nm 40 k ++ [41])) ++ txB nm 44 s
theorem txB_q {nm : PN} {b : Int} : ∀ {F : T}, wt F ≠ 0 → txB nm b F = b :: txQ nm F
  | .leaf _, h => absurd rfl h
  | .branch l k s, _ => by simp only [txB, txQ, List.cons_append]
theorem ct_fb (hN : NC ρ nm) (hA : ArC ρ ar (lb m9)) {β : Nat} (hβ : 2 ≤ β) {x0 x1 : Int} (hx1 : x1 ≤ (ρ.2.2 48 : Int)) (h48 : ρ.2.2 48 ≤ 1000000) : ∀ (F : T) (O : List Nat) (σ : zS) (L : List Int) (G : Int → Int) (i : Int), wt F ≠ 0 → wf ar (lb m9) F → SW F → Fl (ρ.2.1 48) i (fl F) → HS ρ σ L G → OS G (len F :: O) → (∀ n ∈ O, 1 ≤ n ∧ n ≤ 1000) → O.length + 1 + ht F ≤ 101 → wt F ≤ 200 → 0 ≤ i → i + (wt F : Int) ≤ x1 → L.length + 34 * wt F + O.length ≤ 19700 → ∃ τ G', jE tH_CP_writeTerm_p5 β σ [x0, x1, (O.length : Int) + 1, i] = jE tH_CP_writeTerm_p5 β τ [x0, x1, ((fn2 O).length : Int), i + (wt F : Int)] ∧ HS ρ τ (L ++ txQ nm F ++ [41] ++ fn1 O) G' ∧ OS G' (fn2 O)
  | .leaf _, O, σ, L, G, i, h0, _, _, _, _, _, _, _, _, _, _, _ => absurd rfl h0
  | .branch l k s, O, σ, L, G, i, h0, hw, hs, hf, hS, hO, hn, ho, h200, hi, hx, hl => by
    obtain ⟨w1, w2, w3, w4⟩ := hw
    obtain ⟨⟨q1, q2, q3, q4⟩, qk, qs⟩ := hs
    obtain ⟨f1, f2⟩ := hf
    obtain ⟨fk, fs⟩ := Fl_app.mp f2
    rw [fl_length] at fs
    simp only [wt] at hx hl h200
    simp only [ht] at ho
    simp only [len] at hO
    have hls := len_le_wt s
    have hlk := len_le_wt k
    have hW := cxW_len hN (cl l)
    have hBk := cxB_len hN k 40
    have hn' : ∀ n ∈ (1 + len s) :: O, 1 ≤ n ∧ n ≤ 1000 := fun n h => by
      rcases List.mem_cons.mp h with z | z
      · omega
      · exact hn n z
    have eo : (O.length : Int) + 1 = (((1 + len s) :: O).length : Int) := by simp
    have hz : zb i (ρ.2.2 48) := ⟨hi, by omega⟩
    -- the TERM
    have term : ∃ τ G', jE tH_CP_writeTerm_p5 β σ [x0, x1, (O.length : Int) + 1, i] = jE tH_CP_writeTerm_p5 β τ [x0, x1, ((fn2 ((1 + len s) :: O)).length : Int), i + 1 + (wt k : Int)] ∧ HS ρ τ (L ++ (txW nm (cl l) ++ (if wt k = 0 then [] else txB nm 40 k ++ [41])) ++ fn1 ((1 + len s) :: O)) G' ∧ OS G' (fn2 ((1 + len s) :: O)) := by
      rw [eo]
      by_cases hk : wt k = 0
      · have ek := wt0 hk
        subst ek
        obtain ⟨τ, G', t1, t2, t3⟩ := ct_sy (x0 := x0) (x1 := x1) hN hA hβ hS hO hn' (by simp only [List.length_cons]; omega) (by omega) hz h48 f1 w2 q1 q3 w1.symm (by omega)
        refine ⟨τ, G', ?_, ?_, t3⟩
        · rw [hk, t1]
          have e9 : i + 1 + ((0 : Nat) : Int) = i + 1 := by omega
          rw [e9]
        · rw [if_pos hk, List.append_nil]; exact t2
      · have c0 : ¬ cl l < 0 := fun z => hk (q4 z)
        rw [if_neg c0] at w1
        have hk1 : 0 < len k := by
          rcases Nat.eq_zero_or_pos (len k) with z | z
          · have := len0 z; subst this; exact absurd rfl hk
          · exact z
        obtain ⟨τ1, G1, t1, t2, t3⟩ := ct_op (x0 := x0) (x1 := x1) hN hA hβ hS hO (by simp only [List.length_cons]; omega) (by omega) hz h48 f1 w2 (by omega) q3 (by omega) (by omega) (by omega)
        rw [← w1] at t1 t3
        have ez : (((len k :: (1 + len s) :: O).length : Nat) : Int) = (((1 + len s) :: O).length : Int) + 1 := by simp
        rw [ez] at t1
        obtain ⟨τ, G', u1, u2, u3⟩ := ct_fb (x0 := x0) hN hA hβ hx1 h48 k ((1 + len s) :: O) τ1 (L ++ txW nm (cl l) ++ [40]) G1 (i + 1) hk w3 qk fk t2 t3 hn' (by simp only [List.length_cons]; omega) (by omega) (by omega) (by omega) (by simp only [List.length_append, List.length_cons, List.length_nil]; omega)
        refine ⟨τ, G', t1.trans u1, ?_, u3⟩
        rw [if_neg hk, txB_q hk]
        simp only [List.append_assoc, List.cons_append, List.nil_append] at u2 ⊢
        exact u2
    obtain ⟨τ1, G1, t1, t2, t3⟩ := term
    have hlen : (L ++ (txW nm (cl l) ++ (if wt k = 0 then [] else txB nm 40 k ++ [41]))).length ≤ L.length + 34 * wt k + 33 := by
      by_cases hk : wt k = 0
      · rw [if_pos hk]; simp; omega
      · rw [if_neg hk]; simp; omega
    by_cases hs0 : wt s = 0
    · have es := wt0 hs0
      subst es
      have g1 : fn1 ((1 + len nl) :: O) = 41 :: fn1 O := by simp [fn1, len]
      have g2 : fn2 ((1 + len nl) :: O) = fn2 O := by simp [fn2, len]
      rw [g1] at t2
      rw [g2] at t1 t3
      refine ⟨τ1, G1, ?_, ?_, t3⟩
      · rw [t1]
        have e9 : i + 1 + (wt k : Int) = i + ((wt (.branch l k nl) : Nat) : Int) := by simp only [wt]; omega
        rw [e9]
      · simp only [txQ, txB, List.append_nil]
        simp only [List.append_assoc, List.cons_append, List.nil_append] at t2 ⊢
        exact t2
    · have hs1 : 0 < len s := by
        rcases Nat.eq_zero_or_pos (len s) with z | z
        · have := len0 z; subst this; exact absurd rfl hs0
        · exact z
      have n1 : ¬ (1 + len s = 1) := by omega
      have g1 : fn1 ((1 + len s) :: O) = [44] := by simp only [fn1]; rw [if_neg n1]
      have g2 : fn2 ((1 + len s) :: O) = len s :: O := by
        simp only [fn2]; rw [if_neg n1]
        have : 1 + len s - 1 = len s := by omega
        rw [this]
      rw [g1] at t2
      rw [g2] at t1 t3
      have ez : (((len s :: O).length : Nat) : Int) = (O.length : Int) + 1 := by simp
      rw [ez] at t1
      have ei : i + 1 + (wt k : Int) = i + 1 + ((wt k : Nat) : Int) := rfl
      obtain ⟨τ, G', u1, u2, u3⟩ := ct_fb (x0 := x0) hN hA hβ hx1 h48 s O τ1 (L ++ (txW nm (cl l) ++ (if wt k = 0 then [] else txB nm 40 k ++ [41])) ++ [44]) G1 (i + 1 + (wt k : Int)) hs0 w4 qs fs t2 t3 hn (by omega) (by omega) (by omega) (by omega) (by rw [List.length_append]; simp only [List.length_cons, List.length_nil]; omega)
      refine ⟨τ, G', ?_, ?_, u3⟩
      · rw [t1, u1]
        have e9 : i + 1 + (wt k : Int) + (wt s : Int) = i + ((wt (.branch l k s) : Nat) : Int) := by simp only [wt]; omega
        rw [e9]
      · simp only [txQ]
        rw [txB_q hs0]
        simp only [List.append_assoc, List.cons_append, List.nil_append] at u2 ⊢
        exact u2
/-- a TERM -/
theorem ct_tm (hN : NC ρ nm) (hA : ArC ρ ar (lb m9)) {β : Nat} (hβ : 2 ≤ β) (h48 : ρ.2.2 48 ≤ 1000000) {x : Tm} {p q : Int} (hq : q = p + (tw x : Int)) (hx1 : q ≤ (ρ.2.2 48 : Int)) (p0 : 0 ≤ p) {σ : zS} {L : List Int} {G : Int → Int} (hw : wf ar (lb m9) (tt x)) (hs : SWm x) (hf : Fl (ρ.2.1 48) p (fl (tt x))) (hS : HS ρ σ L G) (h100 : wt x.2 ≤ 100) (hl : L.length + 34 * (1 + wt x.2) ≤ 19600) : ∃ τ G', jE tH_CP_writeTerm β σ [p, q] = some (τ, 0) ∧ HS ρ τ (L ++ txM nm x) G' := by
  obtain ⟨w1, w2, w3, _⟩ := hw
  obtain ⟨⟨q1, q2, q3, q4⟩, qk⟩ := hs
  obtain ⟨f1, f2⟩ := hf
  obtain ⟨fk, _⟩ := Fl_app.mp f2
  have et : tw x = 1 + wt x.2 := rfl
  have hz : zb p (ρ.2.2 48) := ⟨p0, by omega⟩
  have hht := ht_le_wt x.2
  have hlk := len_le_wt x.2
  have hd0 : jE tH_CP_writeTerm β σ [p, q] = jE tH_CP_writeTerm_p5 β σ [p, q, 0, p] := by
    rw [jq_CP_writeTerm, kJ_CP_writeTerm]
  have hd : jE tH_CP_writeTerm β σ [p, q] = jE tH_CP_writeTerm_p5 β σ [p, q, (([] : List Nat).length : Int), p] := hd0
  have hend : ∀ τ : zS, jE tH_CP_writeTerm_p5 β τ [p, q, (([] : List Nat).length : Int), q] = some (τ, 0) := fun τ => by
    rw [jq_CP_writeTerm_p5, kJ_CP_writeTerm_p5, if_pos (Int.le_refl q)]
  unfold txM
  by_cases hk : wt x.2 = 0
  · rw [if_pos hk, List.append_nil]
    obtain ⟨τ, G', t1, t2, t3⟩ := ct_sy (x0 := p) (x1 := q) hN hA hβ (O := []) hS trivial (fun n hn => by cases hn) (by simp) (by omega) hz h48 f1 w2 q1 q3 (w1.symm.trans (by omega)) (by omega)
    refine ⟨τ, G', ?_, ?_⟩
    · have e9 : p + 1 = q := by omega
      rw [hd, t1, e9]; exact hend τ
    · have t2 : HS ρ τ (L ++ txW nm (cl x.1) ++ []) G' := t2
      rw [List.append_nil] at t2; exact t2
  · rw [if_neg hk]
    have c0 : ¬ cl x.1 < 0 := fun z => hk (q4 z)
    rw [if_neg c0] at w1
    have hk1 : 0 < len x.2 := by
      rcases Nat.eq_zero_or_pos (len x.2) with z | z
      · have := len0 z; rw [this] at hk; exact absurd rfl hk
      · exact z
    obtain ⟨τ1, G1, t1, t2, t3⟩ := ct_op (x0 := p) (x1 := q) hN hA hβ (O := []) hS trivial (by simp) (by omega) hz h48 f1 w2 (by omega) q3 (by omega) (by omega) (by omega)
    rw [← w1] at t1 t3
    have hW := cxW_len hN (cl x.1)
    obtain ⟨τ, G', u1, u2, u3⟩ := ct_fb (x0 := p) hN hA hβ hx1 h48 x.2 [] τ1 (L ++ txW nm (cl x.1) ++ [40]) G1 (p + 1) hk w3 qk fk t2 t3 (fun n hn => by cases hn) (by simp only [List.length_nil]; omega) (by omega) (by omega) (by omega) (by simp only [List.length_append, List.length_cons, List.length_nil]; omega)
    refine ⟨τ, G', ?_, ?_⟩
    · have e9 : p + 1 + (wt x.2 : Int) = q := by omega
      have ez : (((len x.2 :: []).length : Nat) : Int) = ((([] : List Nat).length : Nat) : Int) + 1 := by simp
      rw [ez] at t1
      rw [hd, t1, u1, e9]; exact hend τ
    · have u2 : HS ρ τ (L ++ txW nm (cl x.1) ++ [40] ++ txQ nm x.2 ++ [41] ++ []) G' := u2
      rw [txB_q hk]
      simp only [List.append_assoc, List.cons_append, List.nil_append, List.append_nil] at u2 ⊢
      exact u2
end
