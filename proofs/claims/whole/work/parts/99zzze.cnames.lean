/-! NAMES of the TEXT in the class -/
/-- the letters of a WORD -/
theorem wep_iw {X : Int → Int} {n : Int} : ∀ (k : Nat) (p i : Int), p ≤ i → i < wep X n k p → cIw (X i)
  | 0, p, i, h1, h2 => by
    have : wep X n 0 p = p := rfl
    omega
  | k + 1, p, i, h1, h2 => by
    unfold wep at h2
    by_cases hn : n ≤ p
    · rw [if_pos hn] at h2; omega
    rw [if_neg hn] at h2
    by_cases hw : cIw (X p)
    · rw [if_pos hw] at h2
      by_cases hi : i = p
      · rw [hi]; exact hw
      · exact wep_iw k (p + 1) i (by omega) h2
    · rw [if_neg hw] at h2; omega
theorem tk_iw {X : Int → Int} {n p : Int} (h : tk X n p = 2 ∨ tk X n p = 1) {i : Int} (h1 : tq X n p ≤ i) (h2 : i < te X n p) : cIw (X i) := by
  unfold tk at h
  unfold te at h2
  unfold tq at h1
  unfold tok at h h2
  by_cases hn : n ≤ sk X n p
  · rw [if_pos hn] at h; rcases h with h | h <;> cases h
  rw [if_neg hn] at h h2
  by_cases hl : cLt (X (sk X n p))
  · rw [if_pos hl] at h2
    exact wep_iw _ _ i h1 h2
  · rw [if_neg hl] at h
    exfalso
    unfold sgn at h
    revert h
    repeat' split
    all_goals (intro h; simp_all <;> omega)
theorem CTX.w {X Y : Int → Int} {n p : Int} (hC : CTX X Y n) (h0 : 0 ≤ p) (hp : p ≤ n) (h : tk X n p = 2 ∨ tk X n p = 1) {i : Int} (h1 : tq X n p ≤ i) (h2 : i < te X n p) : Y i = X i ∧ 0 ≤ X i ∧ X i ≤ 127 := by
  obtain ⟨q0, _, q2⟩ := tqe (X := X) h0 hp
  have := tk_iw h h1 h2
  unfold cIw cLt at this
  rcases hC i (by omega) (by omega) with ⟨a, b, e⟩ | ⟨a, b, e⟩
  · exact ⟨e, a, b⟩
  · omega
def nmC : PN → List Int
  | [] => []
  | x :: L => x.1 ++ nmC L
theorem nmC_app (A B : PN) : nmC (A ++ B) = nmC A ++ nmC B := by
  induction A with
  | nil => rfl
  | cons x A ih => simp only [List.cons_append, nmC, ih, List.append_assoc]
theorem nmC_len (A : PN) : (nmC A).length = nmL A := by
  induction A with
  | nil => rfl
  | cons x A ih => simp only [nmC, nmL, List.length_append, ih]
theorem nmC_get {nm : PN} {i j : Nat} {x : List Int × Int × Int} {c : Int} (h : nm[i]? = some x) (hc : x.1[j]? = some c) : (nmC nm)[nmL (nm.take i) + j]? = some c := by
  have hi := (List.getElem?_eq_some_iff.mp h).1
  have hd : nm = nm.take i ++ x :: nm.drop (i + 1) := by
    have h1 := (List.take_append_drop i nm).symm
    rw [List.drop_eq_getElem_cons hi, (List.getElem?_eq_some_iff.mp h).2] at h1
    exact h1
  have hj := (List.getElem?_eq_some_iff.mp hc).1
  have e : nmC nm = nmC (nm.take i) ++ (x.1 ++ nmC (nm.drop (i + 1))) := by
    conv => lhs; rw [hd, nmC_app]
    rfl
  rw [e, List.getElem?_append_right (by rw [nmC_len]; omega), nmC_len, Nat.add_sub_cancel_left, List.getElem?_append_left hj]
  exact hc
def CNm (σ : zS) (nm : PN) : Prop := σ.1 604 = (nm.length : Int) ∧ nm.length ≤ 250 ∧ (∀ x ∈ nm, x.1.length ≤ 31) ∧ σ.1 605 = (nm.length : Int) + 1 ∧ (RowC σ 1001 11 (nmC nm) ∧ σ.2.2 11 ≤ 30000 ∧ σ.2.1 7 0 = 0 ∧ σ.2.1 12 0 = 1) ∧ ∀ (i : Nat) x, nm[i]? = some x → σ.2.1 9 ((i : Int) + 1) = (x.1.length : Int) ∧ σ.2.1 8 ((i : Int) + 1) = (nmL (nm.take i) : Int) ∧ σ.2.1 12 ((i : Int) + 1) = x.2.1 ∧ (x.2.1 ≠ 0 → σ.2.1 7 ((i : Int) + 1) = x.2.2)
theorem nu_12 {X Y : Int → Int} {n : Int} {β : Nat} {σ : zS} {nm : PN} {p : Int} {i : Nat} {x : List Int × Int × Int} (hC : CTX X Y n) (hT : CTk X Y n σ p) (hk : tk X n p = 2 ∨ tk X n p = 1) (hN : CNm σ nm) (hx : nm[i]? = some x) : ∀ (k j : Nat), j + k = x.1.length → (∀ u : Nat, u < j → x.1[u]? = some (X (tq X n p + (u : Int)))) → ((j : Int) ≤ te X n p - tq X n p) → yE tG_Sym_numberOf_p12 β σ [(i : Int) + 1, (j : Int)] = (if x.1 = wd X (tq X n p) (te X n p) then some (σ, (i : Int) + 1) else yE tG_Sym_numberOf_p2 β σ [(i : Int) + 1 + 1]) := by
  obtain ⟨⟨a1, a2, a3, a4, a5, a6⟩, c2, c3, c4, c5, c6, _⟩ := hT
  obtain ⟨n1, n2, n3, n4, ⟨n5, n5'⟩, n6⟩ := hN
  obtain ⟨d1, d2, d3, d4⟩ := n6 i x hx
  have hi := (List.getElem?_eq_some_iff.mp hx).1
  have hpt := nmL_part hx
  have h8 := nmL_le n3
  obtain ⟨q0, q1, q2⟩ := tqe (X := X) a4 a5
  have hxl := n3 x (List.mem_of_getElem? hx)
  have hrl := n5.2.1
  rw [nmC_len] at hrl
  have end_ : ∀ j : Nat, j ≤ x.1.length → (j : Int) ≤ te X n p - tq X n p → (∀ u : Nat, u < j → x.1[u]? = some (X (tq X n p + (u : Int)))) → (j = x.1.length ∨ (j : Int) = te X n p - tq X n p ∨ x.1[j]? ≠ some (X (tq X n p + (j : Int)))) → yE tG_Sym_numberOf_p66 β σ [(i : Int) + 1, (j : Int)] = (if x.1 = wd X (tq X n p) (te X n p) then some (σ, (i : Int) + 1) else yE tG_Sym_numberOf_p2 β σ [(i : Int) + 1 + 1]) := fun j hj hje hu hs => by
    have e86 : yE tG_Sym_numberOf_p86 β σ [(i : Int) + 1, (j : Int)] = yE tG_Sym_numberOf_p2 β σ [(i : Int) + 1 + 1] := by
      rw [yq_Sym_numberOf_p86, kY_Sym_numberOf_p86, if_pos ⟨by omega, by omega⟩]
    rw [yq_Sym_numberOf_p66, kY_Sym_numberOf_p66, if_pos ⟨by omega, by show (i : Int) + 1 < ((251 : Nat) : Int); omega⟩, d1, c4]
    by_cases h1 : (j : Int) = (x.1.length : Int)
    · rw [if_pos h1]
      by_cases h2 : (j : Int) = te X n p - tq X n p
      · rw [if_pos h2, if_pos]
        exact wd_eq.mpr ⟨by omega, fun u hu2 => hu u (by omega)⟩
      · rw [if_neg h2, e86, if_neg]
        intro he
        have := (wd_eq.mp he).1
        omega
    · rw [if_neg h1, e86, if_neg]
      intro he
      obtain ⟨w1, w2⟩ := wd_eq.mp he
      rcases hs with hs | hs | hs
      · omega
      · omega
      · exact hs (w2 j (by omega))
  intro k
  induction k with
  | zero =>
    intro j hj hu hje
    rw [yq_Sym_numberOf_p12, kY_Sym_numberOf_p12, if_pos ⟨by omega, by show (i : Int) + 1 < ((251 : Nat) : Int); omega⟩, d1, if_pos (by omega)]
    exact end_ j (by omega) hje hu (Or.inl (by omega))
  | succ k ih =>
    intro j hj hu hje
    rw [yq_Sym_numberOf_p12, kY_Sym_numberOf_p12, if_pos ⟨by omega, by show (i : Int) + 1 < ((251 : Nat) : Int); omega⟩, d1, if_neg (by omega), c4]
    by_cases h2 : te X n p - tq X n p ≤ (j : Int)
    · rw [if_pos h2]
      exact end_ j (by omega) hje hu (Or.inr (Or.inl (by omega)))
    rw [if_neg h2, d2, c3]
    obtain ⟨c, hc⟩ : ∃ c, x.1[j]? = some c := ⟨_, List.getElem?_eq_getElem (by omega)⟩
    have hcell : σ.2.1 11 ((nmL (nm.take i) : Int) + (j : Int)) = c := by
      have := Fl_get n5.2.2.2 (nmC_get hx hc)
      rw [show (0 : Int) + ((nmL (nm.take i) + j : Nat) : Int) = (nmL (nm.take i) : Int) + (j : Int) by omega] at this
      exact this
    have hy := hC.w a4 a5 hk (i := tq X n p + (j : Int)) (by omega) (by omega)
    rw [if_pos ⟨by omega, by omega⟩, if_pos ⟨by omega, by omega⟩, if_pos ⟨by omega, by omega⟩, if_pos ⟨by omega, by omega⟩, hcell, a1, hy.1]
    by_cases he : c = X (tq X n p + (j : Int))
    · rw [if_pos he, if_pos ⟨by omega, by omega⟩]
      have := ih (j + 1) (by omega) (fun u hu2 => by
        by_cases hu3 : u = j
        · rw [hu3, hc, he]
        · exact hu u (by omega)) (by omega)
      rw [show ((j + 1 : Nat) : Int) = (j : Int) + 1 by omega] at this
      exact this
    · rw [if_neg he]
      exact end_ j (by omega) hje hu (Or.inr (Or.inr (by rw [hc]; intro h; exact he (Option.some.inj h))))
theorem nu_2 {X Y : Int → Int} {n : Int} {β : Nat} {σ : zS} {nm : PN} {p : Int} (hC : CTX X Y n) (hT : CTk X Y n σ p) (hk : tk X n p = 2 ∨ tk X n p = 1) (hN : CNm σ nm) : ∀ (k i : Nat), i + k = nm.length → yE tG_Sym_numberOf_p2 β σ [(i : Int) + 1] = (match nmF (wd X (tq X n p) (te X n p)) (nm.drop i) ((i : Int) + 1) with
      | some r => some (σ, r)
      | none => yE tG_Sym_numberOf_p2 β σ [(nm.length : Int) + 1])
  | 0, i, hi => by
    rw [List.drop_eq_nil_iff.mpr (by omega)]
    show _ = yE tG_Sym_numberOf_p2 β σ [(nm.length : Int) + 1]
    rw [show i = nm.length by omega]
  | k + 1, i, hi => by
    obtain ⟨x, hx⟩ : ∃ x, nm[i]? = some x := ⟨_, List.getElem?_eq_getElem (by omega)⟩
    have hd : nm.drop i = x :: nm.drop (i + 1) := by
      rw [List.drop_eq_getElem_cons (by omega)]
      congr 1
      exact (List.getElem?_eq_some_iff.mp hx).2
    have ih := nu_2 (β := β) hC hT hk hN k (i + 1) (by omega)
    obtain ⟨q0, q1, q2⟩ := tqe (X := X) hT.1.2.2.2.1 hT.1.2.2.2.2.1
    have e12 := nu_12 (β := β) hC hT hk hN hx x.1.length 0 (by omega) (fun u hu => absurd hu (by omega)) (by omega)
    rw [hd]
    conv => lhs; rw [yq_Sym_numberOf_p2, kY_Sym_numberOf_p2, if_neg (by rw [hN.1]; omega)]
    rw [show (0 : Int) = ((0 : Nat) : Int) from rfl, e12]
    unfold nmF
    by_cases hw : x.1 = wd X (tq X n p) (te X n p)
    · rw [if_pos hw, if_pos hw]
    · rw [if_neg hw, if_neg hw]
      rw [show (((i + 1 : Nat) : Int)) = (i : Int) + 1 by omega] at ih
      exact ih
theorem nu_165 {X Y : Int → Int} {n : Int} {β : Nat} {p : Int} (hC : CTX X Y n) (hk : tk X n p = 2 ∨ tk X n p = 1) : ∀ (k j : Nat) (σ : zS) (A : List Int), CTk X Y n σ p → RowC σ 1001 11 A → σ.2.2 11 ≤ 30000 → A.length + k ≤ 9000 → Mb σ → RL σ → (j : Int) + (k : Int) = te X n p - tq X n p → ∃ τ, yE tG_Sym_numberOf_p165 β σ [(j : Int)] = some (τ, σ.1 604) ∧ RowC τ 1001 11 (A ++ (wd X (tq X n p) (te X n p)).drop j) ∧ τ.2.2 11 ≤ 30000 ∧ FrC [1001] [11] σ τ ∧ Mb τ ∧ RL τ
  | 0, j, σ, A, hT, hA, hl, hAl, hM, hL, hj => by
    refine ⟨σ, ?_, ?_, hl, FrC.refl, hM, hL⟩
    · rw [yq_Sym_numberOf_p165, kY_Sym_numberOf_p165, hT.2.2.2.1, if_pos (by omega)]
    · rw [List.drop_eq_nil_iff.mpr (by rw [wd_len]; omega), List.append_nil]; exact hA
  | k + 1, j, σ, A, hT, hA, hl, hAl, hM, hL, hj => by
    obtain ⟨⟨a1, a2, a3, a4, a5, a6⟩, c2, c3, c4, c5, c6, c7⟩ := id hT
    obtain ⟨q0, q1, q2⟩ := tqe (X := X) a4 a5
    have hy := hC.w a4 a5 hk (i := tq X n p + (j : Int)) (by omega) (by omega)
    obtain ⟨r1, r2, r3, r4, r5, r6⟩ := radd (x := X (tq X n p + (j : Int))) (B := 30000) hA hM hL (by omega) hl (by omega)
    obtain ⟨σ1, hs1⟩ : ∃ s, s = zAdd σ 1001 11 (X (tq X n p + (j : Int))) := ⟨_, rfl⟩
    rw [← hs1] at r2 r3 r4 r5 r6
    have hT1 : CTk X Y n σ1 p := by
      have l2 : σ1.2.2 2 = σ.2.2 2 := r3.l 2
      refine ⟨⟨by funext i; rw [r3.a 2 i]; exact congrFun a1 i, by rw [l2]; exact a2, by rw [r3.i 3201]; exact a3, a4, a5, a6⟩, by rw [r3.i 3202]; exact c2, by rw [r3.i 3203]; exact c3, by rw [r3.i 3204]; exact c4, by rw [r3.i 3205]; exact c5, by rw [r3.i 3206]; exact c6, by rw [r3.i 3207]; exact c7⟩
    obtain ⟨τ, e1, t1, t2, t3, t4, t5⟩ := nu_165 (β := β) hC hk k (j + 1) σ1 _ hT1 r2 r6 (by simp; omega) r4 r5 (by omega)
    refine ⟨τ, ?_, ?_, t2, r3.trans t3, t4, t5⟩
    · rw [yq_Sym_numberOf_p165, kY_Sym_numberOf_p165, c4, if_neg (by omega), c3, if_pos ⟨by omega, by omega⟩, if_pos ⟨by omega, by omega⟩, if_pos r1, a1, hy.1, ← hs1, lt_e, if_pos ⟨by omega, by omega⟩, show (j : Int) + 1 = ((j + 1 : Nat) : Int) by omega, e1, r3.i 604]
    · have hd : (wd X (tq X n p) (te X n p)).drop j = X (tq X n p + (j : Int)) :: (wd X (tq X n p) (te X n p)).drop (j + 1) := by
        have hjl : j < (wd X (tq X n p) (te X n p)).length := by rw [wd_len]; omega
        rw [List.drop_eq_getElem_cons hjl]
        congr 1
        have := wd_get (X := X) (q := tq X n p) (e := te X n p) (j := j) (by omega)
        exact (List.getElem?_eq_some_iff.mp this).2
      rw [hd]
      rw [List.append_assoc] at t1
      exact t1
theorem CTk.f {X Y : Int → Int} {n : Int} {σ τ : zS} {p : Int} {I A : List Nat} (h : CTk X Y n σ p) (f : FrC I A σ τ) (hI : I.all (fun j => decide (¬ (3201 ≤ j ∧ j ≤ 3207))) = true := by decide) (hA : A.elem 2 = false := by decide) : CTk X Y n τ p := by
  obtain ⟨⟨a1, a2, a3, a4, a5, a6⟩, c2, c3, c4, c5, c6, c7⟩ := h
  have hi : ∀ j, 3201 ≤ j ∧ j ≤ 3207 → τ.1 j = σ.1 j := fun j hj => f.1 j (by
    cases h9 : I.elem j with
    | false => rfl
    | true =>
      have := List.all_eq_true.mp hI j (List.elem_iff.mp h9)
      simp at this
      omega)
  refine ⟨⟨by funext i; rw [f.2.1 2 i hA]; exact congrFun a1 i, by rw [f.2.2.1 2 hA (by decide) (by decide)]; exact a2, by rw [hi 3201 (by decide)]; exact a3, a4, a5, a6⟩, by rw [hi 3202 (by decide)]; exact c2, by rw [hi 3203 (by decide)]; exact c3, by rw [hi 3204 (by decide)]; exact c4, by rw [hi 3205 (by decide)]; exact c5, by rw [hi 3206 (by decide)]; exact c6, by rw [hi 3207 (by decide)]; exact c7⟩
theorem cnumber_ok {X Y : Int → Int} {n : Int} {β : Nat} {σ : zS} {st : PS} (hC : CTX X Y n) (hT : CTk X Y n σ st.1) (hk : tk X n st.1 = 2 ∨ tk X n st.1 = 1) (hN : CNm σ st.2.1) (hM : Mb σ) (hL : RL σ) {r : (Int × Int) ⊕ (PS × Int)} (hr : symS X n st = some r) :
    (∀ e, r = .inl e → e = (3, tq X n st.1) ∧ yE tG_Sym_numberOf β σ [] = some (σ, -1)) ∧ (∀ a, r = .inr a → ∃ τ, yE tG_Sym_numberOf β σ [] = some (τ, a.2) ∧ CNm τ a.1.2.1 ∧ FrC [604, 605, 1001] [8, 9, 11, 12] σ τ ∧ Mb τ ∧ RL τ ∧ 1 ≤ a.2 ∧ a.2 ≤ 250) := by
  obtain ⟨n1, n2, n3, n4, ⟨n5, n5'⟩, n6⟩ := id hN
  have h8 := nmL_le n3
  obtain ⟨q0, q1, q2⟩ := tqe (X := X) hT.1.2.2.2.1 hT.1.2.2.2.2.1
  have h31 := tk2 (X := X) hk hT.1.2.2.2.2.1
  have e2 := nu_2 (β := β) hC hT hk hN _ 0 (by omega : 0 + st.2.1.length = st.2.1.length)
  rw [List.drop_zero, show ((0 : Nat) : Int) + 1 = 1 by omega] at e2
  have e0 : yE tG_Sym_numberOf β σ [] = yE tG_Sym_numberOf_p2 β σ [1] := by rw [yq_Sym_numberOf, kY_Sym_numberOf]
  rw [e0, e2]
  unfold symS at hr
  cases hm : nmF (wd X (tq X n st.1) (te X n st.1)) st.2.1 1 with
  | some k =>
    rw [hm] at hr
    cases hr
    have hk1 := nmF_r hm
    refine ⟨fun e he => (by cases he), fun a ha => ?_⟩
    cases ha
    exact ⟨σ, rfl, hN, FrC.refl, hM, hL, hk1.1, by omega⟩
  | none =>
    rw [hm] at hr
    dsimp only at hr
    show (∀ e, r = .inl e → e = (3, tq X n st.1) ∧ yE tG_Sym_numberOf_p2 β σ [(st.2.1.length : Int) + 1] = some (σ, -1)) ∧ (∀ a, r = .inr a → ∃ τ, yE tG_Sym_numberOf_p2 β σ [(st.2.1.length : Int) + 1] = some (τ, a.2) ∧ _)
    rw [yq_Sym_numberOf_p2, kY_Sym_numberOf_p2, if_pos (by omega), n1]
    by_cases h250 : st.2.1.length = 250
    · rw [if_pos h250] at hr
      cases hr
      refine ⟨fun e he => ?_, fun a ha => (by cases ha)⟩
      cases he
      rw [if_pos (by omega)]
      exact ⟨rfl, rfl⟩
    · rw [if_neg h250] at hr
      cases hr
      refine ⟨fun e he => (by cases he), fun a ha => ?_⟩
      cases ha
      rw [if_neg (by omega), if_pos ⟨by omega, by omega⟩]
      obtain ⟨N, hN9⟩ : ∃ N : Int, N = (st.2.1.length : Int) + 1 := ⟨_, rfl⟩
      rw [← hN9, lt_e, zI_1, if_pos ⟨by omega, by omega⟩, lt_e, zI_o, zI_1, if_pos ⟨by omega, by show N < ((551 : Nat) : Int); omega⟩, lt_e]
      obtain ⟨σ5, hs5⟩ : ∃ s, s = zA (zA (zA (zI (zI σ 604 N) 605 (N + 1)) 12 N 0) 8 N (σ.1 1001)) 9 N (σ.1 3204) := ⟨_, rfl⟩
      have f5 : (if zb ((zA (zI (zI σ 604 N) 605 (N + 1)) 12 N 0).1 604) 251 then lt_ (zA (zA (zI (zI σ 604 N) 605 (N + 1)) 12 N 0) 8 ((zA (zI (zI σ 604 N) 605 (N + 1)) 12 N 0).1 604) ((zA (zI (zI σ 604 N) 605 (N + 1)) 12 N 0).1 1001)) (fun σ4 => if zb (σ4.1 604) 251 then (lt_ (zA σ4 9 (σ4.1 604) (σ4.1 3204)) (fun σ5 => yE tG_Sym_numberOf_p165 β σ5 [0])) else none) else none) = yE tG_Sym_numberOf_p165 β σ5 [0] := by
        have j604 : (zA (zI (zI σ 604 N) 605 (N + 1)) 12 N 0).1 604 = N := by simp [zA, zI]
        have j1001 : (zA (zI (zI σ 604 N) 605 (N + 1)) 12 N 0).1 1001 = σ.1 1001 := by simp [zA, zI]
        have k604 : (zA (zA (zI (zI σ 604 N) 605 (N + 1)) 12 N 0) 8 N (σ.1 1001)).1 604 = N := by simp [zA, zI]
        have k3204 : (zA (zA (zI (zI σ 604 N) 605 (N + 1)) 12 N 0) 8 N (σ.1 1001)).1 3204 = σ.1 3204 := by simp [zA, zI]
        rw [j604, j1001, if_pos ⟨by omega, by show N < ((251 : Nat) : Int); omega⟩, lt_e, k604, k3204, if_pos ⟨by omega, by show N < ((251 : Nat) : Int); omega⟩, lt_e, ← hs5]
      rw [f5]
      have r5 : σ.1 1001 = ((nmC st.2.1).length : Int) := n5.1
      rw [nmC_len] at r5
      have fr5 : FrC [604, 605] [8, 9, 12] σ σ5 := by
        rw [hs5]
        exact FrC.trans (FrC.trans (FrC.trans (FrC.trans FrC_I FrC_I) FrC_A) FrC_A) FrC_A
      have hT5 : CTk X Y n σ5 st.1 := hT.f fr5
      have hA5 : RowC σ5 1001 11 (nmC st.2.1) := n5.f fr5
      obtain ⟨τ, e1, t1, t2, t3, t4, t5⟩ := nu_165 (β := β) hC hk (te X n st.1 - tq X n st.1).toNat 0 σ5 _ hT5 hA5 (by rw [fr5.l 11]; exact n5'.1) (by rw [nmC_len]; omega) (hM.m fr5.2.2.2) (fun j hj => by
        have hm : j ∈ rws := List.elem_iff.mp hj
        simp only [rws, List.mem_cons, List.not_mem_nil, or_false] at hm
        rw [fr5.2.2.1 j (by rcases hm with h | h | h | h | h | h | h | h | h | h | h | h | h | h | h | h <;> (subst h; decide)) (by omega) (by omega)]
        exact hL j hj) (by omega)
      have e1 : yE tG_Sym_numberOf_p165 β σ5 [0] = some (τ, σ5.1 604) := e1
      rw [e1]
      have g604 : σ5.1 604 = N := by simp [hs5, zA, zI]
      have hlen : (st.2.1 ++ [(wd X (tq X n st.1) (te X n st.1), (0 : Int), (0 : Int))]).length = st.2.1.length + 1 := by simp
      refine ⟨τ, by rw [g604], ?_, fr5.w.trans t3.w, t4, t5, by show 1 ≤ N; omega, by show N ≤ 250; omega⟩
      have b9 : τ.2.1 9 = (zA σ 9 N (σ.1 3204)).2.1 9 := by funext q; rw [t3.a 9 q, hs5]; simp [zA, zI]
      have b8 : τ.2.1 8 = (zA σ 8 N (σ.1 1001)).2.1 8 := by funext q; rw [t3.a 8 q, hs5]; simp [zA, zI]
      have b12 : τ.2.1 12 = (zA σ 12 N 0).2.1 12 := by funext q; rw [t3.a 12 q, hs5]; simp [zA, zI]
      have b7 : τ.2.1 7 = σ.2.1 7 := by funext q; rw [t3.a 7 q, hs5]; simp [zA, zI]
      refine ⟨by rw [t3.i 604, g604, hlen]; omega, by rw [hlen]; omega, fun x hx => ?_, by rw [t3.i 605, hlen]; simp [hs5, zA, zI]; omega, ⟨?_, t2, by rw [b7]; exact n5'.2.1, by rw [b12, zA_q (by omega)]; exact n5'.2.2⟩, fun i x hx => ?_⟩
      · rcases List.mem_append.mp hx with hx | hx
        · exact n3 x hx
        · cases List.mem_singleton.mp hx
          show (wd X (tq X n st.1) (te X n st.1)).length ≤ 31
          rw [wd_len]; omega
      · show RowC τ 1001 11 (nmC (st.2.1 ++ [(wd X (tq X n st.1) (te X n st.1), (0 : Int), (0 : Int))]))
        rw [nmC_app]
        rw [List.drop_zero] at t1
        show RowC τ 1001 11 (nmC st.2.1 ++ (wd X (tq X n st.1) (te X n st.1) ++ []))
        rw [List.append_nil]
        exact t1
      · rw [b9, b8, b12, b7]
        by_cases hi : i < st.2.1.length
        · rw [List.getElem?_append_left hi] at hx
          obtain ⟨d1, d2, d3, d4⟩ := n6 i x hx
          rw [List.take_append_of_le_length (by omega), zA_q (by omega), zA_q (by omega), zA_q (by omega)]
          exact ⟨d1, d2, d3, d4⟩
        · have hi2 : i = st.2.1.length := by
            have := (List.getElem?_eq_some_iff.mp hx).1
            rw [hlen] at this; omega
          subst hi2
          rw [List.getElem?_append_right (Nat.le_refl _), Nat.sub_self] at hx
          cases hx
          rw [List.take_left, ← hN9, zA_s, zA_s, zA_s, r5, hT.2.2.2.1]
          refine ⟨?_, rfl, rfl, fun h => absurd rfl h⟩
          show te X n st.1 - tq X n st.1 = ((wd X (tq X n st.1) (te X n st.1)).length : Int)
          rw [wd_len]; omega
