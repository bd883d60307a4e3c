/-! the class shows: what is written, and what else changes -/
/-- σ is ρ with the TEXT L written, and G in the row of open TERMS -/
def HS (ρ σ : zS) (L : List Int) (G : Int → Int) : Prop := RowC σ 301 4 L ∧ FrC [301] [4, 5] ρ σ ∧ (σ.2.2 4 ≤ 50000 ∧ Mb ρ ∧ RL ρ) ∧ ∀ q, σ.2.1 5 q = G q
theorem HS.rok {ρ σ : zS} {L : List Int} {G : Int → Int} (h : HS ρ σ L G) : zrok σ 301 4 := by
  obtain ⟨h1, h2, ⟨h3, h4, h5⟩, h6⟩ := h
  refine zrok_of (h4.m h2.2.2.2) (fun j hj => ?_) h1
  by_cases e : j = 4
  · subst e; omega
  · have hm : j ∈ rws := List.elem_iff.mp hj
    have e5 : j ≠ 5 ∧ j ≠ 3001 ∧ j ≠ 3002 := by
      simp only [rws, List.mem_cons, List.not_mem_nil, or_false] at hm; omega
    have e45 : ([4, 5] : List Nat).elem j = false := by
      cases hq : ([4, 5] : List Nat).elem j with
      | false => rfl
      | true =>
        have := List.elem_iff.mp hq
        simp only [List.mem_cons, List.not_mem_nil, or_false] at this
        omega
    rw [h2.2.2.1 j e45 e5.2.1 e5.2.2]; exact h5 j hj
theorem HS.add {ρ σ : zS} {L : List Int} {G : Int → Int} (h : HS ρ σ L G) (hl : L.length ≤ 19999) (x : Int) : zrok σ 301 4 ∧ HS ρ (zAdd σ 301 4 x) (L ++ [x]) G := by
  refine ⟨h.rok, ?_⟩
  obtain ⟨h1, h2, ⟨h3, h4, h5⟩, h6⟩ := h
  obtain ⟨a1, a2, a3⟩ := zAdd_row (x := x) h1
  have a2' : FrC [301] [4, 5] σ (zAdd σ 301 4 x) := a2.w
  refine ⟨a1, h2.trans a2', ⟨?_, h4, h5⟩, fun q => ?_⟩
  · rcases a3 with z | z <;> omega
  · rw [a2.a 5 q]; exact h6 q
theorem HS.ar5 {ρ σ : zS} {L : List Int} {G : Int → Int} (h : HS ρ σ L G) {i x : Int} : HS ρ (zA σ 5 i x) L (fun q => if q = i then x else G q) := by
  refine ⟨h.1.q rfl (fun q => zA_j) rfl, h.2.1.trans FrC_A, h.2.2.1, fun q => ?_⟩
  by_cases e : q = i
  · show (zA σ 5 i x).2.1 5 q = (if q = i then x else G q)
    rw [if_pos e, e]; exact zA_s
  · show (zA σ 5 i x).2.1 5 q = (if q = i then x else G q)
    rw [if_neg e, zA_i e]; exact h.2.2.2 q
/-! NUMBERS -/
theorem cn_st {β : Nat} {σ : zS} (h : zrok σ 301 4) {n u v : Nat} (hn : n < 1000) (hu : 0 < u) (h100 : u ≤ 100) (hv : u / 10 = v) : jE tH_CP_writeNumber_p24 β σ [(n : Int), (u : Int)] = jE tH_CP_writeNumber_p24 β (zAdd σ 301 4 (48 + ((n / u % 10 : Nat) : Int))) [(n : Int), (v : Int)] := by
  have e1 : Int.tdiv (n : Int) (u : Int) = ((n / u : Nat) : Int) := rfl
  have e2 : Int.tmod ((n / u : Nat) : Int) 10 = ((n / u % 10 : Nat) : Int) := rfl
  have e3 : Int.tdiv (u : Int) 10 = ((u / 10 : Nat) : Int) := rfl
  have l1 := Nat.div_le_self n u
  have l3 : n / u % 10 < 10 := Nat.mod_lt _ (by decide)
  generalize hq : n / u = a at e1 e2 l1 l3 ⊢
  rw [jq_CP_writeNumber_p24, kJ_CP_writeNumber_p24, if_neg (by omega), if_neg (by omega), e1, e2, if_pos (show zr ((a : Nat) : Int) from ⟨by omega, by omega⟩), if_pos (show zr (48 + ((a % 10 : Nat) : Int)) from ⟨by omega, by omega⟩), if_pos h, lt_e, e3, if_pos (show zr ((u / 10 : Nat) : Int) from ⟨by omega, by omega⟩), hv]
theorem cn_0 {β : Nat} {σ : zS} {n : Int} : jE tH_CP_writeNumber_p24 β σ [n, ((0 : Nat) : Int)] = some (σ, 0) := by
  rw [jq_CP_writeNumber_p24, kJ_CP_writeNumber_p24, if_pos (by decide)]
theorem cn_1 {β : Nat} {ρ σ : zS} {L : List Int} {G : Int → Int} (h : HS ρ σ L G) (hl : L.length ≤ 19999) {n : Nat} (hn : n < 1000) : ∃ τ, jE tH_CP_writeNumber_p24 β σ [(n : Int), ((1 : Nat) : Int)] = some (τ, 0) ∧ HS ρ τ (L ++ [48 + ((n % 10 : Nat) : Int)]) G := by
  obtain ⟨k1, k2⟩ := h.add hl (48 + ((n % 10 : Nat) : Int))
  refine ⟨_, ?_, k2⟩
  rw [cn_st (u := 1) (v := 0) k1 hn (by decide) (by decide) (by decide), Nat.div_one, cn_0]
theorem cn_10 {β : Nat} {ρ σ : zS} {L : List Int} {G : Int → Int} (h : HS ρ σ L G) (hl : L.length ≤ 19998) {n : Nat} (hn : n < 1000) : ∃ τ, jE tH_CP_writeNumber_p24 β σ [(n : Int), ((10 : Nat) : Int)] = some (τ, 0) ∧ HS ρ τ (L ++ [48 + ((n / 10 % 10 : Nat) : Int), 48 + ((n % 10 : Nat) : Int)]) G := by
  obtain ⟨k1, k2⟩ := h.add (by omega) (48 + ((n / 10 % 10 : Nat) : Int))
  obtain ⟨τ, t1, t2⟩ := cn_1 (β := β) k2 (by simp; omega) hn
  refine ⟨τ, ?_, ?_⟩
  · rw [cn_st (u := 10) (v := 1) k1 hn (by decide) (by decide) (by decide)]; exact t1
  · rw [List.append_assoc] at t2; exact t2
theorem cn_100 {β : Nat} {ρ σ : zS} {L : List Int} {G : Int → Int} (h : HS ρ σ L G) (hl : L.length ≤ 19997) {n : Nat} (hn : n < 1000) : ∃ τ, jE tH_CP_writeNumber_p24 β σ [(n : Int), ((100 : Nat) : Int)] = some (τ, 0) ∧ HS ρ τ (L ++ [48 + ((n / 100 % 10 : Nat) : Int), 48 + ((n / 10 % 10 : Nat) : Int), 48 + ((n % 10 : Nat) : Int)]) G := by
  obtain ⟨k1, k2⟩ := h.add (by omega) (48 + ((n / 100 % 10 : Nat) : Int))
  obtain ⟨τ, t1, t2⟩ := cn_10 (β := β) k2 (by simp; omega) hn
  refine ⟨τ, ?_, ?_⟩
  · rw [cn_st (u := 100) (v := 10) k1 hn (by decide) (by decide) (by decide)]; exact t1
  · rw [List.append_assoc] at t2; exact t2
theorem cnum_ok {β : Nat} {ρ σ : zS} {L : List Int} {G : Int → Int} (h : HS ρ σ L G) (hl : L.length ≤ 19990) {n : Nat} (hn : n < 1000) : ∃ τ, jE tH_CP_writeNumber β σ [(n : Int)] = some (τ, 0) ∧ HS ρ τ (L ++ txN n) G := by
  unfold txN
  by_cases h9 : n ≤ 9
  · rw [if_pos h9]
    obtain ⟨τ, t1, t2⟩ := cn_1 (β := β) h (by omega) hn
    refine ⟨τ, ?_, ?_⟩
    · rw [jq_CP_writeNumber, kJ_CP_writeNumber, if_pos (by omega), if_pos (by omega), jq_CP_writeNumber_p23, kJ_CP_writeNumber_p23]; exact t1
    · rw [Nat.mod_eq_of_lt (by omega)] at t2; exact t2
  rw [if_neg h9]
  by_cases h99 : n ≤ 99
  · rw [if_pos h99]
    obtain ⟨τ, t1, t2⟩ := cn_10 (β := β) h (by omega) hn
    refine ⟨τ, ?_, ?_⟩
    · rw [jq_CP_writeNumber, kJ_CP_writeNumber, if_pos (by omega), if_neg (by omega), jq_CP_writeNumber_p23, kJ_CP_writeNumber_p23]; exact t1
    · rw [Nat.mod_eq_of_lt (show n / 10 < 10 by omega)] at t2; exact t2
  rw [if_neg h99]
  obtain ⟨τ, t1, t2⟩ := cn_100 (β := β) h (by omega) hn
  refine ⟨τ, ?_, ?_⟩
  · rw [jq_CP_writeNumber, kJ_CP_writeNumber, if_neg (by omega), jq_CP_writeNumber_p23, kJ_CP_writeNumber_p23]; exact t1
  · rw [Nat.mod_eq_of_lt (show n / 100 < 10 by omega)] at t2; exact t2
/-! WORDS -/
/-- the NAMES as the class has them -/
def NC (ρ : zS) (nm : PN) : Prop := ρ.1 604 = (nm.length : Int) ∧ nm.length ≤ 250 ∧ (∀ x ∈ nm, x.1.length ≤ 31) ∧ ∀ (i : Nat) x, nm[i]? = some x → ρ.2.1 9 ((i : Int) + 1) = (x.1.length : Int) ∧ ∃ s : Int, 0 ≤ s ∧ ρ.2.1 8 ((i : Int) + 1) = s ∧ s + (x.1.length : Int) ≤ (ρ.2.2 11 : Int) ∧ ρ.2.2 11 ≤ 30000 ∧ Fl (ρ.2.1 11) s x.1
theorem cxW_len {ρ : zS} {nm : PN} (h : NC ρ nm) (c : Int) : (txW nm c).length ≤ 31 := by
  unfold txW
  split
  · have := txN_len (n := (-1 - c).toNat); rw [List.length_cons]; omega
  · split
    · have := txN_len (n := (c - (nm.length : Int) - 1).toNat); rw [List.length_cons]; omega
    · split
      · next x hx => exact h.2.2.1 x (List.mem_of_getElem? hx)
      · simp
theorem cxB_len {ρ : zS} {nm : PN} (h : NC ρ nm) : ∀ (F : T) (b : Int), (txB nm b F).length ≤ 34 * wt F
  | .leaf _, b => by simp [txB]
  | .branch l k s, b => by
    have h1 := cxB_len h k 40
    have h2 := cxB_len h s 44
    have h3 := cxW_len h (cl l)
    simp only [txB, wt]
    by_cases hk : wt k = 0
    · rw [if_pos hk]; simp; omega
    · rw [if_neg hk]; simp; omega
theorem cxM_len {ρ : zS} {nm : PN} (h : NC ρ nm) (x : Tm) : (txM nm x).length ≤ 34 * (1 + wt x.2) := by
  have h1 := cxB_len h x.2 40
  have h3 := cxW_len h (cl x.1)
  unfold txM
  by_cases hk : wt x.2 = 0
  · rw [if_pos hk]; simp; omega
  · rw [if_neg hk]; simp; omega
theorem cxL_len {ρ : zS} {nm : PN} (h : NC ρ nm) (a : Lt) : (txLt nm a).length ≤ 34 * (tw a.2.1 + tw a.2.2) + 4 := by
  have h1 := cxM_len h a.2.1
  have h2 := cxM_len h a.2.2
  have e1 : tw a.2.1 = 1 + wt a.2.1.2 := rfl
  have e2 : tw a.2.2 = 1 + wt a.2.2.2 := rfl
  unfold txLt
  split
  · split <;> simp <;> omega
  · split <;> simp <;> omega
theorem cw_nm {β : Nat} {ρ : zS} {nm : PN} (hN : NC ρ nm) {i : Nat} {x : List Int × Int × Int} (hi : nm[i]? = some x) {G : Int → Int} : ∀ (m j : Nat) (σ : zS) (L : List Int), j + m = x.1.length → HS ρ σ L G → L.length + m ≤ 19990 → ∃ τ, jE tH_CP_writeWord_p61 β σ [(i : Int) + 1, (j : Int)] = some (τ, 0) ∧ HS ρ τ (L ++ x.1.drop j) G
  | 0, j, σ, L, hj, hS, hl => by
    have hil := (List.getElem?_eq_some_iff.mp hi).1
    obtain ⟨n1, n2, n3, n4⟩ := id hN
    obtain ⟨a1, s, s0, a2, a3, a4, a5⟩ := n4 i x hi
    have e9 : σ.2.1 9 ((i : Int) + 1) = (x.1.length : Int) := by rw [hS.2.1.a 9 _]; exact a1
    refine ⟨σ, ?_, ?_⟩
    · rw [jq_CP_writeWord_p61, kJ_CP_writeWord_p61, if_pos (show zb ((i : Int) + 1) 251 from ⟨by omega, by omega⟩), e9, if_pos (by omega), jq_CP_writeWord_p109, kJ_CP_writeWord_p109]
    · rw [List.drop_eq_nil_of_le (by omega), List.append_nil]; exact hS
  | m + 1, j, σ, L, hj, hS, hl => by
    have hil := (List.getElem?_eq_some_iff.mp hi).1
    obtain ⟨n1, n2, n3, n4⟩ := id hN
    obtain ⟨a1, s, s0, a2, a3, a4, a5⟩ := n4 i x hi
    have e9 : σ.2.1 9 ((i : Int) + 1) = (x.1.length : Int) := by rw [hS.2.1.a 9 _]; exact a1
    have e8 : σ.2.1 8 ((i : Int) + 1) = s := by rw [hS.2.1.a 8 _]; exact a2
    have hjl : j < x.1.length := by omega
    obtain ⟨c, hc⟩ : ∃ c, x.1[j]? = some c := ⟨_, List.getElem?_eq_getElem hjl⟩
    have e11 : σ.2.1 11 (s + (j : Int)) = c := by rw [hS.2.1.a 11 _]; exact Fl_get a5 hc
    have l11 : σ.2.2 11 = ρ.2.2 11 := hS.2.1.l 11
    obtain ⟨k1, k2⟩ := hS.add (by omega) c
    obtain ⟨τ, t1, t2⟩ := cw_nm (β := β) hN hi m (j + 1) (zAdd σ 301 4 c) (L ++ [c]) (by omega) k2 (by simp; omega)
    refine ⟨τ, ?_, ?_⟩
    · rw [jq_CP_writeWord_p61, kJ_CP_writeWord_p61, if_pos (show zb ((i : Int) + 1) 251 from ⟨by omega, by omega⟩), e9, if_neg (by omega), e8, if_pos (show zr (s + (j : Int)) from ⟨by omega, by omega⟩), if_pos (show zb (s + (j : Int)) (σ.2.2 11) from ⟨by omega, by rw [l11]; omega⟩), if_pos k1, e11, lt_e, if_pos (show zr ((j : Int) + 1) from ⟨by omega, by omega⟩)]
      have ej : (((j + 1 : Nat)) : Int) = (j : Int) + 1 := by omega
      rw [← ej]; exact t1
    · have ed : x.1.drop j = c :: x.1.drop (j + 1) := by
        rw [List.drop_eq_getElem_cons hjl]
        rw [List.getElem?_eq_getElem hjl] at hc
        cases hc; rfl
      rw [ed]
      rw [List.append_assoc] at t2; exact t2
theorem cwd_ok {β : Nat} (hβ : 1 ≤ β) {ρ : zS} {nm : PN} (hN : NC ρ nm) {σ : zS} {L : List Int} {G : Int → Int} (hS : HS ρ σ L G) (hl : L.length ≤ 19900) {c : Int} (h0 : c ≠ 0) (h1 : -300 ≤ c) (h2 : c < 900) : ∃ τ, jE tH_CP_writeWord β σ [c] = some (τ, 0) ∧ HS ρ τ (L ++ txW nm c) G := by
  have h604 : σ.1 604 = (nm.length : Int) := by rw [hS.2.1.i 604]; exact hN.1
  have h250 := hN.2.1
  unfold txW
  by_cases c0 : c < 0
  · rw [if_pos c0]
    obtain ⟨k1, k2⟩ := hS.add (by omega) 88
    have en : ((-1 - c).toNat : Int) = -1 - c := by omega
    obtain ⟨τ, t1, t2⟩ := cnum_ok (β := β - 1) k2 (by simp; omega) (n := (-1 - c).toNat) (by omega)
    refine ⟨τ, ?_, ?_⟩
    · rw [en] at t1
      rw [jq_CP_writeWord, kJ_CP_writeWord, if_neg (by omega), if_pos k1, lt_e, if_pos hβ, zbd_of t1, jq_CP_writeWord_p109, kJ_CP_writeWord_p109]
    · rw [List.append_assoc] at t2; exact t2
  · rw [if_neg c0]
    have w13 : ∀ y : Int, y = 0 ∨ y = 1 → jE tH_Sym_isWitness_p13 (β - 1) σ [c, y] = some (σ, y) := fun y hy => by rw [jq_Sym_isWitness_p13, kJ_Sym_isWitness_p13, if_pos hy]
    by_cases c1 : (nm.length : Int) < c
    · rw [if_pos c1]
      have hw : jE tH_Sym_isWitness (β - 1) σ [c] = some (σ, 1) := by
        rw [jq_Sym_isWitness, kJ_Sym_isWitness, h604, if_neg (by omega)]; exact w13 1 (Or.inr rfl)
      obtain ⟨k1, k2⟩ := hS.add (by omega) 119
      have h604' : (zAdd σ 301 4 119).1 604 = (nm.length : Int) := by rw [k2.2.1.i 604]; exact hN.1
      have en : ((c - (nm.length : Int) - 1).toNat : Int) = c - (nm.length : Int) - 1 := by omega
      obtain ⟨τ, t1, t2⟩ := cnum_ok (β := β - 1) k2 (by simp; omega) (n := (c - (nm.length : Int) - 1).toNat) (by omega)
      refine ⟨τ, ?_, ?_⟩
      · rw [en] at t1
        rw [jq_CP_writeWord, kJ_CP_writeWord, if_pos (by omega), if_pos hβ, zbd_of hw, if_neg (by decide), if_pos k1, lt_e, h604', if_pos (show zr (c - (nm.length : Int)) from ⟨by omega, by omega⟩), if_pos (show zr (c - (nm.length : Int) - 1) from ⟨by omega, by omega⟩), if_pos hβ, zbd_of t1, jq_CP_writeWord_p109, kJ_CP_writeWord_p109]
      · rw [List.append_assoc] at t2; exact t2
    · rw [if_neg c1]
      have hw : jE tH_Sym_isWitness (β - 1) σ [c] = some (σ, 0) := by
        rw [jq_Sym_isWitness, kJ_Sym_isWitness, h604, if_pos (by omega)]; exact w13 0 (Or.inl rfl)
      have hlt : (c - 1).toNat < nm.length := by omega
      obtain ⟨x, hx⟩ : ∃ x, nm[(c - 1).toNat]? = some x := ⟨_, List.getElem?_eq_getElem hlt⟩
      rw [hx]
      have h31 := hN.2.2.1 x (List.mem_of_getElem? hx)
      obtain ⟨τ, t1, t2⟩ := cw_nm (β := β) hN hx x.1.length 0 σ L (by omega) hS (by omega)
      have ec : (((c - 1).toNat : Nat) : Int) + 1 = c := by omega
      rw [ec] at t1
      refine ⟨τ, ?_, t2⟩
      rw [jq_CP_writeWord, kJ_CP_writeWord, if_pos (by omega), if_pos hβ, zbd_of hw, if_pos rfl, if_neg h0]
      exact t1
