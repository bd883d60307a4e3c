/-! WORDS of the TEXT in the class -/
/-- the class's bytes go from 0 to 255 -/
def CTX (X Y : Int → Int) (n : Int) : Prop := ∀ i, 0 ≤ i → i < n → (0 ≤ X i ∧ X i ≤ 127 ∧ Y i = X i) ∨ (-128 ≤ X i ∧ X i < 0 ∧ Y i = X i + 256)
theorem CTX.c {X Y : Int → Int} {n i c : Int} (h : CTX X Y n) (h0 : 0 ≤ i) (h1 : i < n) (hc : 0 ≤ c ∧ c ≤ 127) : Y i = c ↔ X i = c := by
  rcases h i h0 h1 with ⟨a, b, e⟩ | ⟨a, b, e⟩ <;> omega
set_option maxRecDepth 100000 in
theorem zor_all : ∀ y : Fin 256, (zor (y.val : Int) 32 < 97 ∨ 122 < zor (y.val : Int) 32) ↔ ¬ ((97 ≤ (y.val : Int) ∧ (y.val : Int) ≤ 122) ∨ (65 ≤ (y.val : Int) ∧ (y.val : Int) ≤ 90)) := by decide +kernel
theorem CTX.l {X Y : Int → Int} {n i : Int} (h : CTX X Y n) (h0 : 0 ≤ i) (h1 : i < n) : (zor (Y i) 32 < 97 ∨ 122 < zor (Y i) 32) ↔ ¬ cLt (X i) := by
  have hy : 0 ≤ Y i ∧ Y i ≤ 255 := by rcases h i h0 h1 with ⟨a, b, e⟩ | ⟨a, b, e⟩ <;> omega
  have := zor_all ⟨(Y i).toNat, by omega⟩
  rw [show (((Y i).toNat : Nat) : Int) = Y i by omega] at this
  rw [this]
  unfold cLt
  rcases h i h0 h1 with ⟨a, b, e⟩ | ⟨a, b, e⟩ <;> constructor <;> intro h2 h3 <;> apply h2 <;> omega
theorem sb_ok {X Y : Int → Int} {n : Int} (hC : CTX X Y n) (β : Nat) (hn : n ≤ 20000) : ∀ (k : Nat) (f : Bool) (σ : zS) (p : Int), σ.2.1 2 = Y → n ≤ (σ.2.2 2 : Int) → σ.1 3201 = n → σ.1 3206 = p → 0 ≤ p → p ≤ n → n - p = k → yE tC_Wds_skipBlanks_p2 β σ [if f = true then 1 else 0] = some (zI σ 3206 (skp X n k f p), 0)
  | 0, f, σ, p, hY, hl, h1, h6, h0, hpn, hk => by
    rw [yq_Wds_skipBlanks_p2, kY_Wds_skipBlanks_p2, if_pos (by omega)]
    have : skp X n 0 f p = p := by cases f <;> rfl
    rw [this, zI_same h6]
  | k + 1, f, σ, p, hY, hl, h1, h6, h0, hpn, hk => by
    have ih := fun f2 => sb_ok hC β hn k f2 (zI σ 3206 (p + 1)) (p + 1) hY hl (by rw [zI_o]; exact h1) zI_1 (by omega) (by omega) (by omega)
    have e68 : ∀ (f2 : Bool) (c x : Int), x = (if f2 = true then 1 else 0) → yE tC_Wds_skipBlanks_p68 β σ [x, c] = some (zI σ 3206 (skp X n k f2 (p + 1)), 0) := fun f2 c x hx => by
      rw [yq_Wds_skipBlanks_p68, kY_Wds_skipBlanks_p68, h6, if_pos ⟨by omega, by omega⟩]
      have := ih f2
      rw [zI_zI] at this
      rw [hx]
      exact this
    have hc := fun c (h : 0 ≤ c ∧ c ≤ 127) => hC.c (i := p) (c := c) h0 (by omega) h
    have e0 : skp X n (k + 1) false p = if X p = 32 ∨ X p = 9 ∨ X p = 10 ∨ X p = 13 then skp X n k false (p + 1) else if X p = 37 then skp X n k true (p + 1) else p := by
      show (if n ≤ p then p else _) = _
      rw [if_neg (by omega)]
    have e1 : skp X n (k + 1) true p = if X p = 10 then skp X n k false (p + 1) else skp X n k true (p + 1) := by
      show (if n ≤ p then p else _) = _
      rw [if_neg (by omega)]
    rw [yq_Wds_skipBlanks_p2, kY_Wds_skipBlanks_p2, if_neg (by omega), if_pos ⟨by omega, by omega⟩, h6, hY]
    by_cases c10 : Y p = 10
    · have x10 := (hc 10 (by decide)).mp c10
      rw [if_pos c10, e68 false _ 0 rfl]
      cases f
      · rw [e0, if_pos (by omega)]
      · rw [e1, if_pos x10]
    rw [if_neg c10]
    have x10 : ¬ X p = 10 := fun h => c10 ((hc 10 (by decide)).mpr h)
    by_cases c37 : Y p = 37
    · have x37 := (hc 37 (by decide)).mp c37
      rw [if_pos c37, e68 true _ 1 rfl]
      cases f
      · rw [e0, if_neg (by omega), if_pos x37]
      · rw [e1, if_neg x10]
    rw [if_neg c37]
    have x37 : ¬ X p = 37 := fun h => c37 ((hc 37 (by decide)).mpr h)
    cases f with
    | true =>
      rw [if_neg (by decide), e68 true _ _ rfl, e1, if_neg x10]
    | false =>
      rw [if_pos (by decide), e0]
      by_cases c32 : Y p = 32
      · rw [if_pos c32, e68 false _ _ rfl, if_pos (Or.inl ((hc 32 (by decide)).mp c32))]
      rw [if_neg c32]
      by_cases c9 : Y p = 9
      · rw [if_pos c9, e68 false _ _ rfl, if_pos (Or.inr (Or.inl ((hc 9 (by decide)).mp c9)))]
      rw [if_neg c9]
      by_cases c13 : Y p = 13
      · rw [if_pos c13, e68 false _ _ rfl, if_pos (Or.inr (Or.inr (Or.inr ((hc 13 (by decide)).mp c13))))]
      rw [if_neg c13, if_neg, if_neg x37, zI_same h6]
      rintro (h | h | h | h)
      · exact c32 ((hc 32 (by decide)).mpr h)
      · exact c9 ((hc 9 (by decide)).mpr h)
      · exact x10 h
      · exact c13 ((hc 13 (by decide)).mpr h)
theorem tw_ok {X Y : Int → Int} {n q : Int} (hC : CTX X Y n) (β : Nat) (hn : n ≤ 20000) (q0 : 0 ≤ q) : ∀ (k : Nat) (σ : zS) (e : Int), σ.2.1 2 = Y → n ≤ (σ.2.2 2 : Int) → σ.1 3201 = n → σ.1 3206 = q → σ.1 3204 = e - q → q ≤ e → e ≤ n → n - e = k → ∃ x, yE tC_Wds_takeWord_p2 β σ [1] = yE tC_Wds_takeWord_p100 β (zI σ 3204 (wep X n k e - q)) [x]
  | 0, σ, e, hY, hl, h1, h6, h4, hq, hen, hk => by
    refine ⟨1, ?_⟩
    rw [yq_Wds_takeWord_p2, kY_Wds_takeWord_p2, if_neg (by decide), h6, h4, if_pos ⟨by omega, by omega⟩, if_pos (by omega)]
    show _ = yE tC_Wds_takeWord_p100 β (zI σ 3204 (e - q)) [1]
    rw [zI_same h4]
  | k + 1, σ, e, hY, hl, h1, h6, h4, hq, hen, hk => by
    have hqe : q + (e - q) = e := by omega
    have hcL := hC.l (i := e) (by omega) (by omega)
    have hcc := fun c (h : 0 ≤ c ∧ c ≤ 127) => hC.c (i := e) (c := c) (by omega) (by omega) h
    have hcx := hC e (by omega) (by omega)
    have ew : wep X n (k + 1) e = if cIw (X e) then wep X n k (e + 1) else e := by
      show (if n ≤ e then e else _) = _
      rw [if_neg (by omega)]
    have yes : cIw (X e) → ∃ x, yE tC_Wds_takeWord_p73 β σ [1, Y e] = yE tC_Wds_takeWord_p100 β (zI σ 3204 (wep X n (k + 1) e - q)) [x] := fun hw => by
      obtain ⟨x, ih⟩ := tw_ok hC β hn q0 k (zI σ 3204 (e + 1 - q)) (e + 1) hY hl (by rw [zI_o]; exact h1) (by rw [zI_o]; exact h6) zI_1 (by omega) (by omega) (by omega)
      rw [zI_zI] at ih
      refine ⟨x, ?_⟩
      rw [yq_Wds_takeWord_p73, kY_Wds_takeWord_p73, yq_Wds_takeWord_p78, kY_Wds_takeWord_p78, if_neg (by decide), h4, yq_Wds_takeWord_p93, kY_Wds_takeWord_p93, if_pos ⟨by omega, by omega⟩, ew, if_pos hw]
      show yE tC_Wds_takeWord_p2 β (zI σ 3204 (e - q + 1)) [1] = _
      rw [show e - q + 1 = e + 1 - q by omega]
      exact ih
    have no : ¬ cIw (X e) → ∃ x, yE tC_Wds_takeWord_p78 β σ [1, Y e, 0] = yE tC_Wds_takeWord_p100 β (zI σ 3204 (wep X n (k + 1) e - q)) [x] := fun hw => by
      refine ⟨0, ?_⟩
      rw [yq_Wds_takeWord_p78, kY_Wds_takeWord_p78, if_pos rfl, h4, yq_Wds_takeWord_p93, kY_Wds_takeWord_p93, if_pos ⟨by omega, by omega⟩, ew, if_neg hw]
      show yE tC_Wds_takeWord_p2 β (zI σ 3204 (e - q + 0)) [0] = _
      rw [show e - q + 0 = e - q by omega, yq_Wds_takeWord_p2, kY_Wds_takeWord_p2, if_pos rfl]
    have p55 : ¬ cLt (X e) → ∃ x, yE tC_Wds_takeWord_p55 β σ [1, Y e] = yE tC_Wds_takeWord_p100 β (zI σ 3204 (wep X n (k + 1) e - q)) [x] := fun hL => by
      have p67 : ¬ (48 ≤ X e ∧ X e ≤ 57) → ∃ x, yE tC_Wds_takeWord_p67 β σ [1, Y e] = yE tC_Wds_takeWord_p100 β (zI σ 3204 (wep X n (k + 1) e - q)) [x] := fun hd => by
        rw [yq_Wds_takeWord_p67, kY_Wds_takeWord_p67]
        by_cases c95 : Y e = 95
        · rw [if_pos c95]; exact yes (Or.inr (Or.inr ((hcc 95 (by decide)).mp c95)))
        · rw [if_neg c95]
          refine no ?_
          rintro (h | h | h)
          · exact hL h
          · exact hd h
          · exact c95 ((hcc 95 (by decide)).mpr h)
      rw [yq_Wds_takeWord_p55, kY_Wds_takeWord_p55]
      by_cases c1 : Y e < 48
      · rw [if_pos c1]; exact p67 (by omega)
      rw [if_neg c1]
      by_cases c2 : Y e ≤ 57
      · rw [if_pos c2]; exact yes (Or.inr (Or.inl (by omega)))
      · rw [if_neg c2]; exact p67 (by omega)
    rw [yq_Wds_takeWord_p2, kY_Wds_takeWord_p2, if_neg (by decide), h6, h4, if_pos ⟨by omega, by omega⟩, if_neg (by omega), if_pos ⟨by omega, by omega⟩, hqe, hY]
    by_cases d1 : zor (Y e) 32 < 97
    · rw [if_pos d1]; exact p55 (hcL.mp (Or.inl d1))
    rw [if_neg d1]
    by_cases d2 : zor (Y e) 32 ≤ 122
    · rw [if_pos d2]
      refine yes (Or.inl ?_)
      by_cases hl9 : cLt (X e)
      · exact hl9
      · exact absurd (hcL.mpr hl9) (by omega)
    · rw [if_neg d2]; exact p55 (hcL.mp (Or.inr (by omega)))
/-- what the class calls the WORDS and signs -/
def cK (k : Int) : Int := if k = 0 then 0 else if k = 303 then 1 else if k = 2 then 2 else if k = 1 then 3 else if k = 46 then 4 else if k = 40 then 5 else if k = 41 then 6 else if k = 44 then 7 else if k = 58 then 8 else if k = 61 then 9 else if k = 300 then 10 else if k = 126 then 11 else if k = 33 then 12 else if k = 63 then 13 else if k = 38 then 14 else if k = 124 then 15 else if k = 301 then 16 else 17
/-- where the class stands in the TEXT -/
def CTk (X Y : Int → Int) (n : Int) (σ : zS) (p : Int) : Prop := (σ.2.1 2 = Y ∧ n ≤ (σ.2.2 2 : Int) ∧ σ.1 3201 = n ∧ 0 ≤ p ∧ p ≤ n ∧ n ≤ 20000) ∧ σ.1 3202 = cK (tk X n p) ∧ σ.1 3203 = tq X n p ∧ σ.1 3204 = te X n p - tq X n p ∧ σ.1 3205 = 0 ∧ σ.1 3206 = te X n p ∧ 0 ≤ σ.1 3207 ∧ σ.1 3207 ≤ te X n p
def FrW (σ τ : zS) : Prop := τ.2 = σ.2 ∧ ∀ j, ¬ (3202 ≤ j ∧ j ≤ 3207) → τ.1 j = σ.1 j
theorem FrW.rf {σ : zS} : FrW σ σ := ⟨rfl, fun _ _ => rfl⟩
theorem FrW.tr {σ τ ρ : zS} (h : FrW σ τ) (h2 : FrW τ ρ) : FrW σ ρ := ⟨h2.1.trans h.1, fun j hj => (h2.2 j hj).trans (h.2 j hj)⟩
/-- a sign: its kind and size -/
theorem tsg_ok {X Y : Int → Int} {n q s1 s2 : Int} (hC : CTX X Y n) {β : Nat} {σ : zS} (hY : σ.2.1 2 = Y) (hl : n ≤ (σ.2.2 2 : Int)) (h6 : σ.1 3206 = q) (q0 : 0 ≤ q) (qn : q < n) (h1 : s1 = if n ≤ q + 1 then -1 else Y (q + 1)) (h2 : s2 = if n ≤ q + 2 then -1 else Y (q + 2)) : ∃ τ, yE tC_Wds_takeSign β σ [s1, s2] = some (τ, 0) ∧ τ.1 3202 = cK (sgn X n q).1 ∧ τ.1 3204 = (sgn X n q).2 - q ∧ τ.2 = σ.2 ∧ ∀ j, j ≠ 3202 → j ≠ 3204 → τ.1 j = σ.1 j := by
  have hc := fun c (h : 0 ≤ c ∧ c ≤ 127) => hC.c (i := q) (c := c) q0 qn h
  have a1 : ∀ c, 0 ≤ c ∧ c ≤ 127 → (s1 = c ↔ cAt X n (q + 1) c) := fun c h => by
    rw [h1]
    by_cases hn : n ≤ q + 1
    · rw [if_pos hn]; unfold cAt; omega
    · rw [if_neg hn, hC.c (by omega) (by omega) h]; unfold cAt; omega
  have a2 : ∀ c, 0 ≤ c ∧ c ≤ 127 → (s2 = c ↔ cAt X n (q + 2) c) := fun c h => by
    rw [h2]
    by_cases hn : n ≤ q + 2
    · rw [if_pos hn]; unfold cAt; omega
    · rw [if_neg hn, hC.c (by omega) (by omega) h]; unfold cAt; omega
  have a161 := a1 61 (by decide)
  have a162 := a1 62 (by decide)
  have a262 := a2 62 (by decide)
  have c33 := hc 33 (by decide)
  have c38 := hc 38 (by decide)
  have c40 := hc 40 (by decide)
  have c41 := hc 41 (by decide)
  have c44 := hc 44 (by decide)
  have c46 := hc 46 (by decide)
  have c58 := hc 58 (by decide)
  have c60 := hc 60 (by decide)
  have c61 := hc 61 (by decide)
  have c63 := hc 63 (by decide)
  have c124 := hc 124 (by decide)
  have c126 := hc 126 (by decide)
  obtain ⟨σ1, hs1⟩ : ∃ s, s = zI σ 3204 1 := ⟨_, rfl⟩
  have i1 : ∀ j, j ≠ 3204 → σ1.1 j = σ.1 j := fun j hj => by rw [hs1]; exact zI_o hj
  have r1 : σ1.2 = σ.2 := by rw [hs1]; rfl
  have e316 : ∀ (ρ : zS), yE tC_Wds_takeSign_p316 β ρ [s1, s2] = some (ρ, 0) := fun ρ => by rw [yq_Wds_takeSign_p316, kY_Wds_takeSign_p316]
  have fin : ∀ (k z kk : Int), cK kk = k → (sgn X n q).1 = kk → (sgn X n q).2 = q + z → ∃ τ, some (zI (zI σ 3204 z) 3202 k, (0 : Int)) = some (τ, 0) ∧ τ.1 3202 = cK (sgn X n q).1 ∧ τ.1 3204 = (sgn X n q).2 - q ∧ τ.2 = σ.2 ∧ ∀ j, j ≠ 3202 → j ≠ 3204 → τ.1 j = σ.1 j := fun k z kk hk h1 h2 =>
    ⟨_, rfl, by rw [zI_1, h1, hk], by rw [zI_o, zI_1, h2]; omega, rfl, fun j j1 j2 => by rw [zI_o j1, zI_o j2]⟩
  have one : ∀ k : Int, zI σ1 3202 k = zI (zI σ 3204 1) 3202 k := fun k => by rw [hs1]
  have two : ∀ z k : Int, zI (zI σ1 3204 z) 3202 k = zI (zI σ 3204 z) 3202 k := fun z k => by rw [hs1, zI_zI]
  rw [yq_Wds_takeSign, kY_Wds_takeSign]
  have e0 : ∀ (K : zS → Option zR), lt_ (zI σ 3204 1) K = K σ1 := fun K => by rw [hs1]; rfl
  rw [e0, i1 3206 (by decide), h6, r1, hY, if_pos ⟨q0, by omega⟩]
  have lt1 : ∀ (k : Int), lt_ (zI σ1 3202 k) (fun σ2 => yE tC_Wds_takeSign_p316 β σ2 [s1, s2]) = some (zI (zI σ 3204 1) 3202 k, 0) := fun k => by
    show yE tC_Wds_takeSign_p316 β (zI σ1 3202 k) [s1, s2] = _
    rw [e316, one]
  have sg : sgn X n q = (if X q = 33 then (if cAt X n (q + 1) 61 then (300, q + 2) else (33, q + 1))
  else if X q = 38 ∨ X q = 40 ∨ X q = 41 ∨ X q = 44 ∨ X q = 46 ∨ X q = 58 then (X q, q + 1)
  else if X q = 60 then (if cAt X n (q + 1) 61 ∧ cAt X n (q + 2) 62 then (302, q + 3) else (303, q + 1))
  else if X q = 61 then (if cAt X n (q + 1) 62 then (301, q + 2) else (61, q + 1))
  else if X q = 63 ∨ X q = 124 ∨ X q = 126 then (X q, q + 1)
  else (303, q + 1)) := rfl
  by_cases d33 : Y q = 33
  · have x := c33.mp d33
    rw [if_pos x] at sg
    rw [if_pos d33]
    by_cases hs : s1 = 61
    · rw [if_pos (a161.mp hs)] at sg
      rw [if_pos hs, yq_Wds_takeSign_p211, kY_Wds_takeSign_p211]
      show ∃ τ, (if s1 = 61 then yE tC_Wds_takeSign_p228 β (zI σ1 3204 2) [s1, s2, 10] else yE tC_Wds_takeSign_p228 β (zI σ1 3204 2) [s1, s2, 12]) = _ ∧ _
      rw [if_pos hs, yq_Wds_takeSign_p228, kY_Wds_takeSign_p228]
      show ∃ τ, yE tC_Wds_takeSign_p316 β (zI (zI σ1 3204 2) 3202 10) [s1, s2] = _ ∧ _
      rw [e316, two]
      exact fin 10 2 300 (by decide) (by rw [sg]) (by rw [sg])
    · rw [if_neg (fun h => hs (a161.mpr h))] at sg
      rw [if_neg hs, yq_Wds_takeSign_p211, kY_Wds_takeSign_p211]
      show ∃ τ, (if s1 = 61 then yE tC_Wds_takeSign_p228 β (zI σ1 3204 1) [s1, s2, 10] else yE tC_Wds_takeSign_p228 β (zI σ1 3204 1) [s1, s2, 12]) = _ ∧ _
      rw [if_neg hs, yq_Wds_takeSign_p228, kY_Wds_takeSign_p228]
      show ∃ τ, yE tC_Wds_takeSign_p316 β (zI (zI σ1 3204 1) 3202 12) [s1, s2] = _ ∧ _
      rw [e316, two]
      exact fin 12 1 33 (by decide) (by rw [sg]) (by rw [sg])
  rw [if_neg d33]
  rw [if_neg (fun h => d33 (c33.mpr h))] at sg
  by_cases d38 : Y q = 38
  · have x := c38.mp d38
    rw [if_pos (by omega)] at sg
    rw [if_pos d38, lt1]
    exact fin 14 1 38 (by decide) (by rw [sg]; exact x) (by rw [sg])
  rw [if_neg d38]
  by_cases d40 : Y q = 40
  · have x := c40.mp d40
    rw [if_pos (by omega)] at sg
    rw [if_pos d40, lt1]
    exact fin 5 1 40 (by decide) (by rw [sg]; exact x) (by rw [sg])
  rw [if_neg d40]
  by_cases d41 : Y q = 41
  · have x := c41.mp d41
    rw [if_pos (by omega)] at sg
    rw [if_pos d41, lt1]
    exact fin 6 1 41 (by decide) (by rw [sg]; exact x) (by rw [sg])
  rw [if_neg d41]
  by_cases d44 : Y q = 44
  · have x := c44.mp d44
    rw [if_pos (by omega)] at sg
    rw [if_pos d44, lt1]
    exact fin 7 1 44 (by decide) (by rw [sg]; exact x) (by rw [sg])
  rw [if_neg d44]
  by_cases d46 : Y q = 46
  · have x := c46.mp d46
    rw [if_pos (by omega)] at sg
    rw [if_pos d46, lt1]
    exact fin 4 1 46 (by decide) (by rw [sg]; exact x) (by rw [sg])
  rw [if_neg d46]
  by_cases d58 : Y q = 58
  · have x := c58.mp d58
    rw [if_pos (by omega)] at sg
    rw [if_pos d58, lt1]
    exact fin 8 1 58 (by decide) (by rw [sg]; exact x) (by rw [sg])
  rw [if_neg d58]
  have x6 : ¬ (X q = 38 ∨ X q = 40 ∨ X q = 41 ∨ X q = 44 ∨ X q = 46 ∨ X q = 58) := by omega
  rw [if_neg x6] at sg
  by_cases d60 : Y q = 60
  · have x := c60.mp d60
    rw [if_pos x] at sg
    rw [if_pos d60]
    have bad : ¬ (cAt X n (q + 1) 61 ∧ cAt X n (q + 2) 62) → ∃ τ, yE tC_Wds_takeSign_p286 β σ1 [s1, s2] = some (τ, 0) ∧ τ.1 3202 = cK (sgn X n q).1 ∧ τ.1 3204 = (sgn X n q).2 - q ∧ τ.2 = σ.2 ∧ ∀ j, j ≠ 3202 → j ≠ 3204 → τ.1 j = σ.1 j := fun hb => by
      rw [if_neg hb] at sg
      rw [yq_Wds_takeSign_p286, kY_Wds_takeSign_p286, yq_Wds_takeSign_p287, kY_Wds_takeSign_p287]
      show ∃ τ, (if (zI σ1 3204 1).1 3204 = 3 then yE tC_Wds_takeSign_p305 β (zI σ1 3204 1) [s1, s2, 17] else yE tC_Wds_takeSign_p305 β (zI σ1 3204 1) [s1, s2, 1]) = _ ∧ _
      rw [zI_1, if_neg (by decide), yq_Wds_takeSign_p305, kY_Wds_takeSign_p305]
      show ∃ τ, yE tC_Wds_takeSign_p316 β (zI (zI σ1 3204 1) 3202 1) [s1, s2] = _ ∧ _
      rw [e316, two]
      exact fin 1 1 303 (by decide) (by rw [sg]) (by rw [sg])
    by_cases hs : s1 = 61
    · rw [if_pos hs]
      by_cases ht : s2 = 62
      · rw [if_pos ⟨a161.mp hs, a262.mp ht⟩] at sg
        rw [if_pos ht, yq_Wds_takeSign_p287, kY_Wds_takeSign_p287]
        show ∃ τ, (if (zI σ1 3204 3).1 3204 = 3 then yE tC_Wds_takeSign_p305 β (zI σ1 3204 3) [s1, s2, 17] else yE tC_Wds_takeSign_p305 β (zI σ1 3204 3) [s1, s2, 1]) = _ ∧ _
        rw [zI_1, if_pos rfl, yq_Wds_takeSign_p305, kY_Wds_takeSign_p305]
        show ∃ τ, yE tC_Wds_takeSign_p316 β (zI (zI σ1 3204 3) 3202 17) [s1, s2] = _ ∧ _
        rw [e316, two]
        exact fin 17 3 302 (by decide) (by rw [sg]) (by rw [sg])
      · rw [if_neg ht]; exact bad (fun h => ht (a262.mpr h.2))
    · rw [if_neg hs]; exact bad (fun h => hs (a161.mpr h.1))
  rw [if_neg d60]
  rw [if_neg (fun h => d60 (c60.mpr h))] at sg
  by_cases d61 : Y q = 61
  · have x := c61.mp d61
    rw [if_pos x] at sg
    rw [if_pos d61]
    by_cases hs : s1 = 62
    · rw [if_pos (a162.mp hs)] at sg
      rw [if_pos hs, yq_Wds_takeSign_p246, kY_Wds_takeSign_p246]
      show ∃ τ, (if s1 = 62 then yE tC_Wds_takeSign_p263 β (zI σ1 3204 2) [s1, s2, 16] else yE tC_Wds_takeSign_p263 β (zI σ1 3204 2) [s1, s2, 9]) = _ ∧ _
      rw [if_pos hs, yq_Wds_takeSign_p263, kY_Wds_takeSign_p263]
      show ∃ τ, yE tC_Wds_takeSign_p316 β (zI (zI σ1 3204 2) 3202 16) [s1, s2] = _ ∧ _
      rw [e316, two]
      exact fin 16 2 301 (by decide) (by rw [sg]) (by rw [sg])
    · rw [if_neg (fun h => hs (a162.mpr h))] at sg
      rw [if_neg hs, yq_Wds_takeSign_p246, kY_Wds_takeSign_p246]
      show ∃ τ, (if s1 = 62 then yE tC_Wds_takeSign_p263 β (zI σ1 3204 1) [s1, s2, 16] else yE tC_Wds_takeSign_p263 β (zI σ1 3204 1) [s1, s2, 9]) = _ ∧ _
      rw [if_neg hs, yq_Wds_takeSign_p263, kY_Wds_takeSign_p263]
      show ∃ τ, yE tC_Wds_takeSign_p316 β (zI (zI σ1 3204 1) 3202 9) [s1, s2] = _ ∧ _
      rw [e316, two]
      exact fin 9 1 61 (by decide) (by rw [sg]) (by rw [sg])
  rw [if_neg d61]
  rw [if_neg (fun h => d61 (c61.mpr h))] at sg
  by_cases d63 : Y q = 63
  · have x := c63.mp d63
    rw [if_pos (by omega)] at sg
    rw [if_pos d63, lt1]
    exact fin 13 1 63 (by decide) (by rw [sg]; exact x) (by rw [sg])
  rw [if_neg d63]
  by_cases d124 : Y q = 124
  · have x := c124.mp d124
    rw [if_pos (by omega)] at sg
    rw [if_pos d124, lt1]
    exact fin 15 1 124 (by decide) (by rw [sg]; exact x) (by rw [sg])
  rw [if_neg d124]
  by_cases d126 : Y q = 126
  · have x := c126.mp d126
    rw [if_pos (by omega)] at sg
    rw [if_pos d126, lt1]
    exact fin 11 1 126 (by decide) (by rw [sg]; exact x) (by rw [sg])
  rw [if_neg d126, lt1]
  rw [if_neg (by omega)] at sg
  exact fin 1 1 303 (by decide) (by rw [sg]) (by rw [sg])
theorem cadv_ok {X Y : Int → Int} {n : Int} (hC : CTX X Y n) {β : Nat} (hβ : 2 ≤ β) {σ : zS} {p : Int} (hY : σ.2.1 2 = Y) (hl : n ≤ (σ.2.2 2 : Int)) (h1 : σ.1 3201 = n) (h6 : σ.1 3206 = p) (p0 : 0 ≤ p) (hpn : p ≤ n) (hn : n ≤ 20000) (h7 : 0 ≤ σ.1 3207 ∧ σ.1 3207 ≤ p) : ∃ τ, yE tC_Wds_advance β σ [] = some (τ, 0) ∧ CTk X Y n τ p ∧ FrW σ τ := by
  have hq1 := tq_le (T := X) hpn
  have hq0 := tq_ge (T := X) (n := n) (p := p)
  have esk : yE tC_Wds_skipBlanks (β - 1) σ [] = some (zI σ 3206 (tq X n p), 0) := by
    rw [yq_Wds_skipBlanks, kY_Wds_skipBlanks]
    exact sb_ok hC (β - 1) hn _ false σ p hY hl h1 h6 p0 hpn (by omega : n - p = ((n - p).toNat : Int))
  obtain ⟨q, hq⟩ : ∃ q, q = tq X n p := ⟨_, rfl⟩
  rw [← hq] at hq1 hq0 esk
  have hq' : sk X n p = q := hq.symm
  obtain ⟨σ5, hs5⟩ : ∃ s, s = zI (zI (zI (zI (zI σ 3206 q) 3203 q) 3204 0) 3205 0) 3202 0 := ⟨_, rfl⟩
  have f6 : σ5.1 3206 = q := by rw [hs5, zI_o, zI_o, zI_o, zI_o, zI_1]
  have f3 : σ5.1 3203 = q := by rw [hs5, zI_o, zI_o, zI_o, zI_1]
  have f4 : σ5.1 3204 = 0 := by rw [hs5, zI_o, zI_o, zI_1]
  have f5 : σ5.1 3205 = 0 := by rw [hs5, zI_o, zI_1]
  have f2 : σ5.1 3202 = 0 := by rw [hs5, zI_1]
  have f1 : σ5.1 3201 = n := by rw [hs5, zI_o, zI_o, zI_o, zI_o, zI_o, h1]
  have f7 : σ5.1 3207 = σ.1 3207 := by rw [hs5, zI_o, zI_o, zI_o, zI_o, zI_o]
  have fA : σ5.2 = σ.2 := by rw [hs5]; rfl
  have fr : ∀ j, ¬ (3202 ≤ j ∧ j ≤ 3207) → σ5.1 j = σ.1 j := fun j hj => by rw [hs5, zI_o (by omega), zI_o (by omega), zI_o (by omega), zI_o (by omega), zI_o (by omega)]
  rw [yq_Wds_advance, kY_Wds_advance, if_pos (by omega), zbd_of esk]
  have e0 : ∀ (K : zS → Option zR), lt_ (zI (zI σ 3206 q) 3203 ((zI σ 3206 q).1 3206)) (fun σ2 => lt_ (zI σ2 3204 0) (fun σ3 => lt_ (zI σ3 3205 0) (fun σ4 => lt_ (zI σ4 3202 0) K))) = K σ5 := fun K => by rw [zI_1, hs5]; rfl
  rw [e0]
  by_cases hend : q = n
  · rw [if_neg (by omega)]
    have ete : te X n p = n := by unfold te tok; rw [hq', if_pos (by omega)]; exact hend
    have etk : tk X n p = 0 := (tk_0 hpn).mpr (by rw [← hq]; exact hend)
    exact ⟨σ5, rfl, ⟨⟨by rw [fA]; exact hY, by rw [fA]; exact hl, f1, p0, hpn, hn⟩, by rw [f2, etk]; rfl, by rw [f3, hq], by rw [f4, ete, ← hq]; omega, f5, by rw [f6, ete]; exact hend, by rw [f7]; exact h7.1, by rw [f7, ete]; omega⟩, fA, fr⟩
  · rw [if_pos (by omega), if_pos ⟨by omega, by omega⟩]
    obtain ⟨σ6, hs6⟩ : ∃ s, s = zI σ5 3207 (σ5.1 3207 + 1) := ⟨_, rfl⟩
    have e1 : ∀ (K : zS → Option zR), lt_ (zI σ5 3207 (σ5.1 3207 + 1)) K = K σ6 := fun K => by rw [hs6]; rfl
    rw [e1]
    have g7 : σ6.1 3207 = σ.1 3207 + 1 := by rw [hs6, zI_1, f7]
    have gi : ∀ j, j ≠ 3207 → σ6.1 j = σ5.1 j := fun j hj => by rw [hs6]; exact zI_o hj
    have gA : σ6.2 = σ.2 := by rw [hs6]; exact fA
    rw [if_pos (by omega), yq_Wds_advance_p65, kY_Wds_advance_p65, if_pos (Or.inl rfl)]
    have e2 : ∀ (K : zS → Option zR), lt_ (zI σ6 3205 0) K = K σ6 := fun K => by
      show K (zI σ6 3205 0) = _
      rw [zI_same (by rw [gi 3205 (by decide)]; exact f5)]
    have g6 : σ6.1 3206 = q := by rw [gi 3206 (by decide)]; exact f6
    have gY : σ6.2.1 2 = Y := by rw [gA]; exact hY
    have gl : n ≤ (σ6.2.2 2 : Int) := by rw [gA]; exact hl
    rw [e2, g6, gY, if_pos ⟨by omega, by omega⟩]
    have htk : tk X n p = (tok X n q).1 := by unfold tk; rw [hq']
    have hte : te X n p = (tok X n q).2 := by unfold te; rw [hq']
    have hto := tok_e (T := X) (n := n) (q := q) (by omega)
    have hcl := hC.l (i := q) (by omega) (by omega)
    have fin : ∀ (τ : zS) (e k : Int), te X n p = e → tk X n p = k → q < e → e ≤ n → τ.2 = σ6.2 → τ.1 3202 = cK k → τ.1 3204 = e - q → (∀ j, j ≠ 3202 → j ≠ 3204 → τ.1 j = σ6.1 j) → ∃ ω, yE tC_Wds_advance_p169 β τ [] = some (ω, 0) ∧ CTk X Y n ω p ∧ FrW σ ω := fun τ e k he hk hlt hen t0 t2 t4 ti => by
      have t6 : τ.1 3206 = q := by rw [ti 3206 (by decide) (by decide)]; exact g6
      rw [yq_Wds_advance_p169, kY_Wds_advance_p169, t6, t4, if_pos ⟨by omega, by omega⟩]
      refine ⟨zI τ 3206 (q + (e - q)), rfl, ⟨⟨by rw [zI_2, t0]; exact gY, by rw [zI_2, t0]; exact gl, by rw [zI_o, ti 3201 (by decide) (by decide), gi 3201 (by decide)]; exact f1, p0, hpn, hn⟩, by rw [zI_o, t2, hk], by rw [zI_o, ti 3203 (by decide) (by decide), gi 3203 (by decide), f3, hq], by rw [zI_o, t4, he, hq], by rw [zI_o, ti 3205 (by decide) (by decide), gi 3205 (by decide)]; exact f5, by rw [zI_1, he]; omega, by rw [zI_o, ti 3207 (by decide) (by decide), g7]; omega, by rw [zI_o, ti 3207 (by decide) (by decide), g7, he]; omega⟩, by rw [zI_2, t0, gA], fun j hj => by rw [zI_o (by omega), ti j (by omega) (by omega), gi j (by omega)]; exact fr j hj⟩
    by_cases hL : cLt (X q)
    · have hno : ¬ (zor (Y q) 32 < 97 ∨ 122 < zor (Y q) 32) := fun h => (hcl.mp h) hL
      rw [if_neg (by omega), if_neg (by omega), if_pos (by omega)]
      have etok : tok X n q = ((if we X n q - q ≤ 31 then (if 97 ≤ X q then 2 else 1) else 303), we X n q) := by
        unfold tok; rw [if_neg (by omega), if_pos hL]
      rw [etok] at htk hte hto
      obtain ⟨x, etw⟩ := tw_ok hC (β - 1) hn (by omega : 0 ≤ q) _ σ6 q gY gl (by rw [gi 3201 (by decide)]; exact f1) g6 (by rw [gi 3204 (by decide), f4]; omega) (Int.le_refl _) (by omega) (by omega : n - q = ((n - q).toNat : Int))
      obtain ⟨w, hw⟩ : ∃ w, w = we X n q := ⟨_, rfl⟩
      have hw' : wep X n (n - q).toNat q = w := hw.symm
      rw [hw'] at etw
      rw [← hw] at htk hte hto
      obtain ⟨σ7, hs7⟩ : ∃ s, s = zI σ6 3204 (w - q) := ⟨_, rfl⟩
      rw [← hs7] at etw
      have k6 : σ7.1 3206 = q := by rw [hs7, zI_o]; exact g6
      have k4 : σ7.1 3204 = w - q := by rw [hs7, zI_1]
      have kY : σ7.2.1 2 = Y := by rw [hs7]; exact gY
      have kl : n ≤ (σ7.2.2 2 : Int) := by rw [hs7]; exact gl
      have hyx := hC q (by omega) (by omega)
      have eK : yE tC_Wds_takeWord (β - 1) σ6 [] = some (zI σ7 3202 (cK (tk X n p)), 0) := by
        rw [yq_Wds_takeWord, kY_Wds_takeWord, etw, yq_Wds_takeWord_p100, kY_Wds_takeWord_p100, k6, kY, if_pos ⟨by omega, by omega⟩]
        have e119 : ∀ b : Int, (b = 0 ∧ 97 ≤ X q) ∨ (b = 1 ∧ X q < 97) → yE tC_Wds_takeWord_p119 (β - 1) σ7 [x, b] = some (zI σ7 3202 (cK (tk X n p)), 0) := fun b hb => by
          rw [yq_Wds_takeWord_p119, kY_Wds_takeWord_p119, k4]
          by_cases h31 : w - q ≤ 31
          · rw [if_pos h31] at htk
            rw [if_pos h31]
            rcases hb with ⟨rfl, hx⟩ | ⟨rfl, hx⟩
            · rw [if_pos hx] at htk
              rw [if_pos rfl, yq_Wds_takeWord_p143, kY_Wds_takeWord_p143, htk]; rfl
            · rw [if_neg (by omega)] at htk
              rw [if_neg (by decide), yq_Wds_takeWord_p143, kY_Wds_takeWord_p143, htk]; rfl
          · rw [if_neg h31] at htk
            rw [if_neg h31, yq_Wds_takeWord_p143, kY_Wds_takeWord_p143, htk]; rfl
        unfold cLt at hL
        by_cases h90 : 90 < Y q
        · rw [if_pos h90]; exact e119 0 (Or.inl ⟨rfl, by omega⟩)
        · rw [if_neg h90]; exact e119 1 (Or.inr ⟨rfl, by omega⟩)
      rw [zbd_of eK]
      exact fin _ w _ hte rfl hto.1 hto.2 (by rw [zI_2, hs7]; rfl) zI_1 (by rw [zI_o]; exact k4) (fun j j1 j2 => by rw [zI_o j1, hs7, zI_o j2])
    · have hyes := hcl.mpr hL
      have etok : tok X n q = sgn X n q := by unfold tok; rw [if_neg (by omega), if_neg hL]
      rw [etok] at htk hte hto
      have e109 : ∃ ω, yE tC_Wds_advance_p109 β σ6 [] = some (ω, 0) ∧ CTk X Y n ω p ∧ FrW σ ω := by
        obtain ⟨s1, hs1⟩ : ∃ s : Int, s = if n ≤ q + 1 then -1 else Y (q + 1) := ⟨_, rfl⟩
        obtain ⟨s2, hs2⟩ : ∃ s : Int, s = if n ≤ q + 2 then -1 else Y (q + 2) := ⟨_, rfl⟩
        have g1 : σ6.1 3201 = n := by rw [gi 3201 (by decide)]; exact f1
        have e138 : yE tC_Wds_advance_p109 β σ6 [] = yE tC_Wds_advance_p138 β σ6 [s1] := by
          rw [yq_Wds_advance_p109, kY_Wds_advance_p109, g6, g1, if_pos ⟨by omega, by omega⟩]
          by_cases hc : n ≤ q + 1
          · rw [if_pos hc] at hs1; rw [if_pos hc, hs1]
          · rw [if_neg hc] at hs1; rw [if_neg hc, if_pos ⟨by omega, by omega⟩, gY, hs1]
        have e166 : yE tC_Wds_advance_p138 β σ6 [s1] = yE tC_Wds_advance_p166 β σ6 [s2, s1] := by
          rw [yq_Wds_advance_p138, kY_Wds_advance_p138, g6, g1, if_pos ⟨by omega, by omega⟩]
          by_cases hc : n ≤ q + 2
          · rw [if_pos hc] at hs2; rw [if_pos hc, hs2]
          · rw [if_neg hc] at hs2; rw [if_neg hc, if_pos ⟨by omega, by omega⟩, gY, hs2]
        obtain ⟨τ, e3, t1, t2, t3, t4⟩ := tsg_ok hC (β := β - 1) (q := q) gY gl g6 (by omega) (by omega) hs1 hs2
        rw [e138, e166, yq_Wds_advance_p166, kY_Wds_advance_p166, if_pos (by omega), zbd_of e3]
        exact fin τ _ _ hte htk hto.1 hto.2 t3 t1 t2 t4
      by_cases d1 : zor (Y q) 32 < 97
      · rw [if_pos d1]; exact e109
      · rw [if_neg d1, if_pos (by omega)]; exact e109
theorem CTk.adv {X Y : Int → Int} {n : Int} (hC : CTX X Y n) {β : Nat} (hβ : 2 ≤ β) {σ : zS} {p : Int} (h : CTk X Y n σ p) : ∃ τ, yE tC_Wds_advance β σ [] = some (τ, 0) ∧ CTk X Y n τ (te X n p) ∧ FrW σ τ := by
  obtain ⟨⟨a1, a2, a3, a4, a5, a6⟩, b2, b3, b4, b5, b6, b7, b8⟩ := h
  have h1 := te_ge (T := X) (n := n) (p := p)
  exact cadv_ok hC hβ a1 a2 a3 b6 (by omega) (te_le a5) a6 ⟨b7, b8⟩
theorem isNow_ok {X Y : Int → Int} {n : Int} {β : Nat} {σ : zS} {p k : Int} (h : CTk X Y n σ p) : yE tC_Wds_isNow β σ [k] = some (σ, b2 (cK (tk X n p) = k)) := by
  obtain ⟨_, c2, c3, c4, c5, _⟩ := h
  rw [yq_Wds_isNow, kY_Wds_isNow, c2, c5]
  by_cases hk : cK (tk X n p) = k
  · rw [if_pos hk, if_pos rfl, yq_Wds_isNow_p20, kY_Wds_isNow_p20, if_pos (Or.inr rfl), b2_t hk]
  · rw [if_neg hk, yq_Wds_isNow_p19, kY_Wds_isNow_p19, yq_Wds_isNow_p20, kY_Wds_isNow_p20, if_pos (Or.inl rfl), b2_f hk]
