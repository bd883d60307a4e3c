/-! the reference: the CLAUSES of one SENTENCE -/
theorem RFm.lo {σ : zS} : ∀ {h : Nat} {f : Tm} {a : Int}, RFm σ h f a → RFm σ (hgt f).toNat f a
  | 0, f, a, h => h.elim
  | h + 1, f, a, hh => by
    obtain ⟨h0, h1, h2, hc⟩ := hh
    have g1 := hgt_1 f
    obtain ⟨m, hm⟩ : ∃ m : Nat, (hgt f).toNat = m + 1 := ⟨(hgt f).toNat - 1, by omega⟩
    rw [hm]
    refine ⟨h0, h1, h2, ?_⟩
    rcases hc with c | c | c | ⟨g, c1, c2, c3⟩ | ⟨j, g1, g2, c1, c2, c3, c4, c5⟩ | ⟨kd, first, cnt, g, c1, c2, c3, c4, c5, c6, c7⟩
    · exact Or.inl c
    · exact Or.inr (Or.inl c)
    · exact Or.inr (Or.inr (Or.inl c))
    · have e : hgt f = 1 + hgt g := by rw [c1]; exact hgt_mk1 (by omega)
      exact Or.inr (Or.inr (Or.inr (Or.inl ⟨g, c1, c2, c3.lo.up (by omega)⟩)))
    · have e : hgt f = 1 + max (hgt g1) (hgt g2) := by rw [c2]; exact hgt_mk2 (by omega)
      exact Or.inr (Or.inr (Or.inr (Or.inr (Or.inl ⟨j, g1, g2, c1, c2, c3, c4.lo.up (by omega), c5.lo.up (by omega)⟩))))
    · have e : hgt f = (cnt : Int) + hgt g := by rw [c4]; exact hgt_qnt cnt g
      exact Or.inr (Or.inr (Or.inr (Or.inr (Or.inr ⟨kd, first, cnt, g, c1, c2, c3, c4, c5, c6, c7.lo.up (by omega)⟩))))
theorem frE_sn {w : Nat → Nat} {s : Bool} {v : Int} : ∀ (D : List Int) (E : VE), frE w s (D ++ [v]) E = bE w (frE w s D E) v.toNat s
  | [], E => rfl
  | u :: D, E => by
    show frE w s (D ++ [v]) (bE w E u.toNat s) = _
    rw [frE_sn D]
    rfl
theorem frE_k {w : Nat → Nat} {s : Bool} {L : List Int} (h : ∀ v ∈ L, 0 ≤ v) {u : Nat} : u ∈ keysE (frE w s L []) ↔ (u : Int) ∈ L := by
  have hk := frE_keys (w := w) (stay := s) (L := L) (E := []) h
  have hk : (frE w s L []).map (fun x => (x.1 : Int)) = L := by simpa using hk
  constructor
  · intro hu
    obtain ⟨x, hx, e⟩ := List.mem_map.mp hu
    rw [← hk]
    exact List.mem_map.mpr ⟨x, hx, by have e : x.1 = u := e; show (x.1 : Int) = (u : Int); rw [e]⟩
  · intro hu
    rw [← hk] at hu
    obtain ⟨x, hx, e⟩ := List.mem_map.mp hu
    exact List.mem_map.mpr ⟨x, hx, by have e : (x.1 : Int) = (u : Int) := e; show x.1 = u; omega⟩
theorem frE_len {w : Nat → Nat} {s : Bool} {L : List Int} (h : ∀ v ∈ L, 0 ≤ v) : (frE w s L []).length = L.length := by
  have := congrArg List.length (frE_keys (w := w) (stay := s) (L := L) (E := []) h)
  rw [List.length_map] at this
  simpa using this
theorem CLf.fr {σ τ : zS} (h : CLf σ τ) : FrC [47, 62, 65, 3000] [43, 44, 45, 46, 59, 60, 61, 63, 64] σ τ :=
  ⟨fun j hj => h.1 j (fun e => by subst e; cases hj) (fun e => by subst e; cases hj) (fun e => by subst e; cases hj) (fun e => by subst e; cases hj), fun j q hj => h.2.2.1 j q hj, fun j _ _ _ => by rw [h.2.1], Mg.of h.2.1⟩
/-- what a SENTENCE must be -/
def SCo (nm : PN) (w : Nat → Nat) (σ : zS) (e : SE) : Prop := FS (tt e.2.2.1) ∧ FH (tt e.2.2.1) ∧ (∃ lo hi, UQs (tt e.2.2.1) lo hi ∧ hi ≤ 300) ∧ WFo1 nm e.2.2.1 (fun v => v ∈ e.2.2.2) ∧ e.2.2.2.Nodup ∧ (∀ v ∈ e.2.2.2, 0 ≤ v ∧ v < 300 ∧ ¬ bnF (tt e.2.2.1) v.toNat) ∧ wK (fun v => 0 ≤ cl (w v) ∧ σ.2.1 23 (v : Int) = cl (w v)) e.2.2.1 (!e.2.1) ∧ (e.2.1 = true → ∀ v ∈ e.2.2.2, 0 ≤ cl (w v.toNat) ∧ σ.2.1 23 v = cl (w v.toNat)) ∧ rF e.2.2.1 (!e.2.1) ≤ 61
/-- what making its CLAUSES changes -/
abbrev ScF (σ τ : zS) : Prop := FrC [47, 62, 65, 72, 84, 98, 101, 105, 122, 3000, 3003, 3004] [43, 44, 45, 46, 59, 60, 61, 63, 64, 66, 67, 68, 69, 70, 71, 73, 74, 75, 76, 77, 78, 79, 80, 81, 82, 95, 96, 97, 100, 102, 103, 104] σ τ
/-- free VARIABLES are bound -/
theorem sc_14 {β : Nat} (hβ : 1 ≤ β) {w : Nat → Nat} {σ0 : zS} {L : List SE} {i : Nat} {e : SE} (hS : RSe σ0 L) (he : L[i]? = some e) (hi : i < 20100) (hf : frL L ≤ 300) (hnd : e.2.2.2.Nodup) (hv : ∀ v ∈ e.2.2.2, 0 ≤ v ∧ v < 300) (hq : e.2.1 = true → ∀ v ∈ e.2.2.2, 0 ≤ cl (w v.toNat) ∧ σ0.2.1 23 v = cl (w v.toNat)) (hfi : frL (L.take i) + e.2.2.2.length ≤ frL L) : ∀ (R D : List Int) (σ : zS), e.2.2.2 = D ++ R → REv w σ (frE w (!e.2.1) D []) → FrC [47, 62] [59, 60, 61] σ0 σ → σ.2.2 = σ0.2.2 → ∃ τ, xE tX_sentenceClauses_14 β σ [(i : Int), (D.length : Int)] = xE tX_sentenceClauses_14 β τ [(i : Int), (e.2.2.2.length : Int)] ∧ REv w τ (frE w (!e.2.1) e.2.2.2 []) ∧ FrC [47, 62] [59, 60, 61] σ0 τ ∧ τ.2.2 = σ0.2.2 ∧ τ.1 47 = σ.1 47
  | [], D, σ, hD, hE, f, l => by
    rw [List.append_nil] at hD
    rw [hD]
    exact ⟨σ, rfl, hE, f, l, rfl⟩
  | v :: R, D, σ, hD, hE, f, l => by
    obtain ⟨s1, s2, s3, s4, s5, s6⟩ := hS.2.2 i e he
    have hl : e.2.2.2.length = D.length + (R.length + 1) := by rw [hD]; simp
    have hvv : e.2.2.2[D.length]? = some v := by rw [hD, List.getElem?_append_right (Nat.le_refl _), Nat.sub_self]; rfl
    have hvm := List.mem_of_getElem? hvv
    obtain ⟨v0, v1⟩ := hv v hvm
    have hD' : e.2.2.2 = (D ++ [v]) ++ R := by rw [hD]; simp
    have hc : ((v.toNat : Nat) : Int) = v := Int.toNat_of_nonneg v0
    have hnk : v.toNat ∉ keysE (frE w (!e.2.1) D []) := fun hk => by
      rw [frE_k (fun u hu => (hv u (by rw [hD]; simp [hu])).1), hc] at hk
      rw [hD] at hnd
      have := (List.nodup_append.mp hnd).2.2 v hk v (by simp)
      exact this rfl
    obtain ⟨σ1, t1, t2, t3, _, _, t6⟩ := rbind_ok (β := β - 1) hE (v := v.toNat) (by omega) hnk (stay := !e.2.1) (fun hs => by
      have := hq (by simpa using hs) v hvm
      rw [hc, f.a 23]
      exact this)
    rw [hc] at t1
    have fT : FrC [47, 62] [59, 60, 61] σ0 σ1 := f.trans t3.w
    obtain ⟨τ, u1, u2, u3, u4, u5⟩ := sc_14 hβ hS he hi hf hnd hv hq hfi R (D ++ [v]) σ1 hD' (by rw [frE_sn]; exact t2) fT (by rw [t6, l])
    refine ⟨τ, ?_, u2, u3, u4, by rw [u5, t3.i 47]⟩
    rw [← u1]
    have e52 : ∀ y : Int, y = bi (!e.2.1) → xE tX_sentenceClauses_52 β σ [(i : Int), (D.length : Int), y, v] = xE tX_sentenceClauses_14 β σ1 [(i : Int), ((D ++ [v]).length : Int)] := fun y hy => by
      have el : ((D ++ [v]).length : Int) = (D.length : Int) + 1 := by simp
      rw [xq_sentenceClauses_52, kW_sentenceClauses_52, if_pos (by omega), hy, zbd_of t1, if_pos ⟨by omega, by omega⟩, el]
    have s6' := s6 D.length v hvv
    rw [xq_sentenceClauses_14, kW_sentenceClauses_14, if_pos ⟨by omega, by omega⟩, f.a 53, s5, if_neg (by omega), f.a 52, s4, if_pos ⟨by omega, by omega⟩, if_pos ⟨by omega, by omega⟩, f.a 57, s2, f.a 54, s6']
    cases hb : e.2.1
    · rw [if_pos (by simp)]; exact e52 1 (by rw [hb]; rfl)
    · rw [if_neg (by simp)]; exact e52 0 (by rw [hb]; rfl)
/-- whether all rows fit -/
theorem sc_111 {β : Nat} (hβ : 110 ≤ β) {i : Nat} (hi : i < 20100) {A : List (List Lt)} (hA : A.length ≤ 1200) {σ0 : zS} (hR : RRs σ0 0 A) (h65 : σ0.1 65 = (A.length : Int)) (h47 : σ0.1 47 ≤ 420000) : ∀ (R D : List (List Lt)) (σ : zS), A = D ++ R → FIt σ0 σ → ((∀ c ∈ R, inB c) ∧ ∃ τ, xE tX_sentenceClauses_111 β σ [(i : Int), (D.length : Int)] = xE tX_sentenceClauses_167 β (zI τ 122 (τ.1 47)) [(i : Int), 0] ∧ FIt σ0 τ) ∨ ((¬ ∀ c ∈ R, inB c) ∧ ∃ τ, xE tX_sentenceClauses_111 β σ [(i : Int), (D.length : Int)] = some (zI (zI (zI τ 3003 3) 3004 (σ0.2.1 50 (i : Int))) 3000 1, 0) ∧ FIt σ0 τ)
  | [], D, σ, hD, f => by
    rw [List.append_nil] at hD
    subst hD
    refine Or.inl ⟨fun c hc => (by cases hc), σ, ?_, f⟩
    rw [xq_sentenceClauses_111, kW_sentenceClauses_111, f.i 65, h65, if_pos (Int.le_refl _), lt_e]
  | c :: R, D, σ, hD, f => by
    have hl : A.length = D.length + (R.length + 1) := by rw [hD]; simp
    have hc : A[D.length]? = some c := by rw [hD, List.getElem?_append_right (Nat.le_refl _), Nat.sub_self]; rfl
    have hD' : A = (D ++ [c]) ++ R := by rw [hD]; simp
    have hr := hR D.length c hc
    rw [Int.zero_add] at hr
    have hr2 : RRw σ (D.length : Int) c := hr.m (fun k q _ hk => (show Pq σ0 σ q (q + 1) from f.pq) k q (Int.le_refl _) (by omega) hk) (by rw [f.i 47]; exact Int.le_refl _) (fun q _ _ => f.a 63 q) (f.a 64 _)
    obtain ⟨σ1, x, t1, t2, t3, t4⟩ := fits_ok (β := β - 1) (by omega) (by omega) (by omega) hr2 (by rw [f.i 47]; exact h47)
    have fT := f.trans t4
    have hs : xE tX_sentenceClauses_111 β σ [(i : Int), (D.length : Int)] = if x = 0 then some (zI (zI (zI σ1 3003 3) 3004 (σ0.2.1 50 (i : Int))) 3000 1, 0) else xE tX_sentenceClauses_111 β σ1 [(i : Int), ((D ++ [c]).length : Int)] := by
      have el : ((D ++ [c]).length : Int) = (D.length : Int) + 1 := by simp
      rw [xq_sentenceClauses_111, kW_sentenceClauses_111, f.i 65, h65, if_neg (by omega), if_pos ⟨by omega, by omega⟩, if_pos ⟨by omega, by omega⟩, if_pos (by omega), hr2.1, zbd_of t1]
      by_cases hx : x = 0
      · rw [if_pos hx, if_pos hx, if_pos ⟨by omega, by omega⟩, lt_e, lt_e, lt_e, fT.a 50]
      · rw [if_neg hx, if_neg hx, if_pos ⟨by omega, by omega⟩, el]
    by_cases hb : inB c
    · have hx : x ≠ 0 := fun h => (t3.mp h) hb
      rw [if_neg hx] at hs
      rcases sc_111 hβ hi hA hR h65 h47 R (D ++ [c]) σ1 hD' fT with ⟨u1, τ, u2, u3⟩ | ⟨u1, τ, u2, u3⟩
      · refine Or.inl ⟨fun d hd => ?_, τ, by rw [hs]; exact u2, u3⟩
        rcases List.mem_cons.mp hd with e | e
        · rw [e]; exact hb
        · exact u1 d e
      · exact Or.inr ⟨fun h => u1 (fun d hd => h d (List.mem_cons_of_mem _ hd)), τ, by rw [hs]; exact u2, u3⟩
    · rw [if_pos (t3.mpr hb)] at hs
      exact Or.inr ⟨fun h => hb (h c (by simp)), σ1, hs, fT⟩
theorem inB_bd {A : List (List Lt)} (h : Bd A) : ¬ ∀ c ∈ A, inB c := fun hb => by
  obtain ⟨c, hc, h⟩ := h
  obtain ⟨b1, b2, _⟩ := hb c hc
  rcases h with h | ⟨a, ha, h⟩
  · omega
  · have := wtL_mm ha
    have e : lwt a = tw a.2.1 + tw a.2.2 := rfl
    omega
theorem sc_ok {ar : Int → Nat} {pd : Int → Prop} {m9 : Int} {p : Int → Prop} (hp' : ∀ c, p c → c < m9) {nm : PN} {w : Nat → Nat} {β : Nat} (hβ : 1000 ≤ β) {σ : zS} {L : List SE} {i : Nat} {e : SE} (hS : RSe σ L) (he : L[i]? = some e) (hi : i < 20100) (hf : frL L ≤ 300) (hfi : frL (L.take i) + e.2.2.2.length ≤ frL L) (hC : SCo nm w σ e) (hh : hgt e.2.2.1 ≤ 200) (hn : nF e.2.2.1 (!e.2.1) ≤ 200) (h20 : σ.1 37 ≤ 20100 ∧ σ.1 38 ≤ 20100 ∧ σ.1 40 ≤ 20100) (hwl : ∀ c ∈ csE w e, WL ar p c) {Cs : List CL} {fc : Nat → Int} (hI : RI ar pd m9 σ (Cs, fc)) (hm : Cs.length ≤ 1800) :
    ∃ τ, xE tX_sentenceClauses β σ [(i : Int)] = some (τ, 0) ∧ ScF σ τ ∧ (((∀ c ∈ csE w e, inB c) ∧ τ.1 3000 = 0 ∧ RI ar pd m9 τ (txF (csE w e) Cs, fc)) ∨ ((¬ ∀ c ∈ csE w e, inB c) ∧ τ.1 3000 = 1 ∧ τ.1 3003 = 3 ∧ τ.1 3004 = e.1 ∧ RI ar pd m9 τ (Cs, fc))) := by
  obtain ⟨k1, k2, k3, k4, k5, k6, k7, k8, k9⟩ := hC
  obtain ⟨s1, s2, ⟨⟨h, s3⟩, _⟩, s4, s5, s6⟩ := hS.2.2 i e he
  have e7 := eF_7 k1 hn
  have v0 : ∀ v ∈ e.2.2.2, 0 ≤ v := fun v hv => (k6 v hv).1
  obtain ⟨σ1, hσ1⟩ : ∃ z, z = zI (zI σ 47 205000) 62 0 := ⟨_, rfl⟩
  have f1 : FrC [47, 62] [59, 60, 61] σ σ1 := by
    have b : FrC [47, 62] [59, 60, 61] σ (zI σ 47 205000) := FrC_I
    rw [hσ1]; exact b.trans FrC_I
  have E1 : REv w σ1 (frE w (!e.2.1) [] []) := ⟨by rw [hσ1, zI_1]; rfl, List.nodup_nil, fun i x hx => by simp [frE] at hx⟩
  obtain ⟨σ2, t1, t2, t3, t4, t5⟩ := sc_14 (β := β) (by omega) hS he hi hf k5 (fun v hv => ⟨(k6 v hv).1, (k6 v hv).2.1⟩) k8 hfi e.2.2.2 [] σ1 rfl E1 f1 (by rw [hσ1]; rfl)
  have t47 : σ2.1 47 = 205000 := by rw [t5, hσ1, zI_o, zI_1]
  -- its FORMULA
  obtain ⟨σ3, hσ3⟩ : ∃ z, z = zI σ2 65 0 := ⟨_, rfl⟩
  have f3 : FrC [47, 62, 65] [59, 60, 61] σ σ3 := by
    rw [hσ3]; exact t3.w.trans FrC_I
  have E3 : REv w σ3 (frE w (!e.2.1) e.2.2.2 []) := by rw [hσ3]; exact t2
  have x3 : EX σ σ3 := ⟨⟨by rw [f3.i 37]; exact Int.le_refl _, by rw [f3.i 38]; exact Int.le_refl _, by rw [f3.i 40]; exact Int.le_refl _⟩, fun j _ _ => ⟨f3.a 34 j, f3.a 35 j, f3.a 36 j⟩, fun j _ _ => ⟨f3.a 30 j, f3.a 31 j, f3.a 32 j, f3.a 33 j⟩, fun j _ _ => ⟨f3.a 41 j, f3.a 42 j⟩⟩
  have R3 : RFm σ3 200 e.2.2.1 (σ.2.1 51 (i : Int)) := (s3.lo.up (by omega)).x x3
  have hW : WFo1 nm e.2.2.1 (fun v => ∃ x ∈ frE w (!e.2.1) e.2.2.2 [], (x.1 : Int) = v) := WFo.mono NmE.rf (fun v hv => by
    have hk := frE_keys (w := w) (stay := !e.2.1) (L := e.2.2.2) (E := []) v0
    have hk : (frE w (!e.2.1) e.2.2.2 []).map (fun x => (x.1 : Int)) = e.2.2.2 := by simpa using hk
    rw [← hk] at hv
    obtain ⟨x, hx, h2⟩ := List.mem_map.mp hv
    exact ⟨x, hx, h2⟩) k4
  have hB : ∀ v, bnF (tt e.2.2.1) v → v ∉ keysE (frE w (!e.2.1) e.2.2.2 []) := fun v hv hk => by
    rw [frE_k v0] at hk
    exact (k6 _ hk).2.2 hv
  have hK : wK (fun v => 0 ≤ cl (w v) ∧ σ3.2.1 23 (v : Int) = cl (w v)) e.2.2.1 (!e.2.1) := by
    have : (fun v : Nat => 0 ≤ cl (w v) ∧ σ3.2.1 23 (v : Int) = cl (w v)) = (fun v : Nat => 0 ≤ cl (w v) ∧ σ.2.1 23 (v : Int) = cl (w v)) := funext (fun v => by rw [f3.a 23])
    rw [this]; exact k7
  have c47 : σ3.1 47 = 205000 := by rw [hσ3, zI_o, t47]
  have c65 : σ3.1 65 = 0 := by rw [hσ3, zI_1]
  obtain ⟨σ4, u1, u2⟩ := cls_ok 200 e.2.2.1 k1 k2 k3 (!e.2.1) (σ.2.1 51 (i : Int)) _ σ3 (β - 1) R3 E3 hW hB hK (by omega) (by omega) (by omega) (by omega) ⟨by rw [f3.i 37]; exact h20.1, by rw [f3.i 38]; exact h20.2.1, by rw [f3.i 40]; exact h20.2.2⟩ (by omega)
  have hcs : cFm w e.2.2.1 (frE w (!e.2.1) e.2.2.2 []) (!e.2.1) = csE w e := rfl
  rw [hcs] at u2
  have go : xE tX_sentenceClauses β σ [(i : Int)] = (if (σ4.1 3000) = 0 then (xE tX_sentenceClauses_111 β σ4 [(i : Int), 0]) else (if (σ4.1 3000) = 2 then (if zb (i : Int) 20100 then (lt_ (zI σ4 3003 3) (fun u1 => lt_ (zI u1 3004 (σ4.2.1 50 (i : Int))) (fun u2 => lt_ (zI u2 3000 1) (fun u3 => some (u3, 0))))) else none) else (none))) := by
    have e87 : ∀ y : Int, y = bi (!e.2.1) → xE tX_sentenceClauses_87 β σ3 [(i : Int), (e.2.2.2.length : Int), y, σ3.2.1 51 (i : Int)] = (if (σ4.1 3000) = 0 then (xE tX_sentenceClauses_111 β σ4 [(i : Int), 0]) else (if (σ4.1 3000) = 2 then (if zb (i : Int) 20100 then (lt_ (zI σ4 3003 3) (fun u1 => lt_ (zI u1 3004 (σ4.2.1 50 (i : Int))) (fun u2 => lt_ (zI u2 3000 1) (fun u3 => some (u3, 0))))) else none) else (none))) := fun y hy => by
      rw [xq_sentenceClauses_87, kW_sentenceClauses_87, if_pos (by omega), hy, f3.a 51, zbd_of u1]
    rw [xq_sentenceClauses, kW_sentenceClauses, lt_e, lt_e, ← hσ1]
    have t1' : xE tX_sentenceClauses_14 β σ1 [(i : Int), 0] = xE tX_sentenceClauses_14 β σ2 [(i : Int), (e.2.2.2.length : Int)] := t1
    rw [t1', xq_sentenceClauses_14, kW_sentenceClauses_14, if_pos ⟨by omega, by omega⟩, t3.a 53, s5, if_pos (Int.le_refl _), lt_e, ← hσ3, f3.a 57, s2]
    cases hb : e.2.1
    · rw [if_pos (by simp)]; exact e87 1 (by rw [hb]; rfl)
    · rw [if_neg (by simp)]; exact e87 0 (by rw [hb]; rfl)
  rw [go]
  have hpb : ∀ {τ : zS}, CLf σ3 τ → PB σ τ := fun {τ} g k q _ h2 hk => by
    rw [g.2.2.2.1 k q (by omega) hk]
    exact (show Pq σ σ3 q (q + 1) from f3.pq) k q (Int.le_refl _) (by omega) hk
  rcases u2 with ⟨o1, o2, o3, o4, o5, o6, o7⟩ | ⟨o1, o2, o3⟩
  · rw [if_pos o1]
    have f4 : FrC [47, 62, 65, 3000] [43, 44, 45, 46, 59, 60, 61, 63, 64] σ σ4 := f3.w.trans o2.fr
    rw [c65] at o4 o5
    rw [Int.zero_add] at o5
    have cl2 : (csE w e).length = nF e.2.2.1 (!e.2.1) := cFm_len e.2.2.1 k1 _ _
    have lz : ∀ A : List (List Lt), (∀ c ∈ A, c.length ≤ 8) → lsz A ≤ 8 * A.length := by
      intro A
      induction A with
      | nil => intro _; simp [lsz]
      | cons c A ih =>
        intro h
        have h1 := h c (by simp)
        have h2 := ih (fun x hx => h x (by simp [hx]))
        have h3 : lsz (c :: A) = c.length + lsz A := by simp [lsz]
        rw [h3, List.length_cons]
        omega
    have lz2 := lz _ o7
    have I4 : RI ar pd m9 σ4 (Cs, fc) := hI.f f4 (hpb o2)
    rcases sc_111 (β := β) (by omega) hi (by omega) o4 o5 (by omega) (csE w e) [] σ4 rfl FrC.refl with ⟨g1, τ, g2, g3⟩ | ⟨g1, τ, g2, g3⟩
    · have g2' : xE tX_sentenceClauses_111 β σ4 [(i : Int), 0] = xE tX_sentenceClauses_167 β (zI τ 122 (τ.1 47)) [(i : Int), 0] := g2
      have f5 : FrC [98, 101, 122] [95, 96, 97, 100] σ4 (zI τ 122 (τ.1 47)) := g3.w.trans FrC_I
      have k47 : τ.1 47 = σ4.1 47 := g3.i 47
      have m4 := o2.2.2.2.2.1
      have I5 : RI ar pd m9 (zI τ 122 (τ.1 47)) (Cs, fc) := I4.f f5 f5.pq
      have R5 : RRs (zI (zI τ 122 (τ.1 47)) 47 (τ.1 47)) 0 (csE w e) := fun j c hc => (o4 j c hc).m (fun k q _ hk => (show Pq σ4 τ q (q + 1) from g3.pq) k q (Int.le_refl _) (by omega) hk) (by rw [zI_1, k47]; exact Int.le_refl _) (fun q _ _ => g3.a 63 q) (g3.a 64 _)
      obtain ⟨τ2, w1, w2, w3⟩ := rows_ok hp' (β := β) (by omega) (x0 := (i : Int)) (T := τ.1 47) ⟨by omega, by omega⟩ (by omega) (fun c hc => ⟨hwl c hc, g1 c hc⟩) (csE w e) [] (zI τ 122 (τ.1 47)) Cs rfl R5 zI_1 (by rw [f5.i 65]; exact o5) I5 (by omega)
      refine ⟨zI τ2 3000 0, by rw [g2']; exact w1, ?_, Or.inl ⟨g1, zI_1, ?_⟩⟩
      · have a1 : ScF σ σ4 := f4.w
        have a2 : ScF σ4 (zI τ 122 (τ.1 47)) := f5.w
        have a3 : ScF (zI τ 122 (τ.1 47)) τ2 := w3.w
        exact ((a1.trans a2).trans a3).trans FrC_I
      · have b : FrC [3000] [] τ2 (zI τ2 3000 0) := FrC_I
        exact w2.f b b.pq
    · have g2' : xE tX_sentenceClauses_111 β σ4 [(i : Int), 0] = _ := g2
      refine ⟨_, g2', ?_, Or.inr ⟨g1, zI_1, by rw [zI_o, zI_o, zI_1], by rw [zI_o, zI_1, f4.a 50]; exact s1, ?_⟩⟩
      · have a1 : ScF σ σ4 := f4.w
        have a2 : ScF σ4 τ := g3.w
        exact (((a1.trans a2).trans FrC_I).trans FrC_I).trans FrC_I
      · have b0 : FrC [3000, 3003, 3004] [] τ (zI τ 3003 3) := FrC_I
        have b := (b0.trans (FrC_I (k := 3004) (x := σ4.2.1 50 (i : Int)))).trans (FrC_I (k := 3000) (x := 1))
        exact (I4.f g3 g3.pq).f b b.pq
  · rw [if_neg (by omega), if_pos o1, if_pos ⟨by omega, by omega⟩, lt_e, lt_e, lt_e]
    have f4 : FrC [47, 62, 65, 3000] [43, 44, 45, 46, 59, 60, 61, 63, 64] σ σ4 := f3.w.trans o2.fr
    refine ⟨_, rfl, ?_, Or.inr ⟨inB_bd o3, zI_1, by rw [zI_o, zI_o, zI_1], by rw [zI_o, zI_1, f4.a 50]; exact s1, ?_⟩⟩
    · have a1 : ScF σ σ4 := f4.w
      exact ((a1.trans FrC_I).trans FrC_I).trans FrC_I
    · have b0 : FrC [3000, 3003, 3004] [] σ4 (zI σ4 3003 3) := FrC_I
      have b := (b0.trans (FrC_I (k := 3004) (x := σ4.2.1 50 (i : Int)))).trans (FrC_I (k := 3000) (x := 1))
      exact (hI.f f4 (hpb o2)).f b b.pq
