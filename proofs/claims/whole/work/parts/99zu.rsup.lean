/-! the reference: SUPERPOSITION at one place -/
theorem ub_ok {β : Nat} {σ : zS} : ∃ τ, zE tM_unbind β σ [] = some (τ, 0) ∧ VB σ τ ∧ ∀ v, 0 ≤ v → v < 12 → τ.2.1 106 v < 0 := by
  refine ⟨zFl σ 106 (-1) 12, by rw [zq_unbind, kZ_unbind, lt_e], zFl_f, fun v a b => ?_⟩
  show (if 106 = 106 ∧ 0 ≤ v ∧ v < ((12 : Nat) : Int) then (-1 : Int) else σ.2.1 106 v) < 0
  rw [if_pos ⟨rfl, a, by omega⟩]; omega
theorem rpX_out {r X : Tm} {P t : Int} (h : ¬ (t ≤ P ∧ P < t + (tw X : Int))) : rpX r P t X = X := by
  have e : tw X = 1 + wt X.2 := rfl
  unfold rpX rpA
  rw [if_neg (by omega), if_neg (by omega)]
theorem rpX_in {r X : Tm} {t : Int} {o : Nat} (h : o < tw X) : rpX r (t + (o : Int)) t X = rpT r o X := by
  have e : tw X = 1 + wt X.2 := rfl
  unfold rpX rpT rpA
  by_cases q : o = 0
  · rw [if_pos (by omega), if_pos q]
  · rw [if_neg (by omega), if_neg q, if_pos (by omega), show (t + (o : Int) - (t + 1)).toNat = o - 1 by omega]
theorem cR_app {r : Tm} {P : Int} {L M : List Pe} : cR r P (L ++ M) = cR r P L ++ cR r P M := List.map_append
theorem cR_0 {σ : zS} {r : Tm} {P p : Int} {i j : Nat} : ∀ (C : List Lt) (n : Nat), (∀ (m : Nat) a, C[m]? = some a → 0 ≤ σ.2.1 66 (p + ((n + m : Nat) : Int)) ∧ 0 ≤ σ.2.1 67 (p + ((n + m : Nat) : Int))) → cR r P (poE σ p 0 i j n C) = oth i j n C
  | [], n, _ => rfl
  | a :: C, n, h => by
    have ih := cR_0 (r := r) (P := P) (i := i) (j := j) C (n + 1) (fun m b hb => by
      have := h (m + 1) b (by rw [List.getElem?_cons_succ]; exact hb)
      rw [show n + 1 + m = n + (m + 1) by omega]; exact this)
    obtain ⟨z1, z2⟩ := h 0 a rfl
    rw [Nat.add_zero] at z1 z2
    by_cases q : n = i ∨ n = j
    · simp only [poE, oth, if_pos q, ih]
    · simp only [poE, oth, if_neg q]
      show c1 r P _ :: cR r P _ = _
      rw [ih]
      congr 1
      unfold c1 cX
      dsimp only
      rw [if_neg (by omega), shT_0, shT_0, rpX_out (by omega), rpX_out (by omega)]
theorem wtL_lt {C : List Lt} {n j : Nat} {d : Lt} (hd : C[n]? = some d) (h : n < j) : wtL (C.take n) + lwt d ≤ wtL (C.take j) := by
  have tk : C.take (n + 1) = C.take n ++ [d] := by rw [List.take_add_one, hd]; rfl
  have el : lwt d = tw d.2.1 + tw d.2.2 := rfl
  have e1 : wtL (C.take (n + 1)) = wtL (C.take n) + lwt d := by rw [tk, wtL_app]; simp only [wtL]; omega
  have e2 : C.take j = C.take (n + 1) ++ (C.take j).drop (n + 1) := by
    have := List.take_append_drop (n + 1) (C.take j)
    rw [List.take_take, Nat.min_eq_left (by omega)] at this
    exact this.symm
  rw [e2, wtL_app]; omega
theorem cR_6 {σ : zS} {r : Tm} {p q t : Int} {C : List Lt} (hpos : ∀ (n : Nat) d, C[n]? = some d → σ.2.1 66 (p + (n : Int)) = q + (wtL (C.take n) : Int) ∧ σ.2.1 67 (p + (n : Int)) = q + (wtL (C.take n) : Int) + (tw d.2.1 : Int)) {j o : Nat} {b : Lt} (hb : C[j]? = some b) (ht : t = 0 ∨ t = 1) (ho : o < tw (sdT b t)) : ∀ (R D : List Lt), C = D ++ R → cR r (q + (wtL (C.take j) : Int) + (if t = 0 then 0 else (tw b.2.1 : Int)) + (o : Int)) (poE σ p 6 C.length C.length D.length R) = rpL r j t o D.length R
  | [], D, _ => rfl
  | d :: R, D, hD => by
    have hl : C.length = D.length + (R.length + 1) := by rw [hD]; simp
    have hd : C[D.length]? = some d := by rw [hD, List.getElem?_append_right (Nat.le_refl _), Nat.sub_self]; rfl
    have ih := cR_6 (r := r) hpos hb ht ho R (D ++ [d]) (by rw [hD]; simp)
    have el : (D ++ [d]).length = D.length + 1 := by simp
    rw [el] at ih
    obtain ⟨z1, z2⟩ := hpos D.length d hd
    obtain ⟨P, hP⟩ : ∃ P, P = q + (wtL (C.take j) : Int) + (if t = 0 then 0 else (tw b.2.1 : Int)) + (o : Int) := ⟨_, rfl⟩
    rw [← hP] at ih ⊢
    simp only [poE, rpL]
    rw [if_neg (by omega)]
    show c1 r P _ :: cR r P _ = _
    rw [ih]
    congr 1
    unfold c1 cX
    dsimp only
    rw [if_pos rfl, z1, z2]
    have e1 : tw (shT 6 d.2.1) = tw d.2.1 := by show 1 + wt (sh 6 d.2.1.2) = _; rw [sh_wt]
    have e2 : tw (shT 6 d.2.2) = tw d.2.2 := by show 1 + wt (sh 6 d.2.2.2) = _; rw [sh_wt]
    have elw : lwt d = tw d.2.1 + tw d.2.2 := rfl
    have elb : lwt b = tw b.2.1 + tw b.2.2 := rfl
    by_cases hj : D.length = j
    · rw [hj, hb] at hd
      obtain rfl := Option.some.inj hd
      rw [hj]
      rcases ht with rfl | rfl
      · have ho' : o < tw b.2.1 := ho
        rw [if_pos rfl] at hP
        rw [if_pos ⟨rfl, rfl⟩, if_neg (fun w => by have := w.2; omega)]
        rw [show P = q + (wtL (C.take j) : Int) + (o : Int) by omega, rpX_in (by omega), rpX_out (by omega)]
      · have ho' : o < tw b.2.2 := ho
        rw [if_neg (by decide)] at hP
        rw [if_neg (fun w => by have := w.2; omega), if_pos ⟨rfl, rfl⟩]
        rw [hP, rpX_out (by omega), rpX_in (by omega)]
    · rw [if_neg (fun w => hj w.1), if_neg (fun w => hj w.1)]
      have ho2 : (if t = 0 then (0 : Int) else (tw b.2.1 : Int)) + (o : Int) < (lwt b : Int) ∧ 0 ≤ (if t = 0 then (0 : Int) else (tw b.2.1 : Int)) + (o : Int) := by
        rcases ht with rfl | rfl
        · have ho' : o < tw b.2.1 := ho
          rw [if_pos rfl]; omega
        · have ho' : o < tw b.2.2 := ho
          rw [if_neg (by decide)]; omega
      obtain ⟨u, hu⟩ : ∃ u, u = (if t = 0 then (0 : Int) else (tw b.2.1 : Int)) := ⟨_, rfl⟩
      rw [← hu] at hP ho2
      rcases Nat.lt_or_gt_of_ne hj with w | w
      · have := wtL_lt hd w
        rw [rpX_out (by omega), rpX_out (by omega)]
      · have := wtL_lt hb w
        rw [rpX_out (by omega), rpX_out (by omega)]
theorem Pc_sb {σ : zS} : ∀ {F : T} {o : Nat} {x : Tm} {t : Int}, Pc σ F t → sbF o F = some x → Pt σ x.1 x.2 (t + (o : Int))
  | .leaf _, o, x, t, _, h => by cases h
  | .branch n k s, o, x, t, hF, h => by
    have hPt := (Pc_nd.mp hF).1
    unfold sbF at h
    by_cases q : o = 0
    · rw [if_pos q] at h
      obtain rfl := Option.some.inj h
      rw [q, show t + ((0 : Nat) : Int) = t by omega]; exact hPt
    · rw [if_neg q] at h
      by_cases q2 : o ≤ wt k
      · rw [if_pos q2] at h
        have := Pc_sb hPt.2.2.2.1 h
        rw [hPt.2.2.2.2 (by omega), show t + 1 + ((o - 1 : Nat) : Int) = t + (o : Int) by omega] at this
        exact this
      · rw [if_neg q2] at h
        have hl := sb_lt h
        have := Pc_sb hF.2.2.2.2.2.1 h
        rw [hF.2.2.2.2.2.2 (by omega), show t + 1 + (wt k : Int) + ((o - 1 - wt k : Nat) : Int) = t + (o : Int) by omega] at this
        exact this
theorem Px_sb {σ : zS} {x y : Tm} {o : Nat} {t : Int} (hx : Pt σ x.1 x.2 t) (h : sbF o (tt x) = some y) : Pt σ y.1 y.2 (t + (o : Int)) := by
  have hl := sb_lt h
  rw [tt_wt] at hl
  have e : tw x = 1 + wt x.2 := rfl
  cases o with
  | zero =>
    rw [show tt x = nd x.1 x.2 nl from rfl, sb_nd0] at h
    obtain rfl := Option.some.inj h
    rw [show t + ((0 : Nat) : Int) = t by omega]; exact hx
  | succ o =>
    rw [show tt x = nd x.1 x.2 nl from rfl, sb_ndk (by omega)] at h
    have := Pc_sb hx.2.2.2.1 h
    rw [hx.2.2.2.2 (by omega), show t + 1 + (o : Int) = t + ((o + 1 : Nat) : Int) by omega] at this
    exact this
/-- F is the row at o in G -/
def At (G : T) (o : Nat) (F : T) : Prop := (∀ q, q < wt F → sbF (o + q) G = sbF q F) ∧ (∀ (σ : zS) (t : Int), 0 < wt F → Pc σ G t → Pc σ F (t + (o : Int))) ∧ (∀ (ar : Int → Nat) (p : Int → Prop), wf ar p G → wf ar p F) ∧ o + wt F ≤ wt G
theorem At.z (G : T) : At G 0 G := ⟨fun q _ => by rw [Nat.zero_add], fun σ t _ h => by rw [show t + ((0 : Nat) : Int) = t by omega]; exact h, fun _ _ h => h, by omega⟩
theorem At.k {G : T} {o n : Nat} {k s : T} (h : At G o (nd n k s)) : At G (o + 1) k := by
  obtain ⟨h1, h2, h3, h4⟩ := h
  have ew : wt (nd n k s) = 1 + wt k + wt s := rfl
  refine ⟨fun q hq => ?_, fun σ t hk hG => ?_, fun ar p w => (h3 ar p w).2.2.1, by omega⟩
  · rw [show o + 1 + q = o + (q + 1) by omega, h1 (q + 1) (by omega), sb_ndk hq]
  · have := (Pc_nd.mp (h2 σ t (by omega) hG)).1
    rw [show t + ((o + 1 : Nat) : Int) = t + (o : Int) + 1 by omega, ← this.2.2.2.2 hk]
    exact this.2.2.2.1
theorem At.s {G : T} {o n : Nat} {k s : T} (h : At G o (nd n k s)) : At G (o + 1 + wt k) s := by
  obtain ⟨h1, h2, h3, h4⟩ := h
  have ew : wt (nd n k s) = 1 + wt k + wt s := rfl
  refine ⟨fun q hq => ?_, fun σ t hk hG => ?_, fun ar p w => (h3 ar p w).2.2.2, by omega⟩
  · rw [show o + 1 + wt k + q = o + (1 + wt k + q) by omega, h1 (1 + wt k + q) (by omega), sb_nds]
  · have := Pc_nd.mp (h2 σ t (by omega) hG)
    rw [show t + ((o + 1 + wt k : Nat) : Int) = t + (o : Int) + 1 + (wt k : Int) by omega, ← this.2.2 hk]
    exact this.2.1
theorem wh_n0 {f : Nat → PA → PA} {m o : Nat} {A : PA} (h : A.2 87 ≠ 0) : wh f m o A = A := by
  cases m with
  | zero => rfl
  | succ m => unfold wh; rw [if_neg h]
theorem wh_add {f : Nat → PA → PA} : ∀ (m n o : Nat) (A : PA), wh f (m + n) o A = wh f n (o + m) (wh f m o A)
  | 0, n, o, A => by rw [Nat.zero_add]; rfl
  | m + 1, n, o, A => by
    by_cases h : A.2 87 = 0
    · rw [show m + 1 + n = (m + n) + 1 by omega]
      show (if A.2 87 = 0 then wh f (m + n) (o + 1) (f o A) else A) = wh f n (o + (m + 1)) (if A.2 87 = 0 then wh f m (o + 1) (f o A) else A)
      rw [if_pos h, if_pos h, wh_add m n (o + 1), show o + 1 + m = o + (m + 1) by omega]
    · rw [wh_n0 h, wh_n0 h, wh_n0 h]
