theorem DQ.n {σ : zS} {q : Option (List QL)} (h : DQ σ q) : ∃ N, DN σ N := by
  have ds : ∀ D, DS σ D → ∃ N, DN σ N := fun D hD => by
    cases D with
    | none => exact hD.2
    | some w => exact ⟨_, hD.2.1⟩
  cases q with
  | none => exact ds none h
  | some Q => exact ds _ h.2.2.1
theorem WL_app {ar : Int → Nat} {p : Int → Prop} {X Y : List Lt} (h : WL ar p X) (g : WL ar p Y) : WL ar p (X ++ Y) := fun a ha => (List.mem_append.mp ha).elim (h a) (g a)
/-- what is left of the first CLAUSE, by its LITERAL's head -/
theorem hp_i {C : List Lt} {p : Int} {i : Nat} {a : Lt} (ha : C[i]? = some a) : ∀ n b, C[n]? = some b → (hp p C n = hp p C i ↔ n = i) := fun _ _ hb => hp_inj hb ha
theorem hp_no {C : List Lt} {p : Int} (p0 : 0 ≤ p) : ∀ n b, C[n]? = some b → (hp p C n = -1 ↔ n = C.length) := fun n b hb => by
  have h1 := (List.getElem?_eq_some_iff.mp hb).1
  have h2 : p ≤ hp p C n := by unfold hp; omega
  constructor
  · intro h; omega
  · intro h; omega
/-- a new CLAUSE from what was written -/
theorem fin_ok {ar : Int → Nat} {pd : Int → Prop} {m9 : Int} {β : Nat} (hβ : 4 ≤ β) {σ σ1 : zS} {A : PA} (hI : CI ar pd m9 σ A) {th : Vs} {rt : Int → Int} {vl : Int → Option Tm} {rh : Int → Nat} (hW : WC ar pd m9 σ rt vl th rh) {X Y : Tm} (hM : Mgu (Sl pd X Y) th) (f : DG σ σ1) {R : List Lt} (wR : WL ar (lw 12 m9) R) (hQ : DQ σ1 (qaddL (some []) (toQ (mpL (st th) R)))) (h8 : 0 ≤ σ1.1 3905 ∧ σ1.1 3905 ≤ 8) {org x y : Int} : ∃ τ, yE tG_Sat_keep β σ1 [org, x, y] = some (τ, 0) ∧ CI ar pd m9 τ (infA ar pd m9 org x y X Y R A) ∧ IF σ τ := by
  obtain ⟨c1, c2, c3, c4, c5, c6, c7, c8, c9, c10, c11, c12⟩ := id hI
  have hI1 : CI ar pd m9 σ1 A := hI.f f hQ.n (c7.f f) (c6.f f) h8
  have hv : ∀ v, 0 ≤ v → v < 12 → wf ar (fun c => c < m9) (tt (th v)) := fun v a b => th_wf' c2 hW a b
  obtain ⟨τ, t1, t2, t3, t4⟩ := keep_ok (p := fun c => c < m9) (fun c h => h) hβ hI1 (WL_mp hv wR) hQ (org := org) (x := x) (y := y)
  refine ⟨τ, t1, ?_, f.w.trans t3⟩
  rw [infA_of ⟨hM, hv⟩ wR]; exact t2
/-- one place -/
theorem sup_step {ar : Int → Nat} {pd : Int → Prop} {m9 : Int} {β : Nat} (hβ : 170 ≤ β) {σ : zS} {A : PA} (hI : CI ar pd m9 σ A) {k1 k2 : Nat} {c1 c2 : CL} (h1 : A.1[k1]? = some c1) (h2 : A.1[k2]? = some c2) {i j : Nat} {a b : Lt} (ha : c1.1[i]? = some a) (hb : c2.1[j]? = some b) {s t : Int} (hs : s = 0 ∨ s = 1) (ht : t = 0 ∨ t = 1) {o : Nat} {y : Tm} (hy : sbF o (tt (sdT b t)) = some y) {x4 x7 x8 x10 x11 u : Int} (hu : u = sdp (hp (pos A.1 k2) c2.1 j) b t + (o : Int)) :
    ∃ τ, yE tG_Sat_superposeInto_p108 β σ [(k1 : Int), hp (pos A.1 k1) c1.1 i, s, (k2 : Int), x4, t, sdp (hp (pos A.1 k1) c1.1 i) a s, x7, x8, u, x10, x11] = yE tG_Sat_superposeInto_p189 β τ [(k1 : Int), hp (pos A.1 k1) c1.1 i, s, (k2 : Int), x4, t, sdp (hp (pos A.1 k1) c1.1 i) a s, x7, x8, u, x10, x11] ∧ CI ar pd m9 τ (infA ar pd m9 1 (k1 : Int) (k2 : Int) (sdT a s) (shT 6 y) (oth i c1.1.length 0 c1.1 ++ rpL (sdT a (1 - s)) j t o 0 c2.1) A) ∧ IF σ τ := by
  obtain ⟨d1, d2, d3, d4, d5, d6, d7, d8, d9, d10, d11, d12⟩ := id hI
  have wc1 := d10 c1 (List.mem_of_getElem? h1)
  have wc2 := d10 c2 (List.mem_of_getElem? h2)
  have wl1 : WL ar (lb m9) c1.1 := wc1.2.2.2.2
  have wl2 : WL ar (lb m9) c2.1 := wc2.2.2.2.2
  obtain ⟨σ1, e1, I1, f1, F1⟩ := cl_ok (β := β - 1) (a := pos A.1 k1) (b := pos A.1 k2) hI
  have S1 := I1.2.2.1
  have tx : TA ar m9 σ1 (sdp (hp (pos A.1 k1) c1.1 i) a s) 0 (sdT a s) := by
    have := TA_of S1 h1 wc1 ha hs (o := 0) (y := sdT a s) rfl (b := 0) (Or.inl rfl) (by unfold bs; rw [if_pos rfl]; exact F1.2.1)
    simpa using this
  have ty : TA ar m9 σ1 u 6 y := by
    rw [hu]
    exact TA_of S1 h2 wc2 hb ht hy (b := 6) (Or.inr rfl) (by unfold bs; rw [if_neg (by decide)]; exact F1.2.2.1)
  obtain ⟨σ2, r, e2, I2, f2, hr⟩ := un_ok (β := β - 1) (by omega) I1 F1 tx ty
  rw [shT_0] at hr
  rw [yq_Sat_superposeInto_p108, kY_Sat_superposeInto_p108, if_pos (by omega), zbd_of (d3.f3 h1).2.1, if_pos (by omega), zbd_of (d3.f3 h2).2.1, if_pos (by omega), zbd_of e1, if_pos (by omega), zbd_of e2]
  rcases hr with ⟨rfl, no⟩ | ⟨rfl, rt, vl, th, rh, hW, hM⟩
  · rw [if_pos rfl]
    exact ⟨σ2, rfl, by rw [infA_no no]; exact I2, f1.w.trans f2.w⟩
  · obtain ⟨σ3, e3, f3, q3⟩ := dclear_ok (β := β - 1) I2.2.2.2.2.2.2.2.1
    have hW3 := hW.f f3
    have S3 := I2.2.2.1.f f3
    have h83 : 0 ≤ σ3.1 3905 ∧ σ3.1 3905 ≤ 8 := by
      have := q3.2.2.2.1
      simp at this; omega
    obtain ⟨σ4, e4, f4, q4, h84⟩ := others_ok hW3 S3 h1 wc1 (i := i) (j := c1.1.length) (hp_i ha) (hp_no (S3.k h1).2.1) (b := 0) (Or.inl rfl) (β := β - 1) (by omega) q3 h83
    have hW4 := hW3.f f4
    have S4 := S3.f f4
    have s1 : 1 - s = 0 ∨ 1 - s = 1 := by omega
    obtain ⟨_, wa1, wa2⟩ := wl1 a (List.mem_of_getElem? ha)
    have wr : wf ar (lb m9) (tt (sdT a (1 - s))) := by unfold sdT; split <;> assumption
    obtain ⟨σ5, e5, f5, q5, h85⟩ := replaced_ok hW4 S4 h2 wc2 hb ht hy hu (S4.hl h1 ha) s1 wr (β := β - 1) (by omega) q4 h84
    have ho : ∀ m d, c2.1[m]? = some d → 0 + m = j → (t = 0 → o < tw d.2.1 ∧ sbF o (tt d.2.1) = some y) ∧ (t = 1 → o < tw d.2.2 ∧ sbF o (tt d.2.2) = some y) := fun m d hd e => by
      have : m = j := by omega
      subst this
      obtain rfl : d = b := by rw [hd] at hb; exact Option.some.inj hb
      obtain ⟨_, wb1, wb2⟩ := wl2 d (List.mem_of_getElem? hd)
      have ty := tw_pos y
      refine ⟨fun e => ?_, fun e => ?_⟩
      · subst e
        have hy2 : sbF o (tt d.2.1) = some y := hy
        have := (sb_wf wb1 hy2).2
        have e1 : wt (tt d.2.1) = tw d.2.1 := by simp only [tt, wt, tw]; omega
        exact ⟨by omega, hy2⟩
      · subst e
        have hy2 : sbF o (tt d.2.2) = some y := hy
        have := (sb_wf wb2 hy2).2
        have e1 : wt (tt d.2.2) = tw d.2.2 := by simp only [tt, wt, tw]; omega
        exact ⟨by omega, hy2⟩
    have wR : WL ar (lw 12 m9) (oth i c1.1.length 0 c1.1 ++ rpL (sdT a (1 - s)) j t o 0 c2.1) := WL_app (oth_wf wl1) (rpL_wf wr wl2 (fun m d hd e => ⟨fun z => ((ho m d hd e).1 z).1, fun z => ((ho m d hd e).2 z).1⟩))
    have eo : (oth i c1.1.length 0 c1.1).map (slL 0) = oth i c1.1.length 0 c1.1 := by
      rw [show slL 0 = id from funext slL_0, List.map_id]
    have hQ : DQ σ5 (qaddL (some []) (toQ (mpL (st th) (oth i c1.1.length 0 c1.1 ++ rpL (sdT a (1 - s)) j t o 0 c2.1)))) := by
      rw [mpL_app, toQ_app, qaddL_app, ← rpQs_to wr wl2 ho]
      have := wrQ_to (th := th) (b := 0) (by decide) (oth_wf (i := i) (j := c1.1.length) wl1)
      rw [eo] at this
      rw [← this]; exact q5
    have g35 : DG σ2 σ5 := (f3.w.trans f4).trans f5
    obtain ⟨τ, t1, t2, t3⟩ := fin_ok (β := β - 1) (by omega) I2 hW hM g35 wR hQ h85 (org := 1) (x := (k1 : Int)) (y := (k2 : Int))
    refine ⟨τ, ?_, t2, (f1.w.trans f2.w).trans t3⟩
    rw [if_neg (by decide), if_pos (by omega), zbd_of e3, if_pos (by omega), zbd_of e4, if_pos (show zr (1 - s) by unfold zr; omega), if_pos (by omega), zbd_of e5, if_pos (by omega), zbd_of t1]
