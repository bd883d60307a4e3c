/-! INTERPRETATIONS -/
def hmx (h v : Int) : Int := zwa (zwa (zwm 31 (zxor h (zushr h 7))) v) 1
def hmz (h : Int) : Int := zxor (zwm (zxor h (zushr h 15)) 739982445) (zushr (zwm (zxor h (zushr h 15)) 739982445) 12)
noncomputable def hfn (pd : Int → Prop) (m c h : Int) : Int := @ite _ (pd c) (Classical.propDecidable _) (zand (hmz h) 1) (Int.tmod (zand (hmz h) 2147483647) m)
noncomputable def mvF (pd : Int → Prop) (sd m : Int) (el : Int → Int) : Int → T → Int
  | h, .leaf _ => h
  | h, .branch n k s => mvF pd sd m el (hmx h (if cl n < 0 then el (-1 - cl n) else if cl n = 0 then 1 else hfn pd m (cl n) (mvF pd sd m el (hmx sd (cl n)) k))) s
noncomputable def mvT (pd : Int → Prop) (sd m : Int) (el : Int → Int) (x : Tm) : Int := if cl x.1 < 0 then el (-1 - cl x.1) else if cl x.1 = 0 then 1 else hfn pd m (cl x.1) (mvF pd sd m el (hmx sd (cl x.1)) x.2)
noncomputable def vls (pd : Int → Prop) (sd m : Int) (el : Int → Int) : T → List Int
  | .leaf _ => []
  | .branch n k s => mvT pd sd m el (n, k) :: vls pd sd m el s
theorem vls_len {pd : Int → Prop} {sd m : Int} {el : Int → Int} : ∀ F : T, (vls pd sd m el F).length = len F
  | .leaf _ => rfl
  | .branch n k s => by simp only [vls, List.length_cons, len, vls_len s]; omega
theorem mvF_fold {pd : Int → Prop} {sd m : Int} {el : Int → Int} : ∀ (F : T) (h : Int), mvF pd sd m el h F = (vls pd sd m el F).foldl hmx h
  | .leaf _, h => rfl
  | .branch n k s, h => by
    show mvF pd sd m el (hmx h (mvT pd sd m el (n, k))) s = _
    rw [mvF_fold s]; rfl
theorem mix_ok {β : Nat} {σ : zS} {h v : Int} : yE tC_Mod_mix β σ [h, v] = some (σ, hmx h v) := by rw [yq_Mod_mix, kY_Mod_mix]; rfl
theorem apply_p24 {ar : Int → Nat} {pd : Int → Prop} {m9 : Int} {β : Nat} (hβ : 1 ≤ β) {σ : zS} (hC : Cx ar pd m9 σ) {c : Int} (c0 : 0 ≤ c) (c1 : c < m9) (h0 : σ.1 6905 ≠ 0) {q : Int} (q0 : 0 ≤ q) : ∀ (W : List Int) (h : Int), Fl (σ.2.1 71) q W.reverse → q + (W.length : Int) ≤ 101 → yE tC_Mod_apply_p24 β σ [c, q, h, q + (W.length : Int) - 1] = some (σ, hfn pd (σ.1 6905) c (W.foldl hmx h))
  | [], h, hW, hl => by
    have e91 : ∀ x2 x3 x4 : Int, yE tC_Mod_apply_p91 β σ [c, q, x2, x3, x4] = some (σ, x4) := fun x2 x3 x4 => by rw [yq_Mod_apply_p91, kY_Mod_apply_p91]
    rw [yq_Mod_apply_p24, kY_Mod_apply_p24, if_pos (by simp only [List.length_nil]; omega), if_pos hβ, zbd_of (ispred_ok hC c0 c1)]
    unfold hfn
    by_cases p : pd c
    · rw [b2_t p, if_neg (by decide), e91, if_pos p]; rfl
    · rw [b2_f p, if_pos rfl, if_neg h0, e91, if_neg p]; rfl
  | w :: W, h, hW, hl => by
    simp only [List.length_cons] at hl ⊢
    rw [List.reverse_cons] at hW
    obtain ⟨g1, g2⟩ := Fl_app.mp hW
    rw [List.length_reverse] at g2
    have e : σ.2.1 71 (q + (W.length : Int)) = w := g2.1
    rw [show q + ((W.length + 1 : Nat) : Int) - 1 = q + (W.length : Int) by omega]
    rw [yq_Mod_apply_p24, kY_Mod_apply_p24, if_neg (by omega), if_pos (by omega), if_pos hβ, e, zbd_of mix_ok, if_pos (by omega), show q + (W.length : Int) + -1 = q + (W.length : Int) - 1 by omega]
    exact apply_p24 hβ hC c0 c1 h0 q0 W (hmx h w) g1 (by omega)
theorem mv_ok {ar : Int → Nat} {pd : Int → Prop} {m9 : Int} {β : Nat} (hβ : 2 ≤ β) (h00 : ar 0 = 0) {sd m : Int} (m0 : m ≠ 0) {el : Int → Int} {x0 x1 : Int} (z0 : 0 ≤ x0) : ∀ (F : T) (σ : zS) (p top : Int), Cx ar pd m9 σ → σ.1 6904 = sd → σ.1 6905 = m → (∀ v, σ.2.1 70 v = el v) → Fl (σ.2.1 48) p (fl F) → wf ar (lb m9) F → x0 ≤ p → p + (wt F : Int) ≤ σ.1 4701 → 0 ≤ top → top + (wt F : Int) ≤ 101 →
    ∃ τ, yE tC_Mod_valueOf_p7 β σ [x0, x1, top, p + (wt F : Int) - 1] = yE tC_Mod_valueOf_p7 β τ [x0, x1, top + (len F : Int), p - 1] ∧ FrC [] [71] σ τ ∧ Fl (τ.2.1 71) top (vls pd sd m el F).reverse ∧ ∀ q, q < top → τ.2.1 71 q = σ.2.1 71 q
  | .leaf _, σ, p, top, hC, _, _, _, hF, hw, hp, hq, ht, hb => by
    refine ⟨σ, ?_, FrC.refl, trivial, fun _ _ => rfl⟩
    simp only [wt, len]
    rw [show p + ((0 : Nat) : Int) - 1 = p - 1 by omega, show top + ((0 : Nat) : Int) = top by omega]
  | .branch n k s, σ, p, top, hC, hsd, hm, hel, hF, hw, hp, hq, ht, hb => by
    obtain ⟨w1, w2, w3, w4⟩ := hw
    obtain ⟨F1, F2⟩ := hF
    obtain ⟨F3, F4⟩ := Fl_app.mp F2
    rw [fl_length] at F4
    have lk := len_le_wt k
    have ls := len_le_wt s
    simp only [wt] at hq hb ⊢
    obtain ⟨c1, c2, c3, c4, c5, c6⟩ := id hC
    obtain ⟨σ1, t1, t2, t3, t4⟩ := mv_ok hβ h00 m0 (x0 := x0) (x1 := x1) (sd := sd) (m := m) (el := el) z0 s σ (p + 1 + (wt k : Int)) top hC hsd hm hel F4 w4 (by omega) (by omega) ht (by omega)
    have C1 := hC.f t2
    obtain ⟨σ2, u1, u2, u3, u4⟩ := mv_ok hβ h00 m0 (x0 := x0) (x1 := x1) (sd := sd) (m := m) (el := el) z0 k σ1 (p + 1) (top + (len s : Int)) C1 (by rw [t2.i 6904]; exact hsd) (by rw [t2.i 6905]; exact hm) (fun v => by rw [t2.a 70]; exact hel v) (Fl_q (fun i _ _ => t2.a 48 i) F3) w3 (by omega) (by rw [t2.i 4701]; omega) (by omega) (by omega)
    have f2 : FrC [] [71] σ σ2 := t2.trans u2
    have C2 := hC.f f2
    have i5 : σ2.1 6905 = m := by rw [f2.i 6905]; exact hm
    have ec : σ2.2.1 48 p = cl n := by rw [f2.a 48]; exact F1
    have l48 : σ2.2.2 48 = σ.2.2 48 := f2.l 48
    have go : yE tC_Mod_valueOf_p7 β σ [x0, x1, top, p + ((1 + wt k + wt s : Nat) : Int) - 1] = yE tC_Mod_valueOf_p7 β σ2 [x0, x1, top + (len s : Int) + (len k : Int), p] := by
      rw [show p + ((1 + wt k + wt s : Nat) : Int) - 1 = p + 1 + (wt k : Int) + (wt s : Int) - 1 by omega, t1, show p + 1 + (wt k : Int) - 1 = p + 1 + (wt k : Int) - 1 from rfl, u1, show p + 1 - 1 = p by omega]
    have e101 : ∀ (ρ : zS) (x2 x4 : Int), yE tC_Mod_valueOf_p101 β ρ [x0, x1, x2, p, x4] = yE tC_Mod_valueOf_p7 β ρ [x0, x1, x2, p - 1] := fun ρ x2 x4 => by rw [yq_Mod_valueOf_p101, kY_Mod_valueOf_p101, if_pos (by omega), show p + -1 = p - 1 by omega]
    -- the value is laid on top
    have fin : ∀ v : Int, v = mvT pd sd m el (n, k) → ∀ τ, τ = zA σ2 71 (top + (len s : Int)) v → FrC [] [71] σ τ ∧ Fl (τ.2.1 71) top (vls pd sd m el (.branch n k s)).reverse ∧ ∀ q, q < top → τ.2.1 71 q = σ.2.1 71 q := fun v hv τ hτ => by
      refine ⟨f2.trans (by rw [hτ]; exact FrC_A), ?_, fun q hq' => by rw [hτ, zA_i (by omega), u4 q (by omega), t4 q hq']⟩
      show Fl (τ.2.1 71) top (mvT pd sd m el (n, k) :: vls pd sd m el s).reverse
      rw [List.reverse_cons]
      refine Fl_app.mpr ⟨Fl_q (fun i i0 i1 => ?_) t3, ?_, trivial⟩
      · rw [List.length_reverse, vls_len] at i1
        rw [hτ, zA_i (by omega), u4 i (by omega)]
      · rw [List.length_reverse, vls_len, hτ, zA_s]; exact hv
    have el2 : ((len (.branch n k s) : Nat) : Int) = (len s : Int) + 1 := by simp only [len]; omega
    rw [el2]
    rw [go, yq_Mod_valueOf_p7, kY_Mod_valueOf_p7, if_neg (by omega), if_pos (by omega), ec]
    by_cases hc : cl n < 0
    · have k0 : len k = 0 := by rw [if_pos hc] at w1; exact w1
      have hv : mvT pd sd m el (n, k) = el (-1 - cl n) := by unfold mvT; rw [if_pos hc]
      obtain ⟨b1, b2⟩ := w2
      obtain ⟨q1, q2⟩ := fin _ rfl _ rfl
      rw [if_neg (by omega), if_pos (by omega), if_pos (by omega), lt_e, if_pos (by omega), e101, k0]
      refine ⟨_, ?_, q1, q2⟩
      rw [show top + (len s : Int) + ((0 : Nat) : Int) = top + (len s : Int) by omega, f2.a 70, hel, ← hv, Int.add_assoc]
    · rw [if_pos (by omega)]
      have k0 : len k = ar (cl n) := by rw [if_neg hc] at w1; exact w1
      obtain ⟨b1, b2⟩ := w2
      by_cases hz : cl n = 0
      · have hv : mvT pd sd m el (n, k) = 1 := by unfold mvT; rw [if_neg hc, if_pos hz]
        rw [hz, h00] at k0
        obtain ⟨q1, q2⟩ := fin _ rfl _ rfl
        rw [if_pos hz, if_pos (by omega), lt_e, if_pos (by omega), e101, k0]
        refine ⟨_, ?_, q1, q2⟩
        rw [show top + (len s : Int) + ((0 : Nat) : Int) = top + (len s : Int) by omega, ← hv, Int.add_assoc]
      · obtain ⟨a1, a2⟩ := C2.1 (cl n) ⟨b1, b2⟩ (by omega)
        have hv : mvT pd sd m el (n, k) = hfn pd m (cl n) (mvF pd sd m el (hmx sd (cl n)) k) := by unfold mvT; rw [if_neg hc, if_neg hz]
        have ap := apply_p24 (β := β - 1) (by omega) C2 (c := cl n) (by omega) b2 (by rw [i5]; exact m0) (q := top + (len s : Int)) (by omega) (vls pd sd m el k) (hmx sd (cl n)) u3 (by rw [vls_len]; omega)
        rw [← mvF_fold, i5, ← hv, vls_len] at ap
        have ea : yE tC_Mod_apply (β - 1) σ2 [cl n, top + (len s : Int)] = some (σ2, mvT pd sd m el (n, k)) := by
          rw [yq_Mod_apply, kY_Mod_apply, if_pos (by omega), zbd_of mix_ok, if_pos (by omega), a2, ← k0, if_pos (by omega), if_pos (by omega), f2.i 6904, hsd]
          have ap2 := apply_p24 (β := β - 1) (by omega) C2 (c := cl n) (by omega) b2 (by rw [i5]; exact m0) (q := top + (len s : Int)) (by omega) (vls pd sd m el k) (hmx sd (cl n)) u3 (by rw [vls_len]; omega)
          rw [← mvF_fold, i5, ← hv, vls_len] at ap2
          exact ap2
        obtain ⟨q1, q2⟩ := fin _ rfl _ rfl
        rw [if_neg hz, if_pos (by omega), a2, ← k0, if_pos (by omega), if_pos (by omega), show top + (len s : Int) + (len k : Int) - (len k : Int) = top + (len s : Int) by omega, zbd_of ea, if_pos (by omega), lt_e, if_pos (by omega), e101]
        refine ⟨_, ?_, q1, q2⟩
        rw [Int.add_assoc]
theorem vo_ok {ar : Int → Nat} {pd : Int → Prop} {m9 : Int} {β : Nat} (hβ : 2 ≤ β) (h00 : ar 0 = 0) {σ : zS} {m : Int} (hm : σ.1 6905 = m) (m0 : m ≠ 0) {x : Tm} {p e : Int} (hC : Cx ar pd m9 σ) (hF : Fl (σ.2.1 48) p (fl (tt x))) (wx : wf ar (lb m9) (tt x)) (p0 : 0 ≤ p) (hq : p + (tw x : Int) ≤ σ.1 4701) (hx : tw x ≤ 100) (he : e = p + (tw x : Int)) : ∃ τ, yE tC_Mod_valueOf β σ [p, e] = some (τ, mvT pd (σ.1 6904) m (fun v => σ.2.1 70 v) x) ∧ FrC [] [71] σ τ := by
  obtain ⟨c1, c2, c3, c4, c5, c6⟩ := id hC
  have ew := tt_wt x
  obtain ⟨τ, t1, t2, t3, t4⟩ := mv_ok hβ h00 m0 (sd := σ.1 6904) (m := m) (el := fun v => σ.2.1 70 v) (x0 := p) (x1 := e) p0 (tt x) σ p 0 hC rfl hm (fun _ => rfl) hF wx (Int.le_refl _) (by rw [ew]; exact hq) (Int.le_refl _) (by rw [ew]; omega)
  refine ⟨τ, ?_, t2⟩
  have v1 : vls pd (σ.1 6904) m (fun v => σ.2.1 70 v) (tt x) = [mvT pd (σ.1 6904) m (fun v => σ.2.1 70 v) x] := rfl
  rw [v1] at t3
  have e0 : τ.2.1 71 0 = mvT pd (σ.1 6904) m (fun v => σ.2.1 70 v) x := t3.1
  have t := tw_pos x
  rw [ew, ← he] at t1
  rw [yq_Mod_valueOf, kY_Mod_valueOf, if_pos (by omega), t1, yq_Mod_valueOf_p7, kY_Mod_valueOf_p7, if_pos (by omega), if_pos (by omega), e0]
/-- a CLAUSE holds -/
def hoL (pd : Int → Prop) (sd m : Int) (el : Int → Int) (C : List Lt) : Prop := ∃ a ∈ C, (mvT pd sd m el a.2.1 = mvT pd sd m el a.2.2 ↔ a.1 = 1)
theorem hold_p13 {ar : Int → Nat} {pd : Int → Prop} {m9 : Int} {β : Nat} (hβ : 3 ≤ β) (h00 : ar 0 = 0) {Cs : List CL} {k : Nat} {c : CL} (hc : Cs[k]? = some c) (wc : Wc ar m9 c.1) {sd m : Int} (m0 : m ≠ 0) {el : Int → Int} : ∀ (j n : Nat) (σ : zS), Cx ar pd m9 σ → SC σ Cs → σ.1 6904 = sd → σ.1 6905 = m → (∀ v, σ.2.1 70 v = el v) → n + j = c.1.length → ∃ τ, yE tC_Mod_holds_p13 β σ [(k : Int), hp (pos Cs k) c.1 n, (n : Int)] = some (τ, b2 (hoL pd sd m el (c.1.drop n))) ∧ FrC [] [71] σ τ
  | 0, n, σ, hC, hS, hsd, hm, hel, hj => by
    refine ⟨σ, ?_, FrC.refl⟩
    rw [yq_Mod_holds_p13, kY_Mod_holds_p13, if_pos (by omega), zbd_of (hS.f3 hc).1, if_pos (by omega), b2_f]
    rintro ⟨a, ha, _⟩
    rw [List.drop_eq_nil_iff.mpr (by omega)] at ha
    cases ha
  | j + 1, n, σ, hC, hS, hsd, hm, hel, hj => by
    obtain ⟨a, ha⟩ : ∃ a, c.1[n]? = some a := ⟨_, List.getElem?_eq_getElem (by omega)⟩
    have hl := hS.hl hc ha
    obtain ⟨w8, w100, _, _, wl⟩ := id wc
    obtain ⟨wa0, wa1, wa2⟩ := wl a (List.mem_of_getElem? ha)
    have lwm : lwt a ≤ wtL c.1 := wtL_mm (List.mem_of_getElem? ha)
    have elw : lwt a = tw a.2.1 + tw a.2.2 := rfl
    have hs := hp_s (p := pos Cs k) ha
    obtain ⟨H, hH⟩ : ∃ z, z = hp (pos Cs k) c.1 n := ⟨_, rfl⟩
    rw [← hH] at hl hs ⊢
    obtain ⟨g1, g2, g3, g4, g5, g6, g7, g8, g9⟩ := id hl
    have t1 := tw_pos a.2.1
    have t2 := tw_pos a.2.2
    have hel' : (fun v => σ.2.1 70 v) = el := funext hel
    obtain ⟨σ1, u1, u2⟩ := vo_ok (pd := pd) (β := β - 1) (by omega) h00 hm m0 hC g4 wa1 (by omega) (by omega) (by omega) (e := H + 5 + (tw a.2.1 : Int)) rfl
    rw [hsd, hel'] at u1
    obtain ⟨σ2, v1, v2⟩ := vo_ok (pd := pd) (β := β - 1) (by omega) h00 (m := m) (σ := σ1) (by rw [u2.i 6905]; exact hm) m0 (hC.f u2) (Fl_q (fun q _ _ => u2.a 48 q) g5) wa2 (by omega) (by rw [u2.i 4701]; omega) (by omega) (e := H + 5 + (tw a.2.1 : Int) + (tw a.2.2 : Int)) rfl
    have hel1 : (fun v => σ1.2.1 70 v) = el := funext (fun v => by rw [u2.a 70]; exact hel v)
    rw [u2.i 6904, hsd, hel1] at v1
    have f2 : FrC [] [71] σ σ2 := u2.trans v2
    have hd : c.1.drop n = a :: c.1.drop (n + 1) := by
      rw [List.drop_eq_getElem_cons (by omega)]
      congr 1
      exact (List.getElem?_eq_some_iff.mp ha).2
    have fin : ∀ (x : Int) (P : Prop), x = b2 P → (P ↔ mvT pd sd m el a.2.1 = mvT pd sd m el a.2.2) → ∃ τ, yE tC_Mod_holds_p82 β σ2 [(k : Int), H, (n : Int), H + 5, H + 5 + (tw a.2.1 : Int), H + 5 + (tw a.2.1 : Int) + (tw a.2.2 : Int), x] = some (τ, b2 (hoL pd sd m el (c.1.drop n))) ∧ FrC [] [71] σ τ := fun x P hx hP => by
      rw [yq_Mod_holds_p82, kY_Mod_holds_p82, if_pos (by omega), zbd_of (pos_ok (hl.f f2))]
      by_cases e : x = b2 (a.1 = 1)
      · rw [if_pos e]
        refine ⟨σ2, ?_, f2⟩
        rw [b2_t]
        refine ⟨a, by rw [hd]; exact List.mem_cons_self, ?_⟩
        rw [hx] at e
        rw [← hP]
        by_cases p : P
        · rw [b2_t p] at e
          by_cases s : a.1 = 1
          · exact ⟨fun _ => s, fun _ => p⟩
          · rw [b2_f s] at e; cases e
        · rw [b2_f p] at e
          by_cases s : a.1 = 1
          · rw [b2_t s] at e; cases e
          · exact ⟨fun w => absurd w p, fun w => absurd w s⟩
      · rw [if_neg e, if_pos (by omega)]
        obtain ⟨τ, y1, y2⟩ := hold_p13 hβ h00 hc wc m0 (sd := sd) (el := el) j (n + 1) σ2 (hC.f f2) (hS.f f2) (by rw [f2.i 6904]; exact hsd) (by rw [f2.i 6905]; exact hm) (fun v => by rw [f2.a 70]; exact hel v) (by omega)
        refine ⟨τ, ?_, f2.trans y2⟩
        rw [show (n : Int) + 1 = ((n + 1 : Nat) : Int) by omega, ← hs, y1]
        congr 2
        refine b2_c ⟨?_, ?_⟩
        · rintro ⟨b, hb, h⟩; exact ⟨b, by rw [hd]; exact List.mem_cons_of_mem _ hb, h⟩
        · rintro ⟨b, hb, h⟩
          rw [hd] at hb
          rcases List.mem_cons.mp hb with rfl | hb
          · refine absurd ?_ e
            rw [hx]
            rw [← hP] at h
            exact b2_c h
          · exact ⟨b, hb, h⟩
    rw [yq_Mod_holds_p13, kY_Mod_holds_p13, if_pos (by omega), zbd_of (hS.f3 hc).1, if_neg (by omega), if_pos (by omega), zbd_of (side0_ok hl), if_pos (by omega), zbd_of (side1_ok hl), if_pos (by omega), zbd_of (behind_ok hl), if_pos (by omega), zbd_of u1, if_pos (by omega), zbd_of v1]
    by_cases q : mvT pd sd m el a.2.1 = mvT pd sd m el a.2.2
    · rw [if_pos q]; exact fin 1 True (b2_t trivial).symm ⟨fun _ => q, fun _ => trivial⟩
    · rw [if_neg q]; exact fin 0 False (b2_f (fun h => h)).symm ⟨fun h => h.elim, fun h => absurd h q⟩
theorem hold_ok {ar : Int → Nat} {pd : Int → Prop} {m9 : Int} {β : Nat} (hβ : 3 ≤ β) (h00 : ar 0 = 0) {σ : zS} {Cs : List CL} {k : Nat} {c : CL} (hc : Cs[k]? = some c) (wc : Wc ar m9 c.1) (hC : Cx ar pd m9 σ) (hS : SC σ Cs) (m0 : σ.1 6905 ≠ 0) : ∃ τ, yE tC_Mod_holds β σ [(k : Int)] = some (τ, b2 (hoL pd (σ.1 6904) (σ.1 6905) (fun v => σ.2.1 70 v) c.1)) ∧ FrC [] [71] σ τ := by
  obtain ⟨τ, t1, t2⟩ := hold_p13 (pd := pd) hβ h00 hc wc m0 (sd := σ.1 6904) (el := fun v => σ.2.1 70 v) c.1.length 0 σ hC hS rfl rfl (fun _ => rfl) (by omega)
  refine ⟨τ, ?_, t2⟩
  rw [hp_0, List.drop_zero] at t1
  have t1' : yE tC_Mod_holds_p13 β σ [(k : Int), pos Cs k, 0] = _ := t1
  rw [yq_Mod_holds, kY_Mod_holds, if_pos (by omega), zbd_of (hS.f3 hc).2.1, t1']
