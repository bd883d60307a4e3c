/-! TERMS within TERMS, by how many cells are ahead of them -/
def sbF : Nat → T → Option Tm
  | _, .leaf _ => none
  | o, .branch n k s => if o = 0 then some (n, k) else if o ≤ wt k then sbF (o - 1) k else sbF (o - 1 - wt k) s
/-- r for the one at o -/
def rpF (r : Tm) : Nat → T → T
  | _, .leaf _ => nl
  | o, .branch n k s => if o = 0 then nd r.1 r.2 s else if o ≤ wt k then nd n (rpF r (o - 1) k) s else nd n k (rpF r (o - 1 - wt k) s)
def rpT (r : Tm) (o : Nat) (x : Tm) : Tm := if o = 0 then r else (x.1, rpF r (o - 1) x.2)
theorem rp_tt {r x : Tm} {o : Nat} (h : o < tw x) : rpF r o (tt x) = tt (rpT r o x) := by
  simp only [tw] at h
  simp only [tt, rpF, rpT]
  by_cases e : o = 0
  · rw [if_pos e, if_pos e]
  · rw [if_neg e, if_pos (by omega), if_neg e]
theorem sb_ex : ∀ {F : T} {o : Nat}, o < wt F → ∃ x, sbF o F = some x
  | .leaf _, o, h => by simp only [wt] at h; omega
  | .branch n k s, o, h => by
    simp only [wt] at h
    simp only [sbF]
    by_cases e : o = 0
    · rw [if_pos e]; exact ⟨_, rfl⟩
    · rw [if_neg e]
      by_cases q : o ≤ wt k
      · rw [if_pos q]; exact sb_ex (by omega)
      · rw [if_neg q]; exact sb_ex (by omega)
theorem sb_Fl {g : Int → Int} : ∀ {F : T} {o : Nat} {p : Int} {x : Tm}, Fl g p (fl F) → sbF o F = some x → Fl g (p + (o : Int)) (fl (tt x)) ∧ o + tw x ≤ wt F
  | .leaf _, o, p, x, _, h => by cases h
  | .branch n k s, o, p, x, hF, h => by
    obtain ⟨h1, h2⟩ := Fl_app.mp hF.2
    rw [fl_length] at h2
    simp only [sbF] at h
    simp only [wt]
    by_cases e : o = 0
    · rw [if_pos e] at h
      obtain rfl := Option.some.inj h
      subst e
      rw [show p + ((0 : Nat) : Int) = p by omega]
      simp only [tt, fl, List.append_nil, tw]
      exact ⟨⟨hF.1, h1⟩, by omega⟩
    · rw [if_neg e] at h
      by_cases q : o ≤ wt k
      · rw [if_pos q] at h
        obtain ⟨a, b⟩ := sb_Fl h1 h
        rw [show p + (o : Int) = p + 1 + ((o - 1 : Nat) : Int) by omega]
        exact ⟨a, by omega⟩
      · rw [if_neg q] at h
        obtain ⟨a, b⟩ := sb_Fl h2 h
        rw [show p + (o : Int) = p + 1 + (wt k : Int) + ((o - 1 - wt k : Nat) : Int) by omega]
        exact ⟨a, by omega⟩
theorem sb_wf {ar : Int → Nat} {p : Int → Prop} : ∀ {F : T} {o : Nat} {x : Tm}, wf ar p F → sbF o F = some x → wf ar p (tt x) ∧ o + tw x ≤ wt F
  | .leaf _, o, x, _, h => by cases h
  | .branch n k s, o, x, w, h => by
    simp only [sbF] at h
    simp only [wt]
    by_cases e : o = 0
    · rw [if_pos e] at h
      obtain rfl := Option.some.inj h
      exact ⟨⟨w.1, w.2.1, w.2.2.1, trivial⟩, by simp only [tw]; omega⟩
    · rw [if_neg e] at h
      by_cases q : o ≤ wt k
      · rw [if_pos q] at h
        obtain ⟨a, b⟩ := sb_wf w.2.2.1 h
        exact ⟨a, by omega⟩
      · rw [if_neg q] at h
        obtain ⟨a, b⟩ := sb_wf w.2.2.2 h
        exact ⟨a, by omega⟩
theorem rp_len {r : Tm} : ∀ {F : T} {o : Nat}, len (rpF r o F) = len F
  | .leaf _, o => rfl
  | .branch n k s, o => by
    simp only [rpF]
    by_cases e : o = 0
    · rw [if_pos e]; rfl
    · rw [if_neg e]
      by_cases q : o ≤ wt k
      · rw [if_pos q]; rfl
      · rw [if_neg q]; simp only [len, rp_len]
/-- no VARIABLE has TERMS: one is never gone into -/
theorem rp_wf {ar : Int → Nat} {p : Int → Prop} {r : Tm} (wr : wf ar p (tt r)) : ∀ {F : T} {o : Nat}, wf ar p F → wf ar p (rpF r o F)
  | .leaf _, o, _ => trivial
  | .branch n k s, o, w => by
    simp only [rpF]
    by_cases e : o = 0
    · rw [if_pos e]; exact ⟨wr.1, wr.2.1, wr.2.2.1, w.2.2.2⟩
    · rw [if_neg e]
      by_cases q : o ≤ wt k
      · rw [if_pos q]; exact ⟨by rw [rp_len]; exact w.1, w.2.1, rp_wf wr w.2.2.1, w.2.2.2⟩
      · rw [if_neg q]; exact ⟨w.1, w.2.1, w.2.2.1, rp_wf wr w.2.2.2⟩
theorem fl_rp {r : Tm} : ∀ {F : T} {o : Nat} {x : Tm}, sbF o F = some x → fl (rpF r o F) = (fl F).take o ++ (fl (tt r) ++ (fl F).drop (o + tw x))
  | .leaf _, o, x, h => by cases h
  | .branch n k s, o, x, h => by
    simp only [sbF] at h
    simp only [rpF]
    by_cases e : o = 0
    · rw [if_pos e] at h ⊢
      obtain rfl := Option.some.inj h
      subst e
      simp only [fl, tt, List.take_zero, List.nil_append, List.append_nil, tw]
      have : (cl n :: (fl k ++ fl s)).drop (0 + (1 + wt k)) = fl s := by
        rw [show 0 + (1 + wt k) = wt k + 1 by omega, List.drop_succ_cons, ← fl_length, List.drop_left]
      rw [this]; simp
    · rw [if_neg e] at h ⊢
      by_cases q : o ≤ wt k
      · rw [if_pos q] at h ⊢
        have ih := fl_rp (r := r) h
        obtain ⟨j, rfl⟩ : ∃ j, o = j + 1 := ⟨o - 1, by omega⟩
        simp only [Nat.add_sub_cancel] at ih h
        have hb : j + tw x ≤ wt k := sb_le h
        simp only [fl, Nat.add_sub_cancel]
        rw [ih, List.take_succ_cons, show j + 1 + tw x = (j + tw x) + 1 by omega, List.drop_succ_cons]
        have hk := fl_length k
        rw [List.take_append_of_le_length (by omega), List.drop_append_of_le_length (by omega)]
        simp [tt, fl]
      · rw [if_neg q] at h ⊢
        have ih := fl_rp (r := r) h
        obtain ⟨j, rfl⟩ : ∃ j, o = 1 + wt k + j := ⟨o - 1 - wt k, by omega⟩
        rw [show 1 + wt k + j - 1 - wt k = j by omega] at ih h ⊢
        simp only [fl]
        rw [ih]
        have hk := fl_length k
        have e1 : (cl n :: (fl k ++ fl s)).take (1 + wt k + j) = cl n :: (fl k ++ (fl s).take j) := by
          rw [show 1 + wt k + j = (wt k + j) + 1 by omega, List.take_succ_cons, ← hk, List.take_length_add_append]
        have e2 : (cl n :: (fl k ++ fl s)).drop (1 + wt k + j + tw x) = (fl s).drop (j + tw x) := by
          rw [show 1 + wt k + j + tw x = (wt k + (j + tw x)) + 1 by omega, List.drop_succ_cons, ← hk, List.drop_length_add_append]
        rw [e1, e2]
        simp [tt, fl]
where
  sb_le : ∀ {F : T} {o : Nat} {x : Tm}, sbF o F = some x → o + tw x ≤ wt F
    | .leaf _, o, x, h => by cases h
    | .branch n k s, o, x, h => by
      simp only [sbF] at h
      simp only [wt]
      by_cases e : o = 0
      · rw [if_pos e] at h
        obtain rfl := Option.some.inj h
        simp only [tw]; omega
      · rw [if_neg e] at h
        by_cases q : o ≤ wt k
        · rw [if_pos q] at h
          have := sb_le h; omega
        · rw [if_neg q] at h
          have := sb_le h; omega
def shc (b c : Int) : Int := if c < 0 then c - b else c
theorem fl_sh {b : Int} (hb : 0 ≤ b) : ∀ F : T, fl (sh b F) = (fl F).map (shc b)
  | .leaf _ => rfl
  | .branch n k s => by
    simp only [sh, fl, List.map_cons, List.map_append, fl_sh hb k, fl_sh hb s, sh_cl hb]
    rfl
theorem exL_map {th : Vs} {b : Int} (hb : 0 ≤ b) : ∀ L : List Int, exL th 0 (L.map (shc b)) = exL th b L
  | [] => rfl
  | c :: L => by
    simp only [List.map_cons, exL, exL_map hb L]
    unfold shc
    by_cases h : c < 0
    · rw [if_pos h, if_pos h, if_pos (by omega), show (-1 - (c - b) + 0 : Int) = -1 - c + b by omega]
    · rw [if_neg h, if_neg h, if_neg h]
theorem sb_sh {b : Int} : ∀ {F : T} {o : Nat}, sbF o (sh b F) = (sbF o F).map (shT b)
  | .leaf _, o => rfl
  | .branch n k s, o => by
    simp only [sh, sbF, sh_wt]
    by_cases e : o = 0
    · rw [if_pos e, if_pos e]; rfl
    · rw [if_neg e, if_neg e]
      by_cases q : o ≤ wt k
      · rw [if_pos q, if_pos q]; exact sb_sh
      · rw [if_neg q, if_neg q]; exact sb_sh
theorem su_sh0 {θ : Vs} {ar : Int → Nat} {p : Int → Prop} {F : T} (w : wf ar p F) : fl (su θ F) = exL θ 0 (fl F) := by
  have e : ∀ G : T, sh 0 G = G := fun G => by
    refine T.ind (P := fun G => sh 0 G = G) rfl (fun n k s hk hs => ?_) G
    simp only [sh, hk, hs]
    by_cases h : cl n < 0
    · rw [if_pos h, Int.sub_zero, cu_cl]
    · rw [if_neg h]
  have := fl_su (θ := θ) (b := 0) (by omega) w
  rw [e] at this; exact this
/-- cells with r for the TERM of x at o, values put in -/
def wrR (th : Vs) (r : Tm) (o : Nat) (x y : Tm) : List Int := exL th 6 ((fl (tt x)).take o) ++ (exL th 0 (fl (tt r)) ++ exL th 6 ((fl (tt x)).drop (o + tw y)))
theorem wrR_rp {ar : Int → Nat} {p q : Int → Prop} {th : Vs} {r x y : Tm} {o : Nat} (wx : wf ar q (tt (shT 6 x))) (wr : wf ar q (tt r)) (h : sbF o (tt x) = some y) (ho : o < tw x) : fl (tt (st th (rpT r o (shT 6 x)))) = wrR th r o x y := by
  have e1 : tt (st th (rpT r o (shT 6 x))) = su th (tt (rpT r o (shT 6 x))) := rfl
  rw [e1, ← rp_tt (x := shT 6 x) (by rw [shT_tw]; exact ho), su_sh0 (rp_wf wr wx)]
  have hs : sbF o (tt (shT 6 x)) = some (shT 6 y) := by
    have := sb_sh (b := 6) (F := tt x) (o := o)
    rw [h] at this; exact this
  rw [fl_rp hs, exL_app, exL_app, shT_tw]
  have e2 : fl (tt (shT 6 x)) = (fl (tt x)).map (shc 6) := fl_sh (by omega) (tt x)
  rw [e2, ← List.map_take, ← List.map_drop, exL_map (by omega), exL_map (by omega)]
  rfl
