def mLe (a b : mF) : Prop := ∀ t σ xs r, a t σ xs = some r → b t σ xs = some r
def gd_M (c : mF → Option mR) : Prop := ∀ a b : mF, mLe a b → ∀ r, c a = some r → c b = some r
def gd_C (c : mF → Option mR) : Prop := ∀ (R : Nat → mF), (∀ n, mLe (R n) (R (n + 1))) → ∀ E : mF, (∀ t σ xs r, E t σ xs = some r → ∃ n, R n t σ xs = some r) → ∀ r, c E = some r → ∃ n, c (R n) = some r
def gd (c : mF → Option mR) : Prop := gd_M c ∧ gd_C c
theorem mLe_up {R : Nat → mF} (h : ∀ n, mLe (R n) (R (n + 1))) : ∀ (k n : Nat), mLe (R n) (R (n + k))
  | 0, n => fun t σ xs r q => q
  | k + 1, n => fun t σ xs r q => h (n + k) t σ xs r (mLe_up h k n t σ xs r q)
theorem gd_const (o : Option mR) : gd (fun _ => o) := ⟨fun _ _ _ _ h => h, fun _ _ _ _ _ h => ⟨0, h⟩⟩
theorem gd_call (t : Nat) (σ : mS) (xs : List Int32) : gd (fun rec => rec t σ xs) := ⟨fun _ _ h _ q => h _ _ _ _ q, fun _ _ _ h _ q => h _ _ _ _ q⟩
theorem gd_if {c : Prop} {i : Decidable c} {A B : mF → Option mR} (hA : gd A) (hB : gd B) : gd (fun rec => if c then A rec else B rec) := by
  by_cases h : c
  · simp only [if_pos h]; exact hA
  · simp only [if_neg h]; exact hB
theorem gd_let {α : Type} {a : α} {f : mF → α → Option mR} (h : ∀ x, gd (fun rec => f rec x)) : gd (fun rec => lt_ a (f rec)) := h a
theorem bnd_some {o : Option mR} {k : mS → Int32 → Option mR} {q : mR} (h : bnd o k = some q) : ∃ r1 r2, o = some r1 ∧ k r1.1 r1.2.1 = some r2 ∧ q = (r2.1, r2.2.1, max r2.2.2 (r1.2.2 + 1)) := by
  unfold bnd at h
  cases ho : o with
  | none => rw [ho] at h; cases h
  | some r =>
    simp only [ho] at h
    cases hk : k r.1 r.2.1 with
    | none => simp only [hk] at h; cases h
    | some r2 => simp only [hk] at h; cases h; exact ⟨r, r2, rfl, hk, rfl⟩
theorem bnd_of {o : Option mR} {k : mS → Int32 → Option mR} {r1 r2 : mR} (h1 : o = some r1) (h2 : k r1.1 r1.2.1 = some r2) : bnd o k = some (r2.1, r2.2.1, max r2.2.2 (r1.2.2 + 1)) := by
  subst h1; unfold bnd; simp only [h2]
theorem gd_bnd {o : mF → Option mR} {k : mF → mS → Int32 → Option mR} (ho : gd o) (hk : ∀ σ r, gd (fun rec => k rec σ r)) : gd (fun rec => bnd (o rec) (k rec)) := by
  refine ⟨fun a b hab q h => ?_, fun R hR E hE q h => ?_⟩
  · obtain ⟨r1, r2, h1, h2, rfl⟩ := bnd_some h
    exact bnd_of (ho.1 a b hab _ h1) ((hk _ _).1 a b hab _ h2)
  · obtain ⟨r1, r2, h1, h2, rfl⟩ := bnd_some h
    obtain ⟨n1, e1⟩ := ho.2 R hR E hE _ h1
    obtain ⟨n2, e2⟩ := (hk _ _).2 R hR E hE _ h2
    refine ⟨n1 + n2, bnd_of (ho.1 _ _ (mLe_up hR n2 n1) _ e1) ((hk _ _).1 _ _ ?_ _ e2)⟩
    have := mLe_up hR n1 n2
    rw [Nat.add_comm n2 n1] at this
    exact this

theorem gd_u0 {k : mF → Option mR} (h : gd (fun rec => k rec)) (xs : List Int32) : gd (fun rec => u_0 (k rec) xs) := by
  match xs with
  | [] => exact h
  | _ :: _ => exact gd_const none
theorem gd_u1 {k : mF → Int32 → Option mR} (h : ∀ x0, gd (fun rec => k rec x0)) (xs : List Int32) : gd (fun rec => u_1 (k rec) xs) := by
  match xs with
  | [x0] => exact h x0
  | [] => exact gd_const none
  | _ :: _ :: _ => exact gd_const none
theorem gd_u2 {k : mF → Int32 → Int32 → Option mR} (h : ∀ x0 x1, gd (fun rec => k rec x0 x1)) (xs : List Int32) : gd (fun rec => u_2 (k rec) xs) := by
  match xs with
  | [x0, x1] => exact h x0 x1
  | [] => exact gd_const none
  | [_] => exact gd_const none
  | _ :: _ :: _ :: _ => exact gd_const none
theorem gd_u3 {k : mF → Int32 → Int32 → Int32 → Option mR} (h : ∀ x0 x1 x2, gd (fun rec => k rec x0 x1 x2)) (xs : List Int32) : gd (fun rec => u_3 (k rec) xs) := by
  match xs with
  | [x0, x1, x2] => exact h x0 x1 x2
  | [] => exact gd_const none
  | [_] => exact gd_const none
  | [_, _] => exact gd_const none
  | _ :: _ :: _ :: _ :: _ => exact gd_const none
theorem gd_u4 {k : mF → Int32 → Int32 → Int32 → Int32 → Option mR} (h : ∀ x0 x1 x2 x3, gd (fun rec => k rec x0 x1 x2 x3)) (xs : List Int32) : gd (fun rec => u_4 (k rec) xs) := by
  match xs with
  | [x0, x1, x2, x3] => exact h x0 x1 x2 x3
  | [] => exact gd_const none
  | [_] => exact gd_const none
  | [_, _] => exact gd_const none
  | [_, _, _] => exact gd_const none
  | _ :: _ :: _ :: _ :: _ :: _ => exact gd_const none
theorem gd_u5 {k : mF → Int32 → Int32 → Int32 → Int32 → Int32 → Option mR} (h : ∀ x0 x1 x2 x3 x4, gd (fun rec => k rec x0 x1 x2 x3 x4)) (xs : List Int32) : gd (fun rec => u_5 (k rec) xs) := by
  match xs with
  | [x0, x1, x2, x3, x4] => exact h x0 x1 x2 x3 x4
  | [] => exact gd_const none
  | [_] => exact gd_const none
  | [_, _] => exact gd_const none
  | [_, _, _] => exact gd_const none
  | [_, _, _, _] => exact gd_const none
  | _ :: _ :: _ :: _ :: _ :: _ :: _ => exact gd_const none
theorem gd_u6 {k : mF → Int32 → Int32 → Int32 → Int32 → Int32 → Int32 → Option mR} (h : ∀ x0 x1 x2 x3 x4 x5, gd (fun rec => k rec x0 x1 x2 x3 x4 x5)) (xs : List Int32) : gd (fun rec => u_6 (k rec) xs) := by
  match xs with
  | [x0, x1, x2, x3, x4, x5] => exact h x0 x1 x2 x3 x4 x5
  | [] => exact gd_const none
  | [_] => exact gd_const none
  | [_, _] => exact gd_const none
  | [_, _, _] => exact gd_const none
  | [_, _, _, _] => exact gd_const none
  | [_, _, _, _, _] => exact gd_const none
  | _ :: _ :: _ :: _ :: _ :: _ :: _ :: _ => exact gd_const none
theorem gd_u7 {k : mF → Int32 → Int32 → Int32 → Int32 → Int32 → Int32 → Int32 → Option mR} (h : ∀ x0 x1 x2 x3 x4 x5 x6, gd (fun rec => k rec x0 x1 x2 x3 x4 x5 x6)) (xs : List Int32) : gd (fun rec => u_7 (k rec) xs) := by
  match xs with
  | [x0, x1, x2, x3, x4, x5, x6] => exact h x0 x1 x2 x3 x4 x5 x6
  | [] => exact gd_const none
  | [_] => exact gd_const none
  | [_, _] => exact gd_const none
  | [_, _, _] => exact gd_const none
  | [_, _, _, _] => exact gd_const none
  | [_, _, _, _, _] => exact gd_const none
  | [_, _, _, _, _, _] => exact gd_const none
  | _ :: _ :: _ :: _ :: _ :: _ :: _ :: _ :: _ => exact gd_const none
theorem gd_u8 {k : mF → Int32 → Int32 → Int32 → Int32 → Int32 → Int32 → Int32 → Int32 → Option mR} (h : ∀ x0 x1 x2 x3 x4 x5 x6 x7, gd (fun rec => k rec x0 x1 x2 x3 x4 x5 x6 x7)) (xs : List Int32) : gd (fun rec => u_8 (k rec) xs) := by
  match xs with
  | [x0, x1, x2, x3, x4, x5, x6, x7] => exact h x0 x1 x2 x3 x4 x5 x6 x7
  | [] => exact gd_const none
  | [_] => exact gd_const none
  | [_, _] => exact gd_const none
  | [_, _, _] => exact gd_const none
  | [_, _, _, _] => exact gd_const none
  | [_, _, _, _, _] => exact gd_const none
  | [_, _, _, _, _, _] => exact gd_const none
  | [_, _, _, _, _, _, _] => exact gd_const none
  | _ :: _ :: _ :: _ :: _ :: _ :: _ :: _ :: _ :: _ => exact gd_const none
theorem gd_u9 {k : mF → Int32 → Int32 → Int32 → Int32 → Int32 → Int32 → Int32 → Int32 → Int32 → Option mR} (h : ∀ x0 x1 x2 x3 x4 x5 x6 x7 x8, gd (fun rec => k rec x0 x1 x2 x3 x4 x5 x6 x7 x8)) (xs : List Int32) : gd (fun rec => u_9 (k rec) xs) := by
  match xs with
  | [x0, x1, x2, x3, x4, x5, x6, x7, x8] => exact h x0 x1 x2 x3 x4 x5 x6 x7 x8
  | [] => exact gd_const none
  | [_] => exact gd_const none
  | [_, _] => exact gd_const none
  | [_, _, _] => exact gd_const none
  | [_, _, _, _] => exact gd_const none
  | [_, _, _, _, _] => exact gd_const none
  | [_, _, _, _, _, _] => exact gd_const none
  | [_, _, _, _, _, _, _] => exact gd_const none
  | [_, _, _, _, _, _, _, _] => exact gd_const none
  | _ :: _ :: _ :: _ :: _ :: _ :: _ :: _ :: _ :: _ :: _ => exact gd_const none
theorem gd_u10 {k : mF → Int32 → Int32 → Int32 → Int32 → Int32 → Int32 → Int32 → Int32 → Int32 → Int32 → Option mR} (h : ∀ x0 x1 x2 x3 x4 x5 x6 x7 x8 x9, gd (fun rec => k rec x0 x1 x2 x3 x4 x5 x6 x7 x8 x9)) (xs : List Int32) : gd (fun rec => u_10 (k rec) xs) := by
  match xs with
  | [x0, x1, x2, x3, x4, x5, x6, x7, x8, x9] => exact h x0 x1 x2 x3 x4 x5 x6 x7 x8 x9
  | [] => exact gd_const none
  | [_] => exact gd_const none
  | [_, _] => exact gd_const none
  | [_, _, _] => exact gd_const none
  | [_, _, _, _] => exact gd_const none
  | [_, _, _, _, _] => exact gd_const none
  | [_, _, _, _, _, _] => exact gd_const none
  | [_, _, _, _, _, _, _] => exact gd_const none
  | [_, _, _, _, _, _, _, _] => exact gd_const none
  | [_, _, _, _, _, _, _, _, _] => exact gd_const none
  | _ :: _ :: _ :: _ :: _ :: _ :: _ :: _ :: _ :: _ :: _ :: _ => exact gd_const none
theorem gM_thrown (σ : mS) : gd (fun rec => kM_thrown rec σ) := by
  unfold kM_thrown
  repeat' (first | exact gd_call _ _ _ | exact gd_const _ | refine gd_bnd (gd_call _ _ _) (fun _ _ => ?_) | refine gd_let (fun _ => ?_) | refine gd_if ?_ ?_)
theorem gM_feed (σ : mS) (x0 x1 x2 x3 x4 : Int32) : gd (fun rec => kM_feed rec σ x0 x1 x2 x3 x4) := by
  unfold kM_feed
  repeat' (first | exact gd_call _ _ _ | exact gd_const _ | refine gd_bnd (gd_call _ _ _) (fun _ _ => ?_) | refine gd_let (fun _ => ?_) | refine gd_if ?_ ?_)
theorem gM_feed_22 (σ : mS) (x0 x1 x2 x3 x4 x5 x6 : Int32) : gd (fun rec => kM_feed_22 rec σ x0 x1 x2 x3 x4 x5 x6) := by
  unfold kM_feed_22
  repeat' (first | exact gd_call _ _ _ | exact gd_const _ | refine gd_bnd (gd_call _ _ _) (fun _ _ => ?_) | refine gd_let (fun _ => ?_) | refine gd_if ?_ ?_)
theorem gM_feed_33 (σ : mS) (x0 x1 x2 x3 x4 x5 : Int32) : gd (fun rec => kM_feed_33 rec σ x0 x1 x2 x3 x4 x5) := by
  unfold kM_feed_33
  repeat' (first | exact gd_call _ _ _ | exact gd_const _ | refine gd_bnd (gd_call _ _ _) (fun _ _ => ?_) | refine gd_let (fun _ => ?_) | refine gd_if ?_ ?_)
theorem gM_feed_86 (σ : mS) (x0 x1 x2 x3 x4 x5 x6 : Int32) : gd (fun rec => kM_feed_86 rec σ x0 x1 x2 x3 x4 x5 x6) := by
  unfold kM_feed_86
  repeat' (first | exact gd_call _ _ _ | exact gd_const _ | refine gd_bnd (gd_call _ _ _) (fun _ _ => ?_) | refine gd_let (fun _ => ?_) | refine gd_if ?_ ?_)
theorem gM_refuse (σ : mS) (x0 x1 : Int32) : gd (fun rec => kM_refuse rec σ x0 x1) := by
  unfold kM_refuse
  repeat' (first | exact gd_call _ _ _ | exact gd_const _ | refine gd_bnd (gd_call _ _ _) (fun _ _ => ?_) | refine gd_let (fun _ => ?_) | refine gd_if ?_ ?_)
theorem gM_refuse_9 (σ : mS) (x0 x1 : Int32) : gd (fun rec => kM_refuse_9 rec σ x0 x1) := by
  unfold kM_refuse_9
  repeat' (first | exact gd_call _ _ _ | exact gd_const _ | refine gd_bnd (gd_call _ _ _) (fun _ _ => ?_) | refine gd_let (fun _ => ?_) | refine gd_if ?_ ?_)
theorem gM_end (σ : mS) (x0 : Int32) : gd (fun rec => kM_end rec σ x0) := by
  unfold kM_end
  repeat' (first | exact gd_call _ _ _ | exact gd_const _ | refine gd_bnd (gd_call _ _ _) (fun _ _ => ?_) | refine gd_let (fun _ => ?_) | refine gd_if ?_ ?_)
theorem gM_end_19 (σ : mS) (x0 x1 : Int32) : gd (fun rec => kM_end_19 rec σ x0 x1) := by
  unfold kM_end_19
  repeat' (first | exact gd_call _ _ _ | exact gd_const _ | refine gd_bnd (gd_call _ _ _) (fun _ _ => ?_) | refine gd_let (fun _ => ?_) | refine gd_if ?_ ?_)
theorem gM_end_24 (σ : mS) (x0 x1 x2 : Int32) : gd (fun rec => kM_end_24 rec σ x0 x1 x2) := by
  unfold kM_end_24
  repeat' (first | exact gd_call _ _ _ | exact gd_const _ | refine gd_bnd (gd_call _ _ _) (fun _ _ => ?_) | refine gd_let (fun _ => ?_) | refine gd_if ?_ ?_)
theorem gM_peek (σ : mS) : gd (fun rec => kM_peek rec σ) := by
  unfold kM_peek
  repeat' (first | exact gd_call _ _ _ | exact gd_const _ | refine gd_bnd (gd_call _ _ _) (fun _ _ => ?_) | refine gd_let (fun _ => ?_) | refine gd_if ?_ ?_)
theorem gM_peek_104 (σ : mS) (x0 : Int32) : gd (fun rec => kM_peek_104 rec σ x0) := by
  unfold kM_peek_104
  repeat' (first | exact gd_call _ _ _ | exact gd_const _ | refine gd_bnd (gd_call _ _ _) (fun _ _ => ?_) | refine gd_let (fun _ => ?_) | refine gd_if ?_ ?_)
theorem gM_peek_144 (σ : mS) (x0 : Int32) : gd (fun rec => kM_peek_144 rec σ x0) := by
  unfold kM_peek_144
  repeat' (first | exact gd_call _ _ _ | exact gd_const _ | refine gd_bnd (gd_call _ _ _) (fun _ _ => ?_) | refine gd_let (fun _ => ?_) | refine gd_if ?_ ?_)
theorem gM_peek_176 (σ : mS) (x0 x1 : Int32) : gd (fun rec => kM_peek_176 rec σ x0 x1) := by
  unfold kM_peek_176
  repeat' (first | exact gd_call _ _ _ | exact gd_const _ | refine gd_bnd (gd_call _ _ _) (fun _ _ => ?_) | refine gd_let (fun _ => ?_) | refine gd_if ?_ ?_)
theorem gM_parts (σ : mS) : gd (fun rec => kM_parts rec σ) := by
  unfold kM_parts
  repeat' (first | exact gd_call _ _ _ | exact gd_const _ | refine gd_bnd (gd_call _ _ _) (fun _ _ => ?_) | refine gd_let (fun _ => ?_) | refine gd_if ?_ ?_)
theorem gM_parts_2 (σ : mS) (x0 : Int32) : gd (fun rec => kM_parts_2 rec σ x0) := by
  unfold kM_parts_2
  repeat' (first | exact gd_call _ _ _ | exact gd_const _ | refine gd_bnd (gd_call _ _ _) (fun _ _ => ?_) | refine gd_let (fun _ => ?_) | refine gd_if ?_ ?_)
theorem gM_parts_8 (σ : mS) (x0 : Int32) : gd (fun rec => kM_parts_8 rec σ x0) := by
  unfold kM_parts_8
  repeat' (first | exact gd_call _ _ _ | exact gd_const _ | refine gd_bnd (gd_call _ _ _) (fun _ _ => ?_) | refine gd_let (fun _ => ?_) | refine gd_if ?_ ?_)
theorem gM_parts_75 (σ : mS) (x0 : Int32) : gd (fun rec => kM_parts_75 rec σ x0) := by
  unfold kM_parts_75
  repeat' (first | exact gd_call _ _ _ | exact gd_const _ | refine gd_bnd (gd_call _ _ _) (fun _ _ => ?_) | refine gd_let (fun _ => ?_) | refine gd_if ?_ ?_)
theorem gM_parts_88 (σ : mS) (x0 : Int32) : gd (fun rec => kM_parts_88 rec σ x0) := by
  unfold kM_parts_88
  repeat' (first | exact gd_call _ _ _ | exact gd_const _ | refine gd_bnd (gd_call _ _ _) (fun _ _ => ?_) | refine gd_let (fun _ => ?_) | refine gd_if ?_ ?_)
theorem gM_parts_113 (σ : mS) (x0 : Int32) : gd (fun rec => kM_parts_113 rec σ x0) := by
  unfold kM_parts_113
  repeat' (first | exact gd_call _ _ _ | exact gd_const _ | refine gd_bnd (gd_call _ _ _) (fun _ _ => ?_) | refine gd_let (fun _ => ?_) | refine gd_if ?_ ?_)
theorem gM_parts_151 (σ : mS) (x0 : Int32) : gd (fun rec => kM_parts_151 rec σ x0) := by
  unfold kM_parts_151
  repeat' (first | exact gd_call _ _ _ | exact gd_const _ | refine gd_bnd (gd_call _ _ _) (fun _ _ => ?_) | refine gd_let (fun _ => ?_) | refine gd_if ?_ ?_)
theorem gM_letter (σ : mS) (x0 : Int32) : gd (fun rec => kM_letter rec σ x0) := by
  unfold kM_letter
  repeat' (first | exact gd_call _ _ _ | exact gd_const _ | refine gd_bnd (gd_call _ _ _) (fun _ _ => ?_) | refine gd_let (fun _ => ?_) | refine gd_if ?_ ?_)
theorem gM_letter_12 (σ : mS) (x0 : Int32) : gd (fun rec => kM_letter_12 rec σ x0) := by
  unfold kM_letter_12
  repeat' (first | exact gd_call _ _ _ | exact gd_const _ | refine gd_bnd (gd_call _ _ _) (fun _ _ => ?_) | refine gd_let (fun _ => ?_) | refine gd_if ?_ ?_)
theorem gM_letter_24 (σ : mS) (x0 : Int32) : gd (fun rec => kM_letter_24 rec σ x0) := by
  unfold kM_letter_24
  repeat' (first | exact gd_call _ _ _ | exact gd_const _ | refine gd_bnd (gd_call _ _ _) (fun _ _ => ?_) | refine gd_let (fun _ => ?_) | refine gd_if ?_ ?_)
theorem gM_letter_28 (σ : mS) (x0 : Int32) : gd (fun rec => kM_letter_28 rec σ x0) := by
  unfold kM_letter_28
  repeat' (first | exact gd_call _ _ _ | exact gd_const _ | refine gd_bnd (gd_call _ _ _) (fun _ _ => ?_) | refine gd_let (fun _ => ?_) | refine gd_if ?_ ?_)
theorem gM_letter_29 (σ : mS) (x0 x1 : Int32) : gd (fun rec => kM_letter_29 rec σ x0 x1) := by
  unfold kM_letter_29
  repeat' (first | exact gd_call _ _ _ | exact gd_const _ | refine gd_bnd (gd_call _ _ _) (fun _ _ => ?_) | refine gd_let (fun _ => ?_) | refine gd_if ?_ ?_)
theorem gM_inWord (σ : mS) (x0 : Int32) : gd (fun rec => kM_inWord rec σ x0) := by
  unfold kM_inWord
  repeat' (first | exact gd_call _ _ _ | exact gd_const _ | refine gd_bnd (gd_call _ _ _) (fun _ _ => ?_) | refine gd_let (fun _ => ?_) | refine gd_if ?_ ?_)
theorem gM_inWord_20 (σ : mS) (x0 : Int32) : gd (fun rec => kM_inWord_20 rec σ x0) := by
  unfold kM_inWord_20
  repeat' (first | exact gd_call _ _ _ | exact gd_const _ | refine gd_bnd (gd_call _ _ _) (fun _ _ => ?_) | refine gd_let (fun _ => ?_) | refine gd_if ?_ ?_)
theorem gM_inWord_26 (σ : mS) (x0 : Int32) : gd (fun rec => kM_inWord_26 rec σ x0) := by
  unfold kM_inWord_26
  repeat' (first | exact gd_call _ _ _ | exact gd_const _ | refine gd_bnd (gd_call _ _ _) (fun _ _ => ?_) | refine gd_let (fun _ => ?_) | refine gd_if ?_ ?_)
theorem gM_inWord_31 (σ : mS) (x0 x1 : Int32) : gd (fun rec => kM_inWord_31 rec σ x0 x1) := by
  unfold kM_inWord_31
  repeat' (first | exact gd_call _ _ _ | exact gd_const _ | refine gd_bnd (gd_call _ _ _) (fun _ _ => ?_) | refine gd_let (fun _ => ?_) | refine gd_if ?_ ?_)
theorem gM_sign (σ : mS) (x0 : Int32) : gd (fun rec => kM_sign rec σ x0) := by
  unfold kM_sign
  repeat' (first | exact gd_call _ _ _ | exact gd_const _ | refine gd_bnd (gd_call _ _ _) (fun _ _ => ?_) | refine gd_let (fun _ => ?_) | refine gd_if ?_ ?_)
theorem gM_sign_210 (σ : mS) (x0 : Int32) : gd (fun rec => kM_sign_210 rec σ x0) := by
  unfold kM_sign_210
  repeat' (first | exact gd_call _ _ _ | exact gd_const _ | refine gd_bnd (gd_call _ _ _) (fun _ _ => ?_) | refine gd_let (fun _ => ?_) | refine gd_if ?_ ?_)
theorem gM_at (σ : mS) (x0 x1 : Int32) : gd (fun rec => kM_at rec σ x0 x1) := by
  unfold kM_at
  repeat' (first | exact gd_call _ _ _ | exact gd_const _ | refine gd_bnd (gd_call _ _ _) (fun _ _ => ?_) | refine gd_let (fun _ => ?_) | refine gd_if ?_ ?_)
theorem gM_at_22 (σ : mS) (x0 x1 : Int32) : gd (fun rec => kM_at_22 rec σ x0 x1) := by
  unfold kM_at_22
  repeat' (first | exact gd_call _ _ _ | exact gd_const _ | refine gd_bnd (gd_call _ _ _) (fun _ _ => ?_) | refine gd_let (fun _ => ?_) | refine gd_if ?_ ?_)
theorem gM_at_23 (σ : mS) (x0 x1 x2 : Int32) : gd (fun rec => kM_at_23 rec σ x0 x1 x2) := by
  unfold kM_at_23
  repeat' (first | exact gd_call _ _ _ | exact gd_const _ | refine gd_bnd (gd_call _ _ _) (fun _ _ => ?_) | refine gd_let (fun _ => ?_) | refine gd_if ?_ ?_)
theorem gM_take (σ : mS) : gd (fun rec => kM_take rec σ) := by
  unfold kM_take
  repeat' (first | exact gd_call _ _ _ | exact gd_const _ | refine gd_bnd (gd_call _ _ _) (fun _ _ => ?_) | refine gd_let (fun _ => ?_) | refine gd_if ?_ ?_)
theorem gM_node (σ : mS) (x0 x1 x2 x3 : Int32) : gd (fun rec => kM_node rec σ x0 x1 x2 x3) := by
  unfold kM_node
  repeat' (first | exact gd_call _ _ _ | exact gd_const _ | refine gd_bnd (gd_call _ _ _) (fun _ _ => ?_) | refine gd_let (fun _ => ?_) | refine gd_if ?_ ?_)
theorem gM_isBinder (σ : mS) (x0 : Int32) : gd (fun rec => kM_isBinder rec σ x0) := by
  unfold kM_isBinder
  repeat' (first | exact gd_call _ _ _ | exact gd_const _ | refine gd_bnd (gd_call _ _ _) (fun _ _ => ?_) | refine gd_let (fun _ => ?_) | refine gd_if ?_ ?_)
theorem gM_isBinder_22 (σ : mS) (x0 x1 : Int32) : gd (fun rec => kM_isBinder_22 rec σ x0 x1) := by
  unfold kM_isBinder_22
  repeat' (first | exact gd_call _ _ _ | exact gd_const _ | refine gd_bnd (gd_call _ _ _) (fun _ _ => ?_) | refine gd_let (fun _ => ?_) | refine gd_if ?_ ?_)
theorem gM_term (σ : mS) (x0 x1 : Int32) : gd (fun rec => kM_term rec σ x0 x1) := by
  unfold kM_term
  repeat' (first | exact gd_call _ _ _ | exact gd_const _ | refine gd_bnd (gd_call _ _ _) (fun _ _ => ?_) | refine gd_let (fun _ => ?_) | refine gd_if ?_ ?_)
theorem gM_length (σ : mS) (x0 : Int32) : gd (fun rec => kM_length rec σ x0) := by
  unfold kM_length
  repeat' (first | exact gd_call _ _ _ | exact gd_const _ | refine gd_bnd (gd_call _ _ _) (fun _ _ => ?_) | refine gd_let (fun _ => ?_) | refine gd_if ?_ ?_)
theorem gM_length_4 (σ : mS) (x0 x1 x2 : Int32) : gd (fun rec => kM_length_4 rec σ x0 x1 x2) := by
  unfold kM_length_4
  repeat' (first | exact gd_call _ _ _ | exact gd_const _ | refine gd_bnd (gd_call _ _ _) (fun _ _ => ?_) | refine gd_let (fun _ => ?_) | refine gd_if ?_ ?_)
theorem gM_termOf (σ : mS) (x0 x1 : Int32) : gd (fun rec => kM_termOf rec σ x0 x1) := by
  unfold kM_termOf
  repeat' (first | exact gd_call _ _ _ | exact gd_const _ | refine gd_bnd (gd_call _ _ _) (fun _ _ => ?_) | refine gd_let (fun _ => ?_) | refine gd_if ?_ ?_)
theorem gM_joined1 (σ : mS) (x0 x1 x2 : Int32) : gd (fun rec => kM_joined1 rec σ x0 x1 x2) := by
  unfold kM_joined1
  repeat' (first | exact gd_call _ _ _ | exact gd_const _ | refine gd_bnd (gd_call _ _ _) (fun _ _ => ?_) | refine gd_let (fun _ => ?_) | refine gd_if ?_ ?_)
theorem gM_mark (σ : mS) (x0 x1 x2 : Int32) : gd (fun rec => kM_mark rec σ x0 x1 x2) := by
  unfold kM_mark
  repeat' (first | exact gd_call _ _ _ | exact gd_const _ | refine gd_bnd (gd_call _ _ _) (fun _ _ => ?_) | refine gd_let (fun _ => ?_) | refine gd_if ?_ ?_)
theorem gM_mark_63 (σ : mS) (x0 x1 x2 x3 x4 : Int32) : gd (fun rec => kM_mark_63 rec σ x0 x1 x2 x3 x4) := by
  unfold kM_mark_63
  repeat' (first | exact gd_call _ _ _ | exact gd_const _ | refine gd_bnd (gd_call _ _ _) (fun _ _ => ?_) | refine gd_let (fun _ => ?_) | refine gd_if ?_ ?_)
theorem gM_mark_113 (σ : mS) (x0 x1 x2 x3 x4 : Int32) : gd (fun rec => kM_mark_113 rec σ x0 x1 x2 x3 x4) := by
  unfold kM_mark_113
  repeat' (first | exact gd_call _ _ _ | exact gd_const _ | refine gd_bnd (gd_call _ _ _) (fun _ _ => ?_) | refine gd_let (fun _ => ?_) | refine gd_if ?_ ?_)
theorem gM_mark_175 (σ : mS) (x0 x1 x2 x3 x4 : Int32) : gd (fun rec => kM_mark_175 rec σ x0 x1 x2 x3 x4) := by
  unfold kM_mark_175
  repeat' (first | exact gd_call _ _ _ | exact gd_const _ | refine gd_bnd (gd_call _ _ _) (fun _ _ => ?_) | refine gd_let (fun _ => ?_) | refine gd_if ?_ ?_)
theorem gM_mark_184 (σ : mS) (x0 x1 x2 x3 x4 : Int32) : gd (fun rec => kM_mark_184 rec σ x0 x1 x2 x3 x4) := by
  unfold kM_mark_184
  repeat' (first | exact gd_call _ _ _ | exact gd_const _ | refine gd_bnd (gd_call _ _ _) (fun _ _ => ?_) | refine gd_let (fun _ => ?_) | refine gd_if ?_ ?_)
theorem gM_mark_211 (σ : mS) (x0 x1 x2 : Int32) : gd (fun rec => kM_mark_211 rec σ x0 x1 x2) := by
  unfold kM_mark_211
  repeat' (first | exact gd_call _ _ _ | exact gd_const _ | refine gd_bnd (gd_call _ _ _) (fun _ _ => ?_) | refine gd_let (fun _ => ?_) | refine gd_if ?_ ?_)
theorem gM_mark2 (σ : mS) (x0 x1 : Int32) : gd (fun rec => kM_mark2 rec σ x0 x1) := by
  unfold kM_mark2
  repeat' (first | exact gd_call _ _ _ | exact gd_const _ | refine gd_bnd (gd_call _ _ _) (fun _ _ => ?_) | refine gd_let (fun _ => ?_) | refine gd_if ?_ ?_)
theorem gM_mark2_32 (σ : mS) (x0 x1 : Int32) : gd (fun rec => kM_mark2_32 rec σ x0 x1) := by
  unfold kM_mark2_32
  repeat' (first | exact gd_call _ _ _ | exact gd_const _ | refine gd_bnd (gd_call _ _ _) (fun _ _ => ?_) | refine gd_let (fun _ => ?_) | refine gd_if ?_ ?_)
theorem gM_mark2_46 (σ : mS) (x0 x1 x2 : Int32) : gd (fun rec => kM_mark2_46 rec σ x0 x1 x2) := by
  unfold kM_mark2_46
  repeat' (first | exact gd_call _ _ _ | exact gd_const _ | refine gd_bnd (gd_call _ _ _) (fun _ _ => ?_) | refine gd_let (fun _ => ?_) | refine gd_if ?_ ?_)
theorem gM_mark2_58 (σ : mS) (x0 x1 x2 : Int32) : gd (fun rec => kM_mark2_58 rec σ x0 x1 x2) := by
  unfold kM_mark2_58
  repeat' (first | exact gd_call _ _ _ | exact gd_const _ | refine gd_bnd (gd_call _ _ _) (fun _ _ => ?_) | refine gd_let (fun _ => ?_) | refine gd_if ?_ ?_)
theorem gM_mark2_102 (σ : mS) (x0 x1 x2 : Int32) : gd (fun rec => kM_mark2_102 rec σ x0 x1 x2) := by
  unfold kM_mark2_102
  repeat' (first | exact gd_call _ _ _ | exact gd_const _ | refine gd_bnd (gd_call _ _ _) (fun _ _ => ?_) | refine gd_let (fun _ => ?_) | refine gd_if ?_ ?_)
theorem gM_marked (σ : mS) (x0 x1 x2 : Int32) : gd (fun rec => kM_marked rec σ x0 x1 x2) := by
  unfold kM_marked
  repeat' (first | exact gd_call _ _ _ | exact gd_const _ | refine gd_bnd (gd_call _ _ _) (fun _ _ => ?_) | refine gd_let (fun _ => ?_) | refine gd_if ?_ ?_)
theorem gM_marked_3 (σ : mS) (x0 x1 x2 x3 : Int32) : gd (fun rec => kM_marked_3 rec σ x0 x1 x2 x3) := by
  unfold kM_marked_3
  repeat' (first | exact gd_call _ _ _ | exact gd_const _ | refine gd_bnd (gd_call _ _ _) (fun _ _ => ?_) | refine gd_let (fun _ => ?_) | refine gd_if ?_ ?_)
theorem gM_marked_45 (σ : mS) (x0 x1 x2 x3 x4 : Int32) : gd (fun rec => kM_marked_45 rec σ x0 x1 x2 x3 x4) := by
  unfold kM_marked_45
  repeat' (first | exact gd_call _ _ _ | exact gd_const _ | refine gd_bnd (gd_call _ _ _) (fun _ _ => ?_) | refine gd_let (fun _ => ?_) | refine gd_if ?_ ?_)
theorem gM_count2 (σ : mS) (x0 x1 : Int32) : gd (fun rec => kM_count2 rec σ x0 x1) := by
  unfold kM_count2
  repeat' (first | exact gd_call _ _ _ | exact gd_const _ | refine gd_bnd (gd_call _ _ _) (fun _ _ => ?_) | refine gd_let (fun _ => ?_) | refine gd_if ?_ ?_)
theorem gM_count2_62 (σ : mS) (x0 x1 x2 x3 : Int32) : gd (fun rec => kM_count2_62 rec σ x0 x1 x2 x3) := by
  unfold kM_count2_62
  repeat' (first | exact gd_call _ _ _ | exact gd_const _ | refine gd_bnd (gd_call _ _ _) (fun _ _ => ?_) | refine gd_let (fun _ => ?_) | refine gd_if ?_ ?_)
theorem gM_count2_81 (σ : mS) (x0 x1 x2 : Int32) : gd (fun rec => kM_count2_81 rec σ x0 x1 x2) := by
  unfold kM_count2_81
  repeat' (first | exact gd_call _ _ _ | exact gd_const _ | refine gd_bnd (gd_call _ _ _) (fun _ _ => ?_) | refine gd_let (fun _ => ?_) | refine gd_if ?_ ?_)
theorem gM_count2_140 (σ : mS) (x0 x1 x2 : Int32) : gd (fun rec => kM_count2_140 rec σ x0 x1 x2) := by
  unfold kM_count2_140
  repeat' (first | exact gd_call _ _ _ | exact gd_const _ | refine gd_bnd (gd_call _ _ _) (fun _ _ => ?_) | refine gd_let (fun _ => ?_) | refine gd_if ?_ ?_)
theorem gM_count2_200 (σ : mS) (x0 x1 x2 : Int32) : gd (fun rec => kM_count2_200 rec σ x0 x1 x2) := by
  unfold kM_count2_200
  repeat' (first | exact gd_call _ _ _ | exact gd_const _ | refine gd_bnd (gd_call _ _ _) (fun _ _ => ?_) | refine gd_let (fun _ => ?_) | refine gd_if ?_ ?_)
theorem gM_count2_241 (σ : mS) (x0 x1 x2 x3 : Int32) : gd (fun rec => kM_count2_241 rec σ x0 x1 x2 x3) := by
  unfold kM_count2_241
  repeat' (first | exact gd_call _ _ _ | exact gd_const _ | refine gd_bnd (gd_call _ _ _) (fun _ _ => ?_) | refine gd_let (fun _ => ?_) | refine gd_if ?_ ?_)
theorem gM_count2_304 (σ : mS) (x0 x1 x2 x3 x4 x5 x6 : Int32) : gd (fun rec => kM_count2_304 rec σ x0 x1 x2 x3 x4 x5 x6) := by
  unfold kM_count2_304
  repeat' (first | exact gd_call _ _ _ | exact gd_const _ | refine gd_bnd (gd_call _ _ _) (fun _ _ => ?_) | refine gd_let (fun _ => ?_) | refine gd_if ?_ ?_)
theorem gM_capped (σ : mS) (x0 : Int32) : gd (fun rec => kM_capped rec σ x0) := by
  unfold kM_capped
  repeat' (first | exact gd_call _ _ _ | exact gd_const _ | refine gd_bnd (gd_call _ _ _) (fun _ _ => ?_) | refine gd_let (fun _ => ?_) | refine gd_if ?_ ?_)
theorem gM_bind2 (σ : mS) (x0 x1 : Int32) : gd (fun rec => kM_bind2 rec σ x0 x1) := by
  unfold kM_bind2
  repeat' (first | exact gd_call _ _ _ | exact gd_const _ | refine gd_bnd (gd_call _ _ _) (fun _ _ => ?_) | refine gd_let (fun _ => ?_) | refine gd_if ?_ ?_)
theorem gM_bind2_9 (σ : mS) (x0 x1 x2 x3 : Int32) : gd (fun rec => kM_bind2_9 rec σ x0 x1 x2 x3) := by
  unfold kM_bind2_9
  repeat' (first | exact gd_call _ _ _ | exact gd_const _ | refine gd_bnd (gd_call _ _ _) (fun _ _ => ?_) | refine gd_let (fun _ => ?_) | refine gd_if ?_ ?_)
theorem gM_bind2_40 (σ : mS) (x0 x1 x2 : Int32) : gd (fun rec => kM_bind2_40 rec σ x0 x1 x2) := by
  unfold kM_bind2_40
  repeat' (first | exact gd_call _ _ _ | exact gd_const _ | refine gd_bnd (gd_call _ _ _) (fun _ _ => ?_) | refine gd_let (fun _ => ?_) | refine gd_if ?_ ?_)
theorem gM_bind2_57 (σ : mS) (x0 x1 x2 x3 x4 : Int32) : gd (fun rec => kM_bind2_57 rec σ x0 x1 x2 x3 x4) := by
  unfold kM_bind2_57
  repeat' (first | exact gd_call _ _ _ | exact gd_const _ | refine gd_bnd (gd_call _ _ _) (fun _ _ => ?_) | refine gd_let (fun _ => ?_) | refine gd_if ?_ ?_)
theorem gM_weightOf (σ : mS) (x0 : Int32) : gd (fun rec => kM_weightOf rec σ x0) := by
  unfold kM_weightOf
  repeat' (first | exact gd_call _ _ _ | exact gd_const _ | refine gd_bnd (gd_call _ _ _) (fun _ _ => ?_) | refine gd_let (fun _ => ?_) | refine gd_if ?_ ?_)
theorem gM_weightOf_11 (σ : mS) (x0 x1 : Int32) : gd (fun rec => kM_weightOf_11 rec σ x0 x1) := by
  unfold kM_weightOf_11
  repeat' (first | exact gd_call _ _ _ | exact gd_const _ | refine gd_bnd (gd_call _ _ _) (fun _ _ => ?_) | refine gd_let (fun _ => ?_) | refine gd_if ?_ ?_)
theorem gM_weightOf_50 (σ : mS) (x0 x1 x2 : Int32) : gd (fun rec => kM_weightOf_50 rec σ x0 x1 x2) := by
  unfold kM_weightOf_50
  repeat' (first | exact gd_call _ _ _ | exact gd_const _ | refine gd_bnd (gd_call _ _ _) (fun _ _ => ?_) | refine gd_let (fun _ => ?_) | refine gd_if ?_ ?_)
theorem gM_built1 (σ : mS) (x0 : Int32) : gd (fun rec => kM_built1 rec σ x0) := by
  unfold kM_built1
  repeat' (first | exact gd_call _ _ _ | exact gd_const _ | refine gd_bnd (gd_call _ _ _) (fun _ _ => ?_) | refine gd_let (fun _ => ?_) | refine gd_if ?_ ?_)
theorem gM_built1_40 (σ : mS) (x0 x1 : Int32) : gd (fun rec => kM_built1_40 rec σ x0 x1) := by
  unfold kM_built1_40
  repeat' (first | exact gd_call _ _ _ | exact gd_const _ | refine gd_bnd (gd_call _ _ _) (fun _ _ => ?_) | refine gd_let (fun _ => ?_) | refine gd_if ?_ ?_)
theorem gM_bound1 (σ : mS) (x0 : Int32) : gd (fun rec => kM_bound1 rec σ x0) := by
  unfold kM_bound1
  repeat' (first | exact gd_call _ _ _ | exact gd_const _ | refine gd_bnd (gd_call _ _ _) (fun _ _ => ?_) | refine gd_let (fun _ => ?_) | refine gd_if ?_ ?_)
theorem gM_bound1_41 (σ : mS) (x0 x1 x2 x3 x4 : Int32) : gd (fun rec => kM_bound1_41 rec σ x0 x1 x2 x3 x4) := by
  unfold kM_bound1_41
  repeat' (first | exact gd_call _ _ _ | exact gd_const _ | refine gd_bnd (gd_call _ _ _) (fun _ _ => ?_) | refine gd_let (fun _ => ?_) | refine gd_if ?_ ?_)
theorem gM_bound1_85 (σ : mS) (x0 x1 x2 x3 x4 x5 : Int32) : gd (fun rec => kM_bound1_85 rec σ x0 x1 x2 x3 x4 x5) := by
  unfold kM_bound1_85
  repeat' (first | exact gd_call _ _ _ | exact gd_const _ | refine gd_bnd (gd_call _ _ _) (fun _ _ => ?_) | refine gd_let (fun _ => ?_) | refine gd_if ?_ ?_)
theorem gM_fresh (σ : mS) (x0 : Int32) : gd (fun rec => kM_fresh rec σ x0) := by
  unfold kM_fresh
  repeat' (first | exact gd_call _ _ _ | exact gd_const _ | refine gd_bnd (gd_call _ _ _) (fun _ _ => ?_) | refine gd_let (fun _ => ?_) | refine gd_if ?_ ?_)
theorem gM_built2 (σ : mS) (x0 x1 : Int32) : gd (fun rec => kM_built2 rec σ x0 x1) := by
  unfold kM_built2
  repeat' (first | exact gd_call _ _ _ | exact gd_const _ | refine gd_bnd (gd_call _ _ _) (fun _ _ => ?_) | refine gd_let (fun _ => ?_) | refine gd_if ?_ ?_)
theorem gM_built2_12 (σ : mS) (x0 x1 x2 x3 x4 : Int32) : gd (fun rec => kM_built2_12 rec σ x0 x1 x2 x3 x4) := by
  unfold kM_built2_12
  repeat' (first | exact gd_call _ _ _ | exact gd_const _ | refine gd_bnd (gd_call _ _ _) (fun _ _ => ?_) | refine gd_let (fun _ => ?_) | refine gd_if ?_ ?_)
theorem gM_built2_50 (σ : mS) (x0 x1 x2 x3 x4 x5 : Int32) : gd (fun rec => kM_built2_50 rec σ x0 x1 x2 x3 x4 x5) := by
  unfold kM_built2_50
  repeat' (first | exact gd_call _ _ _ | exact gd_const _ | refine gd_bnd (gd_call _ _ _) (fun _ _ => ?_) | refine gd_let (fun _ => ?_) | refine gd_if ?_ ?_)
theorem gM_fits (σ : mS) (x0 x1 : Int32) : gd (fun rec => kM_fits rec σ x0 x1) := by
  unfold kM_fits
  repeat' (first | exact gd_call _ _ _ | exact gd_const _ | refine gd_bnd (gd_call _ _ _) (fun _ _ => ?_) | refine gd_let (fun _ => ?_) | refine gd_if ?_ ?_)
theorem gM_fits_10 (σ : mS) (x0 x1 x2 x3 : Int32) : gd (fun rec => kM_fits_10 rec σ x0 x1 x2 x3) := by
  unfold kM_fits_10
  repeat' (first | exact gd_call _ _ _ | exact gd_const _ | refine gd_bnd (gd_call _ _ _) (fun _ _ => ?_) | refine gd_let (fun _ => ?_) | refine gd_if ?_ ?_)
theorem gM_fits_94 (σ : mS) (x0 x1 x2 x3 : Int32) : gd (fun rec => kM_fits_94 rec σ x0 x1 x2 x3) := by
  unfold kM_fits_94
  repeat' (first | exact gd_call _ _ _ | exact gd_const _ | refine gd_bnd (gd_call _ _ _) (fun _ _ => ?_) | refine gd_let (fun _ => ?_) | refine gd_if ?_ ?_)
theorem gM_fits_95 (σ : mS) (x0 x1 x2 x3 x4 : Int32) : gd (fun rec => kM_fits_95 rec σ x0 x1 x2 x3 x4) := by
  unfold kM_fits_95
  repeat' (first | exact gd_call _ _ _ | exact gd_const _ | refine gd_bnd (gd_call _ _ _) (fun _ _ => ?_) | refine gd_let (fun _ => ?_) | refine gd_if ?_ ?_)
theorem gM_add (σ : mS) (x0 x1 x2 : Int32) : gd (fun rec => kM_add rec σ x0 x1 x2) := by
  unfold kM_add
  repeat' (first | exact gd_call _ _ _ | exact gd_const _ | refine gd_bnd (gd_call _ _ _) (fun _ _ => ?_) | refine gd_let (fun _ => ?_) | refine gd_if ?_ ?_)
theorem gM_distinct (σ : mS) : gd (fun rec => kM_distinct rec σ) := by
  unfold kM_distinct
  repeat' (first | exact gd_call _ _ _ | exact gd_const _ | refine gd_bnd (gd_call _ _ _) (fun _ _ => ?_) | refine gd_let (fun _ => ?_) | refine gd_if ?_ ?_)
theorem gM_distinct_7 (σ : mS) (x0 : Int32) : gd (fun rec => kM_distinct_7 rec σ x0) := by
  unfold kM_distinct_7
  repeat' (first | exact gd_call _ _ _ | exact gd_const _ | refine gd_bnd (gd_call _ _ _) (fun _ _ => ?_) | refine gd_let (fun _ => ?_) | refine gd_if ?_ ?_)
theorem gM_note (σ : mS) (x0 : Int32) : gd (fun rec => kM_note rec σ x0) := by
  unfold kM_note
  repeat' (first | exact gd_call _ _ _ | exact gd_const _ | refine gd_bnd (gd_call _ _ _) (fun _ _ => ?_) | refine gd_let (fun _ => ?_) | refine gd_if ?_ ?_)
theorem gM_note_11 (σ : mS) (x0 x1 : Int32) : gd (fun rec => kM_note_11 rec σ x0 x1) := by
  unfold kM_note_11
  repeat' (first | exact gd_call _ _ _ | exact gd_const _ | refine gd_bnd (gd_call _ _ _) (fun _ _ => ?_) | refine gd_let (fun _ => ?_) | refine gd_if ?_ ?_)
theorem gM_note_71 (σ : mS) (x0 x1 : Int32) : gd (fun rec => kM_note_71 rec σ x0 x1) := by
  unfold kM_note_71
  repeat' (first | exact gd_call _ _ _ | exact gd_const _ | refine gd_bnd (gd_call _ _ _) (fun _ _ => ?_) | refine gd_let (fun _ => ?_) | refine gd_if ?_ ?_)
theorem gM_copy (σ : mS) (x0 : Int32) : gd (fun rec => kM_copy rec σ x0) := by
  unfold kM_copy
  repeat' (first | exact gd_call _ _ _ | exact gd_const _ | refine gd_bnd (gd_call _ _ _) (fun _ _ => ?_) | refine gd_let (fun _ => ?_) | refine gd_if ?_ ?_)
theorem gM_copy_21 (σ : mS) (x0 x1 x2 x3 : Int32) : gd (fun rec => kM_copy_21 rec σ x0 x1 x2 x3) := by
  unfold kM_copy_21
  repeat' (first | exact gd_call _ _ _ | exact gd_const _ | refine gd_bnd (gd_call _ _ _) (fun _ _ => ?_) | refine gd_let (fun _ => ?_) | refine gd_if ?_ ?_)
theorem gM_copy_57 (σ : mS) (x0 x1 x2 x3 x4 : Int32) : gd (fun rec => kM_copy_57 rec σ x0 x1 x2 x3 x4) := by
  unfold kM_copy_57
  repeat' (first | exact gd_call _ _ _ | exact gd_const _ | refine gd_bnd (gd_call _ _ _) (fun _ _ => ?_) | refine gd_let (fun _ => ?_) | refine gd_if ?_ ?_)
theorem gM_reduce (σ : mS) : gd (fun rec => kM_reduce rec σ) := by
  unfold kM_reduce
  repeat' (first | exact gd_call _ _ _ | exact gd_const _ | refine gd_bnd (gd_call _ _ _) (fun _ _ => ?_) | refine gd_let (fun _ => ?_) | refine gd_if ?_ ?_)
theorem gM_reduce_4 (σ : mS) (x0 x1 : Int32) : gd (fun rec => kM_reduce_4 rec σ x0 x1) := by
  unfold kM_reduce_4
  repeat' (first | exact gd_call _ _ _ | exact gd_const _ | refine gd_bnd (gd_call _ _ _) (fun _ _ => ?_) | refine gd_let (fun _ => ?_) | refine gd_if ?_ ?_)
theorem gM_reduce_43 (σ : mS) (x0 x1 : Int32) : gd (fun rec => kM_reduce_43 rec σ x0 x1) := by
  unfold kM_reduce_43
  repeat' (first | exact gd_call _ _ _ | exact gd_const _ | refine gd_bnd (gd_call _ _ _) (fun _ _ => ?_) | refine gd_let (fun _ => ?_) | refine gd_if ?_ ?_)
theorem gM_reduce_84 (σ : mS) (x0 x1 x2 x3 : Int32) : gd (fun rec => kM_reduce_84 rec σ x0 x1 x2 x3) := by
  unfold kM_reduce_84
  repeat' (first | exact gd_call _ _ _ | exact gd_const _ | refine gd_bnd (gd_call _ _ _) (fun _ _ => ?_) | refine gd_let (fun _ => ?_) | refine gd_if ?_ ?_)
theorem gM_reduce_104 (σ : mS) (x0 x1 x2 x3 : Int32) : gd (fun rec => kM_reduce_104 rec σ x0 x1 x2 x3) := by
  unfold kM_reduce_104
  repeat' (first | exact gd_call _ _ _ | exact gd_const _ | refine gd_bnd (gd_call _ _ _) (fun _ _ => ?_) | refine gd_let (fun _ => ?_) | refine gd_if ?_ ?_)
theorem gM_reduce_109 (σ : mS) (x0 x1 x2 x3 x4 : Int32) : gd (fun rec => kM_reduce_109 rec σ x0 x1 x2 x3 x4) := by
  unfold kM_reduce_109
  repeat' (first | exact gd_call _ _ _ | exact gd_const _ | refine gd_bnd (gd_call _ _ _) (fun _ _ => ?_) | refine gd_let (fun _ => ?_) | refine gd_if ?_ ?_)
theorem gM_reduce_123 (σ : mS) (x0 x1 : Int32) : gd (fun rec => kM_reduce_123 rec σ x0 x1) := by
  unfold kM_reduce_123
  repeat' (first | exact gd_call _ _ _ | exact gd_const _ | refine gd_bnd (gd_call _ _ _) (fun _ _ => ?_) | refine gd_let (fun _ => ?_) | refine gd_if ?_ ?_)
theorem gM_reduce_141 (σ : mS) (x0 x1 : Int32) : gd (fun rec => kM_reduce_141 rec σ x0 x1) := by
  unfold kM_reduce_141
  repeat' (first | exact gd_call _ _ _ | exact gd_const _ | refine gd_bnd (gd_call _ _ _) (fun _ _ => ?_) | refine gd_let (fun _ => ?_) | refine gd_if ?_ ?_)
theorem gM_same (σ : mS) (x0 x1 : Int32) : gd (fun rec => kM_same rec σ x0 x1) := by
  unfold kM_same
  repeat' (first | exact gd_call _ _ _ | exact gd_const _ | refine gd_bnd (gd_call _ _ _) (fun _ _ => ?_) | refine gd_let (fun _ => ?_) | refine gd_if ?_ ?_)
theorem gM_same_30 (σ : mS) (x0 x1 : Int32) : gd (fun rec => kM_same_30 rec σ x0 x1) := by
  unfold kM_same_30
  repeat' (first | exact gd_call _ _ _ | exact gd_const _ | refine gd_bnd (gd_call _ _ _) (fun _ _ => ?_) | refine gd_let (fun _ => ?_) | refine gd_if ?_ ?_)
theorem gM_same_47 (σ : mS) (x0 x1 x2 x3 : Int32) : gd (fun rec => kM_same_47 rec σ x0 x1 x2 x3) := by
  unfold kM_same_47
  repeat' (first | exact gd_call _ _ _ | exact gd_const _ | refine gd_bnd (gd_call _ _ _) (fun _ _ => ?_) | refine gd_let (fun _ => ?_) | refine gd_if ?_ ?_)
theorem gM_sameLiteral (σ : mS) (x0 x1 : Int32) : gd (fun rec => kM_sameLiteral rec σ x0 x1) := by
  unfold kM_sameLiteral
  repeat' (first | exact gd_call _ _ _ | exact gd_const _ | refine gd_bnd (gd_call _ _ _) (fun _ _ => ?_) | refine gd_let (fun _ => ?_) | refine gd_if ?_ ?_)
theorem gM_sameLiteral_28 (σ : mS) (x0 x1 : Int32) : gd (fun rec => kM_sameLiteral_28 rec σ x0 x1) := by
  unfold kM_sameLiteral_28
  repeat' (first | exact gd_call _ _ _ | exact gd_const _ | refine gd_bnd (gd_call _ _ _) (fun _ _ => ?_) | refine gd_let (fun _ => ?_) | refine gd_if ?_ ?_)
theorem gM_sameLiteral_29 (σ : mS) (x0 x1 x2 : Int32) : gd (fun rec => kM_sameLiteral_29 rec σ x0 x1 x2) := by
  unfold kM_sameLiteral_29
  repeat' (first | exact gd_call _ _ _ | exact gd_const _ | refine gd_bnd (gd_call _ _ _) (fun _ _ => ?_) | refine gd_let (fun _ => ?_) | refine gd_if ?_ ?_)
theorem gM_alike (σ : mS) (x0 x1 : Int32) : gd (fun rec => kM_alike rec σ x0 x1) := by
  unfold kM_alike
  repeat' (first | exact gd_call _ _ _ | exact gd_const _ | refine gd_bnd (gd_call _ _ _) (fun _ _ => ?_) | refine gd_let (fun _ => ?_) | refine gd_if ?_ ?_)
theorem gM_alike_38 (σ : mS) (x0 x1 : Int32) : gd (fun rec => kM_alike_38 rec σ x0 x1) := by
  unfold kM_alike_38
  repeat' (first | exact gd_call _ _ _ | exact gd_const _ | refine gd_bnd (gd_call _ _ _) (fun _ _ => ?_) | refine gd_let (fun _ => ?_) | refine gd_if ?_ ?_)
theorem gM_alike_76 (σ : mS) (x0 x1 : Int32) : gd (fun rec => kM_alike_76 rec σ x0 x1) := by
  unfold kM_alike_76
  repeat' (first | exact gd_call _ _ _ | exact gd_const _ | refine gd_bnd (gd_call _ _ _) (fun _ _ => ?_) | refine gd_let (fun _ => ?_) | refine gd_if ?_ ?_)
theorem gM_alike_80 (σ : mS) (x0 x1 : Int32) : gd (fun rec => kM_alike_80 rec σ x0 x1) := by
  unfold kM_alike_80
  repeat' (first | exact gd_call _ _ _ | exact gd_const _ | refine gd_bnd (gd_call _ _ _) (fun _ _ => ?_) | refine gd_let (fun _ => ?_) | refine gd_if ?_ ?_)
theorem gM_alike_81 (σ : mS) (x0 x1 x2 : Int32) : gd (fun rec => kM_alike_81 rec σ x0 x1 x2) := by
  unfold kM_alike_81
  repeat' (first | exact gd_call _ _ _ | exact gd_const _ | refine gd_bnd (gd_call _ _ _) (fun _ _ => ?_) | refine gd_let (fun _ => ?_) | refine gd_if ?_ ?_)
theorem gM_number (σ : mS) (x0 : Int32) : gd (fun rec => kM_number rec σ x0) := by
  unfold kM_number
  repeat' (first | exact gd_call _ _ _ | exact gd_const _ | refine gd_bnd (gd_call _ _ _) (fun _ _ => ?_) | refine gd_let (fun _ => ?_) | refine gd_if ?_ ?_)
theorem gM_number_11 (σ : mS) (x0 x1 : Int32) : gd (fun rec => kM_number_11 rec σ x0 x1) := by
  unfold kM_number_11
  repeat' (first | exact gd_call _ _ _ | exact gd_const _ | refine gd_bnd (gd_call _ _ _) (fun _ _ => ?_) | refine gd_let (fun _ => ?_) | refine gd_if ?_ ?_)
theorem gM_number_40 (σ : mS) (x0 x1 : Int32) : gd (fun rec => kM_number_40 rec σ x0 x1) := by
  unfold kM_number_40
  repeat' (first | exact gd_call _ _ _ | exact gd_const _ | refine gd_bnd (gd_call _ _ _) (fun _ _ => ?_) | refine gd_let (fun _ => ?_) | refine gd_if ?_ ?_)
theorem gM_number_70 (σ : mS) (x0 x1 : Int32) : gd (fun rec => kM_number_70 rec σ x0 x1) := by
  unfold kM_number_70
  repeat' (first | exact gd_call _ _ _ | exact gd_const _ | refine gd_bnd (gd_call _ _ _) (fun _ _ => ?_) | refine gd_let (fun _ => ?_) | refine gd_if ?_ ?_)
theorem gM_number_87 (σ : mS) (x0 x1 : Int32) : gd (fun rec => kM_number_87 rec σ x0 x1) := by
  unfold kM_number_87
  repeat' (first | exact gd_call _ _ _ | exact gd_const _ | refine gd_bnd (gd_call _ _ _) (fun _ _ => ?_) | refine gd_let (fun _ => ?_) | refine gd_if ?_ ?_)
theorem gM_tautology (σ : mS) : gd (fun rec => kM_tautology rec σ) := by
  unfold kM_tautology
  repeat' (first | exact gd_call _ _ _ | exact gd_const _ | refine gd_bnd (gd_call _ _ _) (fun _ _ => ?_) | refine gd_let (fun _ => ?_) | refine gd_if ?_ ?_)
theorem gM_tautology_2 (σ : mS) (x0 : Int32) : gd (fun rec => kM_tautology_2 rec σ x0) := by
  unfold kM_tautology_2
  repeat' (first | exact gd_call _ _ _ | exact gd_const _ | refine gd_bnd (gd_call _ _ _) (fun _ _ => ?_) | refine gd_let (fun _ => ?_) | refine gd_if ?_ ?_)
theorem gM_tautology_45 (σ : mS) (x0 x1 : Int32) : gd (fun rec => kM_tautology_45 rec σ x0 x1) := by
  unfold kM_tautology_45
  repeat' (first | exact gd_call _ _ _ | exact gd_const _ | refine gd_bnd (gd_call _ _ _) (fun _ _ => ?_) | refine gd_let (fun _ => ?_) | refine gd_if ?_ ?_)
theorem gM_tautology_73 (σ : mS) (x0 x1 : Int32) : gd (fun rec => kM_tautology_73 rec σ x0 x1) := by
  unfold kM_tautology_73
  repeat' (first | exact gd_call _ _ _ | exact gd_const _ | refine gd_bnd (gd_call _ _ _) (fun _ _ => ?_) | refine gd_let (fun _ => ?_) | refine gd_if ?_ ?_)
theorem gM_tautology_79 (σ : mS) (x0 : Int32) : gd (fun rec => kM_tautology_79 rec σ x0) := by
  unfold kM_tautology_79
  repeat' (first | exact gd_call _ _ _ | exact gd_const _ | refine gd_bnd (gd_call _ _ _) (fun _ _ => ?_) | refine gd_let (fun _ => ?_) | refine gd_if ?_ ?_)
theorem gM_keep (σ : mS) (x0 x1 x2 : Int32) : gd (fun rec => kM_keep rec σ x0 x1 x2) := by
  unfold kM_keep
  repeat' (first | exact gd_call _ _ _ | exact gd_const _ | refine gd_bnd (gd_call _ _ _) (fun _ _ => ?_) | refine gd_let (fun _ => ?_) | refine gd_if ?_ ?_)
theorem gM_keep_126 (σ : mS) (x0 x1 x2 x3 x4 : Int32) : gd (fun rec => kM_keep_126 rec σ x0 x1 x2 x3 x4) := by
  unfold kM_keep_126
  repeat' (first | exact gd_call _ _ _ | exact gd_const _ | refine gd_bnd (gd_call _ _ _) (fun _ _ => ?_) | refine gd_let (fun _ => ?_) | refine gd_if ?_ ?_)
theorem gM_looked (σ : mS) (x0 : Int32) : gd (fun rec => kM_looked rec σ x0) := by
  unfold kM_looked
  repeat' (first | exact gd_call _ _ _ | exact gd_const _ | refine gd_bnd (gd_call _ _ _) (fun _ _ => ?_) | refine gd_let (fun _ => ?_) | refine gd_if ?_ ?_)
theorem gM_looked_22 (σ : mS) (x0 x1 x2 x3 x4 : Int32) : gd (fun rec => kM_looked_22 rec σ x0 x1 x2 x3 x4) := by
  unfold kM_looked_22
  repeat' (first | exact gd_call _ _ _ | exact gd_const _ | refine gd_bnd (gd_call _ _ _) (fun _ _ => ?_) | refine gd_let (fun _ => ?_) | refine gd_if ?_ ?_)
theorem gM_looked_85 (σ : mS) (x0 x1 x2 x3 x4 x5 x6 : Int32) : gd (fun rec => kM_looked_85 rec σ x0 x1 x2 x3 x4 x5 x6) := by
  unfold kM_looked_85
  repeat' (first | exact gd_call _ _ _ | exact gd_const _ | refine gd_bnd (gd_call _ _ _) (fun _ _ => ?_) | refine gd_let (fun _ => ?_) | refine gd_if ?_ ?_)
theorem gM_looked_118 (σ : mS) (x0 x1 x2 x3 x4 : Int32) : gd (fun rec => kM_looked_118 rec σ x0 x1 x2 x3 x4) := by
  unfold kM_looked_118
  repeat' (first | exact gd_call _ _ _ | exact gd_const _ | refine gd_bnd (gd_call _ _ _) (fun _ _ => ?_) | refine gd_let (fun _ => ?_) | refine gd_if ?_ ?_)
theorem gM_looked_122 (σ : mS) (x0 x1 x2 x3 x4 : Int32) : gd (fun rec => kM_looked_122 rec σ x0 x1 x2 x3 x4) := by
  unfold kM_looked_122
  repeat' (first | exact gd_call _ _ _ | exact gd_const _ | refine gd_bnd (gd_call _ _ _) (fun _ _ => ?_) | refine gd_let (fun _ => ?_) | refine gd_if ?_ ?_)
theorem gM_looked_131 (σ : mS) (x0 x1 x2 x3 x4 : Int32) : gd (fun rec => kM_looked_131 rec σ x0 x1 x2 x3 x4) := by
  unfold kM_looked_131
  repeat' (first | exact gd_call _ _ _ | exact gd_const _ | refine gd_bnd (gd_call _ _ _) (fun _ _ => ?_) | refine gd_let (fun _ => ?_) | refine gd_if ?_ ?_)
theorem gM_looked_155 (σ : mS) (x0 x1 x2 x3 x4 x5 : Int32) : gd (fun rec => kM_looked_155 rec σ x0 x1 x2 x3 x4 x5) := by
  unfold kM_looked_155
  repeat' (first | exact gd_call _ _ _ | exact gd_const _ | refine gd_bnd (gd_call _ _ _) (fun _ _ => ?_) | refine gd_let (fun _ => ?_) | refine gd_if ?_ ?_)
theorem gM_looked_160 (σ : mS) (x0 x1 x2 x3 x4 x5 x6 : Int32) : gd (fun rec => kM_looked_160 rec σ x0 x1 x2 x3 x4 x5 x6) := by
  unfold kM_looked_160
  repeat' (first | exact gd_call _ _ _ | exact gd_const _ | refine gd_bnd (gd_call _ _ _) (fun _ _ => ?_) | refine gd_let (fun _ => ?_) | refine gd_if ?_ ?_)
theorem gM_looked_164 (σ : mS) (x0 x1 x2 x3 x4 x5 : Int32) : gd (fun rec => kM_looked_164 rec σ x0 x1 x2 x3 x4 x5) := by
  unfold kM_looked_164
  repeat' (first | exact gd_call _ _ _ | exact gd_const _ | refine gd_bnd (gd_call _ _ _) (fun _ _ => ?_) | refine gd_let (fun _ => ?_) | refine gd_if ?_ ?_)
theorem gM_looked_201 (σ : mS) (x0 x1 x2 x3 x4 x5 : Int32) : gd (fun rec => kM_looked_201 rec σ x0 x1 x2 x3 x4 x5) := by
  unfold kM_looked_201
  repeat' (first | exact gd_call _ _ _ | exact gd_const _ | refine gd_bnd (gd_call _ _ _) (fun _ _ => ?_) | refine gd_let (fun _ => ?_) | refine gd_if ?_ ?_)
theorem gM_looked_207 (σ : mS) (x0 x1 x2 x3 x4 x5 : Int32) : gd (fun rec => kM_looked_207 rec σ x0 x1 x2 x3 x4 x5) := by
  unfold kM_looked_207
  repeat' (first | exact gd_call _ _ _ | exact gd_const _ | refine gd_bnd (gd_call _ _ _) (fun _ _ => ?_) | refine gd_let (fun _ => ?_) | refine gd_if ?_ ?_)
theorem gM_greater (σ : mS) (x0 x1 : Int32) : gd (fun rec => kM_greater rec σ x0 x1) := by
  unfold kM_greater
  repeat' (first | exact gd_call _ _ _ | exact gd_const _ | refine gd_bnd (gd_call _ _ _) (fun _ _ => ?_) | refine gd_let (fun _ => ?_) | refine gd_if ?_ ?_)
theorem gM_greater_33 (σ : mS) (x0 x1 x2 : Int32) : gd (fun rec => kM_greater_33 rec σ x0 x1 x2) := by
  unfold kM_greater_33
  repeat' (first | exact gd_call _ _ _ | exact gd_const _ | refine gd_bnd (gd_call _ _ _) (fun _ _ => ?_) | refine gd_let (fun _ => ?_) | refine gd_if ?_ ?_)
theorem gM_times (σ : mS) (x0 x1 : Int32) : gd (fun rec => kM_times rec σ x0 x1) := by
  unfold kM_times
  repeat' (first | exact gd_call _ _ _ | exact gd_const _ | refine gd_bnd (gd_call _ _ _) (fun _ _ => ?_) | refine gd_let (fun _ => ?_) | refine gd_if ?_ ?_)
theorem gM_times_34 (σ : mS) (x0 x1 x2 : Int32) : gd (fun rec => kM_times_34 rec σ x0 x1 x2) := by
  unfold kM_times_34
  repeat' (first | exact gd_call _ _ _ | exact gd_const _ | refine gd_bnd (gd_call _ _ _) (fun _ _ => ?_) | refine gd_let (fun _ => ?_) | refine gd_if ?_ ?_)
theorem gM_above (σ : mS) (x0 x1 : Int32) : gd (fun rec => kM_above rec σ x0 x1) := by
  unfold kM_above
  repeat' (first | exact gd_call _ _ _ | exact gd_const _ | refine gd_bnd (gd_call _ _ _) (fun _ _ => ?_) | refine gd_let (fun _ => ?_) | refine gd_if ?_ ?_)
theorem gM_above_35 (σ : mS) (x0 x1 x2 : Int32) : gd (fun rec => kM_above_35 rec σ x0 x1 x2) := by
  unfold kM_above_35
  repeat' (first | exact gd_call _ _ _ | exact gd_const _ | refine gd_bnd (gd_call _ _ _) (fun _ _ => ?_) | refine gd_let (fun _ => ?_) | refine gd_if ?_ ?_)
theorem gM_above_82 (σ : mS) (x0 x1 x2 : Int32) : gd (fun rec => kM_above_82 rec σ x0 x1 x2) := by
  unfold kM_above_82
  repeat' (first | exact gd_call _ _ _ | exact gd_const _ | refine gd_bnd (gd_call _ _ _) (fun _ _ => ?_) | refine gd_let (fun _ => ?_) | refine gd_if ?_ ?_)
theorem gM_above_98 (σ : mS) (x0 x1 x2 x3 : Int32) : gd (fun rec => kM_above_98 rec σ x0 x1 x2 x3) := by
  unfold kM_above_98
  repeat' (first | exact gd_call _ _ _ | exact gd_const _ | refine gd_bnd (gd_call _ _ _) (fun _ _ => ?_) | refine gd_let (fun _ => ?_) | refine gd_if ?_ ?_)
theorem gM_greaterLiteral (σ : mS) (x0 x1 : Int32) : gd (fun rec => kM_greaterLiteral rec σ x0 x1) := by
  unfold kM_greaterLiteral
  repeat' (first | exact gd_call _ _ _ | exact gd_const _ | refine gd_bnd (gd_call _ _ _) (fun _ _ => ?_) | refine gd_let (fun _ => ?_) | refine gd_if ?_ ?_)
theorem gM_greaterLiteral_24 (σ : mS) (x0 x1 x2 x3 x4 : Int32) : gd (fun rec => kM_greaterLiteral_24 rec σ x0 x1 x2 x3 x4) := by
  unfold kM_greaterLiteral_24
  repeat' (first | exact gd_call _ _ _ | exact gd_const _ | refine gd_bnd (gd_call _ _ _) (fun _ _ => ?_) | refine gd_let (fun _ => ?_) | refine gd_if ?_ ?_)
theorem gM_greaterLiteral_33 (σ : mS) (x0 x1 x2 x3 x4 x5 : Int32) : gd (fun rec => kM_greaterLiteral_33 rec σ x0 x1 x2 x3 x4 x5) := by
  unfold kM_greaterLiteral_33
  repeat' (first | exact gd_call _ _ _ | exact gd_const _ | refine gd_bnd (gd_call _ _ _) (fun _ _ => ?_) | refine gd_let (fun _ => ?_) | refine gd_if ?_ ?_)
theorem gM_greaterLiteral_100 (σ : mS) (x0 x1 x2 x3 x4 x5 : Int32) : gd (fun rec => kM_greaterLiteral_100 rec σ x0 x1 x2 x3 x4 x5) := by
  unfold kM_greaterLiteral_100
  repeat' (first | exact gd_call _ _ _ | exact gd_const _ | refine gd_bnd (gd_call _ _ _) (fun _ _ => ?_) | refine gd_let (fun _ => ?_) | refine gd_if ?_ ?_)
theorem gM_greaterLiteral_118 (σ : mS) (x0 x1 x2 x3 x4 x5 : Int32) : gd (fun rec => kM_greaterLiteral_118 rec σ x0 x1 x2 x3 x4 x5) := by
  unfold kM_greaterLiteral_118
  repeat' (first | exact gd_call _ _ _ | exact gd_const _ | refine gd_bnd (gd_call _ _ _) (fun _ _ => ?_) | refine gd_let (fun _ => ?_) | refine gd_if ?_ ?_)
theorem gM_greaterLiteral_139 (σ : mS) (x0 x1 x2 x3 x4 x5 : Int32) : gd (fun rec => kM_greaterLiteral_139 rec σ x0 x1 x2 x3 x4 x5) := by
  unfold kM_greaterLiteral_139
  repeat' (first | exact gd_call _ _ _ | exact gd_const _ | refine gd_bnd (gd_call _ _ _) (fun _ _ => ?_) | refine gd_let (fun _ => ?_) | refine gd_if ?_ ?_)
theorem gM_greaterLiteral_144 (σ : mS) (x0 x1 x2 x3 x4 x5 x6 : Int32) : gd (fun rec => kM_greaterLiteral_144 rec σ x0 x1 x2 x3 x4 x5 x6) := by
  unfold kM_greaterLiteral_144
  repeat' (first | exact gd_call _ _ _ | exact gd_const _ | refine gd_bnd (gd_call _ _ _) (fun _ _ => ?_) | refine gd_let (fun _ => ?_) | refine gd_if ?_ ?_)
theorem gM_greaterLiteral_162 (σ : mS) (x0 x1 x2 x3 x4 x5 : Int32) : gd (fun rec => kM_greaterLiteral_162 rec σ x0 x1 x2 x3 x4 x5) := by
  unfold kM_greaterLiteral_162
  repeat' (first | exact gd_call _ _ _ | exact gd_const _ | refine gd_bnd (gd_call _ _ _) (fun _ _ => ?_) | refine gd_let (fun _ => ?_) | refine gd_if ?_ ?_)
theorem gM_greaterLiteral_188 (σ : mS) (x0 x1 x2 x3 x4 x5 x6 x7 : Int32) : gd (fun rec => kM_greaterLiteral_188 rec σ x0 x1 x2 x3 x4 x5 x6 x7) := by
  unfold kM_greaterLiteral_188
  repeat' (first | exact gd_call _ _ _ | exact gd_const _ | refine gd_bnd (gd_call _ _ _) (fun _ _ => ?_) | refine gd_let (fun _ => ?_) | refine gd_if ?_ ?_)
theorem gM_greaterLiteral_230 (σ : mS) (x0 x1 x2 x3 x4 x5 x6 x7 : Int32) : gd (fun rec => kM_greaterLiteral_230 rec σ x0 x1 x2 x3 x4 x5 x6 x7) := by
  unfold kM_greaterLiteral_230
  repeat' (first | exact gd_call _ _ _ | exact gd_const _ | refine gd_bnd (gd_call _ _ _) (fun _ _ => ?_) | refine gd_let (fun _ => ?_) | refine gd_if ?_ ?_)
theorem gM_greaterLiteral_234 (σ : mS) (x0 x1 x2 x3 x4 x5 x6 x7 : Int32) : gd (fun rec => kM_greaterLiteral_234 rec σ x0 x1 x2 x3 x4 x5 x6 x7) := by
  unfold kM_greaterLiteral_234
  repeat' (first | exact gd_call _ _ _ | exact gd_const _ | refine gd_bnd (gd_call _ _ _) (fun _ _ => ?_) | refine gd_let (fun _ => ?_) | refine gd_if ?_ ?_)
theorem gM_greaterLiteral_235 (σ : mS) (x0 x1 x2 x3 x4 x5 x6 x7 x8 : Int32) : gd (fun rec => kM_greaterLiteral_235 rec σ x0 x1 x2 x3 x4 x5 x6 x7 x8) := by
  unfold kM_greaterLiteral_235
  repeat' (first | exact gd_call _ _ _ | exact gd_const _ | refine gd_bnd (gd_call _ _ _) (fun _ _ => ?_) | refine gd_let (fun _ => ?_) | refine gd_if ?_ ?_)
theorem gM_greaterLiteral_250 (σ : mS) (x0 x1 x2 x3 x4 x5 : Int32) : gd (fun rec => kM_greaterLiteral_250 rec σ x0 x1 x2 x3 x4 x5) := by
  unfold kM_greaterLiteral_250
  repeat' (first | exact gd_call _ _ _ | exact gd_const _ | refine gd_bnd (gd_call _ _ _) (fun _ _ => ?_) | refine gd_let (fun _ => ?_) | refine gd_if ?_ ?_)
theorem gM_fault (σ : mS) (x0 : Int32) : gd (fun rec => kM_fault rec σ x0) := by
  unfold kM_fault
  repeat' (first | exact gd_call _ _ _ | exact gd_const _ | refine gd_bnd (gd_call _ _ _) (fun _ _ => ?_) | refine gd_let (fun _ => ?_) | refine gd_if ?_ ?_)
theorem gM_fault_29 (σ : mS) (x0 x1 : Int32) : gd (fun rec => kM_fault_29 rec σ x0 x1) := by
  unfold kM_fault_29
  repeat' (first | exact gd_call _ _ _ | exact gd_const _ | refine gd_bnd (gd_call _ _ _) (fun _ _ => ?_) | refine gd_let (fun _ => ?_) | refine gd_if ?_ ?_)
theorem gM_run (σ : mS) (x0 : Int32) : gd (fun rec => kM_run rec σ x0) := by
  unfold kM_run
  repeat' (first | exact gd_call _ _ _ | exact gd_const _ | refine gd_bnd (gd_call _ _ _) (fun _ _ => ?_) | refine gd_let (fun _ => ?_) | refine gd_if ?_ ?_)
theorem gM_run_18 (σ : mS) (x0 x1 : Int32) : gd (fun rec => kM_run_18 rec σ x0 x1) := by
  unfold kM_run_18
  repeat' (first | exact gd_call _ _ _ | exact gd_const _ | refine gd_bnd (gd_call _ _ _) (fun _ _ => ?_) | refine gd_let (fun _ => ?_) | refine gd_if ?_ ?_)
theorem gM_run_23 (σ : mS) (x0 x1 x2 : Int32) : gd (fun rec => kM_run_23 rec σ x0 x1 x2) := by
  unfold kM_run_23
  repeat' (first | exact gd_call _ _ _ | exact gd_const _ | refine gd_bnd (gd_call _ _ _) (fun _ _ => ?_) | refine gd_let (fun _ => ?_) | refine gd_if ?_ ?_)
theorem gM_run_33 (σ : mS) (x0 x1 : Int32) : gd (fun rec => kM_run_33 rec σ x0 x1) := by
  unfold kM_run_33
  repeat' (first | exact gd_call _ _ _ | exact gd_const _ | refine gd_bnd (gd_call _ _ _) (fun _ _ => ?_) | refine gd_let (fun _ => ?_) | refine gd_if ?_ ?_)
theorem gM_run_55 (σ : mS) (x0 x1 : Int32) : gd (fun rec => kM_run_55 rec σ x0 x1) := by
  unfold kM_run_55
  repeat' (first | exact gd_call _ _ _ | exact gd_const _ | refine gd_bnd (gd_call _ _ _) (fun _ _ => ?_) | refine gd_let (fun _ => ?_) | refine gd_if ?_ ?_)
theorem gM_step1 (σ : mS) : gd (fun rec => kM_step1 rec σ) := by
  unfold kM_step1
  repeat' (first | exact gd_call _ _ _ | exact gd_const _ | refine gd_bnd (gd_call _ _ _) (fun _ _ => ?_) | refine gd_let (fun _ => ?_) | refine gd_if ?_ ?_)
theorem gM_step1_139 (σ : mS) (x0 x1 x2 x3 : Int32) : gd (fun rec => kM_step1_139 rec σ x0 x1 x2 x3) := by
  unfold kM_step1_139
  repeat' (first | exact gd_call _ _ _ | exact gd_const _ | refine gd_bnd (gd_call _ _ _) (fun _ _ => ?_) | refine gd_let (fun _ => ?_) | refine gd_if ?_ ?_)
theorem gM_step1_192 (σ : mS) (x0 x1 : Int32) : gd (fun rec => kM_step1_192 rec σ x0 x1) := by
  unfold kM_step1_192
  repeat' (first | exact gd_call _ _ _ | exact gd_const _ | refine gd_bnd (gd_call _ _ _) (fun _ _ => ?_) | refine gd_let (fun _ => ?_) | refine gd_if ?_ ?_)
theorem gM_step1_194 (σ : mS) (x0 x1 x2 : Int32) : gd (fun rec => kM_step1_194 rec σ x0 x1 x2) := by
  unfold kM_step1_194
  repeat' (first | exact gd_call _ _ _ | exact gd_const _ | refine gd_bnd (gd_call _ _ _) (fun _ _ => ?_) | refine gd_let (fun _ => ?_) | refine gd_if ?_ ?_)
theorem gM_step1_235 (σ : mS) (x0 x1 x2 : Int32) : gd (fun rec => kM_step1_235 rec σ x0 x1 x2) := by
  unfold kM_step1_235
  repeat' (first | exact gd_call _ _ _ | exact gd_const _ | refine gd_bnd (gd_call _ _ _) (fun _ _ => ?_) | refine gd_let (fun _ => ?_) | refine gd_if ?_ ?_)
theorem gM_given (σ : mS) : gd (fun rec => kM_given rec σ) := by
  unfold kM_given
  repeat' (first | exact gd_call _ _ _ | exact gd_const _ | refine gd_bnd (gd_call _ _ _) (fun _ _ => ?_) | refine gd_let (fun _ => ?_) | refine gd_if ?_ ?_)
theorem gM_given_18 (σ : mS) (x0 x1 : Int32) : gd (fun rec => kM_given_18 rec σ x0 x1) := by
  unfold kM_given_18
  repeat' (first | exact gd_call _ _ _ | exact gd_const _ | refine gd_bnd (gd_call _ _ _) (fun _ _ => ?_) | refine gd_let (fun _ => ?_) | refine gd_if ?_ ?_)
theorem gM_given_21 (σ : mS) (x0 x1 x2 : Int32) : gd (fun rec => kM_given_21 rec σ x0 x1 x2) := by
  unfold kM_given_21
  repeat' (first | exact gd_call _ _ _ | exact gd_const _ | refine gd_bnd (gd_call _ _ _) (fun _ _ => ?_) | refine gd_let (fun _ => ?_) | refine gd_if ?_ ?_)
theorem gM_given_64 (σ : mS) (x0 x1 x2 : Int32) : gd (fun rec => kM_given_64 rec σ x0 x1 x2) := by
  unfold kM_given_64
  repeat' (first | exact gd_call _ _ _ | exact gd_const _ | refine gd_bnd (gd_call _ _ _) (fun _ _ => ?_) | refine gd_let (fun _ => ?_) | refine gd_if ?_ ?_)
theorem gM_given_66 (σ : mS) (x0 x1 x2 : Int32) : gd (fun rec => kM_given_66 rec σ x0 x1 x2) := by
  unfold kM_given_66
  repeat' (first | exact gd_call _ _ _ | exact gd_const _ | refine gd_bnd (gd_call _ _ _) (fun _ _ => ?_) | refine gd_let (fun _ => ?_) | refine gd_if ?_ ?_)
theorem gM_refuted (σ : mS) (x0 : Int32) : gd (fun rec => kM_refuted rec σ x0) := by
  unfold kM_refuted
  repeat' (first | exact gd_call _ _ _ | exact gd_const _ | refine gd_bnd (gd_call _ _ _) (fun _ _ => ?_) | refine gd_let (fun _ => ?_) | refine gd_if ?_ ?_)
theorem gM_rewrite (σ : mS) (x0 : Int32) : gd (fun rec => kM_rewrite rec σ x0) := by
  unfold kM_rewrite
  repeat' (first | exact gd_call _ _ _ | exact gd_const _ | refine gd_bnd (gd_call _ _ _) (fun _ _ => ?_) | refine gd_let (fun _ => ?_) | refine gd_if ?_ ?_)
theorem gM_rewrite_24 (σ : mS) (x0 x1 : Int32) : gd (fun rec => kM_rewrite_24 rec σ x0 x1) := by
  unfold kM_rewrite_24
  repeat' (first | exact gd_call _ _ _ | exact gd_const _ | refine gd_bnd (gd_call _ _ _) (fun _ _ => ?_) | refine gd_let (fun _ => ?_) | refine gd_if ?_ ?_)
theorem gM_rewrite_81 (σ : mS) (x0 x1 x2 : Int32) : gd (fun rec => kM_rewrite_81 rec σ x0 x1 x2) := by
  unfold kM_rewrite_81
  repeat' (first | exact gd_call _ _ _ | exact gd_const _ | refine gd_bnd (gd_call _ _ _) (fun _ _ => ?_) | refine gd_let (fun _ => ?_) | refine gd_if ?_ ?_)
theorem gM_rewrite_96 (σ : mS) (x0 x1 x2 x3 : Int32) : gd (fun rec => kM_rewrite_96 rec σ x0 x1 x2 x3) := by
  unfold kM_rewrite_96
  repeat' (first | exact gd_call _ _ _ | exact gd_const _ | refine gd_bnd (gd_call _ _ _) (fun _ _ => ?_) | refine gd_let (fun _ => ?_) | refine gd_if ?_ ?_)
theorem gM_rewrite_180 (σ : mS) (x0 x1 x2 x3 : Int32) : gd (fun rec => kM_rewrite_180 rec σ x0 x1 x2 x3) := by
  unfold kM_rewrite_180
  repeat' (first | exact gd_call _ _ _ | exact gd_const _ | refine gd_bnd (gd_call _ _ _) (fun _ _ => ?_) | refine gd_let (fun _ => ?_) | refine gd_if ?_ ?_)
theorem gM_rewrite_186 (σ : mS) (x0 x1 x2 x3 : Int32) : gd (fun rec => kM_rewrite_186 rec σ x0 x1 x2 x3) := by
  unfold kM_rewrite_186
  repeat' (first | exact gd_call _ _ _ | exact gd_const _ | refine gd_bnd (gd_call _ _ _) (fun _ _ => ?_) | refine gd_let (fun _ => ?_) | refine gd_if ?_ ?_)
theorem gM_rewrite_202 (σ : mS) (x0 x1 x2 x3 x4 : Int32) : gd (fun rec => kM_rewrite_202 rec σ x0 x1 x2 x3 x4) := by
  unfold kM_rewrite_202
  repeat' (first | exact gd_call _ _ _ | exact gd_const _ | refine gd_bnd (gd_call _ _ _) (fun _ _ => ?_) | refine gd_let (fun _ => ?_) | refine gd_if ?_ ?_)
theorem gM_rewrite_230 (σ : mS) (x0 x1 x2 x3 x4 : Int32) : gd (fun rec => kM_rewrite_230 rec σ x0 x1 x2 x3 x4) := by
  unfold kM_rewrite_230
  repeat' (first | exact gd_call _ _ _ | exact gd_const _ | refine gd_bnd (gd_call _ _ _) (fun _ _ => ?_) | refine gd_let (fun _ => ?_) | refine gd_if ?_ ?_)
theorem gM_rewrite_235 (σ : mS) (x0 x1 x2 x3 x4 x5 : Int32) : gd (fun rec => kM_rewrite_235 rec σ x0 x1 x2 x3 x4 x5) := by
  unfold kM_rewrite_235
  repeat' (first | exact gd_call _ _ _ | exact gd_const _ | refine gd_bnd (gd_call _ _ _) (fun _ _ => ?_) | refine gd_let (fun _ => ?_) | refine gd_if ?_ ?_)
theorem gM_rewrite_268 (σ : mS) (x0 x1 x2 x3 x4 : Int32) : gd (fun rec => kM_rewrite_268 rec σ x0 x1 x2 x3 x4) := by
  unfold kM_rewrite_268
  repeat' (first | exact gd_call _ _ _ | exact gd_const _ | refine gd_bnd (gd_call _ _ _) (fun _ _ => ?_) | refine gd_let (fun _ => ?_) | refine gd_if ?_ ?_)
theorem gM_rewrite_271 (σ : mS) (x0 x1 x2 : Int32) : gd (fun rec => kM_rewrite_271 rec σ x0 x1 x2) := by
  unfold kM_rewrite_271
  repeat' (first | exact gd_call _ _ _ | exact gd_const _ | refine gd_bnd (gd_call _ _ _) (fun _ _ => ?_) | refine gd_let (fun _ => ?_) | refine gd_if ?_ ?_)
theorem gM_findPlace (σ : mS) (x0 : Int32) : gd (fun rec => kM_findPlace rec σ x0) := by
  unfold kM_findPlace
  repeat' (first | exact gd_call _ _ _ | exact gd_const _ | refine gd_bnd (gd_call _ _ _) (fun _ _ => ?_) | refine gd_let (fun _ => ?_) | refine gd_if ?_ ?_)
theorem gM_findPlace_2 (σ : mS) (x0 x1 : Int32) : gd (fun rec => kM_findPlace_2 rec σ x0 x1) := by
  unfold kM_findPlace_2
  repeat' (first | exact gd_call _ _ _ | exact gd_const _ | refine gd_bnd (gd_call _ _ _) (fun _ _ => ?_) | refine gd_let (fun _ => ?_) | refine gd_if ?_ ?_)
theorem gM_findPlace_33 (σ : mS) (x0 x1 x2 : Int32) : gd (fun rec => kM_findPlace_33 rec σ x0 x1 x2) := by
  unfold kM_findPlace_33
  repeat' (first | exact gd_call _ _ _ | exact gd_const _ | refine gd_bnd (gd_call _ _ _) (fun _ _ => ?_) | refine gd_let (fun _ => ?_) | refine gd_if ?_ ?_)
theorem gM_findPlace_91 (σ : mS) (x0 x1 : Int32) : gd (fun rec => kM_findPlace_91 rec σ x0 x1) := by
  unfold kM_findPlace_91
  repeat' (first | exact gd_call _ _ _ | exact gd_const _ | refine gd_bnd (gd_call _ _ _) (fun _ _ => ?_) | refine gd_let (fun _ => ?_) | refine gd_if ?_ ?_)
theorem gM_findPlace_104 (σ : mS) (x0 x1 : Int32) : gd (fun rec => kM_findPlace_104 rec σ x0 x1) := by
  unfold kM_findPlace_104
  repeat' (first | exact gd_call _ _ _ | exact gd_const _ | refine gd_bnd (gd_call _ _ _) (fun _ _ => ?_) | refine gd_let (fun _ => ?_) | refine gd_if ?_ ?_)
theorem gM_isUnit (σ : mS) (x0 : Int32) : gd (fun rec => kM_isUnit rec σ x0) := by
  unfold kM_isUnit
  repeat' (first | exact gd_call _ _ _ | exact gd_const _ | refine gd_bnd (gd_call _ _ _) (fun _ _ => ?_) | refine gd_let (fun _ => ?_) | refine gd_if ?_ ?_)
theorem gM_isUnit_28 (σ : mS) (x0 : Int32) : gd (fun rec => kM_isUnit_28 rec σ x0) := by
  unfold kM_isUnit_28
  repeat' (first | exact gd_call _ _ _ | exact gd_const _ | refine gd_bnd (gd_call _ _ _) (fun _ _ => ?_) | refine gd_let (fun _ => ?_) | refine gd_if ?_ ?_)
theorem gM_isUnit_29 (σ : mS) (x0 x1 : Int32) : gd (fun rec => kM_isUnit_29 rec σ x0 x1) := by
  unfold kM_isUnit_29
  repeat' (first | exact gd_call _ _ _ | exact gd_const _ | refine gd_bnd (gd_call _ _ _) (fun _ _ => ?_) | refine gd_let (fun _ => ?_) | refine gd_if ?_ ?_)
theorem gM_becomes (σ : mS) (x0 x1 x2 : Int32) : gd (fun rec => kM_becomes rec σ x0 x1 x2) := by
  unfold kM_becomes
  repeat' (first | exact gd_call _ _ _ | exact gd_const _ | refine gd_bnd (gd_call _ _ _) (fun _ _ => ?_) | refine gd_let (fun _ => ?_) | refine gd_if ?_ ?_)
theorem gM_becomes_68 (σ : mS) (x0 x1 x2 x3 : Int32) : gd (fun rec => kM_becomes_68 rec σ x0 x1 x2 x3) := by
  unfold kM_becomes_68
  repeat' (first | exact gd_call _ _ _ | exact gd_const _ | refine gd_bnd (gd_call _ _ _) (fun _ _ => ?_) | refine gd_let (fun _ => ?_) | refine gd_if ?_ ?_)
theorem gM_becomes_94 (σ : mS) (x0 x1 x2 x3 x4 x5 : Int32) : gd (fun rec => kM_becomes_94 rec σ x0 x1 x2 x3 x4 x5) := by
  unfold kM_becomes_94
  repeat' (first | exact gd_call _ _ _ | exact gd_const _ | refine gd_bnd (gd_call _ _ _) (fun _ _ => ?_) | refine gd_let (fun _ => ?_) | refine gd_if ?_ ?_)
theorem gM_side2 (σ : mS) (x0 x1 x2 : Int32) : gd (fun rec => kM_side2 rec σ x0 x1 x2) := by
  unfold kM_side2
  repeat' (first | exact gd_call _ _ _ | exact gd_const _ | refine gd_bnd (gd_call _ _ _) (fun _ _ => ?_) | refine gd_let (fun _ => ?_) | refine gd_if ?_ ?_)
theorem gM_side2_9 (σ : mS) (x0 x1 x2 x3 : Int32) : gd (fun rec => kM_side2_9 rec σ x0 x1 x2 x3) := by
  unfold kM_side2_9
  repeat' (first | exact gd_call _ _ _ | exact gd_const _ | refine gd_bnd (gd_call _ _ _) (fun _ _ => ?_) | refine gd_let (fun _ => ?_) | refine gd_if ?_ ?_)
theorem gM_side2_28 (σ : mS) (x0 x1 x2 x3 : Int32) : gd (fun rec => kM_side2_28 rec σ x0 x1 x2 x3) := by
  unfold kM_side2_28
  repeat' (first | exact gd_call _ _ _ | exact gd_const _ | refine gd_bnd (gd_call _ _ _) (fun _ _ => ?_) | refine gd_let (fun _ => ?_) | refine gd_if ?_ ?_)
theorem gM_match (σ : mS) (x0 x1 : Int32) : gd (fun rec => kM_match rec σ x0 x1) := by
  unfold kM_match
  repeat' (first | exact gd_call _ _ _ | exact gd_const _ | refine gd_bnd (gd_call _ _ _) (fun _ _ => ?_) | refine gd_let (fun _ => ?_) | refine gd_if ?_ ?_)
theorem gM_match_90 (σ : mS) (x0 x1 x2 x3 : Int32) : gd (fun rec => kM_match_90 rec σ x0 x1 x2 x3) := by
  unfold kM_match_90
  repeat' (first | exact gd_call _ _ _ | exact gd_const _ | refine gd_bnd (gd_call _ _ _) (fun _ _ => ?_) | refine gd_let (fun _ => ?_) | refine gd_if ?_ ?_)
theorem gM_isPredicate (σ : mS) (x0 : Int32) : gd (fun rec => kM_isPredicate rec σ x0) := by
  unfold kM_isPredicate
  repeat' (first | exact gd_call _ _ _ | exact gd_const _ | refine gd_bnd (gd_call _ _ _) (fun _ _ => ?_) | refine gd_let (fun _ => ?_) | refine gd_if ?_ ?_)
theorem gM_isPredicate_27 (σ : mS) (x0 : Int32) : gd (fun rec => kM_isPredicate_27 rec σ x0) := by
  unfold kM_isPredicate_27
  repeat' (first | exact gd_call _ _ _ | exact gd_const _ | refine gd_bnd (gd_call _ _ _) (fun _ _ => ?_) | refine gd_let (fun _ => ?_) | refine gd_if ?_ ?_)
theorem gM_isPredicate_28 (σ : mS) (x0 x1 : Int32) : gd (fun rec => kM_isPredicate_28 rec σ x0 x1) := by
  unfold kM_isPredicate_28
  repeat' (first | exact gd_call _ _ _ | exact gd_const _ | refine gd_bnd (gd_call _ _ _) (fun _ _ => ?_) | refine gd_let (fun _ => ?_) | refine gd_if ?_ ?_)
theorem gM_hasAll (σ : mS) (x0 : Int32) : gd (fun rec => kM_hasAll rec σ x0) := by
  unfold kM_hasAll
  repeat' (first | exact gd_call _ _ _ | exact gd_const _ | refine gd_bnd (gd_call _ _ _) (fun _ _ => ?_) | refine gd_let (fun _ => ?_) | refine gd_if ?_ ?_)
theorem gM_hasAll_30 (σ : mS) (x0 x1 : Int32) : gd (fun rec => kM_hasAll_30 rec σ x0 x1) := by
  unfold kM_hasAll_30
  repeat' (first | exact gd_call _ _ _ | exact gd_const _ | refine gd_bnd (gd_call _ _ _) (fun _ _ => ?_) | refine gd_let (fun _ => ?_) | refine gd_if ?_ ?_)
theorem gM_hasAll_38 (σ : mS) (x0 x1 : Int32) : gd (fun rec => kM_hasAll_38 rec σ x0 x1) := by
  unfold kM_hasAll_38
  repeat' (first | exact gd_call _ _ _ | exact gd_const _ | refine gd_bnd (gd_call _ _ _) (fun _ _ => ?_) | refine gd_let (fun _ => ?_) | refine gd_if ?_ ?_)
theorem gM_weighMatched (σ : mS) (x0 : Int32) : gd (fun rec => kM_weighMatched rec σ x0) := by
  unfold kM_weighMatched
  repeat' (first | exact gd_call _ _ _ | exact gd_const _ | refine gd_bnd (gd_call _ _ _) (fun _ _ => ?_) | refine gd_let (fun _ => ?_) | refine gd_if ?_ ?_)
theorem gM_weighMatched_37 (σ : mS) (x0 x1 x2 : Int32) : gd (fun rec => kM_weighMatched_37 rec σ x0 x1 x2) := by
  unfold kM_weighMatched_37
  repeat' (first | exact gd_call _ _ _ | exact gd_const _ | refine gd_bnd (gd_call _ _ _) (fun _ _ => ?_) | refine gd_let (fun _ => ?_) | refine gd_if ?_ ?_)
theorem gM_withMatched (σ : mS) (x0 : Int32) : gd (fun rec => kM_withMatched rec σ x0) := by
  unfold kM_withMatched
  repeat' (first | exact gd_call _ _ _ | exact gd_const _ | refine gd_bnd (gd_call _ _ _) (fun _ _ => ?_) | refine gd_let (fun _ => ?_) | refine gd_if ?_ ?_)
theorem gM_withMatched_48 (σ : mS) (x0 x1 x2 x3 : Int32) : gd (fun rec => kM_withMatched_48 rec σ x0 x1 x2 x3) := by
  unfold kM_withMatched_48
  repeat' (first | exact gd_call _ _ _ | exact gd_const _ | refine gd_bnd (gd_call _ _ _) (fun _ _ => ?_) | refine gd_let (fun _ => ?_) | refine gd_if ?_ ?_)
theorem gM_withMatched_84 (σ : mS) (x0 x1 x2 x3 x4 : Int32) : gd (fun rec => kM_withMatched_84 rec σ x0 x1 x2 x3 x4) := by
  unfold kM_withMatched_84
  repeat' (first | exact gd_call _ _ _ | exact gd_const _ | refine gd_bnd (gd_call _ _ _) (fun _ _ => ?_) | refine gd_let (fun _ => ?_) | refine gd_if ?_ ?_)
theorem gM_replacedIn (σ : mS) (x0 : Int32) : gd (fun rec => kM_replacedIn rec σ x0) := by
  unfold kM_replacedIn
  repeat' (first | exact gd_call _ _ _ | exact gd_const _ | refine gd_bnd (gd_call _ _ _) (fun _ _ => ?_) | refine gd_let (fun _ => ?_) | refine gd_if ?_ ?_)
theorem gM_replacedIn_38 (σ : mS) (x0 x1 x2 x3 : Int32) : gd (fun rec => kM_replacedIn_38 rec σ x0 x1 x2 x3) := by
  unfold kM_replacedIn_38
  repeat' (first | exact gd_call _ _ _ | exact gd_const _ | refine gd_bnd (gd_call _ _ _) (fun _ _ => ?_) | refine gd_let (fun _ => ?_) | refine gd_if ?_ ?_)
theorem gM_replacedIn_74 (σ : mS) (x0 x1 x2 x3 x4 : Int32) : gd (fun rec => kM_replacedIn_74 rec σ x0 x1 x2 x3 x4) := by
  unfold kM_replacedIn_74
  repeat' (first | exact gd_call _ _ _ | exact gd_const _ | refine gd_bnd (gd_call _ _ _) (fun _ _ => ?_) | refine gd_let (fun _ => ?_) | refine gd_if ?_ ?_)
theorem gM_subsumes (σ : mS) (x0 x1 : Int32) : gd (fun rec => kM_subsumes rec σ x0 x1) := by
  unfold kM_subsumes
  repeat' (first | exact gd_call _ _ _ | exact gd_const _ | refine gd_bnd (gd_call _ _ _) (fun _ _ => ?_) | refine gd_let (fun _ => ?_) | refine gd_if ?_ ?_)
theorem gM_covers (σ : mS) (x0 x1 x2 : Int32) : gd (fun rec => kM_covers rec σ x0 x1 x2) := by
  unfold kM_covers
  repeat' (first | exact gd_call _ _ _ | exact gd_const _ | refine gd_bnd (gd_call _ _ _) (fun _ _ => ?_) | refine gd_let (fun _ => ?_) | refine gd_if ?_ ?_)
theorem gM_covers_47 (σ : mS) (x0 x1 x2 x3 x4 : Int32) : gd (fun rec => kM_covers_47 rec σ x0 x1 x2 x3 x4) := by
  unfold kM_covers_47
  repeat' (first | exact gd_call _ _ _ | exact gd_const _ | refine gd_bnd (gd_call _ _ _) (fun _ _ => ?_) | refine gd_let (fun _ => ?_) | refine gd_if ?_ ?_)
theorem gM_covers_88 (σ : mS) (x0 x1 x2 x3 x4 x5 : Int32) : gd (fun rec => kM_covers_88 rec σ x0 x1 x2 x3 x4 x5) := by
  unfold kM_covers_88
  repeat' (first | exact gd_call _ _ _ | exact gd_const _ | refine gd_bnd (gd_call _ _ _) (fun _ _ => ?_) | refine gd_let (fun _ => ?_) | refine gd_if ?_ ?_)
theorem gM_covers_141 (σ : mS) (x0 x1 x2 x3 x4 x5 x6 x7 : Int32) : gd (fun rec => kM_covers_141 rec σ x0 x1 x2 x3 x4 x5 x6 x7) := by
  unfold kM_covers_141
  repeat' (first | exact gd_call _ _ _ | exact gd_const _ | refine gd_bnd (gd_call _ _ _) (fun _ _ => ?_) | refine gd_let (fun _ => ?_) | refine gd_if ?_ ?_)
theorem gM_covers_177 (σ : mS) (x0 x1 x2 x3 x4 x5 x6 x7 : Int32) : gd (fun rec => kM_covers_177 rec σ x0 x1 x2 x3 x4 x5 x6 x7) := by
  unfold kM_covers_177
  repeat' (first | exact gd_call _ _ _ | exact gd_const _ | refine gd_bnd (gd_call _ _ _) (fun _ _ => ?_) | refine gd_let (fun _ => ?_) | refine gd_if ?_ ?_)
theorem gM_covers_197 (σ : mS) (x0 x1 x2 x3 x4 x5 : Int32) : gd (fun rec => kM_covers_197 rec σ x0 x1 x2 x3 x4 x5) := by
  unfold kM_covers_197
  repeat' (first | exact gd_call _ _ _ | exact gd_const _ | refine gd_bnd (gd_call _ _ _) (fun _ _ => ?_) | refine gd_let (fun _ => ?_) | refine gd_if ?_ ?_)
theorem gM_covers_203 (σ : mS) (x0 x1 x2 x3 x4 : Int32) : gd (fun rec => kM_covers_203 rec σ x0 x1 x2 x3 x4) := by
  unfold kM_covers_203
  repeat' (first | exact gd_call _ _ _ | exact gd_const _ | refine gd_bnd (gd_call _ _ _) (fun _ _ => ?_) | refine gd_let (fun _ => ?_) | refine gd_if ?_ ?_)
theorem gM_settle (σ : mS) (x0 : Int32) : gd (fun rec => kM_settle rec σ x0) := by
  unfold kM_settle
  repeat' (first | exact gd_call _ _ _ | exact gd_const _ | refine gd_bnd (gd_call _ _ _) (fun _ _ => ?_) | refine gd_let (fun _ => ?_) | refine gd_if ?_ ?_)
theorem gM_settle_2 (σ : mS) (x0 x1 : Int32) : gd (fun rec => kM_settle_2 rec σ x0 x1) := by
  unfold kM_settle_2
  repeat' (first | exact gd_call _ _ _ | exact gd_const _ | refine gd_bnd (gd_call _ _ _) (fun _ _ => ?_) | refine gd_let (fun _ => ?_) | refine gd_if ?_ ?_)
theorem gM_settle_49 (σ : mS) (x0 x1 : Int32) : gd (fun rec => kM_settle_49 rec σ x0 x1) := by
  unfold kM_settle_49
  repeat' (first | exact gd_call _ _ _ | exact gd_const _ | refine gd_bnd (gd_call _ _ _) (fun _ _ => ?_) | refine gd_let (fun _ => ?_) | refine gd_if ?_ ?_)
theorem gM_settle_57 (σ : mS) (x0 x1 : Int32) : gd (fun rec => kM_settle_57 rec σ x0 x1) := by
  unfold kM_settle_57
  repeat' (first | exact gd_call _ _ _ | exact gd_const _ | refine gd_bnd (gd_call _ _ _) (fun _ _ => ?_) | refine gd_let (fun _ => ?_) | refine gd_if ?_ ?_)
theorem gM_settle_99 (σ : mS) (x0 x1 : Int32) : gd (fun rec => kM_settle_99 rec σ x0 x1) := by
  unfold kM_settle_99
  repeat' (first | exact gd_call _ _ _ | exact gd_const _ | refine gd_bnd (gd_call _ _ _) (fun _ _ => ?_) | refine gd_let (fun _ => ?_) | refine gd_if ?_ ?_)
theorem gM_settle_105 (σ : mS) (x0 x1 : Int32) : gd (fun rec => kM_settle_105 rec σ x0 x1) := by
  unfold kM_settle_105
  repeat' (first | exact gd_call _ _ _ | exact gd_const _ | refine gd_bnd (gd_call _ _ _) (fun _ _ => ?_) | refine gd_let (fun _ => ?_) | refine gd_if ?_ ?_)
theorem gM_settle_119 (σ : mS) (x0 x1 x2 : Int32) : gd (fun rec => kM_settle_119 rec σ x0 x1 x2) := by
  unfold kM_settle_119
  repeat' (first | exact gd_call _ _ _ | exact gd_const _ | refine gd_bnd (gd_call _ _ _) (fun _ _ => ?_) | refine gd_let (fun _ => ?_) | refine gd_if ?_ ?_)
theorem gM_settle_168 (σ : mS) (x0 x1 x2 : Int32) : gd (fun rec => kM_settle_168 rec σ x0 x1 x2) := by
  unfold kM_settle_168
  repeat' (first | exact gd_call _ _ _ | exact gd_const _ | refine gd_bnd (gd_call _ _ _) (fun _ _ => ?_) | refine gd_let (fun _ => ?_) | refine gd_if ?_ ?_)
theorem gM_settle_174 (σ : mS) (x0 x1 x2 : Int32) : gd (fun rec => kM_settle_174 rec σ x0 x1 x2) := by
  unfold kM_settle_174
  repeat' (first | exact gd_call _ _ _ | exact gd_const _ | refine gd_bnd (gd_call _ _ _) (fun _ _ => ?_) | refine gd_let (fun _ => ?_) | refine gd_if ?_ ?_)
theorem gM_settle_186 (σ : mS) (x0 x1 x2 : Int32) : gd (fun rec => kM_settle_186 rec σ x0 x1 x2) := by
  unfold kM_settle_186
  repeat' (first | exact gd_call _ _ _ | exact gd_const _ | refine gd_bnd (gd_call _ _ _) (fun _ _ => ?_) | refine gd_let (fun _ => ?_) | refine gd_if ?_ ?_)
theorem gM_settle_198 (σ : mS) (x0 x1 x2 : Int32) : gd (fun rec => kM_settle_198 rec σ x0 x1 x2) := by
  unfold kM_settle_198
  repeat' (first | exact gd_call _ _ _ | exact gd_const _ | refine gd_bnd (gd_call _ _ _) (fun _ _ => ?_) | refine gd_let (fun _ => ?_) | refine gd_if ?_ ?_)
theorem gM_couldRewrite (σ : mS) (x0 x1 : Int32) : gd (fun rec => kM_couldRewrite rec σ x0 x1) := by
  unfold kM_couldRewrite
  repeat' (first | exact gd_call _ _ _ | exact gd_const _ | refine gd_bnd (gd_call _ _ _) (fun _ _ => ?_) | refine gd_let (fun _ => ?_) | refine gd_if ?_ ?_)
theorem gM_couldRewrite_7 (σ : mS) (x0 x1 x2 : Int32) : gd (fun rec => kM_couldRewrite_7 rec σ x0 x1 x2) := by
  unfold kM_couldRewrite_7
  repeat' (first | exact gd_call _ _ _ | exact gd_const _ | refine gd_bnd (gd_call _ _ _) (fun _ _ => ?_) | refine gd_let (fun _ => ?_) | refine gd_if ?_ ?_)
theorem gM_couldRewrite_52 (σ : mS) (x0 x1 x2 : Int32) : gd (fun rec => kM_couldRewrite_52 rec σ x0 x1 x2) := by
  unfold kM_couldRewrite_52
  repeat' (first | exact gd_call _ _ _ | exact gd_const _ | refine gd_bnd (gd_call _ _ _) (fun _ _ => ?_) | refine gd_let (fun _ => ?_) | refine gd_if ?_ ?_)
theorem gM_could (σ : mS) (x0 x1 : Int32) : gd (fun rec => kM_could rec σ x0 x1) := by
  unfold kM_could
  repeat' (first | exact gd_call _ _ _ | exact gd_const _ | refine gd_bnd (gd_call _ _ _) (fun _ _ => ?_) | refine gd_let (fun _ => ?_) | refine gd_if ?_ ?_)
theorem gM_could_2 (σ : mS) (x0 x1 x2 : Int32) : gd (fun rec => kM_could_2 rec σ x0 x1 x2) := by
  unfold kM_could_2
  repeat' (first | exact gd_call _ _ _ | exact gd_const _ | refine gd_bnd (gd_call _ _ _) (fun _ _ => ?_) | refine gd_let (fun _ => ?_) | refine gd_if ?_ ?_)
theorem gM_could_39 (σ : mS) (x0 x1 x2 : Int32) : gd (fun rec => kM_could_39 rec σ x0 x1 x2) := by
  unfold kM_could_39
  repeat' (first | exact gd_call _ _ _ | exact gd_const _ | refine gd_bnd (gd_call _ _ _) (fun _ _ => ?_) | refine gd_let (fun _ => ?_) | refine gd_if ?_ ?_)
theorem gM_superpose (σ : mS) (x0 x1 : Int32) : gd (fun rec => kM_superpose rec σ x0 x1) := by
  unfold kM_superpose
  repeat' (first | exact gd_call _ _ _ | exact gd_const _ | refine gd_bnd (gd_call _ _ _) (fun _ _ => ?_) | refine gd_let (fun _ => ?_) | refine gd_if ?_ ?_)
theorem gM_superpose_7 (σ : mS) (x0 x1 x2 : Int32) : gd (fun rec => kM_superpose_7 rec σ x0 x1 x2) := by
  unfold kM_superpose_7
  repeat' (first | exact gd_call _ _ _ | exact gd_const _ | refine gd_bnd (gd_call _ _ _) (fun _ _ => ?_) | refine gd_let (fun _ => ?_) | refine gd_if ?_ ?_)
theorem gM_superpose_48 (σ : mS) (x0 x1 x2 x3 : Int32) : gd (fun rec => kM_superpose_48 rec σ x0 x1 x2 x3) := by
  unfold kM_superpose_48
  repeat' (first | exact gd_call _ _ _ | exact gd_const _ | refine gd_bnd (gd_call _ _ _) (fun _ _ => ?_) | refine gd_let (fun _ => ?_) | refine gd_if ?_ ?_)
theorem gM_superpose_75 (σ : mS) (x0 x1 x2 x3 x4 : Int32) : gd (fun rec => kM_superpose_75 rec σ x0 x1 x2 x3 x4) := by
  unfold kM_superpose_75
  repeat' (first | exact gd_call _ _ _ | exact gd_const _ | refine gd_bnd (gd_call _ _ _) (fun _ _ => ?_) | refine gd_let (fun _ => ?_) | refine gd_if ?_ ?_)
theorem gM_superpose_109 (σ : mS) (x0 x1 x2 x3 x4 x5 : Int32) : gd (fun rec => kM_superpose_109 rec σ x0 x1 x2 x3 x4 x5) := by
  unfold kM_superpose_109
  repeat' (first | exact gd_call _ _ _ | exact gd_const _ | refine gd_bnd (gd_call _ _ _) (fun _ _ => ?_) | refine gd_let (fun _ => ?_) | refine gd_if ?_ ?_)
theorem gM_superpose_153 (σ : mS) (x0 x1 x2 x3 x4 x5 : Int32) : gd (fun rec => kM_superpose_153 rec σ x0 x1 x2 x3 x4 x5) := by
  unfold kM_superpose_153
  repeat' (first | exact gd_call _ _ _ | exact gd_const _ | refine gd_bnd (gd_call _ _ _) (fun _ _ => ?_) | refine gd_let (fun _ => ?_) | refine gd_if ?_ ?_)
theorem gM_superpose_159 (σ : mS) (x0 x1 x2 x3 x4 : Int32) : gd (fun rec => kM_superpose_159 rec σ x0 x1 x2 x3 x4) := by
  unfold kM_superpose_159
  repeat' (first | exact gd_call _ _ _ | exact gd_const _ | refine gd_bnd (gd_call _ _ _) (fun _ _ => ?_) | refine gd_let (fun _ => ?_) | refine gd_if ?_ ?_)
theorem gM_superpose_165 (σ : mS) (x0 x1 x2 x3 : Int32) : gd (fun rec => kM_superpose_165 rec σ x0 x1 x2 x3) := by
  unfold kM_superpose_165
  repeat' (first | exact gd_call _ _ _ | exact gd_const _ | refine gd_bnd (gd_call _ _ _) (fun _ _ => ?_) | refine gd_let (fun _ => ?_) | refine gd_if ?_ ?_)
theorem gM_superpose_171 (σ : mS) (x0 x1 x2 : Int32) : gd (fun rec => kM_superpose_171 rec σ x0 x1 x2) := by
  unfold kM_superpose_171
  repeat' (first | exact gd_call _ _ _ | exact gd_const _ | refine gd_bnd (gd_call _ _ _) (fun _ _ => ?_) | refine gd_let (fun _ => ?_) | refine gd_if ?_ ?_)
theorem gM_usable (σ : mS) (x0 x1 : Int32) : gd (fun rec => kM_usable rec σ x0 x1) := by
  unfold kM_usable
  repeat' (first | exact gd_call _ _ _ | exact gd_const _ | refine gd_bnd (gd_call _ _ _) (fun _ _ => ?_) | refine gd_let (fun _ => ?_) | refine gd_if ?_ ?_)
theorem gM_usable_17 (σ : mS) (x0 x1 x2 : Int32) : gd (fun rec => kM_usable_17 rec σ x0 x1 x2) := by
  unfold kM_usable_17
  repeat' (first | exact gd_call _ _ _ | exact gd_const _ | refine gd_bnd (gd_call _ _ _) (fun _ _ => ?_) | refine gd_let (fun _ => ?_) | refine gd_if ?_ ?_)
theorem gM_into (σ : mS) (x0 x1 x2 x3 x4 x5 : Int32) : gd (fun rec => kM_into rec σ x0 x1 x2 x3 x4 x5) := by
  unfold kM_into
  repeat' (first | exact gd_call _ _ _ | exact gd_const _ | refine gd_bnd (gd_call _ _ _) (fun _ _ => ?_) | refine gd_let (fun _ => ?_) | refine gd_if ?_ ?_)
theorem gM_into_17 (σ : mS) (x0 x1 x2 x3 x4 x5 : Int32) : gd (fun rec => kM_into_17 rec σ x0 x1 x2 x3 x4 x5) := by
  unfold kM_into_17
  repeat' (first | exact gd_call _ _ _ | exact gd_const _ | refine gd_bnd (gd_call _ _ _) (fun _ _ => ?_) | refine gd_let (fun _ => ?_) | refine gd_if ?_ ?_)
theorem gM_into_88 (σ : mS) (x0 x1 x2 x3 x4 x5 : Int32) : gd (fun rec => kM_into_88 rec σ x0 x1 x2 x3 x4 x5) := by
  unfold kM_into_88
  repeat' (first | exact gd_call _ _ _ | exact gd_const _ | refine gd_bnd (gd_call _ _ _) (fun _ _ => ?_) | refine gd_let (fun _ => ?_) | refine gd_if ?_ ?_)
theorem gM_into_97 (σ : mS) (x0 x1 x2 x3 x4 x5 x6 : Int32) : gd (fun rec => kM_into_97 rec σ x0 x1 x2 x3 x4 x5 x6) := by
  unfold kM_into_97
  repeat' (first | exact gd_call _ _ _ | exact gd_const _ | refine gd_bnd (gd_call _ _ _) (fun _ _ => ?_) | refine gd_let (fun _ => ?_) | refine gd_if ?_ ?_)
theorem gM_unbind (σ : mS) : gd (fun rec => kM_unbind rec σ) := by
  unfold kM_unbind
  repeat' (first | exact gd_call _ _ _ | exact gd_const _ | refine gd_bnd (gd_call _ _ _) (fun _ _ => ?_) | refine gd_let (fun _ => ?_) | refine gd_if ?_ ?_)
theorem gM_unify (σ : mS) (x0 x1 x2 x3 : Int32) : gd (fun rec => kM_unify rec σ x0 x1 x2 x3) := by
  unfold kM_unify
  repeat' (first | exact gd_call _ _ _ | exact gd_const _ | refine gd_bnd (gd_call _ _ _) (fun _ _ => ?_) | refine gd_let (fun _ => ?_) | refine gd_if ?_ ?_)
theorem gM_unify_6 (σ : mS) (x0 x1 x2 x3 x4 x5 : Int32) : gd (fun rec => kM_unify_6 rec σ x0 x1 x2 x3 x4 x5) := by
  unfold kM_unify_6
  repeat' (first | exact gd_call _ _ _ | exact gd_const _ | refine gd_bnd (gd_call _ _ _) (fun _ _ => ?_) | refine gd_let (fun _ => ?_) | refine gd_if ?_ ?_)
theorem gM_unify_71 (σ : mS) (x0 x1 x2 x3 x4 x5 : Int32) : gd (fun rec => kM_unify_71 rec σ x0 x1 x2 x3 x4 x5) := by
  unfold kM_unify_71
  repeat' (first | exact gd_call _ _ _ | exact gd_const _ | refine gd_bnd (gd_call _ _ _) (fun _ _ => ?_) | refine gd_let (fun _ => ?_) | refine gd_if ?_ ?_)
theorem gM_unify_78 (σ : mS) (x0 x1 x2 x3 x4 x5 x6 x7 : Int32) : gd (fun rec => kM_unify_78 rec σ x0 x1 x2 x3 x4 x5 x6 x7) := by
  unfold kM_unify_78
  repeat' (first | exact gd_call _ _ _ | exact gd_const _ | refine gd_bnd (gd_call _ _ _) (fun _ _ => ?_) | refine gd_let (fun _ => ?_) | refine gd_if ?_ ?_)
theorem gM_unify_143 (σ : mS) (x0 x1 x2 x3 x4 x5 x6 x7 : Int32) : gd (fun rec => kM_unify_143 rec σ x0 x1 x2 x3 x4 x5 x6 x7) := by
  unfold kM_unify_143
  repeat' (first | exact gd_call _ _ _ | exact gd_const _ | refine gd_bnd (gd_call _ _ _) (fun _ _ => ?_) | refine gd_let (fun _ => ?_) | refine gd_if ?_ ?_)
theorem gM_unify_189 (σ : mS) (x0 x1 x2 x3 x4 x5 x6 x7 : Int32) : gd (fun rec => kM_unify_189 rec σ x0 x1 x2 x3 x4 x5 x6 x7) := by
  unfold kM_unify_189
  repeat' (first | exact gd_call _ _ _ | exact gd_const _ | refine gd_bnd (gd_call _ _ _) (fun _ _ => ?_) | refine gd_let (fun _ => ?_) | refine gd_if ?_ ?_)
theorem gM_unify_288 (σ : mS) (x0 x1 x2 x3 x4 x5 x6 x7 x8 x9 : Int32) : gd (fun rec => kM_unify_288 rec σ x0 x1 x2 x3 x4 x5 x6 x7 x8 x9) := by
  unfold kM_unify_288
  repeat' (first | exact gd_call _ _ _ | exact gd_const _ | refine gd_bnd (gd_call _ _ _) (fun _ _ => ?_) | refine gd_let (fun _ => ?_) | refine gd_if ?_ ?_)
theorem gM_bind1 (σ : mS) (x0 x1 x2 : Int32) : gd (fun rec => kM_bind1 rec σ x0 x1 x2) := by
  unfold kM_bind1
  repeat' (first | exact gd_call _ _ _ | exact gd_const _ | refine gd_bnd (gd_call _ _ _) (fun _ _ => ?_) | refine gd_let (fun _ => ?_) | refine gd_if ?_ ?_)
theorem gM_bind1_18 (σ : mS) (x0 x1 x2 : Int32) : gd (fun rec => kM_bind1_18 rec σ x0 x1 x2) := by
  unfold kM_bind1_18
  repeat' (first | exact gd_call _ _ _ | exact gd_const _ | refine gd_bnd (gd_call _ _ _) (fun _ _ => ?_) | refine gd_let (fun _ => ?_) | refine gd_if ?_ ?_)
theorem gM_occurs (σ : mS) (x0 x1 x2 : Int32) : gd (fun rec => kM_occurs rec σ x0 x1 x2) := by
  unfold kM_occurs
  repeat' (first | exact gd_call _ _ _ | exact gd_const _ | refine gd_bnd (gd_call _ _ _) (fun _ _ => ?_) | refine gd_let (fun _ => ?_) | refine gd_if ?_ ?_)
theorem gM_occurs_65 (σ : mS) (x0 x1 x2 x3 : Int32) : gd (fun rec => kM_occurs_65 rec σ x0 x1 x2 x3) := by
  unfold kM_occurs_65
  repeat' (first | exact gd_call _ _ _ | exact gd_const _ | refine gd_bnd (gd_call _ _ _) (fun _ _ => ?_) | refine gd_let (fun _ => ?_) | refine gd_if ?_ ?_)
theorem gM_occurs_66 (σ : mS) (x0 x1 x2 x3 x4 : Int32) : gd (fun rec => kM_occurs_66 rec σ x0 x1 x2 x3 x4) := by
  unfold kM_occurs_66
  repeat' (first | exact gd_call _ _ _ | exact gd_const _ | refine gd_bnd (gd_call _ _ _) (fun _ _ => ?_) | refine gd_let (fun _ => ?_) | refine gd_if ?_ ?_)
theorem gM_occurs_75 (σ : mS) (x0 x1 x2 x3 : Int32) : gd (fun rec => kM_occurs_75 rec σ x0 x1 x2 x3) := by
  unfold kM_occurs_75
  repeat' (first | exact gd_call _ _ _ | exact gd_const _ | refine gd_bnd (gd_call _ _ _) (fun _ _ => ?_) | refine gd_let (fun _ => ?_) | refine gd_if ?_ ?_)
theorem gM_begin (σ : mS) : gd (fun rec => kM_begin rec σ) := by
  unfold kM_begin
  repeat' (first | exact gd_call _ _ _ | exact gd_const _ | refine gd_bnd (gd_call _ _ _) (fun _ _ => ?_) | refine gd_let (fun _ => ?_) | refine gd_if ?_ ?_)
theorem gM_planOthers (σ : mS) (x0 x1 x2 x3 : Int32) : gd (fun rec => kM_planOthers rec σ x0 x1 x2 x3) := by
  unfold kM_planOthers
  repeat' (first | exact gd_call _ _ _ | exact gd_const _ | refine gd_bnd (gd_call _ _ _) (fun _ _ => ?_) | refine gd_let (fun _ => ?_) | refine gd_if ?_ ?_)
theorem gM_planOthers_8 (σ : mS) (x0 x1 x2 x3 x4 : Int32) : gd (fun rec => kM_planOthers_8 rec σ x0 x1 x2 x3 x4) := by
  unfold kM_planOthers_8
  repeat' (first | exact gd_call _ _ _ | exact gd_const _ | refine gd_bnd (gd_call _ _ _) (fun _ _ => ?_) | refine gd_let (fun _ => ?_) | refine gd_if ?_ ?_)
theorem gM_planOthers_65 (σ : mS) (x0 x1 x2 x3 x4 : Int32) : gd (fun rec => kM_planOthers_65 rec σ x0 x1 x2 x3 x4) := by
  unfold kM_planOthers_65
  repeat' (first | exact gd_call _ _ _ | exact gd_const _ | refine gd_bnd (gd_call _ _ _) (fun _ _ => ?_) | refine gd_let (fun _ => ?_) | refine gd_if ?_ ?_)
theorem gM_plan (σ : mS) (x0 x1 x2 x3 : Int32) : gd (fun rec => kM_plan rec σ x0 x1 x2 x3) := by
  unfold kM_plan
  repeat' (first | exact gd_call _ _ _ | exact gd_const _ | refine gd_bnd (gd_call _ _ _) (fun _ _ => ?_) | refine gd_let (fun _ => ?_) | refine gd_if ?_ ?_)
theorem gM_conclude (σ : mS) (x0 x1 x2 : Int32) : gd (fun rec => kM_conclude rec σ x0 x1 x2) := by
  unfold kM_conclude
  repeat' (first | exact gd_call _ _ _ | exact gd_const _ | refine gd_bnd (gd_call _ _ _) (fun _ _ => ?_) | refine gd_let (fun _ => ?_) | refine gd_if ?_ ?_)
theorem gM_conclude_36 (σ : mS) (x0 x1 x2 x3 x4 : Int32) : gd (fun rec => kM_conclude_36 rec σ x0 x1 x2 x3 x4) := by
  unfold kM_conclude_36
  repeat' (first | exact gd_call _ _ _ | exact gd_const _ | refine gd_bnd (gd_call _ _ _) (fun _ _ => ?_) | refine gd_let (fun _ => ?_) | refine gd_if ?_ ?_)
theorem gM_conclude_148 (σ : mS) (x0 x1 x2 x3 x4 : Int32) : gd (fun rec => kM_conclude_148 rec σ x0 x1 x2 x3 x4) := by
  unfold kM_conclude_148
  repeat' (first | exact gd_call _ _ _ | exact gd_const _ | refine gd_bnd (gd_call _ _ _) (fun _ _ => ?_) | refine gd_let (fun _ => ?_) | refine gd_if ?_ ?_)
theorem gM_conclude_284 (σ : mS) (x0 x1 x2 x3 x4 : Int32) : gd (fun rec => kM_conclude_284 rec σ x0 x1 x2 x3 x4) := by
  unfold kM_conclude_284
  repeat' (first | exact gd_call _ _ _ | exact gd_const _ | refine gd_bnd (gd_call _ _ _) (fun _ _ => ?_) | refine gd_let (fun _ => ?_) | refine gd_if ?_ ?_)
theorem gM_placeIn (σ : mS) (x0 : Int32) : gd (fun rec => kM_placeIn rec σ x0) := by
  unfold kM_placeIn
  repeat' (first | exact gd_call _ _ _ | exact gd_const _ | refine gd_bnd (gd_call _ _ _) (fun _ _ => ?_) | refine gd_let (fun _ => ?_) | refine gd_if ?_ ?_)
theorem gM_placeIn_19 (σ : mS) (x0 x1 : Int32) : gd (fun rec => kM_placeIn_19 rec σ x0 x1) := by
  unfold kM_placeIn_19
  repeat' (first | exact gd_call _ _ _ | exact gd_const _ | refine gd_bnd (gd_call _ _ _) (fun _ _ => ?_) | refine gd_let (fun _ => ?_) | refine gd_if ?_ ?_)
theorem gM_weigh (σ : mS) (x0 x1 x2 x3 x4 : Int32) : gd (fun rec => kM_weigh rec σ x0 x1 x2 x3 x4) := by
  unfold kM_weigh
  repeat' (first | exact gd_call _ _ _ | exact gd_const _ | refine gd_bnd (gd_call _ _ _) (fun _ _ => ?_) | refine gd_let (fun _ => ?_) | refine gd_if ?_ ?_)
theorem gM_weigh_73 (σ : mS) (x0 x1 x2 x3 x4 x5 x6 : Int32) : gd (fun rec => kM_weigh_73 rec σ x0 x1 x2 x3 x4 x5 x6) := by
  unfold kM_weigh_73
  repeat' (first | exact gd_call _ _ _ | exact gd_const _ | refine gd_bnd (gd_call _ _ _) (fun _ _ => ?_) | refine gd_let (fun _ => ?_) | refine gd_if ?_ ?_)
theorem gM_weigh_85 (σ : mS) (x0 x1 x2 x3 x4 x5 x6 : Int32) : gd (fun rec => kM_weigh_85 rec σ x0 x1 x2 x3 x4 x5 x6) := by
  unfold kM_weigh_85
  repeat' (first | exact gd_call _ _ _ | exact gd_const _ | refine gd_bnd (gd_call _ _ _) (fun _ _ => ?_) | refine gd_let (fun _ => ?_) | refine gd_if ?_ ?_)
theorem gM_weigh_127 (σ : mS) (x0 x1 x2 x3 x4 x5 x6 : Int32) : gd (fun rec => kM_weigh_127 rec σ x0 x1 x2 x3 x4 x5 x6) := by
  unfold kM_weigh_127
  repeat' (first | exact gd_call _ _ _ | exact gd_const _ | refine gd_bnd (gd_call _ _ _) (fun _ _ => ?_) | refine gd_let (fun _ => ?_) | refine gd_if ?_ ?_)
theorem gM_with (σ : mS) (x0 x1 x2 x3 x4 : Int32) : gd (fun rec => kM_with rec σ x0 x1 x2 x3 x4) := by
  unfold kM_with
  repeat' (first | exact gd_call _ _ _ | exact gd_const _ | refine gd_bnd (gd_call _ _ _) (fun _ _ => ?_) | refine gd_let (fun _ => ?_) | refine gd_if ?_ ?_)
theorem gM_with_80 (σ : mS) (x0 x1 x2 x3 x4 x5 x6 : Int32) : gd (fun rec => kM_with_80 rec σ x0 x1 x2 x3 x4 x5 x6) := by
  unfold kM_with_80
  repeat' (first | exact gd_call _ _ _ | exact gd_const _ | refine gd_bnd (gd_call _ _ _) (fun _ _ => ?_) | refine gd_let (fun _ => ?_) | refine gd_if ?_ ?_)
theorem gM_with_104 (σ : mS) (x0 x1 x2 x3 x4 x5 x6 x7 : Int32) : gd (fun rec => kM_with_104 rec σ x0 x1 x2 x3 x4 x5 x6 x7) := by
  unfold kM_with_104
  repeat' (first | exact gd_call _ _ _ | exact gd_const _ | refine gd_bnd (gd_call _ _ _) (fun _ _ => ?_) | refine gd_let (fun _ => ?_) | refine gd_if ?_ ?_)
theorem gM_with_149 (σ : mS) (x0 x1 x2 x3 x4 x5 x6 x7 x8 : Int32) : gd (fun rec => kM_with_149 rec σ x0 x1 x2 x3 x4 x5 x6 x7 x8) := by
  unfold kM_with_149
  repeat' (first | exact gd_call _ _ _ | exact gd_const _ | refine gd_bnd (gd_call _ _ _) (fun _ _ => ?_) | refine gd_let (fun _ => ?_) | refine gd_if ?_ ?_)
theorem gM_resolve (σ : mS) (x0 : Int32) : gd (fun rec => kM_resolve rec σ x0) := by
  unfold kM_resolve
  repeat' (first | exact gd_call _ _ _ | exact gd_const _ | refine gd_bnd (gd_call _ _ _) (fun _ _ => ?_) | refine gd_let (fun _ => ?_) | refine gd_if ?_ ?_)
theorem gM_resolve_7 (σ : mS) (x0 x1 : Int32) : gd (fun rec => kM_resolve_7 rec σ x0 x1) := by
  unfold kM_resolve_7
  repeat' (first | exact gd_call _ _ _ | exact gd_const _ | refine gd_bnd (gd_call _ _ _) (fun _ _ => ?_) | refine gd_let (fun _ => ?_) | refine gd_if ?_ ?_)
theorem gM_resolve_99 (σ : mS) (x0 x1 : Int32) : gd (fun rec => kM_resolve_99 rec σ x0 x1) := by
  unfold kM_resolve_99
  repeat' (first | exact gd_call _ _ _ | exact gd_const _ | refine gd_bnd (gd_call _ _ _) (fun _ _ => ?_) | refine gd_let (fun _ => ?_) | refine gd_if ?_ ?_)
theorem gM_resolve_105 (σ : mS) (x0 x1 : Int32) : gd (fun rec => kM_resolve_105 rec σ x0 x1) := by
  unfold kM_resolve_105
  repeat' (first | exact gd_call _ _ _ | exact gd_const _ | refine gd_bnd (gd_call _ _ _) (fun _ _ => ?_) | refine gd_let (fun _ => ?_) | refine gd_if ?_ ?_)
theorem gM_factor1 (σ : mS) (x0 : Int32) : gd (fun rec => kM_factor1 rec σ x0) := by
  unfold kM_factor1
  repeat' (first | exact gd_call _ _ _ | exact gd_const _ | refine gd_bnd (gd_call _ _ _) (fun _ _ => ?_) | refine gd_let (fun _ => ?_) | refine gd_if ?_ ?_)
theorem gM_factor1_16 (σ : mS) (x0 x1 : Int32) : gd (fun rec => kM_factor1_16 rec σ x0 x1) := by
  unfold kM_factor1_16
  repeat' (first | exact gd_call _ _ _ | exact gd_const _ | refine gd_bnd (gd_call _ _ _) (fun _ _ => ?_) | refine gd_let (fun _ => ?_) | refine gd_if ?_ ?_)
theorem gM_factor1_52 (σ : mS) (x0 x1 x2 : Int32) : gd (fun rec => kM_factor1_52 rec σ x0 x1 x2) := by
  unfold kM_factor1_52
  repeat' (first | exact gd_call _ _ _ | exact gd_const _ | refine gd_bnd (gd_call _ _ _) (fun _ _ => ?_) | refine gd_let (fun _ => ?_) | refine gd_if ?_ ?_)
theorem gM_factor1_80 (σ : mS) (x0 x1 x2 x3 : Int32) : gd (fun rec => kM_factor1_80 rec σ x0 x1 x2 x3) := by
  unfold kM_factor1_80
  repeat' (first | exact gd_call _ _ _ | exact gd_const _ | refine gd_bnd (gd_call _ _ _) (fun _ _ => ?_) | refine gd_let (fun _ => ?_) | refine gd_if ?_ ?_)
theorem gM_factor1_120 (σ : mS) (x0 x1 x2 x3 : Int32) : gd (fun rec => kM_factor1_120 rec σ x0 x1 x2 x3) := by
  unfold kM_factor1_120
  repeat' (first | exact gd_call _ _ _ | exact gd_const _ | refine gd_bnd (gd_call _ _ _) (fun _ _ => ?_) | refine gd_let (fun _ => ?_) | refine gd_if ?_ ?_)
theorem gM_factor1_126 (σ : mS) (x0 x1 x2 : Int32) : gd (fun rec => kM_factor1_126 rec σ x0 x1 x2) := by
  unfold kM_factor1_126
  repeat' (first | exact gd_call _ _ _ | exact gd_const _ | refine gd_bnd (gd_call _ _ _) (fun _ _ => ?_) | refine gd_let (fun _ => ?_) | refine gd_if ?_ ?_)
theorem gM_factor1_132 (σ : mS) (x0 x1 : Int32) : gd (fun rec => kM_factor1_132 rec σ x0 x1) := by
  unfold kM_factor1_132
  repeat' (first | exact gd_call _ _ _ | exact gd_const _ | refine gd_bnd (gd_call _ _ _) (fun _ _ => ?_) | refine gd_let (fun _ => ?_) | refine gd_if ?_ ?_)
theorem gM_isSelected (σ : mS) (x0 : Int32) : gd (fun rec => kM_isSelected rec σ x0) := by
  unfold kM_isSelected
  repeat' (first | exact gd_call _ _ _ | exact gd_const _ | refine gd_bnd (gd_call _ _ _) (fun _ _ => ?_) | refine gd_let (fun _ => ?_) | refine gd_if ?_ ?_)
theorem gM_isSelected_7 (σ : mS) (x0 x1 : Int32) : gd (fun rec => kM_isSelected_7 rec σ x0 x1) := by
  unfold kM_isSelected_7
  repeat' (first | exact gd_call _ _ _ | exact gd_const _ | refine gd_bnd (gd_call _ _ _) (fun _ _ => ?_) | refine gd_let (fun _ => ?_) | refine gd_if ?_ ?_)
theorem gM_factor2 (σ : mS) (x0 x1 x2 x3 x4 : Int32) : gd (fun rec => kM_factor2 rec σ x0 x1 x2 x3 x4) := by
  unfold kM_factor2
  repeat' (first | exact gd_call _ _ _ | exact gd_const _ | refine gd_bnd (gd_call _ _ _) (fun _ _ => ?_) | refine gd_let (fun _ => ?_) | refine gd_if ?_ ?_)
theorem gM_clause (σ : mS) (x0 x1 : Int32) : gd (fun rec => kM_clause rec σ x0 x1) := by
  unfold kM_clause
  repeat' (first | exact gd_call _ _ _ | exact gd_const _ | refine gd_bnd (gd_call _ _ _) (fun _ _ => ?_) | refine gd_let (fun _ => ?_) | refine gd_if ?_ ?_)
theorem gM_none (σ : mS) (x0 : Int32) : gd (fun rec => kM_none rec σ x0) := by
  unfold kM_none
  repeat' (first | exact gd_call _ _ _ | exact gd_const _ | refine gd_bnd (gd_call _ _ _) (fun _ _ => ?_) | refine gd_let (fun _ => ?_) | refine gd_if ?_ ?_)
theorem gM_none_19 (σ : mS) (x0 x1 : Int32) : gd (fun rec => kM_none_19 rec σ x0 x1) := by
  unfold kM_none_19
  repeat' (first | exact gd_call _ _ _ | exact gd_const _ | refine gd_bnd (gd_call _ _ _) (fun _ _ => ?_) | refine gd_let (fun _ => ?_) | refine gd_if ?_ ?_)
theorem gM_none_24 (σ : mS) (x0 x1 x2 : Int32) : gd (fun rec => kM_none_24 rec σ x0 x1 x2) := by
  unfold kM_none_24
  repeat' (first | exact gd_call _ _ _ | exact gd_const _ | refine gd_bnd (gd_call _ _ _) (fun _ _ => ?_) | refine gd_let (fun _ => ?_) | refine gd_if ?_ ?_)
theorem gM_rewrote (σ : mS) (x0 x1 : Int32) : gd (fun rec => kM_rewrote rec σ x0 x1) := by
  unfold kM_rewrote
  repeat' (first | exact gd_call _ _ _ | exact gd_const _ | refine gd_bnd (gd_call _ _ _) (fun _ _ => ?_) | refine gd_let (fun _ => ?_) | refine gd_if ?_ ?_)
theorem gM_rewrote_24 (σ : mS) (x0 x1 x2 : Int32) : gd (fun rec => kM_rewrote_24 rec σ x0 x1 x2) := by
  unfold kM_rewrote_24
  repeat' (first | exact gd_call _ _ _ | exact gd_const _ | refine gd_bnd (gd_call _ _ _) (fun _ _ => ?_) | refine gd_let (fun _ => ?_) | refine gd_if ?_ ?_)
theorem gM_rewrote_29 (σ : mS) (x0 x1 x2 x3 : Int32) : gd (fun rec => kM_rewrote_29 rec σ x0 x1 x2 x3) := by
  unfold kM_rewrote_29
  repeat' (first | exact gd_call _ _ _ | exact gd_const _ | refine gd_bnd (gd_call _ _ _) (fun _ _ => ?_) | refine gd_let (fun _ => ?_) | refine gd_if ?_ ?_)
theorem gM_rewrote_35 (σ : mS) (x0 x1 : Int32) : gd (fun rec => kM_rewrote_35 rec σ x0 x1) := by
  unfold kM_rewrote_35
  repeat' (first | exact gd_call _ _ _ | exact gd_const _ | refine gd_bnd (gd_call _ _ _) (fun _ _ => ?_) | refine gd_let (fun _ => ?_) | refine gd_if ?_ ?_)
theorem gM_literal (σ : mS) (x0 x1 x2 : Int32) : gd (fun rec => kM_literal rec σ x0 x1 x2) := by
  unfold kM_literal
  repeat' (first | exact gd_call _ _ _ | exact gd_const _ | refine gd_bnd (gd_call _ _ _) (fun _ _ => ?_) | refine gd_let (fun _ => ?_) | refine gd_if ?_ ?_)
theorem gM_literal_24 (σ : mS) (x0 x1 x2 x3 : Int32) : gd (fun rec => kM_literal_24 rec σ x0 x1 x2 x3) := by
  unfold kM_literal_24
  repeat' (first | exact gd_call _ _ _ | exact gd_const _ | refine gd_bnd (gd_call _ _ _) (fun _ _ => ?_) | refine gd_let (fun _ => ?_) | refine gd_if ?_ ?_)
theorem gM_literal_29 (σ : mS) (x0 x1 x2 x3 x4 : Int32) : gd (fun rec => kM_literal_29 rec σ x0 x1 x2 x3 x4) := by
  unfold kM_literal_29
  repeat' (first | exact gd_call _ _ _ | exact gd_const _ | refine gd_bnd (gd_call _ _ _) (fun _ _ => ?_) | refine gd_let (fun _ => ?_) | refine gd_if ?_ ?_)
theorem gM_literal_35 (σ : mS) (x0 x1 x2 : Int32) : gd (fun rec => kM_literal_35 rec σ x0 x1 x2) := by
  unfold kM_literal_35
  repeat' (first | exact gd_call _ _ _ | exact gd_const _ | refine gd_bnd (gd_call _ _ _) (fun _ _ => ?_) | refine gd_let (fun _ => ?_) | refine gd_if ?_ ?_)
theorem gM_literal_95 (σ : mS) (x0 x1 x2 x3 x4 : Int32) : gd (fun rec => kM_literal_95 rec σ x0 x1 x2 x3 x4) := by
  unfold kM_literal_95
  repeat' (first | exact gd_call _ _ _ | exact gd_const _ | refine gd_bnd (gd_call _ _ _) (fun _ _ => ?_) | refine gd_let (fun _ => ?_) | refine gd_if ?_ ?_)
theorem gM_literal_119 (σ : mS) (x0 x1 x2 x3 x4 : Int32) : gd (fun rec => kM_literal_119 rec σ x0 x1 x2 x3 x4) := by
  unfold kM_literal_119
  repeat' (first | exact gd_call _ _ _ | exact gd_const _ | refine gd_bnd (gd_call _ _ _) (fun _ _ => ?_) | refine gd_let (fun _ => ?_) | refine gd_if ?_ ?_)
theorem gM_out (σ : mS) (x0 : Int32) : gd (fun rec => kM_out rec σ x0) := by
  unfold kM_out
  repeat' (first | exact gd_call _ _ _ | exact gd_const _ | refine gd_bnd (gd_call _ _ _) (fun _ _ => ?_) | refine gd_let (fun _ => ?_) | refine gd_if ?_ ?_)
theorem gM_out_19 (σ : mS) (x0 x1 : Int32) : gd (fun rec => kM_out_19 rec σ x0 x1) := by
  unfold kM_out_19
  repeat' (first | exact gd_call _ _ _ | exact gd_const _ | refine gd_bnd (gd_call _ _ _) (fun _ _ => ?_) | refine gd_let (fun _ => ?_) | refine gd_if ?_ ?_)
theorem gM_out_24 (σ : mS) (x0 x1 x2 : Int32) : gd (fun rec => kM_out_24 rec σ x0 x1 x2) := by
  unfold kM_out_24
  repeat' (first | exact gd_call _ _ _ | exact gd_const _ | refine gd_bnd (gd_call _ _ _) (fun _ _ => ?_) | refine gd_let (fun _ => ?_) | refine gd_if ?_ ?_)
theorem gM_symbol2 (σ : mS) (x0 x1 : Int32) : gd (fun rec => kM_symbol2 rec σ x0 x1) := by
  unfold kM_symbol2
  repeat' (first | exact gd_call _ _ _ | exact gd_const _ | refine gd_bnd (gd_call _ _ _) (fun _ _ => ?_) | refine gd_let (fun _ => ?_) | refine gd_if ?_ ?_)
theorem gM_symbol2_19 (σ : mS) (x0 x1 x2 : Int32) : gd (fun rec => kM_symbol2_19 rec σ x0 x1 x2) := by
  unfold kM_symbol2_19
  repeat' (first | exact gd_call _ _ _ | exact gd_const _ | refine gd_bnd (gd_call _ _ _) (fun _ _ => ?_) | refine gd_let (fun _ => ?_) | refine gd_if ?_ ?_)
theorem gM_symbol2_24 (σ : mS) (x0 x1 x2 x3 : Int32) : gd (fun rec => kM_symbol2_24 rec σ x0 x1 x2 x3) := by
  unfold kM_symbol2_24
  repeat' (first | exact gd_call _ _ _ | exact gd_const _ | refine gd_bnd (gd_call _ _ _) (fun _ _ => ?_) | refine gd_let (fun _ => ?_) | refine gd_if ?_ ?_)
theorem gM_symbol2_41 (σ : mS) (x0 x1 x2 : Int32) : gd (fun rec => kM_symbol2_41 rec σ x0 x1 x2) := by
  unfold kM_symbol2_41
  repeat' (first | exact gd_call _ _ _ | exact gd_const _ | refine gd_bnd (gd_call _ _ _) (fun _ _ => ?_) | refine gd_let (fun _ => ?_) | refine gd_if ?_ ?_)
theorem gM_symbol2_46 (σ : mS) (x0 x1 x2 x3 : Int32) : gd (fun rec => kM_symbol2_46 rec σ x0 x1 x2 x3) := by
  unfold kM_symbol2_46
  repeat' (first | exact gd_call _ _ _ | exact gd_const _ | refine gd_bnd (gd_call _ _ _) (fun _ _ => ?_) | refine gd_let (fun _ => ?_) | refine gd_if ?_ ?_)
theorem gM_symbol2_52 (σ : mS) (x0 x1 : Int32) : gd (fun rec => kM_symbol2_52 rec σ x0 x1) := by
  unfold kM_symbol2_52
  repeat' (first | exact gd_call _ _ _ | exact gd_const _ | refine gd_bnd (gd_call _ _ _) (fun _ _ => ?_) | refine gd_let (fun _ => ?_) | refine gd_if ?_ ?_)
theorem gM_symbol2_102 (σ : mS) (x0 x1 x2 : Int32) : gd (fun rec => kM_symbol2_102 rec σ x0 x1 x2) := by
  unfold kM_symbol2_102
  repeat' (first | exact gd_call _ _ _ | exact gd_const _ | refine gd_bnd (gd_call _ _ _) (fun _ _ => ?_) | refine gd_let (fun _ => ?_) | refine gd_if ?_ ?_)
theorem gM_proof (σ : mS) : gd (fun rec => kM_proof rec σ) := by
  unfold kM_proof
  repeat' (first | exact gd_call _ _ _ | exact gd_const _ | refine gd_bnd (gd_call _ _ _) (fun _ _ => ?_) | refine gd_let (fun _ => ?_) | refine gd_if ?_ ?_)
theorem gM_prove (σ : mS) : gd (fun rec => kM_prove rec σ) := by
  unfold kM_prove
  repeat' (first | exact gd_call _ _ _ | exact gd_const _ | refine gd_bnd (gd_call _ _ _) (fun _ _ => ?_) | refine gd_let (fun _ => ?_) | refine gd_if ?_ ?_)
theorem gM_prove_36 (σ : mS) (x0 x1 : Int32) : gd (fun rec => kM_prove_36 rec σ x0 x1) := by
  unfold kM_prove_36
  repeat' (first | exact gd_call _ _ _ | exact gd_const _ | refine gd_bnd (gd_call _ _ _) (fun _ _ => ?_) | refine gd_let (fun _ => ?_) | refine gd_if ?_ ?_)
theorem gM_prove_76 (σ : mS) (x0 x1 : Int32) : gd (fun rec => kM_prove_76 rec σ x0 x1) := by
  unfold kM_prove_76
  repeat' (first | exact gd_call _ _ _ | exact gd_const _ | refine gd_bnd (gd_call _ _ _) (fun _ _ => ?_) | refine gd_let (fun _ => ?_) | refine gd_if ?_ ?_)
theorem gM_prove_97 (σ : mS) (x0 x1 : Int32) : gd (fun rec => kM_prove_97 rec σ x0 x1) := by
  unfold kM_prove_97
  repeat' (first | exact gd_call _ _ _ | exact gd_const _ | refine gd_bnd (gd_call _ _ _) (fun _ _ => ?_) | refine gd_let (fun _ => ?_) | refine gd_if ?_ ?_)
theorem gM_prove_99 (σ : mS) (x0 x1 x2 : Int32) : gd (fun rec => kM_prove_99 rec σ x0 x1 x2) := by
  unfold kM_prove_99
  repeat' (first | exact gd_call _ _ _ | exact gd_const _ | refine gd_bnd (gd_call _ _ _) (fun _ _ => ?_) | refine gd_let (fun _ => ?_) | refine gd_if ?_ ?_)
theorem gM_prove_134 (σ : mS) (x0 x1 : Int32) : gd (fun rec => kM_prove_134 rec σ x0 x1) := by
  unfold kM_prove_134
  repeat' (first | exact gd_call _ _ _ | exact gd_const _ | refine gd_bnd (gd_call _ _ _) (fun _ _ => ?_) | refine gd_let (fun _ => ?_) | refine gd_if ?_ ?_)
theorem gM_step2 (σ : mS) (x0 : Int32) : gd (fun rec => kM_step2 rec σ x0) := by
  unfold kM_step2
  repeat' (first | exact gd_call _ _ _ | exact gd_const _ | refine gd_bnd (gd_call _ _ _) (fun _ _ => ?_) | refine gd_let (fun _ => ?_) | refine gd_if ?_ ?_)
theorem gM_step2_21 (σ : mS) (x0 x1 x2 : Int32) : gd (fun rec => kM_step2_21 rec σ x0 x1 x2) := by
  unfold kM_step2_21
  repeat' (first | exact gd_call _ _ _ | exact gd_const _ | refine gd_bnd (gd_call _ _ _) (fun _ _ => ?_) | refine gd_let (fun _ => ?_) | refine gd_if ?_ ?_)
theorem gM_step2_26 (σ : mS) (x0 x1 x2 x3 : Int32) : gd (fun rec => kM_step2_26 rec σ x0 x1 x2 x3) := by
  unfold kM_step2_26
  repeat' (first | exact gd_call _ _ _ | exact gd_const _ | refine gd_bnd (gd_call _ _ _) (fun _ _ => ?_) | refine gd_let (fun _ => ?_) | refine gd_if ?_ ?_)
theorem gM_step2_39 (σ : mS) (x0 x1 x2 x3 : Int32) : gd (fun rec => kM_step2_39 rec σ x0 x1 x2 x3) := by
  unfold kM_step2_39
  repeat' (first | exact gd_call _ _ _ | exact gd_const _ | refine gd_bnd (gd_call _ _ _) (fun _ _ => ?_) | refine gd_let (fun _ => ?_) | refine gd_if ?_ ?_)
theorem gM_step2_47 (σ : mS) (x0 x1 x2 x3 : Int32) : gd (fun rec => kM_step2_47 rec σ x0 x1 x2 x3) := by
  unfold kM_step2_47
  repeat' (first | exact gd_call _ _ _ | exact gd_const _ | refine gd_bnd (gd_call _ _ _) (fun _ _ => ?_) | refine gd_let (fun _ => ?_) | refine gd_if ?_ ?_)
theorem gM_look (σ : mS) (x0 x1 : Int32) : gd (fun rec => kM_look rec σ x0 x1) := by
  unfold kM_look
  repeat' (first | exact gd_call _ _ _ | exact gd_const _ | refine gd_bnd (gd_call _ _ _) (fun _ _ => ?_) | refine gd_let (fun _ => ?_) | refine gd_if ?_ ?_)
theorem gM_look_17 (σ : mS) (x0 x1 x2 : Int32) : gd (fun rec => kM_look_17 rec σ x0 x1 x2) := by
  unfold kM_look_17
  repeat' (first | exact gd_call _ _ _ | exact gd_const _ | refine gd_bnd (gd_call _ _ _) (fun _ _ => ?_) | refine gd_let (fun _ => ?_) | refine gd_if ?_ ?_)
theorem gM_look_22 (σ : mS) (x0 x1 x2 x3 : Int32) : gd (fun rec => kM_look_22 rec σ x0 x1 x2 x3) := by
  unfold kM_look_22
  repeat' (first | exact gd_call _ _ _ | exact gd_const _ | refine gd_bnd (gd_call _ _ _) (fun _ _ => ?_) | refine gd_let (fun _ => ?_) | refine gd_if ?_ ?_)
theorem gM_look_54 (σ : mS) (x0 x1 x2 x3 : Int32) : gd (fun rec => kM_look_54 rec σ x0 x1 x2 x3) := by
  unfold kM_look_54
  repeat' (first | exact gd_call _ _ _ | exact gd_const _ | refine gd_bnd (gd_call _ _ _) (fun _ _ => ?_) | refine gd_let (fun _ => ?_) | refine gd_if ?_ ?_)
theorem gM_look_75 (σ : mS) (x0 x1 x2 x3 : Int32) : gd (fun rec => kM_look_75 rec σ x0 x1 x2 x3) := by
  unfold kM_look_75
  repeat' (first | exact gd_call _ _ _ | exact gd_const _ | refine gd_bnd (gd_call _ _ _) (fun _ _ => ?_) | refine gd_let (fun _ => ?_) | refine gd_if ?_ ?_)
theorem gM_textIsTrue (σ : mS) : gd (fun rec => kM_textIsTrue rec σ) := by
  unfold kM_textIsTrue
  repeat' (first | exact gd_call _ _ _ | exact gd_const _ | refine gd_bnd (gd_call _ _ _) (fun _ _ => ?_) | refine gd_let (fun _ => ?_) | refine gd_if ?_ ?_)
theorem gM_textIsTrue_2 (σ : mS) (x0 : Int32) : gd (fun rec => kM_textIsTrue_2 rec σ x0) := by
  unfold kM_textIsTrue_2
  repeat' (first | exact gd_call _ _ _ | exact gd_const _ | refine gd_bnd (gd_call _ _ _) (fun _ _ => ?_) | refine gd_let (fun _ => ?_) | refine gd_if ?_ ?_)
theorem gM_isTrue (σ : mS) (x0 : Int32) : gd (fun rec => kM_isTrue rec σ x0) := by
  unfold kM_isTrue
  repeat' (first | exact gd_call _ _ _ | exact gd_const _ | refine gd_bnd (gd_call _ _ _) (fun _ _ => ?_) | refine gd_let (fun _ => ?_) | refine gd_if ?_ ?_)
theorem gM_isTrue_4 (σ : mS) (x0 x1 x2 : Int32) : gd (fun rec => kM_isTrue_4 rec σ x0 x1 x2) := by
  unfold kM_isTrue_4
  repeat' (first | exact gd_call _ _ _ | exact gd_const _ | refine gd_bnd (gd_call _ _ _) (fun _ _ => ?_) | refine gd_let (fun _ => ?_) | refine gd_if ?_ ?_)
theorem gM_isTrue_29 (σ : mS) (x0 x1 x2 : Int32) : gd (fun rec => kM_isTrue_29 rec σ x0 x1 x2) := by
  unfold kM_isTrue_29
  repeat' (first | exact gd_call _ _ _ | exact gd_const _ | refine gd_bnd (gd_call _ _ _) (fun _ _ => ?_) | refine gd_let (fun _ => ?_) | refine gd_if ?_ ?_)
theorem gM_isTrue_40 (σ : mS) (x0 x1 x2 x3 x4 : Int32) : gd (fun rec => kM_isTrue_40 rec σ x0 x1 x2 x3 x4) := by
  unfold kM_isTrue_40
  repeat' (first | exact gd_call _ _ _ | exact gd_const _ | refine gd_bnd (gd_call _ _ _) (fun _ _ => ?_) | refine gd_let (fun _ => ?_) | refine gd_if ?_ ?_)
theorem gM_isTrue_91 (σ : mS) (x0 x1 x2 x3 x4 x5 : Int32) : gd (fun rec => kM_isTrue_91 rec σ x0 x1 x2 x3 x4 x5) := by
  unfold kM_isTrue_91
  repeat' (first | exact gd_call _ _ _ | exact gd_const _ | refine gd_bnd (gd_call _ _ _) (fun _ _ => ?_) | refine gd_let (fun _ => ?_) | refine gd_if ?_ ?_)
theorem gM_isTrue_144 (σ : mS) (x0 x1 x2 x3 x4 x5 x6 : Int32) : gd (fun rec => kM_isTrue_144 rec σ x0 x1 x2 x3 x4 x5 x6) := by
  unfold kM_isTrue_144
  repeat' (first | exact gd_call _ _ _ | exact gd_const _ | refine gd_bnd (gd_call _ _ _) (fun _ _ => ?_) | refine gd_let (fun _ => ?_) | refine gd_if ?_ ?_)
theorem gM_isTrue_159 (σ : mS) (x0 x1 x2 x3 x4 x5 x6 : Int32) : gd (fun rec => kM_isTrue_159 rec σ x0 x1 x2 x3 x4 x5 x6) := by
  unfold kM_isTrue_159
  repeat' (first | exact gd_call _ _ _ | exact gd_const _ | refine gd_bnd (gd_call _ _ _) (fun _ _ => ?_) | refine gd_let (fun _ => ?_) | refine gd_if ?_ ?_)
theorem gM_isTrue_167 (σ : mS) (x0 x1 x2 x3 x4 x5 : Int32) : gd (fun rec => kM_isTrue_167 rec σ x0 x1 x2 x3 x4 x5) := by
  unfold kM_isTrue_167
  repeat' (first | exact gd_call _ _ _ | exact gd_const _ | refine gd_bnd (gd_call _ _ _) (fun _ _ => ?_) | refine gd_let (fun _ => ?_) | refine gd_if ?_ ?_)
theorem gM_meaning (σ : mS) (x0 : Int32) : gd (fun rec => kM_meaning rec σ x0) := by
  unfold kM_meaning
  repeat' (first | exact gd_call _ _ _ | exact gd_const _ | refine gd_bnd (gd_call _ _ _) (fun _ _ => ?_) | refine gd_let (fun _ => ?_) | refine gd_if ?_ ?_)
theorem gM_meaning_56 (σ : mS) (x0 x1 x2 : Int32) : gd (fun rec => kM_meaning_56 rec σ x0 x1 x2) := by
  unfold kM_meaning_56
  repeat' (first | exact gd_call _ _ _ | exact gd_const _ | refine gd_bnd (gd_call _ _ _) (fun _ _ => ?_) | refine gd_let (fun _ => ?_) | refine gd_if ?_ ?_)
theorem gM_meaning_129 (σ : mS) (x0 x1 x2 x3 : Int32) : gd (fun rec => kM_meaning_129 rec σ x0 x1 x2 x3) := by
  unfold kM_meaning_129
  repeat' (first | exact gd_call _ _ _ | exact gd_const _ | refine gd_bnd (gd_call _ _ _) (fun _ _ => ?_) | refine gd_let (fun _ => ?_) | refine gd_if ?_ ?_)
theorem gM_mixed (σ : mS) (x0 x1 : Int32) : gd (fun rec => kM_mixed rec σ x0 x1) := by
  unfold kM_mixed
  repeat' (first | exact gd_call _ _ _ | exact gd_const _ | refine gd_bnd (gd_call _ _ _) (fun _ _ => ?_) | refine gd_let (fun _ => ?_) | refine gd_if ?_ ?_)
theorem gM_search (σ : mS) (x0 x1 x2 : Int32) : gd (fun rec => kM_search rec σ x0 x1 x2) := by
  unfold kM_search
  repeat' (first | exact gd_call _ _ _ | exact gd_const _ | refine gd_bnd (gd_call _ _ _) (fun _ _ => ?_) | refine gd_let (fun _ => ?_) | refine gd_if ?_ ?_)
theorem gM_search_28 (σ : mS) (x0 x1 x2 x3 : Int32) : gd (fun rec => kM_search_28 rec σ x0 x1 x2 x3) := by
  unfold kM_search_28
  repeat' (first | exact gd_call _ _ _ | exact gd_const _ | refine gd_bnd (gd_call _ _ _) (fun _ _ => ?_) | refine gd_let (fun _ => ?_) | refine gd_if ?_ ?_)
theorem gM_search_33 (σ : mS) (x0 x1 x2 x3 x4 : Int32) : gd (fun rec => kM_search_33 rec σ x0 x1 x2 x3 x4) := by
  unfold kM_search_33
  repeat' (first | exact gd_call _ _ _ | exact gd_const _ | refine gd_bnd (gd_call _ _ _) (fun _ _ => ?_) | refine gd_let (fun _ => ?_) | refine gd_if ?_ ?_)
theorem gM_search_49 (σ : mS) (x0 x1 x2 x3 : Int32) : gd (fun rec => kM_search_49 rec σ x0 x1 x2 x3) := by
  unfold kM_search_49
  repeat' (first | exact gd_call _ _ _ | exact gd_const _ | refine gd_bnd (gd_call _ _ _) (fun _ _ => ?_) | refine gd_let (fun _ => ?_) | refine gd_if ?_ ?_)
theorem gM_count1 (σ : mS) (x0 : Int32) : gd (fun rec => kM_count1 rec σ x0) := by
  unfold kM_count1
  repeat' (first | exact gd_call _ _ _ | exact gd_const _ | refine gd_bnd (gd_call _ _ _) (fun _ _ => ?_) | refine gd_let (fun _ => ?_) | refine gd_if ?_ ?_)
theorem gM_inState (σ : mS) (x0 : Int32) : gd (fun rec => kM_inState rec σ x0) := by
  unfold kM_inState
  repeat' (first | exact gd_call _ _ _ | exact gd_const _ | refine gd_bnd (gd_call _ _ _) (fun _ _ => ?_) | refine gd_let (fun _ => ?_) | refine gd_if ?_ ?_)
theorem gM_inState_4 (σ : mS) (x0 x1 x2 : Int32) : gd (fun rec => kM_inState_4 rec σ x0 x1 x2) := by
  unfold kM_inState_4
  repeat' (first | exact gd_call _ _ _ | exact gd_const _ | refine gd_bnd (gd_call _ _ _) (fun _ _ => ?_) | refine gd_let (fun _ => ?_) | refine gd_if ?_ ?_)
theorem gM_inState_25 (σ : mS) (x0 x1 x2 : Int32) : gd (fun rec => kM_inState_25 rec σ x0 x1 x2) := by
  unfold kM_inState_25
  repeat' (first | exact gd_call _ _ _ | exact gd_const _ | refine gd_bnd (gd_call _ _ _) (fun _ _ => ?_) | refine gd_let (fun _ => ?_) | refine gd_if ?_ ?_)
theorem gM_sides_many (σ : mS) (x0 : Int32) : gd (fun rec => kM_sides_many rec σ x0) := by
  unfold kM_sides_many
  repeat' (first | exact gd_call _ _ _ | exact gd_const _ | refine gd_bnd (gd_call _ _ _) (fun _ _ => ?_) | refine gd_let (fun _ => ?_) | refine gd_if ?_ ?_)
theorem gM_sides_others (σ : mS) (x0 : Int32) : gd (fun rec => kM_sides_others rec σ x0) := by
  unfold kM_sides_others
  repeat' (first | exact gd_call _ _ _ | exact gd_const _ | refine gd_bnd (gd_call _ _ _) (fun _ _ => ?_) | refine gd_let (fun _ => ?_) | refine gd_if ?_ ?_)
