def zLe (a b : zF) : Prop := ∀ t β σ xs r, a t β σ xs = some r → b t β σ xs = some r
def gz_M (c : zF → Option zR) : Prop := ∀ a b : zF, zLe a b → ∀ r, c a = some r → c b = some r
def gz_C (c : zF → Option zR) : Prop := ∀ (R : Nat → zF), (∀ n, zLe (R n) (R (n + 1))) → ∀ E : zF, (∀ t β σ xs r, E t β σ xs = some r → ∃ n, R n t β σ xs = some r) → ∀ r, c E = some r → ∃ n, c (R n) = some r
def gz (c : zF → Option zR) : Prop := gz_M c ∧ gz_C c
theorem zLe_up {R : Nat → zF} (h : ∀ n, zLe (R n) (R (n + 1))) : ∀ (k n : Nat), zLe (R n) (R (n + k))
  | 0, n => fun t β σ xs r q => q
  | k + 1, n => fun t β σ xs r q => h (n + k) t β σ xs r (zLe_up h k n t β σ xs r q)
theorem gz_const (o : Option zR) : gz (fun _ => o) := ⟨fun _ _ _ _ h => h, fun _ _ _ _ _ h => ⟨0, h⟩⟩
theorem gz_call (t β : Nat) (σ : zS) (xs : List Int) : gz (fun rec => rec t β σ xs) := ⟨fun _ _ h _ q => h _ _ _ _ _ q, fun _ _ _ h _ q => h _ _ _ _ _ q⟩
theorem gz_if {c : Prop} {i : Decidable c} {A B : zF → Option zR} (hA : gz A) (hB : gz B) : gz (fun rec => if c then A rec else B rec) := by
  by_cases h : c
  · simp only [if_pos h]; exact hA
  · simp only [if_neg h]; exact hB
theorem gz_let {α : Type} {a : α} {f : zF → α → Option zR} (h : ∀ x, gz (fun rec => f rec x)) : gz (fun rec => lt_ a (f rec)) := h a
theorem zbd_some {o : Option zR} {k : zS → Int → Option zR} {q : zR} (h : zbd o k = some q) : ∃ σ r, o = some (σ, r) ∧ k σ r = some q := by
  unfold zbd at h
  cases ho : o with
  | none => rw [ho] at h; cases h
  | some r => rw [ho] at h; exact ⟨r.1, r.2, rfl, h⟩
theorem zbd_of {o : Option zR} {k : zS → Int → Option zR} {σ : zS} {r : Int} (h : o = some (σ, r)) : zbd o k = k σ r := by subst h; rfl
theorem gz_bnd {o : zF → Option zR} {k : zF → zS → Int → Option zR} (ho : gz o) (hk : ∀ σ r, gz (fun rec => k rec σ r)) : gz (fun rec => zbd (o rec) (k rec)) := by
  refine ⟨fun a b hab q h => ?_, fun R hR E hE q h => ?_⟩
  · obtain ⟨σ, r, h1, h2⟩ := zbd_some h
    show zbd (o b) (k b) = some q
    rw [zbd_of (ho.1 a b hab _ h1)]
    exact (hk _ _).1 a b hab _ h2
  · obtain ⟨σ, r, h1, h2⟩ := zbd_some h
    obtain ⟨n1, e1⟩ := ho.2 R hR E hE _ h1
    obtain ⟨n2, e2⟩ := (hk _ _).2 R hR E hE _ h2
    refine ⟨n1 + n2, ?_⟩
    show zbd (o (R (n1 + n2))) (k (R (n1 + n2))) = some q
    rw [zbd_of (ho.1 _ _ (zLe_up hR n2 n1) _ e1)]
    refine (hk _ _).1 _ _ ?_ _ e2
    have := zLe_up hR n1 n2
    rw [Nat.add_comm n2 n1] at this
    exact this
theorem gz_u0 {k : zF → Option zR} (h : gz (fun rec => k rec)) (xs : List Int) : gz (fun rec => uz_0 (k rec) xs) := by
  match xs with
  | [] => exact h
  | _ :: _ => exact gz_const none
theorem gz_u1 {k : zF → Int → Option zR} (h : ∀ x0, gz (fun rec => k rec x0)) (xs : List Int) : gz (fun rec => uz_1 (k rec) xs) := by
  match xs with
  | [x0] => exact h x0
  | [] => exact gz_const none
  | _ :: _ :: _ => exact gz_const none
theorem gz_u2 {k : zF → Int → Int → Option zR} (h : ∀ x0 x1, gz (fun rec => k rec x0 x1)) (xs : List Int) : gz (fun rec => uz_2 (k rec) xs) := by
  match xs with
  | [x0, x1] => exact h x0 x1
  | [] => exact gz_const none
  | [_] => exact gz_const none
  | _ :: _ :: _ :: _ => exact gz_const none
theorem gz_u3 {k : zF → Int → Int → Int → Option zR} (h : ∀ x0 x1 x2, gz (fun rec => k rec x0 x1 x2)) (xs : List Int) : gz (fun rec => uz_3 (k rec) xs) := by
  match xs with
  | [x0, x1, x2] => exact h x0 x1 x2
  | [] => exact gz_const none
  | [_] => exact gz_const none
  | [_, _] => exact gz_const none
  | _ :: _ :: _ :: _ :: _ => exact gz_const none
theorem gz_u4 {k : zF → Int → Int → Int → Int → Option zR} (h : ∀ x0 x1 x2 x3, gz (fun rec => k rec x0 x1 x2 x3)) (xs : List Int) : gz (fun rec => uz_4 (k rec) xs) := by
  match xs with
  | [x0, x1, x2, x3] => exact h x0 x1 x2 x3
  | [] => exact gz_const none
  | [_] => exact gz_const none
  | [_, _] => exact gz_const none
  | [_, _, _] => exact gz_const none
  | _ :: _ :: _ :: _ :: _ :: _ => exact gz_const none
theorem gz_u5 {k : zF → Int → Int → Int → Int → Int → Option zR} (h : ∀ x0 x1 x2 x3 x4, gz (fun rec => k rec x0 x1 x2 x3 x4)) (xs : List Int) : gz (fun rec => uz_5 (k rec) xs) := by
  match xs with
  | [x0, x1, x2, x3, x4] => exact h x0 x1 x2 x3 x4
  | [] => exact gz_const none
  | [_] => exact gz_const none
  | [_, _] => exact gz_const none
  | [_, _, _] => exact gz_const none
  | [_, _, _, _] => exact gz_const none
  | _ :: _ :: _ :: _ :: _ :: _ :: _ => exact gz_const none
theorem gz_u6 {k : zF → Int → Int → Int → Int → Int → Int → Option zR} (h : ∀ x0 x1 x2 x3 x4 x5, gz (fun rec => k rec x0 x1 x2 x3 x4 x5)) (xs : List Int) : gz (fun rec => uz_6 (k rec) xs) := by
  match xs with
  | [x0, x1, x2, x3, x4, x5] => exact h x0 x1 x2 x3 x4 x5
  | [] => exact gz_const none
  | [_] => exact gz_const none
  | [_, _] => exact gz_const none
  | [_, _, _] => exact gz_const none
  | [_, _, _, _] => exact gz_const none
  | [_, _, _, _, _] => exact gz_const none
  | _ :: _ :: _ :: _ :: _ :: _ :: _ :: _ => exact gz_const none
theorem gz_u7 {k : zF → Int → Int → Int → Int → Int → Int → Int → Option zR} (h : ∀ x0 x1 x2 x3 x4 x5 x6, gz (fun rec => k rec x0 x1 x2 x3 x4 x5 x6)) (xs : List Int) : gz (fun rec => uz_7 (k rec) xs) := by
  match xs with
  | [x0, x1, x2, x3, x4, x5, x6] => exact h x0 x1 x2 x3 x4 x5 x6
  | [] => exact gz_const none
  | [_] => exact gz_const none
  | [_, _] => exact gz_const none
  | [_, _, _] => exact gz_const none
  | [_, _, _, _] => exact gz_const none
  | [_, _, _, _, _] => exact gz_const none
  | [_, _, _, _, _, _] => exact gz_const none
  | _ :: _ :: _ :: _ :: _ :: _ :: _ :: _ :: _ => exact gz_const none
theorem gz_u8 {k : zF → Int → Int → Int → Int → Int → Int → Int → Int → Option zR} (h : ∀ x0 x1 x2 x3 x4 x5 x6 x7, gz (fun rec => k rec x0 x1 x2 x3 x4 x5 x6 x7)) (xs : List Int) : gz (fun rec => uz_8 (k rec) xs) := by
  match xs with
  | [x0, x1, x2, x3, x4, x5, x6, x7] => exact h x0 x1 x2 x3 x4 x5 x6 x7
  | [] => exact gz_const none
  | [_] => exact gz_const none
  | [_, _] => exact gz_const none
  | [_, _, _] => exact gz_const none
  | [_, _, _, _] => exact gz_const none
  | [_, _, _, _, _] => exact gz_const none
  | [_, _, _, _, _, _] => exact gz_const none
  | [_, _, _, _, _, _, _] => exact gz_const none
  | _ :: _ :: _ :: _ :: _ :: _ :: _ :: _ :: _ :: _ => exact gz_const none
theorem gz_u9 {k : zF → Int → Int → Int → Int → Int → Int → Int → Int → Int → Option zR} (h : ∀ x0 x1 x2 x3 x4 x5 x6 x7 x8, gz (fun rec => k rec x0 x1 x2 x3 x4 x5 x6 x7 x8)) (xs : List Int) : gz (fun rec => uz_9 (k rec) xs) := by
  match xs with
  | [x0, x1, x2, x3, x4, x5, x6, x7, x8] => exact h x0 x1 x2 x3 x4 x5 x6 x7 x8
  | [] => exact gz_const none
  | [_] => exact gz_const none
  | [_, _] => exact gz_const none
  | [_, _, _] => exact gz_const none
  | [_, _, _, _] => exact gz_const none
  | [_, _, _, _, _] => exact gz_const none
  | [_, _, _, _, _, _] => exact gz_const none
  | [_, _, _, _, _, _, _] => exact gz_const none
  | [_, _, _, _, _, _, _, _] => exact gz_const none
  | _ :: _ :: _ :: _ :: _ :: _ :: _ :: _ :: _ :: _ :: _ => exact gz_const none
theorem gz_u10 {k : zF → Int → Int → Int → Int → Int → Int → Int → Int → Int → Int → Option zR} (h : ∀ x0 x1 x2 x3 x4 x5 x6 x7 x8 x9, gz (fun rec => k rec x0 x1 x2 x3 x4 x5 x6 x7 x8 x9)) (xs : List Int) : gz (fun rec => uz_10 (k rec) xs) := by
  match xs with
  | [x0, x1, x2, x3, x4, x5, x6, x7, x8, x9] => exact h x0 x1 x2 x3 x4 x5 x6 x7 x8 x9
  | [] => exact gz_const none
  | [_] => exact gz_const none
  | [_, _] => exact gz_const none
  | [_, _, _] => exact gz_const none
  | [_, _, _, _] => exact gz_const none
  | [_, _, _, _, _] => exact gz_const none
  | [_, _, _, _, _, _] => exact gz_const none
  | [_, _, _, _, _, _, _] => exact gz_const none
  | [_, _, _, _, _, _, _, _] => exact gz_const none
  | [_, _, _, _, _, _, _, _, _] => exact gz_const none
  | _ :: _ :: _ :: _ :: _ :: _ :: _ :: _ :: _ :: _ :: _ :: _ => exact gz_const none
theorem gZ_thrown (β : Nat) (σ : zS) : gz (fun rec => kZ_thrown rec β σ) := by
  unfold kZ_thrown
  exact (gz_const _)
theorem gZ_feed (β : Nat) (σ : zS) (x0 x1 x2 x3 x4 : Int) : gz (fun rec => kZ_feed rec β σ x0 x1 x2 x3 x4) := by
  unfold kZ_feed
  exact (gz_let (fun _ => (gz_if (gz_call _ _ _ _) (gz_call _ _ _ _))))
theorem gZ_feed_22 (β : Nat) (σ : zS) (x0 x1 x2 x3 x4 x5 x6 : Int) : gz (fun rec => kZ_feed_22 rec β σ x0 x1 x2 x3 x4 x5 x6) := by
  unfold kZ_feed_22
  exact (gz_if (gz_bnd (gz_call _ _ _ _) (fun _ _ => (gz_if (gz_call _ _ _ _) (gz_const _)))) (gz_const _))
theorem gZ_feed_33 (β : Nat) (σ : zS) (x0 x1 x2 x3 x4 x5 : Int) : gz (fun rec => kZ_feed_33 rec β σ x0 x1 x2 x3 x4 x5) := by
  unfold kZ_feed_33
  exact (gz_if (gz_const _) (gz_if (gz_if (gz_if (gz_if (gz_call _ _ _ _) (gz_call _ _ _ _)) (gz_call _ _ _ _)) (gz_call _ _ _ _)) (gz_call _ _ _ _)))
theorem gZ_feed_86 (β : Nat) (σ : zS) (x0 x1 x2 x3 x4 x5 x6 : Int) : gz (fun rec => kZ_feed_86 rec β σ x0 x1 x2 x3 x4 x5 x6) := by
  unfold kZ_feed_86
  exact (gz_if (gz_let (fun _ => (gz_if (gz_if (gz_if (gz_let (fun _ => (gz_if (gz_call _ _ _ _) (gz_const _)))) (gz_const _)) (gz_const _)) (gz_const _)))) (gz_const _))
theorem gZ_refuse (β : Nat) (σ : zS) (x0 x1 : Int) : gz (fun rec => kZ_refuse rec β σ x0 x1) := by
  unfold kZ_refuse
  exact (gz_if (gz_call _ _ _ _) (gz_let (fun _ => (gz_call _ _ _ _))))
theorem gZ_refuse_9 (β : Nat) (σ : zS) (x0 x1 : Int) : gz (fun rec => kZ_refuse_9 rec β σ x0 x1) := by
  unfold kZ_refuse_9
  exact (gz_if (gz_const _) (gz_const _))
theorem gZ_end (β : Nat) (σ : zS) (x0 : Int) : gz (fun rec => kZ_end rec β σ x0) := by
  unfold kZ_end
  exact (gz_let (fun _ => (gz_if (gz_call _ _ _ _) (gz_if (gz_call _ _ _ _) (gz_call _ _ _ _)))))
theorem gZ_end_19 (β : Nat) (σ : zS) (x0 x1 : Int) : gz (fun rec => kZ_end_19 rec β σ x0 x1) := by
  unfold kZ_end_19
  exact (gz_call _ _ _ _)
theorem gZ_end_24 (β : Nat) (σ : zS) (x0 x1 x2 : Int) : gz (fun rec => kZ_end_24 rec β σ x0 x1 x2) := by
  unfold kZ_end_24
  exact (gz_if (gz_bnd (gz_call _ _ _ _) (fun _ _ => (gz_if (gz_let (fun _ => (gz_const _))) (gz_const _)))) (gz_const _))
theorem gZ_peek (β : Nat) (σ : zS) : gz (fun rec => kZ_peek rec β σ) := by
  unfold kZ_peek
  exact (gz_if (gz_if (gz_bnd (gz_call _ _ _ _) (fun _ _ => (gz_let (fun _ => (gz_let (fun _ => (gz_let (fun _ => (gz_if (gz_let (fun _ => (gz_const _))) (gz_if (gz_let (fun _ => (gz_let (fun _ => (gz_if (gz_if (gz_if (gz_bnd (gz_call _ _ _ _) (fun _ _ => (gz_if (gz_if (gz_bnd (gz_call _ _ _ _) (fun _ _ => (gz_let (fun _ => (gz_const _))))) (gz_const _)) (gz_call _ _ _ _)))) (gz_const _)) (gz_const _)) (gz_const _)))))) (gz_const _))))))))))) (gz_const _)) (gz_const _))
theorem gZ_peek_104 (β : Nat) (σ : zS) (x0 : Int) : gz (fun rec => kZ_peek_104 rec β σ x0) := by
  unfold kZ_peek_104
  exact (gz_if (gz_call _ _ _ _) (gz_if (gz_if (gz_bnd (gz_call _ _ _ _) (fun _ _ => (gz_if (gz_call _ _ _ _) (gz_if (gz_let (fun _ => (gz_call _ _ _ _))) (gz_const _))))) (gz_const _)) (gz_const _)))
theorem gZ_peek_144 (β : Nat) (σ : zS) (x0 : Int) : gz (fun rec => kZ_peek_144 rec β σ x0) := by
  unfold kZ_peek_144
  exact (gz_if (gz_if (gz_if (gz_call _ _ _ _) (gz_call _ _ _ _)) (gz_call _ _ _ _)) (gz_const _))
theorem gZ_peek_176 (β : Nat) (σ : zS) (x0 x1 : Int) : gz (fun rec => kZ_peek_176 rec β σ x0 x1) := by
  unfold kZ_peek_176
  exact (gz_let (fun _ => (gz_const _)))
theorem gZ_parts (β : Nat) (σ : zS) : gz (fun rec => kZ_parts rec β σ) := by
  unfold kZ_parts
  exact (gz_call _ _ _ _)
theorem gZ_parts_2 (β : Nat) (σ : zS) (x0 : Int) : gz (fun rec => kZ_parts_2 rec β σ x0) := by
  unfold kZ_parts_2
  exact (gz_if (gz_const _) (gz_call _ _ _ _))
theorem gZ_parts_8 (β : Nat) (σ : zS) (x0 : Int) : gz (fun rec => kZ_parts_8 rec β σ x0) := by
  unfold kZ_parts_8
  exact (gz_if (gz_call _ _ _ _) (gz_if (gz_if (gz_call _ _ _ _) (gz_if (gz_call _ _ _ _) (gz_if (gz_call _ _ _ _) (gz_if (gz_call _ _ _ _) (gz_call _ _ _ _))))) (gz_const _)))
theorem gZ_parts_75 (β : Nat) (σ : zS) (x0 : Int) : gz (fun rec => kZ_parts_75 rec β σ x0) := by
  unfold kZ_parts_75
  exact (gz_if (gz_let (fun _ => (gz_call _ _ _ _))) (gz_const _))
theorem gZ_parts_88 (β : Nat) (σ : zS) (x0 : Int) : gz (fun rec => kZ_parts_88 rec β σ x0) := by
  unfold kZ_parts_88
  exact (gz_if (gz_call _ _ _ _) (gz_if (gz_if (gz_call _ _ _ _) (gz_call _ _ _ _)) (gz_const _)))
theorem gZ_parts_113 (β : Nat) (σ : zS) (x0 : Int) : gz (fun rec => kZ_parts_113 rec β σ x0) := by
  unfold kZ_parts_113
  exact (gz_if (gz_call _ _ _ _) (gz_if (gz_if (gz_call _ _ _ _) (gz_if (gz_let (fun _ => (gz_call _ _ _ _))) (gz_const _))) (gz_const _)))
theorem gZ_parts_151 (β : Nat) (σ : zS) (x0 : Int) : gz (fun rec => kZ_parts_151 rec β σ x0) := by
  unfold kZ_parts_151
  exact (gz_call _ _ _ _)
theorem gZ_letter (β : Nat) (σ : zS) (x0 : Int) : gz (fun rec => kZ_letter rec β σ x0) := by
  unfold kZ_letter
  exact (gz_if (gz_call _ _ _ _) (gz_if (gz_call _ _ _ _) (gz_call _ _ _ _)))
theorem gZ_letter_12 (β : Nat) (σ : zS) (x0 : Int) : gz (fun rec => kZ_letter_12 rec β σ x0) := by
  unfold kZ_letter_12
  exact (gz_if (gz_call _ _ _ _) (gz_if (gz_call _ _ _ _) (gz_call _ _ _ _)))
theorem gZ_letter_24 (β : Nat) (σ : zS) (x0 : Int) : gz (fun rec => kZ_letter_24 rec β σ x0) := by
  unfold kZ_letter_24
  exact (gz_call _ _ _ _)
theorem gZ_letter_28 (β : Nat) (σ : zS) (x0 : Int) : gz (fun rec => kZ_letter_28 rec β σ x0) := by
  unfold kZ_letter_28
  exact (gz_call _ _ _ _)
theorem gZ_letter_29 (β : Nat) (σ : zS) (x0 x1 : Int) : gz (fun rec => kZ_letter_29 rec β σ x0 x1) := by
  unfold kZ_letter_29
  exact (gz_if (gz_const _) (gz_const _))
theorem gZ_inWord (β : Nat) (σ : zS) (x0 : Int) : gz (fun rec => kZ_inWord rec β σ x0) := by
  unfold kZ_inWord
  exact (gz_if (gz_bnd (gz_call _ _ _ _) (fun _ _ => (gz_if (gz_if (gz_call _ _ _ _) (gz_if (gz_call _ _ _ _) (gz_call _ _ _ _))) (gz_call _ _ _ _)))) (gz_const _))
theorem gZ_inWord_20 (β : Nat) (σ : zS) (x0 : Int) : gz (fun rec => kZ_inWord_20 rec β σ x0) := by
  unfold kZ_inWord_20
  exact (gz_if (gz_call _ _ _ _) (gz_call _ _ _ _))
theorem gZ_inWord_26 (β : Nat) (σ : zS) (x0 : Int) : gz (fun rec => kZ_inWord_26 rec β σ x0) := by
  unfold kZ_inWord_26
  exact (gz_call _ _ _ _)
theorem gZ_inWord_31 (β : Nat) (σ : zS) (x0 x1 : Int) : gz (fun rec => kZ_inWord_31 rec β σ x0 x1) := by
  unfold kZ_inWord_31
  exact (gz_if (gz_const _) (gz_const _))
theorem gZ_sign (β : Nat) (σ : zS) (x0 : Int) : gz (fun rec => kZ_sign rec β σ x0) := by
  unfold kZ_sign
  exact (gz_if (gz_let (fun _ => (gz_if (gz_if (gz_if (gz_bnd (gz_call _ _ _ _) (fun _ _ => (gz_if (gz_const _) (gz_if (gz_let (fun _ => (gz_const _))) (gz_const _))))) (gz_const _)) (gz_const _)) (gz_if (gz_const _) (gz_if (gz_const _) (gz_if (gz_const _) (gz_if (gz_const _) (gz_if (gz_const _) (gz_if (gz_const _) (gz_if (gz_if (gz_if (gz_bnd (gz_call _ _ _ _) (fun _ _ => (gz_if (gz_call _ _ _ _) (gz_if (gz_if (gz_bnd (gz_call _ _ _ _) (fun _ _ => (gz_if (gz_call _ _ _ _) (gz_if (gz_let (fun _ => (gz_const _))) (gz_const _))))) (gz_const _)) (gz_const _))))) (gz_const _)) (gz_const _)) (gz_if (gz_if (gz_if (gz_bnd (gz_call _ _ _ _) (fun _ _ => (gz_if (gz_const _) (gz_if (gz_let (fun _ => (gz_const _))) (gz_const _))))) (gz_const _)) (gz_const _)) (gz_if (gz_const _) (gz_if (gz_const _) (gz_if (gz_const _) (gz_const _))))))))))))))) (gz_const _))
theorem gZ_sign_210 (β : Nat) (σ : zS) (x0 : Int) : gz (fun rec => kZ_sign_210 rec β σ x0) := by
  unfold kZ_sign_210
  exact (gz_const _)
theorem gZ_at (β : Nat) (σ : zS) (x0 x1 : Int) : gz (fun rec => kZ_at rec β σ x0 x1) := by
  unfold kZ_at
  exact (gz_if (gz_call _ _ _ _) (gz_if (gz_if (gz_call _ _ _ _) (gz_call _ _ _ _)) (gz_const _)))
theorem gZ_at_22 (β : Nat) (σ : zS) (x0 x1 : Int) : gz (fun rec => kZ_at_22 rec β σ x0 x1) := by
  unfold kZ_at_22
  exact (gz_call _ _ _ _)
theorem gZ_at_23 (β : Nat) (σ : zS) (x0 x1 x2 : Int) : gz (fun rec => kZ_at_23 rec β σ x0 x1 x2) := by
  unfold kZ_at_23
  exact (gz_if (gz_const _) (gz_const _))
theorem gZ_take (β : Nat) (σ : zS) : gz (fun rec => kZ_take rec β σ) := by
  unfold kZ_take
  exact (gz_if (gz_bnd (gz_call _ _ _ _) (fun _ _ => (gz_let (fun _ => (gz_let (fun _ => (gz_const _))))))) (gz_const _))
theorem gZ_node (β : Nat) (σ : zS) (x0 x1 x2 x3 : Int) : gz (fun rec => kZ_node rec β σ x0 x1 x2 x3) := by
  unfold kZ_node
  exact (gz_if (gz_let (fun _ => (gz_if (gz_let (fun _ => (gz_if (gz_let (fun _ => (gz_if (gz_let (fun _ => (gz_if (gz_let (fun _ => (gz_const _))) (gz_const _)))) (gz_const _)))) (gz_const _)))) (gz_const _)))) (gz_const _))
theorem gZ_isBinder (β : Nat) (σ : zS) (x0 : Int) : gz (fun rec => kZ_isBinder rec β σ x0) := by
  unfold kZ_isBinder
  exact (gz_if (gz_if (gz_if (gz_call _ _ _ _) (gz_const _)) (gz_const _)) (gz_const _))
theorem gZ_isBinder_22 (β : Nat) (σ : zS) (x0 x1 : Int) : gz (fun rec => kZ_isBinder_22 rec β σ x0 x1) := by
  unfold kZ_isBinder_22
  exact (gz_if (gz_if (gz_const _) (gz_if (gz_if (gz_if (gz_if (gz_if (gz_if (gz_call _ _ _ _) (gz_const _)) (gz_const _)) (gz_const _)) (gz_const _)) (gz_const _)) (gz_const _))) (gz_const _))
theorem gZ_term (β : Nat) (σ : zS) (x0 x1 : Int) : gz (fun rec => kZ_term rec β σ x0 x1) := by
  unfold kZ_term
  exact (gz_if (gz_let (fun _ => (gz_if (gz_let (fun _ => (gz_if (gz_let (fun _ => (gz_if (gz_let (fun _ => (gz_const _))) (gz_const _)))) (gz_const _)))) (gz_const _)))) (gz_const _))
theorem gZ_length (β : Nat) (σ : zS) (x0 : Int) : gz (fun rec => kZ_length rec β σ x0) := by
  unfold kZ_length
  exact (gz_call _ _ _ _)
theorem gZ_length_4 (β : Nat) (σ : zS) (x0 x1 x2 : Int) : gz (fun rec => kZ_length_4 rec β σ x0 x1 x2) := by
  unfold kZ_length_4
  exact (gz_if (gz_const _) (gz_if (gz_if (gz_call _ _ _ _) (gz_const _)) (gz_const _)))
theorem gZ_termOf (β : Nat) (σ : zS) (x0 x1 : Int) : gz (fun rec => kZ_termOf rec β σ x0 x1) := by
  unfold kZ_termOf
  exact (gz_if (gz_let (fun _ => (gz_if (gz_let (fun _ => (gz_if (gz_let (fun _ => (gz_let (fun _ => (gz_const _))))) (gz_const _)))) (gz_const _)))) (gz_const _))
theorem gZ_joined1 (β : Nat) (σ : zS) (x0 x1 x2 : Int) : gz (fun rec => kZ_joined1 rec β σ x0 x1 x2) := by
  unfold kZ_joined1
  exact (gz_if (gz_if (gz_if (gz_if (gz_bnd (gz_call _ _ _ _) (fun _ _ => (gz_const _))) (gz_const _)) (gz_const _)) (gz_const _)) (gz_const _))
theorem gZ_mark (β : Nat) (σ : zS) (x0 x1 x2 : Int) : gz (fun rec => kZ_mark rec β σ x0 x1 x2) := by
  unfold kZ_mark
  exact (gz_if (gz_if (gz_if (gz_call _ _ _ _) (gz_call _ _ _ _)) (gz_if (gz_call _ _ _ _) (gz_if (gz_if (gz_call _ _ _ _) (gz_call _ _ _ _)) (gz_if (gz_if (gz_bnd (gz_call _ _ _ _) (fun _ _ => (gz_if (gz_bnd (gz_call _ _ _ _) (fun _ _ => (gz_call _ _ _ _))) (gz_const _)))) (gz_const _)) (gz_if (gz_if (gz_bnd (gz_call _ _ _ _) (fun _ _ => (gz_if (gz_bnd (gz_call _ _ _ _) (fun _ _ => (gz_call _ _ _ _))) (gz_const _)))) (gz_const _)) (gz_if (gz_if (gz_call _ _ _ _) (gz_call _ _ _ _)) (gz_if (gz_bnd (gz_call _ _ _ _) (fun _ _ => (gz_if (gz_bnd (gz_call _ _ _ _) (fun _ _ => (gz_call _ _ _ _))) (gz_const _)))) (gz_const _)))))))) (gz_const _))
theorem gZ_mark_63 (β : Nat) (σ : zS) (x0 x1 x2 x3 x4 : Int) : gz (fun rec => kZ_mark_63 rec β σ x0 x1 x2 x3 x4) := by
  unfold kZ_mark_63
  exact (gz_if (gz_bnd (gz_call _ _ _ _) (fun _ _ => (gz_call _ _ _ _))) (gz_const _))
theorem gZ_mark_113 (β : Nat) (σ : zS) (x0 x1 x2 x3 x4 : Int) : gz (fun rec => kZ_mark_113 rec β σ x0 x1 x2 x3 x4) := by
  unfold kZ_mark_113
  exact (gz_if (gz_bnd (gz_call _ _ _ _) (fun _ _ => (gz_if (gz_if (gz_bnd (gz_call _ _ _ _) (fun _ _ => (gz_call _ _ _ _))) (gz_const _)) (gz_const _)))) (gz_const _))
theorem gZ_mark_175 (β : Nat) (σ : zS) (x0 x1 x2 x3 x4 : Int) : gz (fun rec => kZ_mark_175 rec β σ x0 x1 x2 x3 x4) := by
  unfold kZ_mark_175
  exact (gz_if (gz_call _ _ _ _) (gz_call _ _ _ _))
theorem gZ_mark_184 (β : Nat) (σ : zS) (x0 x1 x2 x3 x4 : Int) : gz (fun rec => kZ_mark_184 rec β σ x0 x1 x2 x3 x4) := by
  unfold kZ_mark_184
  exact (gz_if (gz_bnd (gz_call _ _ _ _) (fun _ _ => (gz_if (gz_if (gz_if (gz_bnd (gz_call _ _ _ _) (fun _ _ => (gz_call _ _ _ _))) (gz_const _)) (gz_const _)) (gz_const _)))) (gz_const _))
theorem gZ_mark_211 (β : Nat) (σ : zS) (x0 x1 x2 : Int) : gz (fun rec => kZ_mark_211 rec β σ x0 x1 x2) := by
  unfold kZ_mark_211
  exact (gz_const _)
theorem gZ_mark2 (β : Nat) (σ : zS) (x0 x1 : Int) : gz (fun rec => kZ_mark2 rec β σ x0 x1) := by
  unfold kZ_mark2
  exact (gz_if (gz_if (gz_const _) (gz_if (gz_call _ _ _ _) (gz_if (gz_call _ _ _ _) (gz_call _ _ _ _)))) (gz_const _))
theorem gZ_mark2_32 (β : Nat) (σ : zS) (x0 x1 : Int) : gz (fun rec => kZ_mark2_32 rec β σ x0 x1) := by
  unfold kZ_mark2_32
  exact (gz_if (gz_call _ _ _ _) (gz_const _))
theorem gZ_mark2_46 (β : Nat) (σ : zS) (x0 x1 x2 : Int) : gz (fun rec => kZ_mark2_46 rec β σ x0 x1 x2) := by
  unfold kZ_mark2_46
  exact (gz_if (gz_call _ _ _ _) (gz_if (gz_bnd (gz_call _ _ _ _) (fun _ _ => (gz_call _ _ _ _))) (gz_const _)))
theorem gZ_mark2_58 (β : Nat) (σ : zS) (x0 x1 x2 : Int) : gz (fun rec => kZ_mark2_58 rec β σ x0 x1 x2) := by
  unfold kZ_mark2_58
  exact (gz_if (gz_if (gz_if (gz_bnd (gz_call _ _ _ _) (fun _ _ => (gz_if (gz_call _ _ _ _) (gz_if (gz_call _ _ _ _) (gz_if (gz_bnd (gz_call _ _ _ _) (fun _ _ => (gz_call _ _ _ _))) (gz_const _)))))) (gz_const _)) (gz_const _)) (gz_const _))
theorem gZ_mark2_102 (β : Nat) (σ : zS) (x0 x1 x2 : Int) : gz (fun rec => kZ_mark2_102 rec β σ x0 x1 x2) := by
  unfold kZ_mark2_102
  exact (gz_const _)
theorem gZ_marked (β : Nat) (σ : zS) (x0 x1 x2 : Int) : gz (fun rec => kZ_marked rec β σ x0 x1 x2) := by
  unfold kZ_marked
  exact (gz_call _ _ _ _)
theorem gZ_marked_3 (β : Nat) (σ : zS) (x0 x1 x2 x3 : Int) : gz (fun rec => kZ_marked_3 rec β σ x0 x1 x2 x3) := by
  unfold kZ_marked_3
  exact (gz_if (gz_if (gz_const _) (gz_if (gz_if (gz_if (gz_call _ _ _ _) (gz_const _)) (gz_const _)) (gz_if (gz_if (gz_if (gz_let (fun _ => (gz_call _ _ _ _))) (gz_const _)) (gz_const _)) (gz_const _)))) (gz_const _))
theorem gZ_marked_45 (β : Nat) (σ : zS) (x0 x1 x2 x3 x4 : Int) : gz (fun rec => kZ_marked_45 rec β σ x0 x1 x2 x3 x4) := by
  unfold kZ_marked_45
  exact (gz_if (gz_if (gz_let (fun _ => (gz_if (gz_call _ _ _ _) (gz_const _)))) (gz_const _)) (gz_const _))
theorem gZ_count2 (β : Nat) (σ : zS) (x0 x1 : Int) : gz (fun rec => kZ_count2 rec β σ x0 x1) := by
  unfold kZ_count2
  exact (gz_if (gz_if (gz_if (gz_bnd (gz_call _ _ _ _) (fun _ _ => (gz_const _))) (gz_const _)) (gz_if (gz_const _) (gz_if (gz_if (gz_call _ _ _ _) (gz_call _ _ _ _)) (gz_if (gz_if (gz_call _ _ _ _) (gz_call _ _ _ _)) (gz_if (gz_if (gz_call _ _ _ _) (gz_call _ _ _ _)) (gz_if (gz_if (gz_if (gz_bnd (gz_call _ _ _ _) (fun _ _ => (gz_if (gz_bnd (gz_call _ _ _ _) (fun _ _ => (gz_if (gz_if (gz_bnd (gz_call _ _ _ _) (fun _ _ => (gz_call _ _ _ _))) (gz_const _)) (gz_const _)))) (gz_const _)))) (gz_const _)) (gz_if (gz_bnd (gz_call _ _ _ _) (fun _ _ => (gz_if (gz_bnd (gz_call _ _ _ _) (fun _ _ => (gz_if (gz_if (gz_bnd (gz_call _ _ _ _) (fun _ _ => (gz_call _ _ _ _))) (gz_const _)) (gz_const _)))) (gz_const _)))) (gz_const _))) (gz_if (gz_bnd (gz_call _ _ _ _) (fun _ _ => (gz_if (gz_bnd (gz_call _ _ _ _) (fun _ _ => (gz_if (gz_call _ _ _ _) (gz_if (gz_if (gz_bnd (gz_call _ _ _ _) (fun _ _ => (gz_if (gz_bnd (gz_call _ _ _ _) (fun _ _ => (gz_if (gz_if (gz_if (gz_if (gz_if (gz_bnd (gz_call _ _ _ _) (fun _ _ => (gz_call _ _ _ _))) (gz_const _)) (gz_const _)) (gz_const _)) (gz_const _)) (gz_if (gz_if (gz_if (gz_if (gz_bnd (gz_call _ _ _ _) (fun _ _ => (gz_call _ _ _ _))) (gz_const _)) (gz_const _)) (gz_const _)) (gz_const _))))) (gz_const _)))) (gz_const _)) (gz_call _ _ _ _))))) (gz_const _)))) (gz_const _)))))))) (gz_const _))
theorem gZ_count2_62 (β : Nat) (σ : zS) (x0 x1 x2 x3 : Int) : gz (fun rec => kZ_count2_62 rec β σ x0 x1 x2 x3) := by
  unfold kZ_count2_62
  exact (gz_if (gz_bnd (gz_call _ _ _ _) (fun _ _ => (gz_const _))) (gz_const _))
theorem gZ_count2_81 (β : Nat) (σ : zS) (x0 x1 x2 : Int) : gz (fun rec => kZ_count2_81 rec β σ x0 x1 x2) := by
  unfold kZ_count2_81
  exact (gz_if (gz_if (gz_if (gz_bnd (gz_call _ _ _ _) (fun _ _ => (gz_if (gz_bnd (gz_call _ _ _ _) (fun _ _ => (gz_if (gz_if (gz_bnd (gz_call _ _ _ _) (fun _ _ => (gz_call _ _ _ _))) (gz_const _)) (gz_const _)))) (gz_const _)))) (gz_const _)) (gz_const _)) (gz_if (gz_if (gz_bnd (gz_call _ _ _ _) (fun _ _ => (gz_if (gz_bnd (gz_call _ _ _ _) (fun _ _ => (gz_if (gz_if (gz_bnd (gz_call _ _ _ _) (fun _ _ => (gz_call _ _ _ _))) (gz_const _)) (gz_const _)))) (gz_const _)))) (gz_const _)) (gz_const _)))
theorem gZ_count2_140 (β : Nat) (σ : zS) (x0 x1 x2 : Int) : gz (fun rec => kZ_count2_140 rec β σ x0 x1 x2) := by
  unfold kZ_count2_140
  exact (gz_const _)
theorem gZ_count2_200 (β : Nat) (σ : zS) (x0 x1 x2 : Int) : gz (fun rec => kZ_count2_200 rec β σ x0 x1 x2) := by
  unfold kZ_count2_200
  exact (gz_const _)
theorem gZ_count2_241 (β : Nat) (σ : zS) (x0 x1 x2 x3 : Int) : gz (fun rec => kZ_count2_241 rec β σ x0 x1 x2 x3) := by
  unfold kZ_count2_241
  exact (gz_const _)
theorem gZ_count2_304 (β : Nat) (σ : zS) (x0 x1 x2 x3 x4 x5 x6 : Int) : gz (fun rec => kZ_count2_304 rec β σ x0 x1 x2 x3 x4 x5 x6) := by
  unfold kZ_count2_304
  exact (gz_const _)
theorem gZ_capped (β : Nat) (σ : zS) (x0 : Int) : gz (fun rec => kZ_capped rec β σ x0) := by
  unfold kZ_capped
  exact (gz_const _)
theorem gZ_bind2 (β : Nat) (σ : zS) (x0 x1 : Int) : gz (fun rec => kZ_bind2 rec β σ x0 x1) := by
  unfold kZ_bind2
  exact (gz_if (gz_call _ _ _ _) (gz_call _ _ _ _))
theorem gZ_bind2_9 (β : Nat) (σ : zS) (x0 x1 x2 x3 : Int) : gz (fun rec => kZ_bind2_9 rec β σ x0 x1 x2 x3) := by
  unfold kZ_bind2_9
  exact (gz_if (gz_call _ _ _ _) (gz_if (gz_if (gz_if (gz_call _ _ _ _) (gz_const _)) (gz_const _)) (gz_const _)))
theorem gZ_bind2_40 (β : Nat) (σ : zS) (x0 x1 x2 : Int) : gz (fun rec => kZ_bind2_40 rec β σ x0 x1 x2) := by
  unfold kZ_bind2_40
  exact (gz_if (gz_call _ _ _ _) (gz_call _ _ _ _))
theorem gZ_bind2_57 (β : Nat) (σ : zS) (x0 x1 x2 x3 x4 : Int) : gz (fun rec => kZ_bind2_57 rec β σ x0 x1 x2 x3 x4) := by
  unfold kZ_bind2_57
  exact (gz_if (gz_let (fun _ => (gz_if (gz_let (fun _ => (gz_if (gz_let (fun _ => (gz_if (gz_let (fun _ => (gz_const _))) (gz_const _)))) (gz_const _)))) (gz_const _)))) (gz_const _))
theorem gZ_weightOf (β : Nat) (σ : zS) (x0 : Int) : gz (fun rec => kZ_weightOf rec β σ x0) := by
  unfold kZ_weightOf
  exact (gz_if (gz_if (gz_call _ _ _ _) (gz_call _ _ _ _)) (gz_const _))
theorem gZ_weightOf_11 (β : Nat) (σ : zS) (x0 x1 : Int) : gz (fun rec => kZ_weightOf_11 rec β σ x0 x1) := by
  unfold kZ_weightOf_11
  exact (gz_if (gz_if (gz_if (gz_if (gz_const _) (gz_if (gz_call _ _ _ _) (gz_const _))) (gz_const _)) (gz_const _)) (gz_const _))
theorem gZ_weightOf_50 (β : Nat) (σ : zS) (x0 x1 x2 : Int) : gz (fun rec => kZ_weightOf_50 rec β σ x0 x1 x2) := by
  unfold kZ_weightOf_50
  exact (gz_if (gz_const _) (gz_if (gz_bnd (gz_call _ _ _ _) (fun _ _ => (gz_if (gz_if (gz_call _ _ _ _) (gz_const _)) (gz_const _)))) (gz_const _)))
theorem gZ_built1 (β : Nat) (σ : zS) (x0 : Int) : gz (fun rec => kZ_built1 rec β σ x0) := by
  unfold kZ_built1
  exact (gz_if (gz_if (gz_if (gz_bnd (gz_call _ _ _ _) (fun _ _ => (gz_call _ _ _ _))) (gz_const _)) (gz_if (gz_if (gz_bnd (gz_call _ _ _ _) (fun _ _ => (gz_call _ _ _ _))) (gz_const _)) (gz_const _))) (gz_const _))
theorem gZ_built1_40 (β : Nat) (σ : zS) (x0 x1 : Int) : gz (fun rec => kZ_built1_40 rec β σ x0 x1) := by
  unfold kZ_built1_40
  exact (gz_const _)
theorem gZ_bound1 (β : Nat) (σ : zS) (x0 : Int) : gz (fun rec => kZ_bound1 rec β σ x0) := by
  unfold kZ_bound1
  exact (gz_if (gz_if (gz_if (gz_bnd (gz_call _ _ _ _) (fun _ _ => (gz_call _ _ _ _))) (gz_const _)) (gz_if (gz_if (gz_bnd (gz_call _ _ _ _) (fun _ _ => (gz_const _))) (gz_const _)) (gz_const _))) (gz_const _))
theorem gZ_bound1_41 (β : Nat) (σ : zS) (x0 x1 x2 x3 x4 : Int) : gz (fun rec => kZ_bound1_41 rec β σ x0 x1 x2 x3 x4) := by
  unfold kZ_bound1_41
  exact (gz_if (gz_const _) (gz_if (gz_if (gz_bnd (gz_call _ _ _ _) (fun _ _ => (gz_if (gz_if (gz_let (fun _ => (gz_call _ _ _ _))) (gz_const _)) (gz_if (gz_let (fun _ => (gz_call _ _ _ _))) (gz_const _))))) (gz_const _)) (gz_const _)))
theorem gZ_bound1_85 (β : Nat) (σ : zS) (x0 x1 x2 x3 x4 x5 : Int) : gz (fun rec => kZ_bound1_85 rec β σ x0 x1 x2 x3 x4 x5) := by
  unfold kZ_bound1_85
  exact (gz_if (gz_if (gz_if (gz_let (fun _ => (gz_if (gz_call _ _ _ _) (gz_const _)))) (gz_const _)) (gz_const _)) (gz_const _))
theorem gZ_fresh (β : Nat) (σ : zS) (x0 : Int) : gz (fun rec => kZ_fresh rec β σ x0) := by
  unfold kZ_fresh
  exact (gz_if (gz_let (fun _ => (gz_if (gz_let (fun _ => (gz_if (gz_let (fun _ => (gz_if (gz_let (fun _ => (gz_if (gz_let (fun _ => (gz_const _))) (gz_const _)))) (gz_const _)))) (gz_const _)))) (gz_const _)))) (gz_const _))
theorem gZ_built2 (β : Nat) (σ : zS) (x0 x1 : Int) : gz (fun rec => kZ_built2 rec β σ x0 x1) := by
  unfold kZ_built2
  exact (gz_if (gz_bnd (gz_call _ _ _ _) (fun _ _ => (gz_call _ _ _ _))) (gz_const _))
theorem gZ_built2_12 (β : Nat) (σ : zS) (x0 x1 x2 x3 x4 : Int) : gz (fun rec => kZ_built2_12 rec β σ x0 x1 x2 x3 x4) := by
  unfold kZ_built2_12
  exact (gz_if (gz_const _) (gz_if (gz_bnd (gz_call _ _ _ _) (fun _ _ => (gz_if (gz_if (gz_let (fun _ => (gz_call _ _ _ _))) (gz_const _)) (gz_if (gz_let (fun _ => (gz_call _ _ _ _))) (gz_const _))))) (gz_const _)))
theorem gZ_built2_50 (β : Nat) (σ : zS) (x0 x1 x2 x3 x4 x5 : Int) : gz (fun rec => kZ_built2_50 rec β σ x0 x1 x2 x3 x4 x5) := by
  unfold kZ_built2_50
  exact (gz_if (gz_if (gz_if (gz_let (fun _ => (gz_if (gz_call _ _ _ _) (gz_const _)))) (gz_const _)) (gz_const _)) (gz_const _))
theorem gZ_fits (β : Nat) (σ : zS) (x0 x1 : Int) : gz (fun rec => kZ_fits rec β σ x0 x1) := by
  unfold kZ_fits
  exact (gz_let (fun _ => (gz_call _ _ _ _)))
theorem gZ_fits_10 (β : Nat) (σ : zS) (x0 x1 x2 x3 : Int) : gz (fun rec => kZ_fits_10 rec β σ x0 x1 x2 x3) := by
  unfold kZ_fits_10
  exact (gz_if (gz_if (gz_if (gz_call _ _ _ _) (gz_if (gz_bnd (gz_call _ _ _ _) (fun _ _ => (gz_if (gz_call _ _ _ _) (gz_call _ _ _ _)))) (gz_const _))) (gz_if (gz_if (gz_if (gz_if (gz_if (gz_if (gz_bnd (gz_call _ _ _ _) (fun _ _ => (gz_if (gz_if (gz_if (gz_call _ _ _ _) (gz_const _)) (gz_const _)) (gz_const _)))) (gz_const _)) (gz_const _)) (gz_const _)) (gz_const _)) (gz_const _)) (gz_const _))) (gz_const _))
theorem gZ_fits_94 (β : Nat) (σ : zS) (x0 x1 x2 x3 : Int) : gz (fun rec => kZ_fits_94 rec β σ x0 x1 x2 x3) := by
  unfold kZ_fits_94
  exact (gz_call _ _ _ _)
theorem gZ_fits_95 (β : Nat) (σ : zS) (x0 x1 x2 x3 x4 : Int) : gz (fun rec => kZ_fits_95 rec β σ x0 x1 x2 x3 x4) := by
  unfold kZ_fits_95
  exact (gz_if (gz_const _) (gz_const _))
theorem gZ_add (β : Nat) (σ : zS) (x0 x1 x2 : Int) : gz (fun rec => kZ_add rec β σ x0 x1 x2) := by
  unfold kZ_add
  exact (gz_if (gz_let (fun _ => (gz_if (gz_let (fun _ => (gz_if (gz_let (fun _ => (gz_if (gz_if (gz_let (fun _ => (gz_const _))) (gz_const _)) (gz_const _)))) (gz_const _)))) (gz_const _)))) (gz_const _))
theorem gZ_distinct (β : Nat) (σ : zS) : gz (fun rec => kZ_distinct rec β σ) := by
  unfold kZ_distinct
  exact (gz_let (fun _ => (gz_call _ _ _ _)))
theorem gZ_distinct_7 (β : Nat) (σ : zS) (x0 : Int) : gz (fun rec => kZ_distinct_7 rec β σ x0) := by
  unfold kZ_distinct_7
  exact (gz_if (gz_const _) (gz_if (gz_if (gz_bnd (gz_call _ _ _ _) (fun _ _ => (gz_if (gz_bnd (gz_call _ _ _ _) (fun _ _ => (gz_if (gz_call _ _ _ _) (gz_const _)))) (gz_const _)))) (gz_const _)) (gz_const _)))
theorem gZ_note (β : Nat) (σ : zS) (x0 : Int) : gz (fun rec => kZ_note rec β σ x0) := by
  unfold kZ_note
  exact (gz_if (gz_if (gz_call _ _ _ _) (gz_call _ _ _ _)) (gz_const _))
theorem gZ_note_11 (β : Nat) (σ : zS) (x0 x1 : Int) : gz (fun rec => kZ_note_11 rec β σ x0 x1) := by
  unfold kZ_note_11
  exact (gz_if (gz_if (gz_let (fun _ => (gz_if (gz_if (gz_let (fun _ => (gz_const _))) (gz_const _)) (gz_const _)))) (gz_const _)) (gz_if (gz_if (gz_if (gz_const _) (gz_if (gz_call _ _ _ _) (gz_const _))) (gz_const _)) (gz_const _)))
theorem gZ_note_71 (β : Nat) (σ : zS) (x0 x1 : Int) : gz (fun rec => kZ_note_71 rec β σ x0 x1) := by
  unfold kZ_note_71
  exact (gz_if (gz_const _) (gz_if (gz_bnd (gz_call _ _ _ _) (fun _ _ => (gz_if (gz_call _ _ _ _) (gz_const _)))) (gz_const _)))
theorem gZ_copy (β : Nat) (σ : zS) (x0 : Int) : gz (fun rec => kZ_copy rec β σ x0) := by
  unfold kZ_copy
  exact (gz_if (gz_if (gz_bnd (gz_call _ _ _ _) (fun _ _ => (gz_call _ _ _ _))) (gz_const _)) (gz_const _))
theorem gZ_copy_21 (β : Nat) (σ : zS) (x0 x1 x2 x3 : Int) : gz (fun rec => kZ_copy_21 rec β σ x0 x1 x2 x3) := by
  unfold kZ_copy_21
  exact (gz_if (gz_const _) (gz_if (gz_bnd (gz_call _ _ _ _) (fun _ _ => (gz_if (gz_if (gz_let (fun _ => (gz_call _ _ _ _))) (gz_const _)) (gz_if (gz_let (fun _ => (gz_call _ _ _ _))) (gz_const _))))) (gz_const _)))
theorem gZ_copy_57 (β : Nat) (σ : zS) (x0 x1 x2 x3 x4 : Int) : gz (fun rec => kZ_copy_57 rec β σ x0 x1 x2 x3 x4) := by
  unfold kZ_copy_57
  exact (gz_if (gz_if (gz_if (gz_let (fun _ => (gz_if (gz_call _ _ _ _) (gz_const _)))) (gz_const _)) (gz_const _)) (gz_const _))
theorem gZ_reduce (β : Nat) (σ : zS) : gz (fun rec => kZ_reduce rec β σ) := by
  unfold kZ_reduce
  exact (gz_call _ _ _ _)
theorem gZ_reduce_4 (β : Nat) (σ : zS) (x0 x1 : Int) : gz (fun rec => kZ_reduce_4 rec β σ x0 x1) := by
  unfold kZ_reduce_4
  exact (gz_if (gz_let (fun _ => (gz_let (fun _ => (gz_call _ _ _ _))))) (gz_if (gz_if (gz_if (gz_bnd (gz_call _ _ _ _) (fun _ _ => (gz_if (gz_call _ _ _ _) (gz_call _ _ _ _)))) (gz_const _)) (gz_call _ _ _ _)) (gz_const _)))
theorem gZ_reduce_43 (β : Nat) (σ : zS) (x0 x1 : Int) : gz (fun rec => kZ_reduce_43 rec β σ x0 x1) := by
  unfold kZ_reduce_43
  exact (gz_if (gz_if (gz_let (fun _ => (gz_let (fun _ => (gz_if (gz_let (fun _ => (gz_call _ _ _ _))) (gz_const _)))))) (gz_const _)) (gz_const _))
theorem gZ_reduce_84 (β : Nat) (σ : zS) (x0 x1 x2 x3 : Int) : gz (fun rec => kZ_reduce_84 rec β σ x0 x1 x2 x3) := by
  unfold kZ_reduce_84
  exact (gz_if (gz_if (gz_if (gz_call _ _ _ _) (gz_const _)) (gz_call _ _ _ _)) (gz_if (gz_if (gz_bnd (gz_call _ _ _ _) (fun _ _ => (gz_if (gz_call _ _ _ _) (gz_call _ _ _ _)))) (gz_const _)) (gz_call _ _ _ _)))
theorem gZ_reduce_104 (β : Nat) (σ : zS) (x0 x1 x2 x3 : Int) : gz (fun rec => kZ_reduce_104 rec β σ x0 x1 x2 x3) := by
  unfold kZ_reduce_104
  exact (gz_call _ _ _ _)
theorem gZ_reduce_109 (β : Nat) (σ : zS) (x0 x1 x2 x3 x4 : Int) : gz (fun rec => kZ_reduce_109 rec β σ x0 x1 x2 x3 x4) := by
  unfold kZ_reduce_109
  exact (gz_if (gz_call _ _ _ _) (gz_const _))
theorem gZ_reduce_123 (β : Nat) (σ : zS) (x0 x1 : Int) : gz (fun rec => kZ_reduce_123 rec β σ x0 x1) := by
  unfold kZ_reduce_123
  exact (gz_if (gz_call _ _ _ _) (gz_const _))
theorem gZ_reduce_141 (β : Nat) (σ : zS) (x0 x1 : Int) : gz (fun rec => kZ_reduce_141 rec β σ x0 x1) := by
  unfold kZ_reduce_141
  exact (gz_if (gz_const _) (gz_if (gz_if (gz_bnd (gz_call _ _ _ _) (fun _ _ => (gz_if (gz_bnd (gz_call _ _ _ _) (fun _ _ => (gz_if (gz_call _ _ _ _) (gz_const _)))) (gz_const _)))) (gz_const _)) (gz_const _)))
theorem gZ_same (β : Nat) (σ : zS) (x0 x1 : Int) : gz (fun rec => kZ_same rec β σ x0 x1) := by
  unfold kZ_same
  exact (gz_if (gz_if (gz_if (gz_if (gz_call _ _ _ _) (gz_call _ _ _ _)) (gz_call _ _ _ _)) (gz_const _)) (gz_const _))
theorem gZ_same_30 (β : Nat) (σ : zS) (x0 x1 : Int) : gz (fun rec => kZ_same_30 rec β σ x0 x1) := by
  unfold kZ_same_30
  exact (gz_const _)
theorem gZ_same_47 (β : Nat) (σ : zS) (x0 x1 x2 x3 : Int) : gz (fun rec => kZ_same_47 rec β σ x0 x1 x2 x3) := by
  unfold kZ_same_47
  exact (gz_if (gz_const _) (gz_if (gz_bnd (gz_call _ _ _ _) (fun _ _ => (gz_if (gz_const _) (gz_if (gz_if (gz_call _ _ _ _) (gz_const _)) (gz_const _))))) (gz_const _)))
theorem gZ_sameLiteral (β : Nat) (σ : zS) (x0 x1 : Int) : gz (fun rec => kZ_sameLiteral rec β σ x0 x1) := by
  unfold kZ_sameLiteral
  exact (gz_if (gz_if (gz_if (gz_if (gz_bnd (gz_call _ _ _ _) (fun _ _ => (gz_if (gz_call _ _ _ _) (gz_call _ _ _ _)))) (gz_const _)) (gz_call _ _ _ _)) (gz_const _)) (gz_const _))
theorem gZ_sameLiteral_28 (β : Nat) (σ : zS) (x0 x1 : Int) : gz (fun rec => kZ_sameLiteral_28 rec β σ x0 x1) := by
  unfold kZ_sameLiteral_28
  exact (gz_call _ _ _ _)
theorem gZ_sameLiteral_29 (β : Nat) (σ : zS) (x0 x1 x2 : Int) : gz (fun rec => kZ_sameLiteral_29 rec β σ x0 x1 x2) := by
  unfold kZ_sameLiteral_29
  exact (gz_if (gz_const _) (gz_const _))
theorem gZ_alike (β : Nat) (σ : zS) (x0 x1 : Int) : gz (fun rec => kZ_alike rec β σ x0 x1) := by
  unfold kZ_alike
  exact (gz_if (gz_if (gz_if (gz_bnd (gz_call _ _ _ _) (fun _ _ => (gz_if (gz_call _ _ _ _) (gz_if (gz_bnd (gz_call _ _ _ _) (fun _ _ => (gz_if (gz_call _ _ _ _) (gz_call _ _ _ _)))) (gz_const _))))) (gz_const _)) (gz_const _)) (gz_const _))
theorem gZ_alike_38 (β : Nat) (σ : zS) (x0 x1 : Int) : gz (fun rec => kZ_alike_38 rec β σ x0 x1) := by
  unfold kZ_alike_38
  exact (gz_if (gz_if (gz_if (gz_bnd (gz_call _ _ _ _) (fun _ _ => (gz_if (gz_call _ _ _ _) (gz_if (gz_bnd (gz_call _ _ _ _) (fun _ _ => (gz_if (gz_call _ _ _ _) (gz_call _ _ _ _)))) (gz_const _))))) (gz_const _)) (gz_const _)) (gz_const _))
theorem gZ_alike_76 (β : Nat) (σ : zS) (x0 x1 : Int) : gz (fun rec => kZ_alike_76 rec β σ x0 x1) := by
  unfold kZ_alike_76
  exact (gz_call _ _ _ _)
theorem gZ_alike_80 (β : Nat) (σ : zS) (x0 x1 : Int) : gz (fun rec => kZ_alike_80 rec β σ x0 x1) := by
  unfold kZ_alike_80
  exact (gz_call _ _ _ _)
theorem gZ_alike_81 (β : Nat) (σ : zS) (x0 x1 x2 : Int) : gz (fun rec => kZ_alike_81 rec β σ x0 x1 x2) := by
  unfold kZ_alike_81
  exact (gz_if (gz_const _) (gz_const _))
theorem gZ_number (β : Nat) (σ : zS) (x0 : Int) : gz (fun rec => kZ_number rec β σ x0) := by
  unfold kZ_number
  exact (gz_if (gz_if (gz_call _ _ _ _) (gz_call _ _ _ _)) (gz_const _))
theorem gZ_number_11 (β : Nat) (σ : zS) (x0 x1 : Int) : gz (fun rec => kZ_number_11 rec β σ x0 x1) := by
  unfold kZ_number_11
  exact (gz_if (gz_call _ _ _ _) (gz_if (gz_if (gz_if (gz_call _ _ _ _) (gz_if (gz_call _ _ _ _) (gz_const _))) (gz_const _)) (gz_const _)))
theorem gZ_number_40 (β : Nat) (σ : zS) (x0 x1 : Int) : gz (fun rec => kZ_number_40 rec β σ x0 x1) := by
  unfold kZ_number_40
  exact (gz_if (gz_if (gz_let (fun _ => (gz_if (gz_if (gz_let (fun _ => (gz_call _ _ _ _))) (gz_const _)) (gz_const _)))) (gz_const _)) (gz_call _ _ _ _))
theorem gZ_number_70 (β : Nat) (σ : zS) (x0 x1 : Int) : gz (fun rec => kZ_number_70 rec β σ x0 x1) := by
  unfold kZ_number_70
  exact (gz_if (gz_if (gz_let (fun _ => (gz_const _))) (gz_const _)) (gz_const _))
theorem gZ_number_87 (β : Nat) (σ : zS) (x0 x1 : Int) : gz (fun rec => kZ_number_87 rec β σ x0 x1) := by
  unfold kZ_number_87
  exact (gz_if (gz_const _) (gz_if (gz_bnd (gz_call _ _ _ _) (fun _ _ => (gz_if (gz_call _ _ _ _) (gz_const _)))) (gz_const _)))
theorem gZ_tautology (β : Nat) (σ : zS) : gz (fun rec => kZ_tautology rec β σ) := by
  unfold kZ_tautology
  exact (gz_call _ _ _ _)
theorem gZ_tautology_2 (β : Nat) (σ : zS) (x0 : Int) : gz (fun rec => kZ_tautology_2 rec β σ x0) := by
  unfold kZ_tautology_2
  exact (gz_if (gz_const _) (gz_if (gz_if (gz_call _ _ _ _) (gz_if (gz_bnd (gz_call _ _ _ _) (fun _ _ => (gz_if (gz_call _ _ _ _) (gz_const _)))) (gz_const _))) (gz_const _)))
theorem gZ_tautology_45 (β : Nat) (σ : zS) (x0 x1 : Int) : gz (fun rec => kZ_tautology_45 rec β σ x0 x1) := by
  unfold kZ_tautology_45
  exact (gz_if (gz_call _ _ _ _) (gz_if (gz_if (gz_if (gz_bnd (gz_call _ _ _ _) (fun _ _ => (gz_if (gz_call _ _ _ _) (gz_const _)))) (gz_const _)) (gz_call _ _ _ _)) (gz_const _)))
theorem gZ_tautology_73 (β : Nat) (σ : zS) (x0 x1 : Int) : gz (fun rec => kZ_tautology_73 rec β σ x0 x1) := by
  unfold kZ_tautology_73
  exact (gz_if (gz_call _ _ _ _) (gz_const _))
theorem gZ_tautology_79 (β : Nat) (σ : zS) (x0 : Int) : gz (fun rec => kZ_tautology_79 rec β σ x0) := by
  unfold kZ_tautology_79
  exact (gz_if (gz_call _ _ _ _) (gz_const _))
theorem gZ_keep (β : Nat) (σ : zS) (x0 x1 x2 : Int) : gz (fun rec => kZ_keep rec β σ x0 x1 x2) := by
  unfold kZ_keep
  exact (gz_if (gz_let (fun _ => (gz_const _))) (gz_if (gz_let (fun _ => (gz_let (fun _ => (gz_let (fun _ => (gz_let (fun _ => (gz_let (fun _ => (gz_let (fun _ => (gz_let (fun _ => (gz_let (fun _ => (gz_let (fun _ => (gz_let (fun _ => (gz_let (fun _ => (gz_call _ _ _ _))))))))))))))))))))))) (gz_const _)))
theorem gZ_keep_126 (β : Nat) (σ : zS) (x0 x1 x2 x3 x4 : Int) : gz (fun rec => kZ_keep_126 rec β σ x0 x1 x2 x3 x4) := by
  unfold kZ_keep_126
  exact (gz_if (gz_let (fun _ => (gz_if (gz_let (fun _ => (gz_if (gz_bnd (gz_call _ _ _ _) (fun _ _ => (gz_const _))) (gz_const _)))) (gz_const _)))) (gz_if (gz_if (gz_bnd (gz_call _ _ _ _) (fun _ _ => (gz_if (gz_let (fun _ => (gz_if (gz_bnd (gz_call _ _ _ _) (fun _ _ => (gz_if (gz_let (fun _ => (gz_if (gz_if (gz_let (fun _ => (gz_if (gz_if (gz_if (gz_if (gz_let (fun _ => (gz_if (gz_if (gz_let (fun _ => (gz_if (gz_if (gz_let (fun _ => (gz_if (gz_call _ _ _ _) (gz_const _)))) (gz_const _)) (gz_const _)))) (gz_const _)) (gz_const _)))) (gz_const _)) (gz_const _)) (gz_const _)) (gz_const _)))) (gz_const _)) (gz_const _)))) (gz_const _)))) (gz_const _)))) (gz_const _)))) (gz_const _)) (gz_const _)))
theorem gZ_looked (β : Nat) (σ : zS) (x0 : Int) : gz (fun rec => kZ_looked rec β σ x0) := by
  unfold kZ_looked
  exact (gz_if (gz_if (gz_call _ _ _ _) (gz_const _)) (gz_const _))
theorem gZ_looked_22 (β : Nat) (σ : zS) (x0 x1 x2 x3 x4 : Int) : gz (fun rec => kZ_looked_22 rec β σ x0 x1 x2 x3 x4) := by
  unfold kZ_looked_22
  exact (gz_if (gz_call _ _ _ _) (gz_if (gz_if (gz_bnd (gz_call _ _ _ _) (fun _ _ => (gz_if (gz_if (gz_bnd (gz_call _ _ _ _) (fun _ _ => (gz_if (gz_call _ _ _ _) (gz_call _ _ _ _)))) (gz_const _)) (gz_call _ _ _ _)))) (gz_const _)) (gz_const _)))
theorem gZ_looked_85 (β : Nat) (σ : zS) (x0 x1 x2 x3 x4 x5 x6 : Int) : gz (fun rec => kZ_looked_85 rec β σ x0 x1 x2 x3 x4 x5 x6) := by
  unfold kZ_looked_85
  exact (gz_if (gz_let (fun _ => (gz_if (gz_if (gz_if (gz_call _ _ _ _) (gz_if (gz_if (gz_call _ _ _ _) (gz_call _ _ _ _)) (gz_const _))) (gz_call _ _ _ _)) (gz_const _)))) (gz_const _))
theorem gZ_looked_118 (β : Nat) (σ : zS) (x0 x1 x2 x3 x4 : Int) : gz (fun rec => kZ_looked_118 rec β σ x0 x1 x2 x3 x4) := by
  unfold kZ_looked_118
  exact (gz_call _ _ _ _)
theorem gZ_looked_122 (β : Nat) (σ : zS) (x0 x1 x2 x3 x4 : Int) : gz (fun rec => kZ_looked_122 rec β σ x0 x1 x2 x3 x4) := by
  unfold kZ_looked_122
  exact (gz_if (gz_call _ _ _ _) (gz_const _))
theorem gZ_looked_131 (β : Nat) (σ : zS) (x0 x1 x2 x3 x4 : Int) : gz (fun rec => kZ_looked_131 rec β σ x0 x1 x2 x3 x4) := by
  unfold kZ_looked_131
  exact (gz_if (gz_const _) (gz_if (gz_call _ _ _ _) (gz_if (gz_call _ _ _ _) (gz_call _ _ _ _))))
theorem gZ_looked_155 (β : Nat) (σ : zS) (x0 x1 x2 x3 x4 x5 : Int) : gz (fun rec => kZ_looked_155 rec β σ x0 x1 x2 x3 x4 x5) := by
  unfold kZ_looked_155
  exact (gz_call _ _ _ _)
theorem gZ_looked_160 (β : Nat) (σ : zS) (x0 x1 x2 x3 x4 x5 x6 : Int) : gz (fun rec => kZ_looked_160 rec β σ x0 x1 x2 x3 x4 x5 x6) := by
  unfold kZ_looked_160
  exact (gz_if (gz_if (gz_let (fun _ => (gz_call _ _ _ _))) (gz_const _)) (gz_const _))
theorem gZ_looked_164 (β : Nat) (σ : zS) (x0 x1 x2 x3 x4 x5 : Int) : gz (fun rec => kZ_looked_164 rec β σ x0 x1 x2 x3 x4 x5) := by
  unfold kZ_looked_164
  exact (gz_if (gz_call _ _ _ _) (gz_if (gz_call _ _ _ _) (gz_if (gz_call _ _ _ _) (gz_if (gz_bnd (gz_call _ _ _ _) (fun _ _ => (gz_if (gz_call _ _ _ _) (gz_if (gz_let (fun _ => (gz_call _ _ _ _))) (gz_const _))))) (gz_const _)))))
theorem gZ_looked_201 (β : Nat) (σ : zS) (x0 x1 x2 x3 x4 x5 : Int) : gz (fun rec => kZ_looked_201 rec β σ x0 x1 x2 x3 x4 x5) := by
  unfold kZ_looked_201
  exact (gz_if (gz_call _ _ _ _) (gz_const _))
theorem gZ_looked_207 (β : Nat) (σ : zS) (x0 x1 x2 x3 x4 x5 : Int) : gz (fun rec => kZ_looked_207 rec β σ x0 x1 x2 x3 x4 x5) := by
  unfold kZ_looked_207
  exact (gz_if (gz_call _ _ _ _) (gz_const _))
theorem gZ_greater (β : Nat) (σ : zS) (x0 x1 : Int) : gz (fun rec => kZ_greater rec β σ x0 x1) := by
  unfold kZ_greater
  exact (gz_if (gz_if (gz_let (fun _ => (gz_if (gz_bnd (gz_call _ _ _ _) (fun _ _ => (gz_if (gz_bnd (gz_call _ _ _ _) (fun _ _ => (gz_call _ _ _ _))) (gz_const _)))) (gz_const _)))) (gz_const _)) (gz_const _))
theorem gZ_greater_33 (β : Nat) (σ : zS) (x0 x1 x2 : Int) : gz (fun rec => kZ_greater_33 rec β σ x0 x1 x2) := by
  unfold kZ_greater_33
  exact (gz_if (gz_if (gz_bnd (gz_call _ _ _ _) (fun _ _ => (gz_if (gz_const _) (gz_const _)))) (gz_const _)) (gz_if (gz_if (gz_if (gz_call _ _ _ _) (gz_const _)) (gz_const _)) (gz_const _)))
theorem gZ_times (β : Nat) (σ : zS) (x0 x1 : Int) : gz (fun rec => kZ_times rec β σ x0 x1) := by
  unfold kZ_times
  exact (gz_if (gz_if (gz_call _ _ _ _) (gz_if (gz_if (gz_if (gz_let (fun _ => (gz_const _))) (gz_const _)) (gz_const _)) (gz_const _))) (gz_const _))
theorem gZ_times_34 (β : Nat) (σ : zS) (x0 x1 x2 : Int) : gz (fun rec => kZ_times_34 rec β σ x0 x1 x2) := by
  unfold kZ_times_34
  exact (gz_if (gz_const _) (gz_if (gz_bnd (gz_call _ _ _ _) (fun _ _ => (gz_if (gz_call _ _ _ _) (gz_const _)))) (gz_const _)))
theorem gZ_above (β : Nat) (σ : zS) (x0 x1 : Int) : gz (fun rec => kZ_above rec β σ x0 x1) := by
  unfold kZ_above
  exact (gz_if (gz_if (gz_if (gz_if (gz_if (gz_call _ _ _ _) (gz_if (gz_call _ _ _ _) (gz_call _ _ _ _))) (gz_const _)) (gz_if (gz_call _ _ _ _) (gz_call _ _ _ _))) (gz_const _)) (gz_const _))
theorem gZ_above_35 (β : Nat) (σ : zS) (x0 x1 x2 : Int) : gz (fun rec => kZ_above_35 rec β σ x0 x1 x2) := by
  unfold kZ_above_35
  exact (gz_if (gz_const _) (gz_const _))
theorem gZ_above_82 (β : Nat) (σ : zS) (x0 x1 x2 : Int) : gz (fun rec => kZ_above_82 rec β σ x0 x1 x2) := by
  unfold kZ_above_82
  exact (gz_if (gz_const _) (gz_const _))
theorem gZ_above_98 (β : Nat) (σ : zS) (x0 x1 x2 x3 : Int) : gz (fun rec => kZ_above_98 rec β σ x0 x1 x2 x3) := by
  unfold kZ_above_98
  exact (gz_if (gz_const _) (gz_if (gz_bnd (gz_call _ _ _ _) (fun _ _ => (gz_if (gz_if (gz_bnd (gz_call _ _ _ _) (fun _ _ => (gz_if (gz_const _) (gz_const _)))) (gz_const _)) (gz_if (gz_if (gz_call _ _ _ _) (gz_const _)) (gz_const _))))) (gz_const _)))
theorem gZ_greaterLiteral (β : Nat) (σ : zS) (x0 x1 : Int) : gz (fun rec => kZ_greaterLiteral rec β σ x0 x1) := by
  unfold kZ_greaterLiteral
  exact (gz_if (gz_bnd (gz_call _ _ _ _) (fun _ _ => (gz_if (gz_bnd (gz_call _ _ _ _) (fun _ _ => (gz_call _ _ _ _))) (gz_const _)))) (gz_const _))
theorem gZ_greaterLiteral_24 (β : Nat) (σ : zS) (x0 x1 x2 x3 x4 : Int) : gz (fun rec => kZ_greaterLiteral_24 rec β σ x0 x1 x2 x3 x4) := by
  unfold kZ_greaterLiteral_24
  exact (gz_if (gz_call _ _ _ _) (gz_call _ _ _ _))
theorem gZ_greaterLiteral_33 (β : Nat) (σ : zS) (x0 x1 x2 x3 x4 x5 : Int) : gz (fun rec => kZ_greaterLiteral_33 rec β σ x0 x1 x2 x3 x4 x5) := by
  unfold kZ_greaterLiteral_33
  exact (gz_if (gz_if (gz_call _ _ _ _) (gz_const _)) (gz_if (gz_if (gz_call _ _ _ _) (gz_if (gz_if (gz_call _ _ _ _) (gz_if (gz_bnd (gz_call _ _ _ _) (fun _ _ => (gz_if (gz_call _ _ _ _) (gz_let (fun _ => (gz_let (fun _ => (gz_call _ _ _ _)))))))) (gz_const _))) (gz_const _))) (gz_const _)))
theorem gZ_greaterLiteral_100 (β : Nat) (σ : zS) (x0 x1 x2 x3 x4 x5 : Int) : gz (fun rec => kZ_greaterLiteral_100 rec β σ x0 x1 x2 x3 x4 x5) := by
  unfold kZ_greaterLiteral_100
  exact (gz_if (gz_call _ _ _ _) (gz_const _))
theorem gZ_greaterLiteral_118 (β : Nat) (σ : zS) (x0 x1 x2 x3 x4 x5 : Int) : gz (fun rec => kZ_greaterLiteral_118 rec β σ x0 x1 x2 x3 x4 x5) := by
  unfold kZ_greaterLiteral_118
  exact (gz_if (gz_if (gz_const _) (gz_call _ _ _ _)) (gz_if (gz_if (gz_if (gz_call _ _ _ _) (gz_call _ _ _ _)) (gz_const _)) (gz_call _ _ _ _)))
theorem gZ_greaterLiteral_139 (β : Nat) (σ : zS) (x0 x1 x2 x3 x4 x5 : Int) : gz (fun rec => kZ_greaterLiteral_139 rec β σ x0 x1 x2 x3 x4 x5) := by
  unfold kZ_greaterLiteral_139
  exact (gz_call _ _ _ _)
theorem gZ_greaterLiteral_144 (β : Nat) (σ : zS) (x0 x1 x2 x3 x4 x5 x6 : Int) : gz (fun rec => kZ_greaterLiteral_144 rec β σ x0 x1 x2 x3 x4 x5 x6) := by
  unfold kZ_greaterLiteral_144
  exact (gz_if (gz_call _ _ _ _) (gz_const _))
theorem gZ_greaterLiteral_162 (β : Nat) (σ : zS) (x0 x1 x2 x3 x4 x5 : Int) : gz (fun rec => kZ_greaterLiteral_162 rec β σ x0 x1 x2 x3 x4 x5) := by
  unfold kZ_greaterLiteral_162
  exact (gz_if (gz_const _) (gz_if (gz_if (gz_call _ _ _ _) (gz_call _ _ _ _)) (gz_const _)))
theorem gZ_greaterLiteral_188 (β : Nat) (σ : zS) (x0 x1 x2 x3 x4 x5 x6 x7 : Int) : gz (fun rec => kZ_greaterLiteral_188 rec β σ x0 x1 x2 x3 x4 x5 x6 x7) := by
  unfold kZ_greaterLiteral_188
  exact (gz_if (gz_if (gz_const _) (gz_call _ _ _ _)) (gz_if (gz_if (gz_if (gz_call _ _ _ _) (gz_if (gz_if (gz_bnd (gz_call _ _ _ _) (fun _ _ => (gz_if (gz_call _ _ _ _) (gz_call _ _ _ _)))) (gz_const _)) (gz_const _))) (gz_const _)) (gz_call _ _ _ _)))
theorem gZ_greaterLiteral_230 (β : Nat) (σ : zS) (x0 x1 x2 x3 x4 x5 x6 x7 : Int) : gz (fun rec => kZ_greaterLiteral_230 rec β σ x0 x1 x2 x3 x4 x5 x6 x7) := by
  unfold kZ_greaterLiteral_230
  exact (gz_call _ _ _ _)
theorem gZ_greaterLiteral_234 (β : Nat) (σ : zS) (x0 x1 x2 x3 x4 x5 x6 x7 : Int) : gz (fun rec => kZ_greaterLiteral_234 rec β σ x0 x1 x2 x3 x4 x5 x6 x7) := by
  unfold kZ_greaterLiteral_234
  exact (gz_call _ _ _ _)
theorem gZ_greaterLiteral_235 (β : Nat) (σ : zS) (x0 x1 x2 x3 x4 x5 x6 x7 x8 : Int) : gz (fun rec => kZ_greaterLiteral_235 rec β σ x0 x1 x2 x3 x4 x5 x6 x7 x8) := by
  unfold kZ_greaterLiteral_235
  exact (gz_if (gz_call _ _ _ _) (gz_const _))
theorem gZ_greaterLiteral_250 (β : Nat) (σ : zS) (x0 x1 x2 x3 x4 x5 : Int) : gz (fun rec => kZ_greaterLiteral_250 rec β σ x0 x1 x2 x3 x4 x5) := by
  unfold kZ_greaterLiteral_250
  exact (gz_if (gz_call _ _ _ _) (gz_const _))
theorem gZ_fault (β : Nat) (σ : zS) (x0 : Int) : gz (fun rec => kZ_fault rec β σ x0) := by
  unfold kZ_fault
  exact (gz_let (fun _ => (gz_if (gz_call _ _ _ _) (gz_if (gz_call _ _ _ _) (gz_call _ _ _ _)))))
theorem gZ_fault_29 (β : Nat) (σ : zS) (x0 x1 : Int) : gz (fun rec => kZ_fault_29 rec β σ x0 x1) := by
  unfold kZ_fault_29
  exact (gz_const _)
theorem gZ_run (β : Nat) (σ : zS) (x0 : Int) : gz (fun rec => kZ_run rec β σ x0) := by
  unfold kZ_run
  exact (gz_let (fun _ => (gz_if (gz_call _ _ _ _) (gz_if (gz_call _ _ _ _) (gz_call _ _ _ _)))))
theorem gZ_run_18 (β : Nat) (σ : zS) (x0 x1 : Int) : gz (fun rec => kZ_run_18 rec β σ x0 x1) := by
  unfold kZ_run_18
  exact (gz_call _ _ _ _)
theorem gZ_run_23 (β : Nat) (σ : zS) (x0 x1 x2 : Int) : gz (fun rec => kZ_run_23 rec β σ x0 x1 x2) := by
  unfold kZ_run_23
  exact (gz_if (gz_bnd (gz_call _ _ _ _) (fun _ _ => (gz_if (gz_call _ _ _ _) (gz_const _)))) (gz_const _))
theorem gZ_run_33 (β : Nat) (σ : zS) (x0 x1 : Int) : gz (fun rec => kZ_run_33 rec β σ x0 x1) := by
  unfold kZ_run_33
  exact (gz_if (gz_call _ _ _ _) (gz_if (gz_if (gz_bnd (gz_call _ _ _ _) (fun _ _ => (gz_if (gz_call _ _ _ _) (gz_const _)))) (gz_const _)) (gz_call _ _ _ _)))
theorem gZ_run_55 (β : Nat) (σ : zS) (x0 x1 : Int) : gz (fun rec => kZ_run_55 rec β σ x0 x1) := by
  unfold kZ_run_55
  exact (gz_const _)
theorem gZ_step1 (β : Nat) (σ : zS) : gz (fun rec => kZ_step1 rec β σ) := by
  unfold kZ_step1
  exact (gz_if (gz_bnd (gz_call _ _ _ _) (fun _ _ => (gz_if (gz_let (fun _ => (gz_if (gz_let (fun _ => (gz_if (gz_if (gz_bnd (gz_call _ _ _ _) (fun _ _ => (gz_const _))) (gz_const _)) (gz_if (gz_bnd (gz_call _ _ _ _) (fun _ _ => (gz_if (gz_call _ _ _ _) (gz_let (fun _ => (gz_if (gz_bnd (gz_call _ _ _ _) (fun _ _ => (gz_if (gz_bnd (gz_call _ _ _ _) (fun _ _ => (gz_if (gz_if (gz_bnd (gz_call _ _ _ _) (fun _ _ => (gz_if (gz_const _) (gz_if (gz_if (gz_let (fun _ => (gz_let (fun _ => (gz_let (fun _ => (gz_call _ _ _ _))))))) (gz_const _)) (gz_const _))))) (gz_const _)) (gz_let (fun _ => (gz_const _)))))) (gz_const _)))) (gz_const _))))))) (gz_const _))))) (gz_const _)))) (gz_let (fun _ => (gz_const _)))))) (gz_const _))
theorem gZ_step1_139 (β : Nat) (σ : zS) (x0 x1 x2 x3 : Int) : gz (fun rec => kZ_step1_139 rec β σ x0 x1 x2 x3) := by
  unfold kZ_step1_139
  exact (gz_if (gz_if (gz_if (gz_if (gz_bnd (gz_call _ _ _ _) (fun _ _ => (gz_const _))) (gz_const _)) (gz_call _ _ _ _)) (gz_const _)) (gz_if (gz_let (fun _ => (gz_if (gz_if (gz_let (fun _ => (gz_if (gz_call _ _ _ _) (gz_const _)))) (gz_const _)) (gz_const _)))) (gz_const _)))
theorem gZ_step1_192 (β : Nat) (σ : zS) (x0 x1 : Int) : gz (fun rec => kZ_step1_192 rec β σ x0 x1) := by
  unfold kZ_step1_192
  exact (gz_call _ _ _ _)
theorem gZ_step1_194 (β : Nat) (σ : zS) (x0 x1 x2 : Int) : gz (fun rec => kZ_step1_194 rec β σ x0 x1 x2) := by
  unfold kZ_step1_194
  exact (gz_if (gz_if (gz_bnd (gz_call _ _ _ _) (fun _ _ => (gz_const _))) (gz_const _)) (gz_if (gz_if (gz_if (gz_bnd (gz_call _ _ _ _) (fun _ _ => (gz_if (gz_call _ _ _ _) (gz_let (fun _ => (gz_const _)))))) (gz_const _)) (gz_call _ _ _ _)) (gz_const _)))
theorem gZ_step1_235 (β : Nat) (σ : zS) (x0 x1 x2 : Int) : gz (fun rec => kZ_step1_235 rec β σ x0 x1 x2) := by
  unfold kZ_step1_235
  exact (gz_if (gz_call _ _ _ _) (gz_const _))
theorem gZ_given (β : Nat) (σ : zS) : gz (fun rec => kZ_given rec β σ) := by
  unfold kZ_given
  exact (gz_if (gz_call _ _ _ _) (gz_call _ _ _ _))
theorem gZ_given_18 (β : Nat) (σ : zS) (x0 x1 : Int) : gz (fun rec => kZ_given_18 rec β σ x0 x1) := by
  unfold kZ_given_18
  exact (gz_call _ _ _ _)
theorem gZ_given_21 (β : Nat) (σ : zS) (x0 x1 x2 : Int) : gz (fun rec => kZ_given_21 rec β σ x0 x1 x2) := by
  unfold kZ_given_21
  exact (gz_if (gz_const _) (gz_if (gz_if (gz_if (gz_call _ _ _ _) (gz_if (gz_if (gz_if (gz_call _ _ _ _) (gz_call _ _ _ _)) (gz_const _)) (gz_call _ _ _ _))) (gz_call _ _ _ _)) (gz_const _)))
theorem gZ_given_64 (β : Nat) (σ : zS) (x0 x1 x2 : Int) : gz (fun rec => kZ_given_64 rec β σ x0 x1 x2) := by
  unfold kZ_given_64
  exact (gz_call _ _ _ _)
theorem gZ_given_66 (β : Nat) (σ : zS) (x0 x1 x2 : Int) : gz (fun rec => kZ_given_66 rec β σ x0 x1 x2) := by
  unfold kZ_given_66
  exact (gz_if (gz_call _ _ _ _) (gz_const _))
theorem gZ_refuted (β : Nat) (σ : zS) (x0 : Int) : gz (fun rec => kZ_refuted rec β σ x0) := by
  unfold kZ_refuted
  exact (gz_let (fun _ => (gz_let (fun _ => (gz_const _)))))
theorem gZ_rewrite (β : Nat) (σ : zS) (x0 : Int) : gz (fun rec => kZ_rewrite rec β σ x0) := by
  unfold kZ_rewrite
  exact (gz_let (fun _ => (gz_let (fun _ => (gz_let (fun _ => (gz_if (gz_call _ _ _ _) (gz_const _))))))))
theorem gZ_rewrite_24 (β : Nat) (σ : zS) (x0 x1 : Int) : gz (fun rec => kZ_rewrite_24 rec β σ x0 x1) := by
  unfold kZ_rewrite_24
  exact (gz_if (gz_if (gz_if (gz_call _ _ _ _) (gz_if (gz_if (gz_bnd (gz_call _ _ _ _) (fun _ _ => (gz_if (gz_bnd (gz_call _ _ _ _) (fun _ _ => (gz_if (gz_bnd (gz_call _ _ _ _) (fun _ _ => (gz_if (gz_call _ _ _ _) (gz_const _)))) (gz_const _)))) (gz_const _)))) (gz_const _)) (gz_const _))) (gz_const _)) (gz_const _))
theorem gZ_rewrite_81 (β : Nat) (σ : zS) (x0 x1 x2 : Int) : gz (fun rec => kZ_rewrite_81 rec β σ x0 x1 x2) := by
  unfold kZ_rewrite_81
  exact (gz_if (gz_call _ _ _ _) (gz_if (gz_call _ _ _ _) (gz_call _ _ _ _)))
theorem gZ_rewrite_96 (β : Nat) (σ : zS) (x0 x1 x2 x3 : Int) : gz (fun rec => kZ_rewrite_96 rec β σ x0 x1 x2 x3) := by
  unfold kZ_rewrite_96
  exact (gz_if (gz_call _ _ _ _) (gz_if (gz_if (gz_if (gz_bnd (gz_call _ _ _ _) (fun _ _ => (gz_if (gz_if (gz_bnd (gz_call _ _ _ _) (fun _ _ => (gz_if (gz_call _ _ _ _) (gz_if (gz_bnd (gz_call _ _ _ _) (fun _ _ => (gz_let (fun _ => (gz_call _ _ _ _))))) (gz_const _))))) (gz_const _)) (gz_if (gz_bnd (gz_call _ _ _ _) (fun _ _ => (gz_let (fun _ => (gz_call _ _ _ _))))) (gz_const _))))) (gz_const _)) (gz_const _)) (gz_call _ _ _ _)))
theorem gZ_rewrite_180 (β : Nat) (σ : zS) (x0 x1 x2 x3 : Int) : gz (fun rec => kZ_rewrite_180 rec β σ x0 x1 x2 x3) := by
  unfold kZ_rewrite_180
  exact (gz_if (gz_call _ _ _ _) (gz_const _))
theorem gZ_rewrite_186 (β : Nat) (σ : zS) (x0 x1 x2 x3 : Int) : gz (fun rec => kZ_rewrite_186 rec β σ x0 x1 x2 x3) := by
  unfold kZ_rewrite_186
  exact (gz_if (gz_call _ _ _ _) (gz_if (gz_call _ _ _ _) (gz_const _)))
theorem gZ_rewrite_202 (β : Nat) (σ : zS) (x0 x1 x2 x3 x4 : Int) : gz (fun rec => kZ_rewrite_202 rec β σ x0 x1 x2 x3 x4) := by
  unfold kZ_rewrite_202
  exact (gz_if (gz_if (gz_if (gz_let (fun _ => (gz_if (gz_let (fun _ => (gz_call _ _ _ _))) (gz_const _)))) (gz_const _)) (gz_call _ _ _ _)) (gz_if (gz_if (gz_if (gz_call _ _ _ _) (gz_call _ _ _ _)) (gz_const _)) (gz_call _ _ _ _)))
theorem gZ_rewrite_230 (β : Nat) (σ : zS) (x0 x1 x2 x3 x4 : Int) : gz (fun rec => kZ_rewrite_230 rec β σ x0 x1 x2 x3 x4) := by
  unfold kZ_rewrite_230
  exact (gz_call _ _ _ _)
theorem gZ_rewrite_235 (β : Nat) (σ : zS) (x0 x1 x2 x3 x4 x5 : Int) : gz (fun rec => kZ_rewrite_235 rec β σ x0 x1 x2 x3 x4 x5) := by
  unfold kZ_rewrite_235
  exact (gz_if (gz_call _ _ _ _) (gz_const _))
theorem gZ_rewrite_268 (β : Nat) (σ : zS) (x0 x1 x2 x3 x4 : Int) : gz (fun rec => kZ_rewrite_268 rec β σ x0 x1 x2 x3 x4) := by
  unfold kZ_rewrite_268
  exact (gz_call _ _ _ _)
theorem gZ_rewrite_271 (β : Nat) (σ : zS) (x0 x1 x2 : Int) : gz (fun rec => kZ_rewrite_271 rec β σ x0 x1 x2) := by
  unfold kZ_rewrite_271
  exact (gz_const _)
theorem gZ_findPlace (β : Nat) (σ : zS) (x0 : Int) : gz (fun rec => kZ_findPlace rec β σ x0) := by
  unfold kZ_findPlace
  exact (gz_call _ _ _ _)
theorem gZ_findPlace_2 (β : Nat) (σ : zS) (x0 x1 : Int) : gz (fun rec => kZ_findPlace_2 rec β σ x0 x1) := by
  unfold kZ_findPlace_2
  exact (gz_if (gz_if (gz_call _ _ _ _) (gz_const _)) (gz_if (gz_if (gz_if (gz_bnd (gz_call _ _ _ _) (fun _ _ => (gz_if (gz_call _ _ _ _) (gz_call _ _ _ _)))) (gz_const _)) (gz_call _ _ _ _)) (gz_const _)))
theorem gZ_findPlace_33 (β : Nat) (σ : zS) (x0 x1 x2 : Int) : gz (fun rec => kZ_findPlace_33 rec β σ x0 x1 x2) := by
  unfold kZ_findPlace_33
  exact (gz_if (gz_call _ _ _ _) (gz_if (gz_bnd (gz_call _ _ _ _) (fun _ _ => (gz_if (gz_let (fun _ => (gz_let (fun _ => (gz_let (fun _ => (gz_const _))))))) (gz_let (fun _ => (gz_if (gz_call _ _ _ _) (gz_const _))))))) (gz_const _)))
theorem gZ_findPlace_91 (β : Nat) (σ : zS) (x0 x1 : Int) : gz (fun rec => kZ_findPlace_91 rec β σ x0 x1) := by
  unfold kZ_findPlace_91
  exact (gz_if (gz_call _ _ _ _) (gz_const _))
theorem gZ_findPlace_104 (β : Nat) (σ : zS) (x0 x1 : Int) : gz (fun rec => kZ_findPlace_104 rec β σ x0 x1) := by
  unfold kZ_findPlace_104
  exact (gz_if (gz_const _) (gz_if (gz_bnd (gz_call _ _ _ _) (fun _ _ => (gz_if (gz_if (gz_call _ _ _ _) (gz_const _)) (gz_const _)))) (gz_const _)))
theorem gZ_isUnit (β : Nat) (σ : zS) (x0 : Int) : gz (fun rec => kZ_isUnit rec β σ x0) := by
  unfold kZ_isUnit
  exact (gz_if (gz_if (gz_if (gz_if (gz_call _ _ _ _) (gz_call _ _ _ _)) (gz_const _)) (gz_call _ _ _ _)) (gz_const _))
theorem gZ_isUnit_28 (β : Nat) (σ : zS) (x0 : Int) : gz (fun rec => kZ_isUnit_28 rec β σ x0) := by
  unfold kZ_isUnit_28
  exact (gz_call _ _ _ _)
theorem gZ_isUnit_29 (β : Nat) (σ : zS) (x0 x1 : Int) : gz (fun rec => kZ_isUnit_29 rec β σ x0 x1) := by
  unfold kZ_isUnit_29
  exact (gz_if (gz_const _) (gz_const _))
theorem gZ_becomes (β : Nat) (σ : zS) (x0 x1 x2 : Int) : gz (fun rec => kZ_becomes rec β σ x0 x1 x2) := by
  unfold kZ_becomes
  exact (gz_let (fun _ => (gz_if (gz_if (gz_bnd (gz_call _ _ _ _) (fun _ _ => (gz_if (gz_bnd (gz_call _ _ _ _) (fun _ _ => (gz_if (gz_const _) (gz_if (gz_bnd (gz_call _ _ _ _) (fun _ _ => (gz_if (gz_bnd (gz_call _ _ _ _) (fun _ _ => (gz_if (gz_call _ _ _ _) (gz_if (gz_bnd (gz_call _ _ _ _) (fun _ _ => (gz_if (gz_if (gz_if (gz_bnd (gz_call _ _ _ _) (fun _ _ => (gz_if (gz_bnd (gz_call _ _ _ _) (fun _ _ => (gz_if (gz_call _ _ _ _) (gz_call _ _ _ _)))) (gz_const _)))) (gz_const _)) (gz_call _ _ _ _)) (gz_const _)))) (gz_const _))))) (gz_const _)))) (gz_const _))))) (gz_const _)))) (gz_const _)) (gz_const _))))
theorem gZ_becomes_68 (β : Nat) (σ : zS) (x0 x1 x2 x3 : Int) : gz (fun rec => kZ_becomes_68 rec β σ x0 x1 x2 x3) := by
  unfold kZ_becomes_68
  exact (gz_const _)
theorem gZ_becomes_94 (β : Nat) (σ : zS) (x0 x1 x2 x3 x4 x5 : Int) : gz (fun rec => kZ_becomes_94 rec β σ x0 x1 x2 x3 x4 x5) := by
  unfold kZ_becomes_94
  exact (gz_const _)
theorem gZ_side2 (β : Nat) (σ : zS) (x0 x1 x2 : Int) : gz (fun rec => kZ_side2 rec β σ x0 x1 x2) := by
  unfold kZ_side2
  exact (gz_if (gz_call _ _ _ _) (gz_call _ _ _ _))
theorem gZ_side2_9 (β : Nat) (σ : zS) (x0 x1 x2 x3 : Int) : gz (fun rec => kZ_side2_9 rec β σ x0 x1 x2 x3) := by
  unfold kZ_side2_9
  exact (gz_if (gz_if (gz_call _ _ _ _) (gz_const _)) (gz_if (gz_call _ _ _ _) (gz_const _)))
theorem gZ_side2_28 (β : Nat) (σ : zS) (x0 x1 x2 x3 : Int) : gz (fun rec => kZ_side2_28 rec β σ x0 x1 x2 x3) := by
  unfold kZ_side2_28
  exact (gz_const _)
theorem gZ_match (β : Nat) (σ : zS) (x0 x1 : Int) : gz (fun rec => kZ_match rec β σ x0 x1) := by
  unfold kZ_match
  exact (gz_if (gz_if (gz_if (gz_if (gz_call _ _ _ _) (gz_const _)) (gz_const _)) (gz_if (gz_if (gz_if (gz_if (gz_bnd (gz_call _ _ _ _) (fun _ _ => (gz_if (gz_let (fun _ => (gz_const _))) (gz_const _)))) (gz_const _)) (gz_if (gz_bnd (gz_call _ _ _ _) (fun _ _ => (gz_if (gz_const _) (gz_const _)))) (gz_const _))) (gz_const _)) (gz_const _))) (gz_const _))
theorem gZ_match_90 (β : Nat) (σ : zS) (x0 x1 x2 x3 : Int) : gz (fun rec => kZ_match_90 rec β σ x0 x1 x2 x3) := by
  unfold kZ_match_90
  exact (gz_if (gz_const _) (gz_if (gz_bnd (gz_call _ _ _ _) (fun _ _ => (gz_if (gz_const _) (gz_if (gz_if (gz_call _ _ _ _) (gz_const _)) (gz_const _))))) (gz_const _)))
theorem gZ_isPredicate (β : Nat) (σ : zS) (x0 : Int) : gz (fun rec => kZ_isPredicate rec β σ x0) := by
  unfold kZ_isPredicate
  exact (gz_if (gz_if (gz_call _ _ _ _) (gz_if (gz_if (gz_call _ _ _ _) (gz_call _ _ _ _)) (gz_const _))) (gz_const _))
theorem gZ_isPredicate_27 (β : Nat) (σ : zS) (x0 : Int) : gz (fun rec => kZ_isPredicate_27 rec β σ x0) := by
  unfold kZ_isPredicate_27
  exact (gz_call _ _ _ _)
theorem gZ_isPredicate_28 (β : Nat) (σ : zS) (x0 x1 : Int) : gz (fun rec => kZ_isPredicate_28 rec β σ x0 x1) := by
  unfold kZ_isPredicate_28
  exact (gz_if (gz_const _) (gz_const _))
theorem gZ_hasAll (β : Nat) (σ : zS) (x0 : Int) : gz (fun rec => kZ_hasAll rec β σ x0) := by
  unfold kZ_hasAll
  exact (gz_if (gz_if (gz_call _ _ _ _) (gz_if (gz_if (gz_if (gz_call _ _ _ _) (gz_call _ _ _ _)) (gz_const _)) (gz_const _))) (gz_const _))
theorem gZ_hasAll_30 (β : Nat) (σ : zS) (x0 x1 : Int) : gz (fun rec => kZ_hasAll_30 rec β σ x0 x1) := by
  unfold kZ_hasAll_30
  exact (gz_if (gz_const _) (gz_const _))
theorem gZ_hasAll_38 (β : Nat) (σ : zS) (x0 x1 : Int) : gz (fun rec => kZ_hasAll_38 rec β σ x0 x1) := by
  unfold kZ_hasAll_38
  exact (gz_if (gz_const _) (gz_if (gz_bnd (gz_call _ _ _ _) (fun _ _ => (gz_if (gz_const _) (gz_if (gz_call _ _ _ _) (gz_const _))))) (gz_const _)))
theorem gZ_weighMatched (β : Nat) (σ : zS) (x0 : Int) : gz (fun rec => kZ_weighMatched rec β σ x0) := by
  unfold kZ_weighMatched
  exact (gz_if (gz_if (gz_call _ _ _ _) (gz_if (gz_if (gz_if (gz_const _) (gz_const _)) (gz_const _)) (gz_const _))) (gz_const _))
theorem gZ_weighMatched_37 (β : Nat) (σ : zS) (x0 x1 x2 : Int) : gz (fun rec => kZ_weighMatched_37 rec β σ x0 x1 x2) := by
  unfold kZ_weighMatched_37
  exact (gz_if (gz_const _) (gz_if (gz_bnd (gz_call _ _ _ _) (fun _ _ => (gz_if (gz_if (gz_call _ _ _ _) (gz_const _)) (gz_const _)))) (gz_const _)))
theorem gZ_withMatched (β : Nat) (σ : zS) (x0 : Int) : gz (fun rec => kZ_withMatched rec β σ x0) := by
  unfold kZ_withMatched
  exact (gz_if (gz_if (gz_if (gz_bnd (gz_call _ _ _ _) (fun _ _ => (gz_call _ _ _ _))) (gz_const _)) (gz_if (gz_if (gz_if (gz_bnd (gz_call _ _ _ _) (fun _ _ => (gz_const _))) (gz_const _)) (gz_const _)) (gz_const _))) (gz_const _))
theorem gZ_withMatched_48 (β : Nat) (σ : zS) (x0 x1 x2 x3 : Int) : gz (fun rec => kZ_withMatched_48 rec β σ x0 x1 x2 x3) := by
  unfold kZ_withMatched_48
  exact (gz_if (gz_const _) (gz_if (gz_bnd (gz_call _ _ _ _) (fun _ _ => (gz_if (gz_if (gz_let (fun _ => (gz_call _ _ _ _))) (gz_const _)) (gz_if (gz_let (fun _ => (gz_call _ _ _ _))) (gz_const _))))) (gz_const _)))
theorem gZ_withMatched_84 (β : Nat) (σ : zS) (x0 x1 x2 x3 x4 : Int) : gz (fun rec => kZ_withMatched_84 rec β σ x0 x1 x2 x3 x4) := by
  unfold kZ_withMatched_84
  exact (gz_if (gz_if (gz_if (gz_let (fun _ => (gz_if (gz_call _ _ _ _) (gz_const _)))) (gz_const _)) (gz_const _)) (gz_const _))
theorem gZ_replacedIn (β : Nat) (σ : zS) (x0 : Int) : gz (fun rec => kZ_replacedIn rec β σ x0) := by
  unfold kZ_replacedIn
  exact (gz_if (gz_if (gz_bnd (gz_call _ _ _ _) (fun _ _ => (gz_const _))) (gz_const _)) (gz_if (gz_if (gz_bnd (gz_call _ _ _ _) (fun _ _ => (gz_call _ _ _ _))) (gz_const _)) (gz_const _)))
theorem gZ_replacedIn_38 (β : Nat) (σ : zS) (x0 x1 x2 x3 : Int) : gz (fun rec => kZ_replacedIn_38 rec β σ x0 x1 x2 x3) := by
  unfold kZ_replacedIn_38
  exact (gz_if (gz_const _) (gz_if (gz_bnd (gz_call _ _ _ _) (fun _ _ => (gz_if (gz_if (gz_let (fun _ => (gz_call _ _ _ _))) (gz_const _)) (gz_if (gz_let (fun _ => (gz_call _ _ _ _))) (gz_const _))))) (gz_const _)))
theorem gZ_replacedIn_74 (β : Nat) (σ : zS) (x0 x1 x2 x3 x4 : Int) : gz (fun rec => kZ_replacedIn_74 rec β σ x0 x1 x2 x3 x4) := by
  unfold kZ_replacedIn_74
  exact (gz_if (gz_if (gz_if (gz_let (fun _ => (gz_if (gz_call _ _ _ _) (gz_const _)))) (gz_const _)) (gz_const _)) (gz_const _))
theorem gZ_subsumes (β : Nat) (σ : zS) (x0 x1 : Int) : gz (fun rec => kZ_subsumes rec β σ x0 x1) := by
  unfold kZ_subsumes
  exact (gz_if (gz_if (gz_if (gz_let (fun _ => (gz_if (gz_bnd (gz_call _ _ _ _) (fun _ _ => (gz_if (gz_const _) (gz_const _)))) (gz_const _)))) (gz_const _)) (gz_const _)) (gz_const _))
theorem gZ_covers (β : Nat) (σ : zS) (x0 x1 x2 : Int) : gz (fun rec => kZ_covers rec β σ x0 x1 x2) := by
  unfold kZ_covers
  exact (gz_if (gz_if (gz_const _) (gz_if (gz_if (gz_let (fun _ => (gz_if (gz_if (gz_call _ _ _ _) (gz_const _)) (gz_const _)))) (gz_const _)) (gz_const _))) (gz_const _))
theorem gZ_covers_47 (β : Nat) (σ : zS) (x0 x1 x2 x3 x4 : Int) : gz (fun rec => kZ_covers_47 rec β σ x0 x1 x2 x3 x4) := by
  unfold kZ_covers_47
  exact (gz_if (gz_if (gz_if (gz_const _) (gz_if (gz_if (gz_if (gz_call _ _ _ _) (gz_call _ _ _ _)) (gz_const _)) (gz_const _))) (gz_const _)) (gz_const _))
theorem gZ_covers_88 (β : Nat) (σ : zS) (x0 x1 x2 x3 x4 x5 : Int) : gz (fun rec => kZ_covers_88 rec β σ x0 x1 x2 x3 x4 x5) := by
  unfold kZ_covers_88
  exact (gz_if (gz_call _ _ _ _) (gz_if (gz_if (gz_let (fun _ => (gz_if (gz_if (gz_if (gz_call _ _ _ _) (gz_const _)) (gz_if (gz_call _ _ _ _) (gz_const _))) (gz_const _)))) (gz_const _)) (gz_const _)))
theorem gZ_covers_141 (β : Nat) (σ : zS) (x0 x1 x2 x3 x4 x5 x6 x7 : Int) : gz (fun rec => kZ_covers_141 rec β σ x0 x1 x2 x3 x4 x5 x6 x7) := by
  unfold kZ_covers_141
  exact (gz_if (gz_bnd (gz_call _ _ _ _) (fun _ _ => (gz_if (gz_call _ _ _ _) (gz_if (gz_if (gz_if (gz_call _ _ _ _) (gz_const _)) (gz_if (gz_call _ _ _ _) (gz_const _))) (gz_const _))))) (gz_const _))
theorem gZ_covers_177 (β : Nat) (σ : zS) (x0 x1 x2 x3 x4 x5 x6 x7 : Int) : gz (fun rec => kZ_covers_177 rec β σ x0 x1 x2 x3 x4 x5 x6 x7) := by
  unfold kZ_covers_177
  exact (gz_if (gz_bnd (gz_call _ _ _ _) (fun _ _ => (gz_if (gz_call _ _ _ _) (gz_if (gz_if (gz_bnd (gz_call _ _ _ _) (fun _ _ => (gz_if (gz_call _ _ _ _) (gz_const _)))) (gz_const _)) (gz_const _))))) (gz_const _))
theorem gZ_covers_197 (β : Nat) (σ : zS) (x0 x1 x2 x3 x4 x5 : Int) : gz (fun rec => kZ_covers_197 rec β σ x0 x1 x2 x3 x4 x5) := by
  unfold kZ_covers_197
  exact (gz_if (gz_call _ _ _ _) (gz_const _))
theorem gZ_covers_203 (β : Nat) (σ : zS) (x0 x1 x2 x3 x4 : Int) : gz (fun rec => kZ_covers_203 rec β σ x0 x1 x2 x3 x4) := by
  unfold kZ_covers_203
  exact (gz_if (gz_call _ _ _ _) (gz_const _))
theorem gZ_settle (β : Nat) (σ : zS) (x0 : Int) : gz (fun rec => kZ_settle rec β σ x0) := by
  unfold kZ_settle
  exact (gz_call _ _ _ _)
theorem gZ_settle_2 (β : Nat) (σ : zS) (x0 x1 : Int) : gz (fun rec => kZ_settle_2 rec β σ x0 x1) := by
  unfold kZ_settle_2
  exact (gz_if (gz_call _ _ _ _) (gz_if (gz_if (gz_if (gz_bnd (gz_call _ _ _ _) (fun _ _ => (gz_if (gz_call _ _ _ _) (gz_let (fun _ => (gz_let (fun _ => (gz_call _ _ _ _)))))))) (gz_const _)) (gz_call _ _ _ _)) (gz_const _)))
theorem gZ_settle_49 (β : Nat) (σ : zS) (x0 x1 : Int) : gz (fun rec => kZ_settle_49 rec β σ x0 x1) := by
  unfold kZ_settle_49
  exact (gz_if (gz_call _ _ _ _) (gz_const _))
theorem gZ_settle_57 (β : Nat) (σ : zS) (x0 x1 : Int) : gz (fun rec => kZ_settle_57 rec β σ x0 x1) := by
  unfold kZ_settle_57
  exact (gz_if (gz_call _ _ _ _) (gz_if (gz_bnd (gz_call _ _ _ _) (fun _ _ => (gz_if (gz_call _ _ _ _) (gz_if (gz_if (gz_if (gz_bnd (gz_call _ _ _ _) (fun _ _ => (gz_if (gz_call _ _ _ _) (gz_let (fun _ => (gz_call _ _ _ _)))))) (gz_const _)) (gz_call _ _ _ _)) (gz_const _))))) (gz_const _)))
theorem gZ_settle_99 (β : Nat) (σ : zS) (x0 x1 : Int) : gz (fun rec => kZ_settle_99 rec β σ x0 x1) := by
  unfold kZ_settle_99
  exact (gz_if (gz_call _ _ _ _) (gz_const _))
theorem gZ_settle_105 (β : Nat) (σ : zS) (x0 x1 : Int) : gz (fun rec => kZ_settle_105 rec β σ x0 x1) := by
  unfold kZ_settle_105
  exact (gz_if (gz_let (fun _ => (gz_call _ _ _ _))) (gz_const _))
theorem gZ_settle_119 (β : Nat) (σ : zS) (x0 x1 x2 : Int) : gz (fun rec => kZ_settle_119 rec β σ x0 x1 x2) := by
  unfold kZ_settle_119
  exact (gz_if (gz_call _ _ _ _) (gz_if (gz_if (gz_if (gz_if (gz_bnd (gz_call _ _ _ _) (fun _ _ => (gz_if (gz_call _ _ _ _) (gz_if (gz_if (gz_bnd (gz_call _ _ _ _) (fun _ _ => (gz_call _ _ _ _))) (gz_const _)) (gz_call _ _ _ _))))) (gz_const _)) (gz_call _ _ _ _)) (gz_const _)) (gz_call _ _ _ _)))
theorem gZ_settle_168 (β : Nat) (σ : zS) (x0 x1 x2 : Int) : gz (fun rec => kZ_settle_168 rec β σ x0 x1 x2) := by
  unfold kZ_settle_168
  exact (gz_if (gz_call _ _ _ _) (gz_const _))
theorem gZ_settle_174 (β : Nat) (σ : zS) (x0 x1 x2 : Int) : gz (fun rec => kZ_settle_174 rec β σ x0 x1 x2) := by
  unfold kZ_settle_174
  exact (gz_if (gz_if (gz_bnd (gz_call _ _ _ _) (fun _ _ => (gz_call _ _ _ _))) (gz_const _)) (gz_call _ _ _ _))
theorem gZ_settle_186 (β : Nat) (σ : zS) (x0 x1 x2 : Int) : gz (fun rec => kZ_settle_186 rec β σ x0 x1 x2) := by
  unfold kZ_settle_186
  exact (gz_if (gz_if (gz_bnd (gz_call _ _ _ _) (fun _ _ => (gz_call _ _ _ _))) (gz_const _)) (gz_call _ _ _ _))
theorem gZ_settle_198 (β : Nat) (σ : zS) (x0 x1 x2 : Int) : gz (fun rec => kZ_settle_198 rec β σ x0 x1 x2) := by
  unfold kZ_settle_198
  exact (gz_const _)
theorem gZ_couldRewrite (β : Nat) (σ : zS) (x0 x1 : Int) : gz (fun rec => kZ_couldRewrite rec β σ x0 x1) := by
  unfold kZ_couldRewrite
  exact (gz_if (gz_call _ _ _ _) (gz_const _))
theorem gZ_couldRewrite_7 (β : Nat) (σ : zS) (x0 x1 x2 : Int) : gz (fun rec => kZ_couldRewrite_7 rec β σ x0 x1 x2) := by
  unfold kZ_couldRewrite_7
  exact (gz_if (gz_if (gz_if (gz_const _) (gz_if (gz_if (gz_bnd (gz_call _ _ _ _) (fun _ _ => (gz_if (gz_if (gz_bnd (gz_call _ _ _ _) (fun _ _ => (gz_if (gz_if (gz_call _ _ _ _) (gz_const _)) (gz_call _ _ _ _)))) (gz_const _)) (gz_call _ _ _ _)))) (gz_const _)) (gz_const _))) (gz_const _)) (gz_const _))
theorem gZ_couldRewrite_52 (β : Nat) (σ : zS) (x0 x1 x2 : Int) : gz (fun rec => kZ_couldRewrite_52 rec β σ x0 x1 x2) := by
  unfold kZ_couldRewrite_52
  exact (gz_const _)
theorem gZ_could (β : Nat) (σ : zS) (x0 x1 : Int) : gz (fun rec => kZ_could rec β σ x0 x1) := by
  unfold kZ_could
  exact (gz_call _ _ _ _)
theorem gZ_could_2 (β : Nat) (σ : zS) (x0 x1 x2 : Int) : gz (fun rec => kZ_could_2 rec β σ x0 x1 x2) := by
  unfold kZ_could_2
  exact (gz_if (gz_if (gz_call _ _ _ _) (gz_const _)) (gz_let (fun _ => (gz_if (gz_bnd (gz_call _ _ _ _) (fun _ _ => (gz_if (gz_if (gz_call _ _ _ _) (gz_const _)) (gz_const _)))) (gz_const _)))))
theorem gZ_could_39 (β : Nat) (σ : zS) (x0 x1 x2 : Int) : gz (fun rec => kZ_could_39 rec β σ x0 x1 x2) := by
  unfold kZ_could_39
  exact (gz_if (gz_const _) (gz_if (gz_bnd (gz_call _ _ _ _) (fun _ _ => (gz_if (gz_if (gz_call _ _ _ _) (gz_const _)) (gz_const _)))) (gz_const _)))
theorem gZ_superpose (β : Nat) (σ : zS) (x0 x1 : Int) : gz (fun rec => kZ_superpose rec β σ x0 x1) := by
  unfold kZ_superpose
  exact (gz_if (gz_call _ _ _ _) (gz_const _))
theorem gZ_superpose_7 (β : Nat) (σ : zS) (x0 x1 x2 : Int) : gz (fun rec => kZ_superpose_7 rec β σ x0 x1 x2) := by
  unfold kZ_superpose_7
  exact (gz_if (gz_if (gz_if (gz_const _) (gz_if (gz_if (gz_call _ _ _ _) (gz_if (gz_call _ _ _ _) (gz_call _ _ _ _))) (gz_const _))) (gz_const _)) (gz_const _))
theorem gZ_superpose_48 (β : Nat) (σ : zS) (x0 x1 x2 x3 : Int) : gz (fun rec => kZ_superpose_48 rec β σ x0 x1 x2 x3) := by
  unfold kZ_superpose_48
  exact (gz_if (gz_call _ _ _ _) (gz_if (gz_bnd (gz_call _ _ _ _) (fun _ _ => (gz_if (gz_call _ _ _ _) (gz_if (gz_call _ _ _ _) (gz_const _))))) (gz_const _)))
theorem gZ_superpose_75 (β : Nat) (σ : zS) (x0 x1 x2 x3 x4 : Int) : gz (fun rec => kZ_superpose_75 rec β σ x0 x1 x2 x3 x4) := by
  unfold kZ_superpose_75
  exact (gz_if (gz_if (gz_if (gz_call _ _ _ _) (gz_if (gz_if (gz_call _ _ _ _) (gz_call _ _ _ _)) (gz_const _))) (gz_const _)) (gz_const _))
theorem gZ_superpose_109 (β : Nat) (σ : zS) (x0 x1 x2 x3 x4 x5 : Int) : gz (fun rec => kZ_superpose_109 rec β σ x0 x1 x2 x3 x4 x5) := by
  unfold kZ_superpose_109
  exact (gz_if (gz_call _ _ _ _) (gz_if (gz_if (gz_bnd (gz_call _ _ _ _) (fun _ _ => (gz_if (gz_call _ _ _ _) (gz_if (gz_bnd (gz_call _ _ _ _) (fun _ _ => (gz_if (gz_bnd (gz_call _ _ _ _) (fun _ _ => (gz_call _ _ _ _))) (gz_const _)))) (gz_const _))))) (gz_const _)) (gz_call _ _ _ _)))
theorem gZ_superpose_153 (β : Nat) (σ : zS) (x0 x1 x2 x3 x4 x5 : Int) : gz (fun rec => kZ_superpose_153 rec β σ x0 x1 x2 x3 x4 x5) := by
  unfold kZ_superpose_153
  exact (gz_if (gz_call _ _ _ _) (gz_const _))
theorem gZ_superpose_159 (β : Nat) (σ : zS) (x0 x1 x2 x3 x4 : Int) : gz (fun rec => kZ_superpose_159 rec β σ x0 x1 x2 x3 x4) := by
  unfold kZ_superpose_159
  exact (gz_if (gz_call _ _ _ _) (gz_const _))
theorem gZ_superpose_165 (β : Nat) (σ : zS) (x0 x1 x2 x3 : Int) : gz (fun rec => kZ_superpose_165 rec β σ x0 x1 x2 x3) := by
  unfold kZ_superpose_165
  exact (gz_if (gz_call _ _ _ _) (gz_const _))
theorem gZ_superpose_171 (β : Nat) (σ : zS) (x0 x1 x2 : Int) : gz (fun rec => kZ_superpose_171 rec β σ x0 x1 x2) := by
  unfold kZ_superpose_171
  exact (gz_if (gz_call _ _ _ _) (gz_const _))
theorem gZ_usable (β : Nat) (σ : zS) (x0 x1 : Int) : gz (fun rec => kZ_usable rec β σ x0 x1) := by
  unfold kZ_usable
  exact (gz_if (gz_if (gz_if (gz_call _ _ _ _) (gz_call _ _ _ _)) (gz_const _)) (gz_const _))
theorem gZ_usable_17 (β : Nat) (σ : zS) (x0 x1 x2 : Int) : gz (fun rec => kZ_usable_17 rec β σ x0 x1 x2) := by
  unfold kZ_usable_17
  exact (gz_if (gz_const _) (gz_const _))
theorem gZ_into (β : Nat) (σ : zS) (x0 x1 x2 x3 x4 x5 : Int) : gz (fun rec => kZ_into rec β σ x0 x1 x2 x3 x4 x5) := by
  unfold kZ_into
  exact (gz_if (gz_if (gz_call _ _ _ _) (gz_if (gz_if (gz_bnd (gz_call _ _ _ _) (fun _ _ => (gz_if (gz_bnd (gz_call _ _ _ _) (fun _ _ => (gz_if (gz_bnd (gz_call _ _ _ _) (fun _ _ => (gz_if (gz_call _ _ _ _) (gz_if (gz_bnd (gz_call _ _ _ _) (fun _ _ => (gz_if (gz_bnd (gz_call _ _ _ _) (fun _ _ => (gz_if (gz_bnd (gz_call _ _ _ _) (fun _ _ => (gz_let (fun _ => (gz_if (gz_bnd (gz_call _ _ _ _) (fun _ _ => (gz_let (fun _ => (gz_if (gz_bnd (gz_call _ _ _ _) (fun _ _ => (gz_call _ _ _ _))) (gz_const _)))))) (gz_const _)))))) (gz_const _)))) (gz_const _)))) (gz_const _))))) (gz_const _)))) (gz_const _)))) (gz_const _)) (gz_call _ _ _ _))) (gz_const _))
theorem gZ_into_17 (β : Nat) (σ : zS) (x0 x1 x2 x3 x4 x5 : Int) : gz (fun rec => kZ_into_17 rec β σ x0 x1 x2 x3 x4 x5) := by
  unfold kZ_into_17
  exact (gz_const _)
theorem gZ_into_88 (β : Nat) (σ : zS) (x0 x1 x2 x3 x4 x5 : Int) : gz (fun rec => kZ_into_88 rec β σ x0 x1 x2 x3 x4 x5) := by
  unfold kZ_into_88
  exact (gz_if (gz_call _ _ _ _) (gz_const _))
theorem gZ_into_97 (β : Nat) (σ : zS) (x0 x1 x2 x3 x4 x5 x6 : Int) : gz (fun rec => kZ_into_97 rec β σ x0 x1 x2 x3 x4 x5 x6) := by
  unfold kZ_into_97
  exact (gz_if (gz_const _) (gz_if (gz_bnd (gz_call _ _ _ _) (fun _ _ => (gz_if (gz_call _ _ _ _) (gz_const _)))) (gz_const _)))
theorem gZ_unbind (β : Nat) (σ : zS) : gz (fun rec => kZ_unbind rec β σ) := by
  unfold kZ_unbind
  exact (gz_let (fun _ => (gz_const _)))
theorem gZ_unify (β : Nat) (σ : zS) (x0 x1 x2 x3 : Int) : gz (fun rec => kZ_unify rec β σ x0 x1 x2 x3) := by
  unfold kZ_unify
  exact (gz_call _ _ _ _)
theorem gZ_unify_6 (β : Nat) (σ : zS) (x0 x1 x2 x3 x4 x5 : Int) : gz (fun rec => kZ_unify_6 rec β σ x0 x1 x2 x3 x4 x5) := by
  unfold kZ_unify_6
  exact (gz_if (gz_if (gz_call _ _ _ _) (gz_if (gz_if (gz_if (gz_if (gz_call _ _ _ _) (gz_call _ _ _ _)) (gz_const _)) (gz_const _)) (gz_const _))) (gz_const _))
theorem gZ_unify_71 (β : Nat) (σ : zS) (x0 x1 x2 x3 x4 x5 : Int) : gz (fun rec => kZ_unify_71 rec β σ x0 x1 x2 x3 x4 x5) := by
  unfold kZ_unify_71
  exact (gz_call _ _ _ _)
theorem gZ_unify_78 (β : Nat) (σ : zS) (x0 x1 x2 x3 x4 x5 x6 x7 : Int) : gz (fun rec => kZ_unify_78 rec β σ x0 x1 x2 x3 x4 x5 x6 x7) := by
  unfold kZ_unify_78
  exact (gz_if (gz_if (gz_call _ _ _ _) (gz_if (gz_if (gz_if (gz_if (gz_call _ _ _ _) (gz_call _ _ _ _)) (gz_const _)) (gz_const _)) (gz_const _))) (gz_const _))
theorem gZ_unify_143 (β : Nat) (σ : zS) (x0 x1 x2 x3 x4 x5 x6 x7 : Int) : gz (fun rec => kZ_unify_143 rec β σ x0 x1 x2 x3 x4 x5 x6 x7) := by
  unfold kZ_unify_143
  exact (gz_if (gz_if (gz_call _ _ _ _) (gz_if (gz_if (gz_call _ _ _ _) (gz_if (gz_if (gz_const _) (gz_call _ _ _ _)) (gz_call _ _ _ _))) (gz_const _))) (gz_const _))
theorem gZ_unify_189 (β : Nat) (σ : zS) (x0 x1 x2 x3 x4 x5 x6 x7 : Int) : gz (fun rec => kZ_unify_189 rec β σ x0 x1 x2 x3 x4 x5 x6 x7) := by
  unfold kZ_unify_189
  exact (gz_if (gz_if (gz_if (gz_if (gz_if (gz_call _ _ _ _) (gz_const _)) (gz_if (gz_if (gz_if (gz_bnd (gz_call _ _ _ _) (fun _ _ => (gz_if (gz_const _) (gz_const _)))) (gz_const _)) (gz_const _)) (gz_const _))) (gz_const _)) (gz_if (gz_if (gz_if (gz_bnd (gz_call _ _ _ _) (fun _ _ => (gz_if (gz_const _) (gz_const _)))) (gz_const _)) (gz_const _)) (gz_const _))) (gz_const _))
theorem gZ_unify_288 (β : Nat) (σ : zS) (x0 x1 x2 x3 x4 x5 x6 x7 x8 x9 : Int) : gz (fun rec => kZ_unify_288 rec β σ x0 x1 x2 x3 x4 x5 x6 x7 x8 x9) := by
  unfold kZ_unify_288
  exact (gz_if (gz_const _) (gz_if (gz_bnd (gz_call _ _ _ _) (fun _ _ => (gz_if (gz_const _) (gz_if (gz_if (gz_call _ _ _ _) (gz_const _)) (gz_const _))))) (gz_const _)))
theorem gZ_bind1 (β : Nat) (σ : zS) (x0 x1 x2 : Int) : gz (fun rec => kZ_bind1 rec β σ x0 x1 x2) := by
  unfold kZ_bind1
  exact (gz_if (gz_bnd (gz_call _ _ _ _) (fun _ _ => (gz_if (gz_if (gz_bnd (gz_call _ _ _ _) (fun _ _ => (gz_if (gz_if (gz_let (fun _ => (gz_let (fun _ => (gz_const _))))) (gz_const _)) (gz_call _ _ _ _)))) (gz_const _)) (gz_call _ _ _ _)))) (gz_const _))
theorem gZ_bind1_18 (β : Nat) (σ : zS) (x0 x1 x2 : Int) : gz (fun rec => kZ_bind1_18 rec β σ x0 x1 x2) := by
  unfold kZ_bind1_18
  exact (gz_const _)
theorem gZ_occurs (β : Nat) (σ : zS) (x0 x1 x2 : Int) : gz (fun rec => kZ_occurs rec β σ x0 x1 x2) := by
  unfold kZ_occurs
  exact (gz_if (gz_if (gz_call _ _ _ _) (gz_if (gz_if (gz_if (gz_const _) (gz_if (gz_if (gz_call _ _ _ _) (gz_if (gz_bnd (gz_call _ _ _ _) (fun _ _ => (gz_if (gz_call _ _ _ _) (gz_call _ _ _ _)))) (gz_const _))) (gz_const _))) (gz_const _)) (gz_const _))) (gz_const _))
theorem gZ_occurs_65 (β : Nat) (σ : zS) (x0 x1 x2 x3 : Int) : gz (fun rec => kZ_occurs_65 rec β σ x0 x1 x2 x3) := by
  unfold kZ_occurs_65
  exact (gz_call _ _ _ _)
theorem gZ_occurs_66 (β : Nat) (σ : zS) (x0 x1 x2 x3 x4 : Int) : gz (fun rec => kZ_occurs_66 rec β σ x0 x1 x2 x3 x4) := by
  unfold kZ_occurs_66
  exact (gz_if (gz_const _) (gz_const _))
theorem gZ_occurs_75 (β : Nat) (σ : zS) (x0 x1 x2 x3 : Int) : gz (fun rec => kZ_occurs_75 rec β σ x0 x1 x2 x3) := by
  unfold kZ_occurs_75
  exact (gz_if (gz_const _) (gz_if (gz_bnd (gz_call _ _ _ _) (fun _ _ => (gz_if (gz_if (gz_call _ _ _ _) (gz_const _)) (gz_const _)))) (gz_const _)))
theorem gZ_begin (β : Nat) (σ : zS) : gz (fun rec => kZ_begin rec β σ) := by
  unfold kZ_begin
  exact (gz_let (fun _ => (gz_let (fun _ => (gz_const _)))))
theorem gZ_planOthers (β : Nat) (σ : zS) (x0 x1 x2 x3 : Int) : gz (fun rec => kZ_planOthers rec β σ x0 x1 x2 x3) := by
  unfold kZ_planOthers
  exact (gz_if (gz_call _ _ _ _) (gz_const _))
theorem gZ_planOthers_8 (β : Nat) (σ : zS) (x0 x1 x2 x3 x4 : Int) : gz (fun rec => kZ_planOthers_8 rec β σ x0 x1 x2 x3 x4) := by
  unfold kZ_planOthers_8
  exact (gz_if (gz_if (gz_if (gz_const _) (gz_if (gz_call _ _ _ _) (gz_if (gz_call _ _ _ _) (gz_if (gz_if (gz_bnd (gz_call _ _ _ _) (fun _ _ => (gz_call _ _ _ _))) (gz_const _)) (gz_const _))))) (gz_const _)) (gz_const _))
theorem gZ_planOthers_65 (β : Nat) (σ : zS) (x0 x1 x2 x3 x4 : Int) : gz (fun rec => kZ_planOthers_65 rec β σ x0 x1 x2 x3 x4) := by
  unfold kZ_planOthers_65
  exact (gz_if (gz_call _ _ _ _) (gz_const _))
theorem gZ_plan (β : Nat) (σ : zS) (x0 x1 x2 x3 : Int) : gz (fun rec => kZ_plan rec β σ x0 x1 x2 x3) := by
  unfold kZ_plan
  exact (gz_if (gz_let (fun _ => (gz_if (gz_let (fun _ => (gz_if (gz_let (fun _ => (gz_if (gz_let (fun _ => (gz_if (gz_if (gz_let (fun _ => (gz_const _))) (gz_const _)) (gz_const _)))) (gz_const _)))) (gz_const _)))) (gz_const _)))) (gz_const _))
theorem gZ_conclude (β : Nat) (σ : zS) (x0 x1 x2 : Int) : gz (fun rec => kZ_conclude rec β σ x0 x1 x2) := by
  unfold kZ_conclude
  exact (gz_let (fun _ => (gz_if (gz_call _ _ _ _) (gz_let (fun _ => (gz_const _))))))
theorem gZ_conclude_36 (β : Nat) (σ : zS) (x0 x1 x2 x3 x4 : Int) : gz (fun rec => kZ_conclude_36 rec β σ x0 x1 x2 x3 x4) := by
  unfold kZ_conclude_36
  exact (gz_if (gz_if (gz_let (fun _ => (gz_let (fun _ => (gz_call _ _ _ _))))) (gz_let (fun _ => (gz_const _)))) (gz_if (gz_if (gz_bnd (gz_call _ _ _ _) (fun _ _ => (gz_if (gz_bnd (gz_call _ _ _ _) (fun _ _ => (gz_if (gz_bnd (gz_call _ _ _ _) (fun _ _ => (gz_if (gz_bnd (gz_call _ _ _ _) (fun _ _ => (gz_if (gz_if (gz_if (gz_call _ _ _ _) (gz_const _)) (gz_const _)) (gz_const _)))) (gz_const _)))) (gz_const _)))) (gz_const _)))) (gz_const _)) (gz_const _)))
theorem gZ_conclude_148 (β : Nat) (σ : zS) (x0 x1 x2 x3 x4 : Int) : gz (fun rec => kZ_conclude_148 rec β σ x0 x1 x2 x3 x4) := by
  unfold kZ_conclude_148
  exact (gz_if (gz_if (gz_bnd (gz_call _ _ _ _) (fun _ _ => (gz_if (gz_if (gz_bnd (gz_call _ _ _ _) (fun _ _ => (gz_if (gz_bnd (gz_call _ _ _ _) (fun _ _ => (gz_if (gz_if (gz_bnd (gz_call _ _ _ _) (fun _ _ => (gz_call _ _ _ _))) (gz_const _)) (gz_let (fun _ => (gz_call _ _ _ _)))))) (gz_const _)))) (gz_const _)) (gz_let (fun _ => (gz_const _)))))) (gz_const _)) (gz_if (gz_if (gz_bnd (gz_call _ _ _ _) (fun _ _ => (gz_if (gz_bnd (gz_call _ _ _ _) (fun _ _ => (gz_if (gz_bnd (gz_call _ _ _ _) (fun _ _ => (gz_if (gz_bnd (gz_call _ _ _ _) (fun _ _ => (gz_if (gz_bnd (gz_call _ _ _ _) (fun _ _ => (gz_if (gz_call _ _ _ _) (gz_const _)))) (gz_const _)))) (gz_const _)))) (gz_const _)))) (gz_const _)))) (gz_const _)) (gz_const _)))
theorem gZ_conclude_284 (β : Nat) (σ : zS) (x0 x1 x2 x3 x4 : Int) : gz (fun rec => kZ_conclude_284 rec β σ x0 x1 x2 x3 x4) := by
  unfold kZ_conclude_284
  exact (gz_const _)
theorem gZ_placeIn (β : Nat) (σ : zS) (x0 : Int) : gz (fun rec => kZ_placeIn rec β σ x0) := by
  unfold kZ_placeIn
  exact (gz_if (gz_if (gz_call _ _ _ _) (gz_call _ _ _ _)) (gz_const _))
theorem gZ_placeIn_19 (β : Nat) (σ : zS) (x0 x1 : Int) : gz (fun rec => kZ_placeIn_19 rec β σ x0 x1) := by
  unfold kZ_placeIn_19
  exact (gz_const _)
theorem gZ_weigh (β : Nat) (σ : zS) (x0 x1 x2 x3 x4 : Int) : gz (fun rec => kZ_weigh rec β σ x0 x1 x2 x3 x4) := by
  unfold kZ_weigh
  exact (gz_if (gz_if (gz_bnd (gz_call _ _ _ _) (fun _ _ => (gz_const _))) (gz_const _)) (gz_if (gz_if (gz_call _ _ _ _) (gz_if (gz_if (gz_if (gz_if (gz_if (gz_bnd (gz_call _ _ _ _) (fun _ _ => (gz_call _ _ _ _))) (gz_const _)) (gz_call _ _ _ _)) (gz_const _)) (gz_const _)) (gz_const _))) (gz_const _)))
theorem gZ_weigh_73 (β : Nat) (σ : zS) (x0 x1 x2 x3 x4 x5 x6 : Int) : gz (fun rec => kZ_weigh_73 rec β σ x0 x1 x2 x3 x4 x5 x6) := by
  unfold kZ_weigh_73
  exact (gz_const _)
theorem gZ_weigh_85 (β : Nat) (σ : zS) (x0 x1 x2 x3 x4 x5 x6 : Int) : gz (fun rec => kZ_weigh_85 rec β σ x0 x1 x2 x3 x4 x5 x6) := by
  unfold kZ_weigh_85
  exact (gz_if (gz_call _ _ _ _) (gz_if (gz_call _ _ _ _) (gz_if (gz_bnd (gz_call _ _ _ _) (fun _ _ => (gz_if (gz_if (gz_call _ _ _ _) (gz_const _)) (gz_const _)))) (gz_const _))))
theorem gZ_weigh_127 (β : Nat) (σ : zS) (x0 x1 x2 x3 x4 x5 x6 : Int) : gz (fun rec => kZ_weigh_127 rec β σ x0 x1 x2 x3 x4 x5 x6) := by
  unfold kZ_weigh_127
  exact (gz_const _)
theorem gZ_with (β : Nat) (σ : zS) (x0 x1 x2 x3 x4 : Int) : gz (fun rec => kZ_with rec β σ x0 x1 x2 x3 x4) := by
  unfold kZ_with
  exact (gz_if (gz_if (gz_bnd (gz_call _ _ _ _) (fun _ _ => (gz_const _))) (gz_const _)) (gz_if (gz_if (gz_if (gz_bnd (gz_call _ _ _ _) (fun _ _ => (gz_call _ _ _ _))) (gz_const _)) (gz_if (gz_if (gz_if (gz_if (gz_if (gz_bnd (gz_call _ _ _ _) (fun _ _ => (gz_call _ _ _ _))) (gz_const _)) (gz_if (gz_if (gz_bnd (gz_call _ _ _ _) (fun _ _ => (gz_call _ _ _ _))) (gz_const _)) (gz_const _))) (gz_const _)) (gz_const _)) (gz_const _))) (gz_const _)))
theorem gZ_with_80 (β : Nat) (σ : zS) (x0 x1 x2 x3 x4 x5 x6 : Int) : gz (fun rec => kZ_with_80 rec β σ x0 x1 x2 x3 x4 x5 x6) := by
  unfold kZ_with_80
  exact (gz_const _)
theorem gZ_with_104 (β : Nat) (σ : zS) (x0 x1 x2 x3 x4 x5 x6 x7 : Int) : gz (fun rec => kZ_with_104 rec β σ x0 x1 x2 x3 x4 x5 x6 x7) := by
  unfold kZ_with_104
  exact (gz_if (gz_const _) (gz_if (gz_bnd (gz_call _ _ _ _) (fun _ _ => (gz_if (gz_if (gz_let (fun _ => (gz_call _ _ _ _))) (gz_const _)) (gz_if (gz_let (fun _ => (gz_call _ _ _ _))) (gz_const _))))) (gz_const _)))
theorem gZ_with_149 (β : Nat) (σ : zS) (x0 x1 x2 x3 x4 x5 x6 x7 x8 : Int) : gz (fun rec => kZ_with_149 rec β σ x0 x1 x2 x3 x4 x5 x6 x7 x8) := by
  unfold kZ_with_149
  exact (gz_if (gz_if (gz_if (gz_let (fun _ => (gz_if (gz_call _ _ _ _) (gz_const _)))) (gz_const _)) (gz_const _)) (gz_const _))
theorem gZ_resolve (β : Nat) (σ : zS) (x0 : Int) : gz (fun rec => kZ_resolve rec β σ x0) := by
  unfold kZ_resolve
  exact (gz_if (gz_call _ _ _ _) (gz_const _))
theorem gZ_resolve_7 (β : Nat) (σ : zS) (x0 x1 : Int) : gz (fun rec => kZ_resolve_7 rec β σ x0 x1) := by
  unfold kZ_resolve_7
  exact (gz_if (gz_if (gz_if (gz_call _ _ _ _) (gz_if (gz_if (gz_if (gz_if (gz_call _ _ _ _) (gz_if (gz_bnd (gz_call _ _ _ _) (fun _ _ => (gz_if (gz_bnd (gz_call _ _ _ _) (fun _ _ => (gz_if (gz_call _ _ _ _) (gz_if (gz_bnd (gz_call _ _ _ _) (fun _ _ => (gz_if (gz_bnd (gz_call _ _ _ _) (fun _ _ => (gz_if (gz_bnd (gz_call _ _ _ _) (fun _ _ => (gz_call _ _ _ _))) (gz_const _)))) (gz_const _)))) (gz_const _))))) (gz_const _)))) (gz_const _))) (gz_call _ _ _ _)) (gz_const _)) (gz_call _ _ _ _))) (gz_const _)) (gz_const _))
theorem gZ_resolve_99 (β : Nat) (σ : zS) (x0 x1 : Int) : gz (fun rec => kZ_resolve_99 rec β σ x0 x1) := by
  unfold kZ_resolve_99
  exact (gz_if (gz_call _ _ _ _) (gz_const _))
theorem gZ_resolve_105 (β : Nat) (σ : zS) (x0 x1 : Int) : gz (fun rec => kZ_resolve_105 rec β σ x0 x1) := by
  unfold kZ_resolve_105
  exact (gz_const _)
theorem gZ_factor1 (β : Nat) (σ : zS) (x0 : Int) : gz (fun rec => kZ_factor1 rec β σ x0) := by
  unfold kZ_factor1
  exact (gz_if (gz_bnd (gz_call _ _ _ _) (fun _ _ => (gz_if (gz_if (gz_call _ _ _ _) (gz_const _)) (gz_const _)))) (gz_const _))
theorem gZ_factor1_16 (β : Nat) (σ : zS) (x0 x1 : Int) : gz (fun rec => kZ_factor1_16 rec β σ x0 x1) := by
  unfold kZ_factor1_16
  exact (gz_if (gz_if (gz_if (gz_const _) (gz_if (gz_if (gz_call _ _ _ _) (gz_call _ _ _ _)) (gz_const _))) (gz_const _)) (gz_const _))
theorem gZ_factor1_52 (β : Nat) (σ : zS) (x0 x1 x2 : Int) : gz (fun rec => kZ_factor1_52 rec β σ x0 x1 x2) := by
  unfold kZ_factor1_52
  exact (gz_if (gz_if (gz_if (gz_call _ _ _ _) (gz_if (gz_call _ _ _ _) (gz_call _ _ _ _))) (gz_const _)) (gz_const _))
theorem gZ_factor1_80 (β : Nat) (σ : zS) (x0 x1 x2 x3 : Int) : gz (fun rec => kZ_factor1_80 rec β σ x0 x1 x2 x3) := by
  unfold kZ_factor1_80
  exact (gz_if (gz_call _ _ _ _) (gz_if (gz_if (gz_if (gz_bnd (gz_call _ _ _ _) (fun _ _ => (gz_if (gz_call _ _ _ _) (gz_if (gz_bnd (gz_call _ _ _ _) (fun _ _ => (gz_call _ _ _ _))) (gz_const _))))) (gz_const _)) (gz_const _)) (gz_call _ _ _ _)))
theorem gZ_factor1_120 (β : Nat) (σ : zS) (x0 x1 x2 x3 : Int) : gz (fun rec => kZ_factor1_120 rec β σ x0 x1 x2 x3) := by
  unfold kZ_factor1_120
  exact (gz_if (gz_call _ _ _ _) (gz_const _))
theorem gZ_factor1_126 (β : Nat) (σ : zS) (x0 x1 x2 : Int) : gz (fun rec => kZ_factor1_126 rec β σ x0 x1 x2) := by
  unfold kZ_factor1_126
  exact (gz_if (gz_call _ _ _ _) (gz_const _))
theorem gZ_factor1_132 (β : Nat) (σ : zS) (x0 x1 : Int) : gz (fun rec => kZ_factor1_132 rec β σ x0 x1) := by
  unfold kZ_factor1_132
  exact (gz_if (gz_call _ _ _ _) (gz_const _))
theorem gZ_isSelected (β : Nat) (σ : zS) (x0 : Int) : gz (fun rec => kZ_isSelected rec β σ x0) := by
  unfold kZ_isSelected
  exact (gz_if (gz_call _ _ _ _) (gz_const _))
theorem gZ_isSelected_7 (β : Nat) (σ : zS) (x0 x1 : Int) : gz (fun rec => kZ_isSelected_7 rec β σ x0 x1) := by
  unfold kZ_isSelected_7
  exact (gz_if (gz_if (gz_if (gz_const _) (gz_if (gz_if (gz_const _) (gz_if (gz_call _ _ _ _) (gz_const _))) (gz_const _))) (gz_const _)) (gz_const _))
theorem gZ_factor2 (β : Nat) (σ : zS) (x0 x1 x2 x3 x4 : Int) : gz (fun rec => kZ_factor2 rec β σ x0 x1 x2 x3 x4) := by
  unfold kZ_factor2
  exact (gz_if (gz_bnd (gz_call _ _ _ _) (fun _ _ => (gz_if (gz_bnd (gz_call _ _ _ _) (fun _ _ => (gz_if (gz_bnd (gz_call _ _ _ _) (fun _ _ => (gz_if (gz_bnd (gz_call _ _ _ _) (fun _ _ => (gz_if (gz_const _) (gz_if (gz_bnd (gz_call _ _ _ _) (fun _ _ => (gz_if (gz_bnd (gz_call _ _ _ _) (fun _ _ => (gz_if (gz_bnd (gz_call _ _ _ _) (fun _ _ => (gz_if (gz_bnd (gz_call _ _ _ _) (fun _ _ => (gz_if (gz_bnd (gz_call _ _ _ _) (fun _ _ => (gz_if (gz_bnd (gz_call _ _ _ _) (fun _ _ => (gz_if (gz_bnd (gz_call _ _ _ _) (fun _ _ => (gz_if (gz_bnd (gz_call _ _ _ _) (fun _ _ => (gz_if (gz_bnd (gz_call _ _ _ _) (fun _ _ => (gz_const _))) (gz_const _)))) (gz_const _)))) (gz_const _)))) (gz_const _)))) (gz_const _)))) (gz_const _)))) (gz_const _)))) (gz_const _)))) (gz_const _))))) (gz_const _)))) (gz_const _)))) (gz_const _)))) (gz_const _))
theorem gZ_clause (β : Nat) (σ : zS) (x0 x1 : Int) : gz (fun rec => kZ_clause rec β σ x0 x1) := by
  unfold kZ_clause
  exact (gz_if (gz_bnd (gz_call _ _ _ _) (fun _ _ => (gz_if (gz_if (gz_let (fun _ => (gz_const _))) (gz_if (gz_if (gz_const _) (gz_const _)) (gz_if (gz_if (gz_const _) (gz_const _)) (gz_if (gz_if (gz_const _) (gz_const _)) (gz_if (gz_if (gz_const _) (gz_const _)) (gz_if (gz_if (gz_const _) (gz_const _)) (gz_if (gz_if (gz_const _) (gz_const _)) (gz_if (gz_if (gz_const _) (gz_const _)) (gz_if (gz_const _) (gz_const _)))))))))) (gz_const _)))) (gz_const _))
theorem gZ_none (β : Nat) (σ : zS) (x0 : Int) : gz (fun rec => kZ_none rec β σ x0) := by
  unfold kZ_none
  exact (gz_let (fun _ => (gz_if (gz_call _ _ _ _) (gz_if (gz_call _ _ _ _) (gz_call _ _ _ _)))))
theorem gZ_none_19 (β : Nat) (σ : zS) (x0 x1 : Int) : gz (fun rec => kZ_none_19 rec β σ x0 x1) := by
  unfold kZ_none_19
  exact (gz_call _ _ _ _)
theorem gZ_none_24 (β : Nat) (σ : zS) (x0 x1 x2 : Int) : gz (fun rec => kZ_none_24 rec β σ x0 x1 x2) := by
  unfold kZ_none_24
  exact (gz_if (gz_bnd (gz_call _ _ _ _) (fun _ _ => (gz_if (gz_const _) (gz_const _)))) (gz_const _))
theorem gZ_rewrote (β : Nat) (σ : zS) (x0 x1 : Int) : gz (fun rec => kZ_rewrote rec β σ x0 x1) := by
  unfold kZ_rewrote
  exact (gz_if (gz_bnd (gz_call _ _ _ _) (fun _ _ => (gz_if (gz_if (gz_call _ _ _ _) (gz_if (gz_if (gz_call _ _ _ _) (gz_call _ _ _ _)) (gz_const _))) (gz_call _ _ _ _)))) (gz_const _))
theorem gZ_rewrote_24 (β : Nat) (σ : zS) (x0 x1 x2 : Int) : gz (fun rec => kZ_rewrote_24 rec β σ x0 x1 x2) := by
  unfold kZ_rewrote_24
  exact (gz_call _ _ _ _)
theorem gZ_rewrote_29 (β : Nat) (σ : zS) (x0 x1 x2 x3 : Int) : gz (fun rec => kZ_rewrote_29 rec β σ x0 x1 x2 x3) := by
  unfold kZ_rewrote_29
  exact (gz_if (gz_bnd (gz_call _ _ _ _) (fun _ _ => (gz_if (gz_if (gz_if (gz_if (gz_const _) (gz_const _)) (gz_const _)) (gz_const _)) (gz_call _ _ _ _)))) (gz_const _))
theorem gZ_rewrote_35 (β : Nat) (σ : zS) (x0 x1 : Int) : gz (fun rec => kZ_rewrote_35 rec β σ x0 x1) := by
  unfold kZ_rewrote_35
  exact (gz_const _)
theorem gZ_literal (β : Nat) (σ : zS) (x0 x1 x2 : Int) : gz (fun rec => kZ_literal rec β σ x0 x1 x2) := by
  unfold kZ_literal
  exact (gz_if (gz_bnd (gz_call _ _ _ _) (fun _ _ => (gz_if (gz_if (gz_call _ _ _ _) (gz_if (gz_if (gz_call _ _ _ _) (gz_call _ _ _ _)) (gz_const _))) (gz_call _ _ _ _)))) (gz_const _))
theorem gZ_literal_24 (β : Nat) (σ : zS) (x0 x1 x2 x3 : Int) : gz (fun rec => kZ_literal_24 rec β σ x0 x1 x2 x3) := by
  unfold kZ_literal_24
  exact (gz_call _ _ _ _)
theorem gZ_literal_29 (β : Nat) (σ : zS) (x0 x1 x2 x3 x4 : Int) : gz (fun rec => kZ_literal_29 rec β σ x0 x1 x2 x3 x4) := by
  unfold kZ_literal_29
  exact (gz_if (gz_bnd (gz_call _ _ _ _) (fun _ _ => (gz_if (gz_if (gz_if (gz_let (fun _ => (gz_const _))) (gz_if (gz_if (gz_if (gz_if (gz_call _ _ _ _) (gz_call _ _ _ _)) (gz_const _)) (gz_const _)) (gz_if (gz_if (gz_if (gz_const _) (gz_const _)) (gz_const _)) (gz_if (gz_if (gz_if (gz_if (gz_call _ _ _ _) (gz_call _ _ _ _)) (gz_const _)) (gz_const _)) (gz_if (gz_if (gz_const _) (gz_const _)) (gz_const _)))))) (gz_const _)) (gz_call _ _ _ _)))) (gz_const _))
theorem gZ_literal_35 (β : Nat) (σ : zS) (x0 x1 x2 : Int) : gz (fun rec => kZ_literal_35 rec β σ x0 x1 x2) := by
  unfold kZ_literal_35
  exact (gz_const _)
theorem gZ_literal_95 (β : Nat) (σ : zS) (x0 x1 x2 x3 x4 : Int) : gz (fun rec => kZ_literal_95 rec β σ x0 x1 x2 x3 x4) := by
  unfold kZ_literal_95
  exact (gz_const _)
theorem gZ_literal_119 (β : Nat) (σ : zS) (x0 x1 x2 x3 x4 : Int) : gz (fun rec => kZ_literal_119 rec β σ x0 x1 x2 x3 x4) := by
  unfold kZ_literal_119
  exact (gz_const _)
theorem gZ_out (β : Nat) (σ : zS) (x0 : Int) : gz (fun rec => kZ_out rec β σ x0) := by
  unfold kZ_out
  exact (gz_let (fun _ => (gz_if (gz_call _ _ _ _) (gz_if (gz_call _ _ _ _) (gz_call _ _ _ _)))))
theorem gZ_out_19 (β : Nat) (σ : zS) (x0 x1 : Int) : gz (fun rec => kZ_out_19 rec β σ x0 x1) := by
  unfold kZ_out_19
  exact (gz_call _ _ _ _)
theorem gZ_out_24 (β : Nat) (σ : zS) (x0 x1 x2 : Int) : gz (fun rec => kZ_out_24 rec β σ x0 x1 x2) := by
  unfold kZ_out_24
  exact (gz_if (gz_bnd (gz_call _ _ _ _) (fun _ _ => (gz_if (gz_if (gz_const _) (gz_const _)) (gz_const _)))) (gz_const _))
theorem gZ_symbol2 (β : Nat) (σ : zS) (x0 x1 : Int) : gz (fun rec => kZ_symbol2 rec β σ x0 x1) := by
  unfold kZ_symbol2
  exact (gz_let (fun _ => (gz_if (gz_call _ _ _ _) (gz_if (gz_call _ _ _ _) (gz_call _ _ _ _)))))
theorem gZ_symbol2_19 (β : Nat) (σ : zS) (x0 x1 x2 : Int) : gz (fun rec => kZ_symbol2_19 rec β σ x0 x1 x2) := by
  unfold kZ_symbol2_19
  exact (gz_call _ _ _ _)
theorem gZ_symbol2_24 (β : Nat) (σ : zS) (x0 x1 x2 x3 : Int) : gz (fun rec => kZ_symbol2_24 rec β σ x0 x1 x2 x3) := by
  unfold kZ_symbol2_24
  exact (gz_if (gz_bnd (gz_call _ _ _ _) (fun _ _ => (gz_if (gz_if (gz_call _ _ _ _) (gz_if (gz_call _ _ _ _) (gz_call _ _ _ _))) (gz_call _ _ _ _)))) (gz_const _))
theorem gZ_symbol2_41 (β : Nat) (σ : zS) (x0 x1 x2 : Int) : gz (fun rec => kZ_symbol2_41 rec β σ x0 x1 x2) := by
  unfold kZ_symbol2_41
  exact (gz_call _ _ _ _)
theorem gZ_symbol2_46 (β : Nat) (σ : zS) (x0 x1 x2 x3 : Int) : gz (fun rec => kZ_symbol2_46 rec β σ x0 x1 x2 x3) := by
  unfold kZ_symbol2_46
  exact (gz_if (gz_bnd (gz_call _ _ _ _) (fun _ _ => (gz_if (gz_if (gz_if (gz_call _ _ _ _) (gz_const _)) (gz_if (gz_if (gz_if (gz_call _ _ _ _) (gz_call _ _ _ _)) (gz_const _)) (gz_if (gz_call _ _ _ _) (gz_call _ _ _ _)))) (gz_call _ _ _ _)))) (gz_const _))
theorem gZ_symbol2_52 (β : Nat) (σ : zS) (x0 x1 : Int) : gz (fun rec => kZ_symbol2_52 rec β σ x0 x1) := by
  unfold kZ_symbol2_52
  exact (gz_const _)
theorem gZ_symbol2_102 (β : Nat) (σ : zS) (x0 x1 x2 : Int) : gz (fun rec => kZ_symbol2_102 rec β σ x0 x1 x2) := by
  unfold kZ_symbol2_102
  exact (gz_const _)
theorem gZ_proof (β : Nat) (σ : zS) : gz (fun rec => kZ_proof rec β σ) := by
  unfold kZ_proof
  exact (gz_let (fun _ => (gz_if (gz_bnd (gz_call _ _ _ _) (fun _ _ => (gz_const _))) (gz_const _))))
theorem gZ_prove (β : Nat) (σ : zS) : gz (fun rec => kZ_prove rec β σ) := by
  unfold kZ_prove
  exact (gz_let (fun _ => (gz_if (gz_if (gz_let (fun _ => (gz_if (gz_call _ _ _ _) (gz_const _)))) (gz_const _)) (gz_const _))))
theorem gZ_prove_36 (β : Nat) (σ : zS) (x0 x1 : Int) : gz (fun rec => kZ_prove_36 rec β σ x0 x1) := by
  unfold kZ_prove_36
  exact (gz_if (gz_const _) (gz_if (gz_if (gz_call _ _ _ _) (gz_if (gz_if (gz_call _ _ _ _) (gz_const _)) (gz_if (gz_let (fun _ => (gz_if (gz_call _ _ _ _) (gz_const _)))) (gz_const _)))) (gz_const _)))
theorem gZ_prove_76 (β : Nat) (σ : zS) (x0 x1 : Int) : gz (fun rec => kZ_prove_76 rec β σ x0 x1) := by
  unfold kZ_prove_76
  exact (gz_if (gz_if (gz_call _ _ _ _) (gz_if (gz_let (fun _ => (gz_call _ _ _ _))) (gz_const _))) (gz_const _))
theorem gZ_prove_97 (β : Nat) (σ : zS) (x0 x1 : Int) : gz (fun rec => kZ_prove_97 rec β σ x0 x1) := by
  unfold kZ_prove_97
  exact (gz_call _ _ _ _)
theorem gZ_prove_99 (β : Nat) (σ : zS) (x0 x1 x2 : Int) : gz (fun rec => kZ_prove_99 rec β σ x0 x1 x2) := by
  unfold kZ_prove_99
  exact (gz_if (gz_if (gz_call _ _ _ _) (gz_if (gz_if (gz_if (gz_let (fun _ => (gz_if (gz_call _ _ _ _) (gz_const _)))) (gz_const _)) (gz_const _)) (gz_const _))) (gz_const _))
theorem gZ_prove_134 (β : Nat) (σ : zS) (x0 x1 : Int) : gz (fun rec => kZ_prove_134 rec β σ x0 x1) := by
  unfold kZ_prove_134
  exact (gz_if (gz_call _ _ _ _) (gz_const _))
theorem gZ_step2 (β : Nat) (σ : zS) (x0 : Int) : gz (fun rec => kZ_step2 rec β σ x0) := by
  unfold kZ_step2
  exact (gz_let (fun _ => (gz_if (gz_bnd (gz_call _ _ _ _) (fun _ _ => (gz_if (gz_call _ _ _ _) (gz_if (gz_call _ _ _ _) (gz_call _ _ _ _))))) (gz_const _))))
theorem gZ_step2_21 (β : Nat) (σ : zS) (x0 x1 x2 : Int) : gz (fun rec => kZ_step2_21 rec β σ x0 x1 x2) := by
  unfold kZ_step2_21
  exact (gz_call _ _ _ _)
theorem gZ_step2_26 (β : Nat) (σ : zS) (x0 x1 x2 x3 : Int) : gz (fun rec => kZ_step2_26 rec β σ x0 x1 x2 x3) := by
  unfold kZ_step2_26
  exact (gz_if (gz_bnd (gz_call _ _ _ _) (fun _ _ => (gz_if (gz_call _ _ _ _) (gz_const _)))) (gz_const _))
theorem gZ_step2_39 (β : Nat) (σ : zS) (x0 x1 x2 x3 : Int) : gz (fun rec => kZ_step2_39 rec β σ x0 x1 x2 x3) := by
  unfold kZ_step2_39
  exact (gz_if (gz_const _) (gz_if (gz_call _ _ _ _) (gz_const _)))
theorem gZ_step2_47 (β : Nat) (σ : zS) (x0 x1 x2 x3 : Int) : gz (fun rec => kZ_step2_47 rec β σ x0 x1 x2 x3) := by
  unfold kZ_step2_47
  exact (gz_if (gz_if (gz_if (gz_call _ _ _ _) (gz_const _)) (gz_if (gz_call _ _ _ _) (gz_const _))) (gz_const _))
theorem gZ_look (β : Nat) (σ : zS) (x0 x1 : Int) : gz (fun rec => kZ_look rec β σ x0 x1) := by
  unfold kZ_look
  exact (gz_let (fun _ => (gz_if (gz_call _ _ _ _) (gz_if (gz_call _ _ _ _) (gz_call _ _ _ _)))))
theorem gZ_look_17 (β : Nat) (σ : zS) (x0 x1 x2 : Int) : gz (fun rec => kZ_look_17 rec β σ x0 x1 x2) := by
  unfold kZ_look_17
  exact (gz_call _ _ _ _)
theorem gZ_look_22 (β : Nat) (σ : zS) (x0 x1 x2 x3 : Int) : gz (fun rec => kZ_look_22 rec β σ x0 x1 x2 x3) := by
  unfold kZ_look_22
  exact (gz_if (gz_bnd (gz_call _ _ _ _) (fun _ _ => (gz_if (gz_let (fun _ => (gz_let (fun _ => (gz_if (gz_bnd (gz_call _ _ _ _) (fun _ _ => (gz_if (gz_const _) (gz_call _ _ _ _)))) (gz_const _)))))) (gz_const _)))) (gz_const _))
theorem gZ_look_54 (β : Nat) (σ : zS) (x0 x1 x2 x3 : Int) : gz (fun rec => kZ_look_54 rec β σ x0 x1 x2 x3) := by
  unfold kZ_look_54
  exact (gz_if (gz_const _) (gz_if (gz_bnd (gz_call _ _ _ _) (fun _ _ => (gz_if (gz_if (gz_call _ _ _ _) (gz_const _)) (gz_call _ _ _ _)))) (gz_const _)))
theorem gZ_look_75 (β : Nat) (σ : zS) (x0 x1 x2 x3 : Int) : gz (fun rec => kZ_look_75 rec β σ x0 x1 x2 x3) := by
  unfold kZ_look_75
  exact (gz_if (gz_call _ _ _ _) (gz_const _))
theorem gZ_textIsTrue (β : Nat) (σ : zS) : gz (fun rec => kZ_textIsTrue rec β σ) := by
  unfold kZ_textIsTrue
  exact (gz_call _ _ _ _)
theorem gZ_textIsTrue_2 (β : Nat) (σ : zS) (x0 : Int) : gz (fun rec => kZ_textIsTrue_2 rec β σ x0) := by
  unfold kZ_textIsTrue_2
  exact (gz_if (gz_const _) (gz_if (gz_bnd (gz_call _ _ _ _) (fun _ _ => (gz_if (gz_const _) (gz_if (gz_call _ _ _ _) (gz_const _))))) (gz_const _)))
theorem gZ_isTrue (β : Nat) (σ : zS) (x0 : Int) : gz (fun rec => kZ_isTrue rec β σ x0) := by
  unfold kZ_isTrue
  exact (gz_call _ _ _ _)
theorem gZ_isTrue_4 (β : Nat) (σ : zS) (x0 x1 x2 : Int) : gz (fun rec => kZ_isTrue_4 rec β σ x0 x1 x2) := by
  unfold kZ_isTrue_4
  exact (gz_if (gz_if (gz_call _ _ _ _) (gz_if (gz_if (gz_call _ _ _ _) (gz_const _)) (gz_const _))) (gz_const _))
theorem gZ_isTrue_29 (β : Nat) (σ : zS) (x0 x1 x2 : Int) : gz (fun rec => kZ_isTrue_29 rec β σ x0 x1 x2) := by
  unfold kZ_isTrue_29
  exact (gz_if (gz_const _) (gz_call _ _ _ _))
theorem gZ_isTrue_40 (β : Nat) (σ : zS) (x0 x1 x2 x3 x4 : Int) : gz (fun rec => kZ_isTrue_40 rec β σ x0 x1 x2 x3 x4) := by
  unfold kZ_isTrue_40
  exact (gz_if (gz_if (gz_call _ _ _ _) (gz_if (gz_const _) (gz_if (gz_let (fun _ => (gz_if (gz_const _) (gz_if (gz_if (gz_call _ _ _ _) (gz_const _)) (gz_const _))))) (gz_const _)))) (gz_const _))
theorem gZ_isTrue_91 (β : Nat) (σ : zS) (x0 x1 x2 x3 x4 x5 : Int) : gz (fun rec => kZ_isTrue_91 rec β σ x0 x1 x2 x3 x4 x5) := by
  unfold kZ_isTrue_91
  exact (gz_if (gz_if (gz_if (gz_call _ _ _ _) (gz_if (gz_if (gz_if (gz_bnd (gz_call _ _ _ _) (fun _ _ => (gz_if (gz_bnd (gz_call _ _ _ _) (fun _ _ => (gz_if (gz_call _ _ _ _) (gz_call _ _ _ _)))) (gz_const _)))) (gz_const _)) (gz_const _)) (gz_call _ _ _ _))) (gz_const _)) (gz_const _))
theorem gZ_isTrue_144 (β : Nat) (σ : zS) (x0 x1 x2 x3 x4 x5 x6 : Int) : gz (fun rec => kZ_isTrue_144 rec β σ x0 x1 x2 x3 x4 x5 x6) := by
  unfold kZ_isTrue_144
  exact (gz_if (gz_if (gz_call _ _ _ _) (gz_call _ _ _ _)) (gz_const _))
theorem gZ_isTrue_159 (β : Nat) (σ : zS) (x0 x1 x2 x3 x4 x5 x6 : Int) : gz (fun rec => kZ_isTrue_159 rec β σ x0 x1 x2 x3 x4 x5 x6) := by
  unfold kZ_isTrue_159
  exact (gz_if (gz_call _ _ _ _) (gz_const _))
theorem gZ_isTrue_167 (β : Nat) (σ : zS) (x0 x1 x2 x3 x4 x5 : Int) : gz (fun rec => kZ_isTrue_167 rec β σ x0 x1 x2 x3 x4 x5) := by
  unfold kZ_isTrue_167
  exact (gz_if (gz_const _) (gz_if (gz_call _ _ _ _) (gz_const _)))
theorem gZ_meaning (β : Nat) (σ : zS) (x0 : Int) : gz (fun rec => kZ_meaning rec β σ x0) := by
  unfold kZ_meaning
  exact (gz_if (gz_if (gz_if (gz_const _) (gz_if (gz_bnd (gz_call _ _ _ _) (fun _ _ => (gz_call _ _ _ _))) (gz_const _))) (gz_if (gz_const _) (gz_const _))) (gz_const _))
theorem gZ_meaning_56 (β : Nat) (σ : zS) (x0 x1 x2 : Int) : gz (fun rec => kZ_meaning_56 rec β σ x0 x1 x2) := by
  unfold kZ_meaning_56
  exact (gz_if (gz_if (gz_if (gz_if (gz_if (gz_const _) (gz_call _ _ _ _)) (gz_call _ _ _ _)) (gz_const _)) (gz_const _)) (gz_if (gz_bnd (gz_call _ _ _ _) (fun _ _ => (gz_if (gz_bnd (gz_call _ _ _ _) (fun _ _ => (gz_if (gz_call _ _ _ _) (gz_const _)))) (gz_const _)))) (gz_const _)))
theorem gZ_meaning_129 (β : Nat) (σ : zS) (x0 x1 x2 x3 : Int) : gz (fun rec => kZ_meaning_129 rec β σ x0 x1 x2 x3) := by
  unfold kZ_meaning_129
  exact (gz_const _)
theorem gZ_mixed (β : Nat) (σ : zS) (x0 x1 : Int) : gz (fun rec => kZ_mixed rec β σ x0 x1) := by
  unfold kZ_mixed
  exact (gz_const _)
theorem gZ_search (β : Nat) (σ : zS) (x0 x1 x2 : Int) : gz (fun rec => kZ_search rec β σ x0 x1 x2) := by
  unfold kZ_search
  exact (gz_let (fun _ => (gz_if (gz_call _ _ _ _) (gz_if (gz_call _ _ _ _) (gz_if (gz_call _ _ _ _) (gz_if (gz_call _ _ _ _) (gz_call _ _ _ _)))))))
theorem gZ_search_28 (β : Nat) (σ : zS) (x0 x1 x2 x3 : Int) : gz (fun rec => kZ_search_28 rec β σ x0 x1 x2 x3) := by
  unfold kZ_search_28
  exact (gz_call _ _ _ _)
theorem gZ_search_33 (β : Nat) (σ : zS) (x0 x1 x2 x3 x4 : Int) : gz (fun rec => kZ_search_33 rec β σ x0 x1 x2 x3 x4) := by
  unfold kZ_search_33
  exact (gz_if (gz_bnd (gz_call _ _ _ _) (fun _ _ => (gz_if (gz_let (fun _ => (gz_call _ _ _ _))) (gz_const _)))) (gz_const _))
theorem gZ_search_49 (β : Nat) (σ : zS) (x0 x1 x2 x3 : Int) : gz (fun rec => kZ_search_49 rec β σ x0 x1 x2 x3) := by
  unfold kZ_search_49
  exact (gz_if (gz_const _) (gz_let (fun _ => (gz_if (gz_bnd (gz_call _ _ _ _) (fun _ _ => (gz_if (gz_if (gz_call _ _ _ _) (gz_const _)) (gz_const _)))) (gz_const _)))))
theorem gZ_count1 (β : Nat) (σ : zS) (x0 : Int) : gz (fun rec => kZ_count1 rec β σ x0) := by
  unfold kZ_count1
  exact (gz_let (fun _ => (gz_if (gz_const _) (gz_if (gz_const _) (gz_if (gz_const _) (gz_if (gz_if (gz_bnd (gz_call _ _ _ _) (fun _ _ => (gz_const _))) (gz_const _)) (gz_if (gz_if (gz_bnd (gz_call _ _ _ _) (fun _ _ => (gz_const _))) (gz_const _)) (gz_if (gz_const _) (gz_if (gz_const _) (gz_if (gz_const _) (gz_if (gz_const _) (gz_if (gz_const _) (gz_if (gz_const _) (gz_if (gz_const _) (gz_if (gz_const _) (gz_if (gz_const _) (gz_const _)))))))))))))))))
theorem gZ_inState (β : Nat) (σ : zS) (x0 : Int) : gz (fun rec => kZ_inState rec β σ x0) := by
  unfold kZ_inState
  exact (gz_call _ _ _ _)
theorem gZ_inState_4 (β : Nat) (σ : zS) (x0 x1 x2 : Int) : gz (fun rec => kZ_inState_4 rec β σ x0 x1 x2) := by
  unfold kZ_inState_4
  exact (gz_if (gz_const _) (gz_if (gz_if (gz_if (gz_call _ _ _ _) (gz_const _)) (gz_call _ _ _ _)) (gz_const _)))
theorem gZ_inState_25 (β : Nat) (σ : zS) (x0 x1 x2 : Int) : gz (fun rec => kZ_inState_25 rec β σ x0 x1 x2) := by
  unfold kZ_inState_25
  exact (gz_if (gz_call _ _ _ _) (gz_const _))
theorem gZ_sides_many (β : Nat) (σ : zS) (x0 : Int) : gz (fun rec => kZ_sides_many rec β σ x0) := by
  unfold kZ_sides_many
  exact (gz_if (gz_if (gz_let (fun _ => (gz_if (gz_let (fun _ => (gz_if (gz_if (gz_let (fun _ => (gz_if (gz_let (fun _ => (gz_const _))) (gz_const _)))) (gz_const _)) (gz_const _)))) (gz_const _)))) (gz_const _)) (gz_const _))
theorem gZ_sides_others (β : Nat) (σ : zS) (x0 : Int) : gz (fun rec => kZ_sides_others rec β σ x0) := by
  unfold kZ_sides_others
  exact (gz_if (gz_if (gz_let (fun _ => (gz_if (gz_let (fun _ => (gz_if (gz_if (gz_let (fun _ => (gz_if (gz_let (fun _ => (gz_const _))) (gz_const _)))) (gz_const _)) (gz_const _)))) (gz_const _)))) (gz_const _)) (gz_const _))
