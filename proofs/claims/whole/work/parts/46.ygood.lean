theorem gz_u11 {k : zF → Int → Int → Int → Int → Int → Int → Int → Int → Int → Int → Int → Option zR} (h : ∀ x0 x1 x2 x3 x4 x5 x6 x7 x8 x9 x10, gz (fun rec => k rec x0 x1 x2 x3 x4 x5 x6 x7 x8 x9 x10)) (xs : List Int) : gz (fun rec => uz_11 (k rec) xs) := by
  match xs with
  | [x0, x1, x2, x3, x4, x5, x6, x7, x8, x9, x10] => exact h x0 x1 x2 x3 x4 x5 x6 x7 x8 x9 x10
  | [] => exact gz_const none
  | [_] => exact gz_const none
  | [_, _] => exact gz_const none
  | [_, _, _] => exact gz_const none
  | [_, _, _, _] => exact gz_const none
  | [_, _, _, _, _] => exact gz_const none
  | [_, _, _, _, _, _] => exact gz_const none
  | [_, _, _, _, _, _, _] => exact gz_const none
  | [_, _, _, _, _, _, _, _] => exact gz_const none
  | [_, _, _, _, _, _, _, _, _] => exact gz_const none
  | [_, _, _, _, _, _, _, _, _, _] => exact gz_const none
  | _ :: _ :: _ :: _ :: _ :: _ :: _ :: _ :: _ :: _ :: _ :: _ :: _ => exact gz_const none
theorem gz_u12 {k : zF → Int → Int → Int → Int → Int → Int → Int → Int → Int → Int → Int → Int → Option zR} (h : ∀ x0 x1 x2 x3 x4 x5 x6 x7 x8 x9 x10 x11, gz (fun rec => k rec x0 x1 x2 x3 x4 x5 x6 x7 x8 x9 x10 x11)) (xs : List Int) : gz (fun rec => uz_12 (k rec) xs) := by
  match xs with
  | [x0, x1, x2, x3, x4, x5, x6, x7, x8, x9, x10, x11] => exact h x0 x1 x2 x3 x4 x5 x6 x7 x8 x9 x10 x11
  | [] => exact gz_const none
  | [_] => exact gz_const none
  | [_, _] => exact gz_const none
  | [_, _, _] => exact gz_const none
  | [_, _, _, _] => exact gz_const none
  | [_, _, _, _, _] => exact gz_const none
  | [_, _, _, _, _, _] => exact gz_const none
  | [_, _, _, _, _, _, _] => exact gz_const none
  | [_, _, _, _, _, _, _, _] => exact gz_const none
  | [_, _, _, _, _, _, _, _, _] => exact gz_const none
  | [_, _, _, _, _, _, _, _, _, _] => exact gz_const none
  | [_, _, _, _, _, _, _, _, _, _, _] => exact gz_const none
  | _ :: _ :: _ :: _ :: _ :: _ :: _ :: _ :: _ :: _ :: _ :: _ :: _ :: _ => exact gz_const none
theorem gz_u13 {k : zF → Int → Int → Int → Int → Int → Int → Int → Int → Int → Int → Int → Int → Int → Option zR} (h : ∀ x0 x1 x2 x3 x4 x5 x6 x7 x8 x9 x10 x11 x12, gz (fun rec => k rec x0 x1 x2 x3 x4 x5 x6 x7 x8 x9 x10 x11 x12)) (xs : List Int) : gz (fun rec => uz_13 (k rec) xs) := by
  match xs with
  | [x0, x1, x2, x3, x4, x5, x6, x7, x8, x9, x10, x11, x12] => exact h x0 x1 x2 x3 x4 x5 x6 x7 x8 x9 x10 x11 x12
  | [] => exact gz_const none
  | [_] => exact gz_const none
  | [_, _] => exact gz_const none
  | [_, _, _] => exact gz_const none
  | [_, _, _, _] => exact gz_const none
  | [_, _, _, _, _] => exact gz_const none
  | [_, _, _, _, _, _] => exact gz_const none
  | [_, _, _, _, _, _, _] => exact gz_const none
  | [_, _, _, _, _, _, _, _] => exact gz_const none
  | [_, _, _, _, _, _, _, _, _] => exact gz_const none
  | [_, _, _, _, _, _, _, _, _, _] => exact gz_const none
  | [_, _, _, _, _, _, _, _, _, _, _] => exact gz_const none
  | [_, _, _, _, _, _, _, _, _, _, _, _] => exact gz_const none
  | _ :: _ :: _ :: _ :: _ :: _ :: _ :: _ :: _ :: _ :: _ :: _ :: _ :: _ :: _ => exact gz_const none
theorem gY_CP_count (β : Nat) (σ : zS) (x0 : Int) : gz (fun rec => kY_CP_count rec β σ x0) := by
  unfold kY_CP_count
  exact (gz_if (gz_const _) (gz_if (gz_const _) (gz_if (gz_const _) (gz_if (gz_if (gz_bnd (gz_call _ _ _ _) (fun _ _ => (gz_const _))) (gz_const _)) (gz_if (gz_if (gz_bnd (gz_call _ _ _ _) (fun _ _ => (gz_const _))) (gz_const _)) (gz_if (gz_const _) (gz_if (gz_const _) (gz_if (gz_const _) (gz_if (gz_const _) (gz_if (gz_const _) (gz_if (gz_const _) (gz_if (gz_const _) (gz_if (gz_const _) (gz_if (gz_const _) (gz_const _)))))))))))))))
theorem gY_CP_fault (β : Nat) (σ : zS) (x0 : Int) : gz (fun rec => kY_CP_fault rec β σ x0) := by
  unfold kY_CP_fault
  exact (gz_if (gz_const _) (gz_if (gz_call _ _ _ _) (gz_call _ _ _ _)))
theorem gY_CP_fault_p22 (β : Nat) (σ : zS) (x0 x1 : Int) : gz (fun rec => kY_CP_fault_p22 rec β σ x0 x1) := by
  unfold kY_CP_fault_p22
  exact (gz_const _)
theorem gY_CP_proof (β : Nat) (σ : zS) : gz (fun rec => kY_CP_proof rec β σ) := by
  unfold kY_CP_proof
  exact (gz_const _)
theorem gY_Dra_cellOf (β : Nat) (σ : zS) (x0 : Int) : gz (fun rec => kY_Dra_cellOf rec β σ x0) := by
  unfold kY_Dra_cellOf
  exact (gz_if (gz_if (gz_if (gz_let (fun _ => (gz_call _ _ _ _))) (gz_call _ _ _ _)) (gz_call _ _ _ _)) (gz_const _))
theorem gY_Dra_cellOf_p27 (β : Nat) (σ : zS) (x0 : Int) : gz (fun rec => kY_Dra_cellOf_p27 rec β σ x0) := by
  unfold kY_Dra_cellOf_p27
  exact (gz_if (gz_if (gz_if (gz_let (fun _ => (gz_if (gz_let (fun _ => (gz_let (fun _ => (gz_call _ _ _ _))))) (gz_const _)))) (gz_const _)) (gz_call _ _ _ _)) (gz_const _))
theorem gY_Dra_cellOf_p64 (β : Nat) (σ : zS) (x0 : Int) : gz (fun rec => kY_Dra_cellOf_p64 rec β σ x0) := by
  unfold kY_Dra_cellOf_p64
  exact (gz_if (gz_const _) (gz_const _))
theorem gY_Dra_clear (β : Nat) (σ : zS) : gz (fun rec => kY_Dra_clear rec β σ) := by
  unfold kY_Dra_clear
  exact (gz_call _ _ _ _)
theorem gY_Dra_clear_p2 (β : Nat) (σ : zS) (x0 : Int) : gz (fun rec => kY_Dra_clear_p2 rec β σ x0) := by
  unfold kY_Dra_clear_p2
  exact (gz_if (gz_let (fun _ => (gz_let (fun _ => (gz_let (fun _ => (gz_let (fun _ => (gz_const _))))))))) (gz_if (gz_if (gz_let (fun _ => (gz_if (gz_call _ _ _ _) (gz_const _)))) (gz_const _)) (gz_const _)))
theorem gY_Dra_closeLiteral (β : Nat) (σ : zS) : gz (fun rec => kY_Dra_closeLiteral rec β σ) := by
  unfold kY_Dra_closeLiteral
  exact (gz_if (gz_if (gz_let (fun _ => (gz_if (gz_let (fun _ => (gz_call _ _ _ _))) (gz_const _)))) (gz_const _)) (gz_call _ _ _ _))
theorem gY_Dra_closeLiteral_p30 (β : Nat) (σ : zS) : gz (fun rec => kY_Dra_closeLiteral_p30 rec β σ) := by
  unfold kY_Dra_closeLiteral_p30
  exact (gz_const _)
theorem gY_Dra_hasSameSides (β : Nat) (σ : zS) (x0 x1 : Int) : gz (fun rec => kY_Dra_hasSameSides rec β σ x0 x1) := by
  unfold kY_Dra_hasSameSides
  exact (gz_if (gz_if (gz_if (gz_if (gz_if (gz_if (gz_if (gz_if (gz_if (gz_if (gz_if (gz_bnd (gz_call _ _ _ _) (fun _ _ => (gz_if (gz_if (gz_if (gz_call _ _ _ _) (gz_const _)) (gz_const _)) (gz_if (gz_if (gz_if (gz_bnd (gz_call _ _ _ _) (fun _ _ => (gz_if (gz_call _ _ _ _) (gz_call _ _ _ _)))) (gz_const _)) (gz_const _)) (gz_const _))))) (gz_const _)) (gz_const _)) (gz_const _)) (gz_const _)) (gz_const _)) (gz_const _)) (gz_const _)) (gz_const _)) (gz_const _)) (gz_const _)) (gz_const _))
theorem gY_Dra_hasSameSides_p108 (β : Nat) (σ : zS) (x0 x1 x2 x3 x4 x5 : Int) : gz (fun rec => kY_Dra_hasSameSides_p108 rec β σ x0 x1 x2 x3 x4 x5) := by
  unfold kY_Dra_hasSameSides_p108
  exact (gz_if (gz_if (gz_if (gz_bnd (gz_call _ _ _ _) (fun _ _ => (gz_if (gz_call _ _ _ _) (gz_if (gz_if (gz_if (gz_bnd (gz_call _ _ _ _) (fun _ _ => (gz_if (gz_call _ _ _ _) (gz_call _ _ _ _)))) (gz_const _)) (gz_const _)) (gz_const _))))) (gz_const _)) (gz_const _)) (gz_const _))
theorem gY_Dra_hasSameSides_p153 (β : Nat) (σ : zS) (x0 x1 x2 x3 x4 x5 : Int) : gz (fun rec => kY_Dra_hasSameSides_p153 rec β σ x0 x1 x2 x3 x4 x5) := by
  unfold kY_Dra_hasSameSides_p153
  exact (gz_call _ _ _ _)
theorem gY_Dra_hasSameSides_p157 (β : Nat) (σ : zS) (x0 x1 x2 x3 x4 x5 : Int) : gz (fun rec => kY_Dra_hasSameSides_p157 rec β σ x0 x1 x2 x3 x4 x5) := by
  unfold kY_Dra_hasSameSides_p157
  exact (gz_call _ _ _ _)
theorem gY_Dra_hasSameSides_p158 (β : Nat) (σ : zS) (x0 x1 x2 x3 x4 x5 x6 : Int) : gz (fun rec => kY_Dra_hasSameSides_p158 rec β σ x0 x1 x2 x3 x4 x5 x6) := by
  unfold kY_Dra_hasSameSides_p158
  exact (gz_if (gz_const _) (gz_const _))
theorem gY_Dra_isSame (β : Nat) (σ : zS) (x0 x1 x2 x3 : Int) : gz (fun rec => kY_Dra_isSame rec β σ x0 x1 x2 x3) := by
  unfold kY_Dra_isSame
  exact (gz_if (gz_call _ _ _ _) (gz_call _ _ _ _))
theorem gY_Dra_isSame_p11 (β : Nat) (σ : zS) (x0 x1 x2 x3 x4 : Int) : gz (fun rec => kY_Dra_isSame_p11 rec β σ x0 x1 x2 x3 x4) := by
  unfold kY_Dra_isSame_p11
  exact (gz_call _ _ _ _)
theorem gY_Dra_isSame_p16 (β : Nat) (σ : zS) (x0 x1 x2 x3 x4 x5 : Int) : gz (fun rec => kY_Dra_isSame_p16 rec β σ x0 x1 x2 x3 x4 x5) := by
  unfold kY_Dra_isSame_p16
  exact (gz_if (gz_call _ _ _ _) (gz_if (gz_call _ _ _ _) (gz_if (gz_if (gz_if (gz_if (gz_if (gz_call _ _ _ _) (gz_call _ _ _ _)) (gz_const _)) (gz_const _)) (gz_const _)) (gz_const _))))
theorem gY_Dra_isSame_p53 (β : Nat) (σ : zS) (x0 x1 x2 x3 x4 x5 x6 : Int) : gz (fun rec => kY_Dra_isSame_p53 rec β σ x0 x1 x2 x3 x4 x5 x6) := by
  unfold kY_Dra_isSame_p53
  exact (gz_if (gz_call _ _ _ _) (gz_const _))
theorem gY_Dra_isSame_p61 (β : Nat) (σ : zS) (x0 x1 x2 x3 x4 x5 : Int) : gz (fun rec => kY_Dra_isSame_p61 rec β σ x0 x1 x2 x3 x4 x5) := by
  unfold kY_Dra_isSame_p61
  exact (gz_if (gz_const _) (gz_const _))
theorem gY_Dra_isTautology (β : Nat) (σ : zS) : gz (fun rec => kY_Dra_isTautology rec β σ) := by
  unfold kY_Dra_isTautology
  exact (gz_call _ _ _ _)
theorem gY_Dra_isTautology_p2 (β : Nat) (σ : zS) (x0 : Int) : gz (fun rec => kY_Dra_isTautology_p2 rec β σ x0) := by
  unfold kY_Dra_isTautology_p2
  exact (gz_if (gz_const _) (gz_if (gz_if (gz_if (gz_if (gz_call _ _ _ _) (gz_const _)) (gz_if (gz_if (gz_if (gz_if (gz_if (gz_bnd (gz_call _ _ _ _) (fun _ _ => (gz_if (gz_call _ _ _ _) (gz_const _)))) (gz_const _)) (gz_const _)) (gz_const _)) (gz_const _)) (gz_const _))) (gz_const _)) (gz_const _)))
theorem gY_Dra_isTautology_p70 (β : Nat) (σ : zS) (x0 x1 : Int) : gz (fun rec => kY_Dra_isTautology_p70 rec β σ x0 x1) := by
  unfold kY_Dra_isTautology_p70
  exact (gz_call _ _ _ _)
theorem gY_Dra_isTautology_p72 (β : Nat) (σ : zS) (x0 x1 x2 : Int) : gz (fun rec => kY_Dra_isTautology_p72 rec β σ x0 x1 x2) := by
  unfold kY_Dra_isTautology_p72
  exact (gz_if (gz_if (gz_call _ _ _ _) (gz_const _)) (gz_if (gz_if (gz_if (gz_call _ _ _ _) (gz_if (gz_bnd (gz_call _ _ _ _) (fun _ _ => (gz_if (gz_call _ _ _ _) (gz_const _)))) (gz_const _))) (gz_const _)) (gz_const _)))
theorem gY_Dra_isTautology_p103 (β : Nat) (σ : zS) (x0 x1 x2 : Int) : gz (fun rec => kY_Dra_isTautology_p103 rec β σ x0 x1 x2) := by
  unfold kY_Dra_isTautology_p103
  exact (gz_if (gz_call _ _ _ _) (gz_const _))
theorem gY_Dra_load (β : Nat) (σ : zS) (x0 : Int) : gz (fun rec => kY_Dra_load rec β σ x0) := by
  unfold kY_Dra_load
  exact (gz_if (gz_bnd (gz_call _ _ _ _) (fun _ _ => (gz_if (gz_bnd (gz_call _ _ _ _) (fun _ _ => (gz_call _ _ _ _))) (gz_const _)))) (gz_const _))
theorem gY_Dra_load_p24 (β : Nat) (σ : zS) (x0 x1 x2 : Int) : gz (fun rec => kY_Dra_load_p24 rec β σ x0 x1 x2) := by
  unfold kY_Dra_load_p24
  exact (gz_if (gz_bnd (gz_call _ _ _ _) (fun _ _ => (gz_if (gz_const _) (gz_if (gz_if (gz_if (gz_call _ _ _ _) (gz_call _ _ _ _)) (gz_const _)) (gz_const _))))) (gz_const _))
theorem gY_Dra_load_p51 (β : Nat) (σ : zS) (x0 x1 x2 x3 : Int) : gz (fun rec => kY_Dra_load_p51 rec β σ x0 x1 x2 x3) := by
  unfold kY_Dra_load_p51
  exact (gz_if (gz_bnd (gz_call _ _ _ _) (fun _ _ => (gz_if (gz_bnd (gz_call _ _ _ _) (fun _ _ => (gz_call _ _ _ _))) (gz_const _)))) (gz_const _))
theorem gY_Dra_load_p63 (β : Nat) (σ : zS) (x0 x1 x2 x3 : Int) : gz (fun rec => kY_Dra_load_p63 rec β σ x0 x1 x2 x3) := by
  unfold kY_Dra_load_p63
  exact (gz_if (gz_bnd (gz_call _ _ _ _) (fun _ _ => (gz_if (gz_if (gz_bnd (gz_call _ _ _ _) (fun _ _ => (gz_if (gz_bnd (gz_call _ _ _ _) (fun _ _ => (gz_if (gz_call _ _ _ _) (gz_const _)))) (gz_const _)))) (gz_const _)) (gz_if (gz_bnd (gz_call _ _ _ _) (fun _ _ => (gz_if (gz_if (gz_bnd (gz_call _ _ _ _) (fun _ _ => (gz_call _ _ _ _))) (gz_const _)) (gz_call _ _ _ _)))) (gz_const _))))) (gz_const _))
theorem gY_Dra_load_p90 (β : Nat) (σ : zS) (x0 x1 x2 x3 : Int) : gz (fun rec => kY_Dra_load_p90 rec β σ x0 x1 x2 x3) := by
  unfold kY_Dra_load_p90
  exact (gz_if (gz_if (gz_bnd (gz_call _ _ _ _) (fun _ _ => (gz_if (gz_call _ _ _ _) (gz_const _)))) (gz_const _)) (gz_const _))
theorem gY_Dra_openLiteral (β : Nat) (σ : zS) (x0 : Int) : gz (fun rec => kY_Dra_openLiteral rec β σ x0) := by
  unfold kY_Dra_openLiteral
  exact (gz_if (gz_let (fun _ => (gz_const _))) (gz_if (gz_if (gz_let (fun _ => (gz_if (gz_let (fun _ => (gz_const _))) (gz_const _)))) (gz_const _)) (gz_const _)))
theorem gY_Dra_openRight (β : Nat) (σ : zS) : gz (fun rec => kY_Dra_openRight rec β σ) := by
  unfold kY_Dra_openRight
  exact (gz_if (gz_if (gz_let (fun _ => (gz_call _ _ _ _))) (gz_const _)) (gz_call _ _ _ _))
theorem gY_Dra_openRight_p20 (β : Nat) (σ : zS) : gz (fun rec => kY_Dra_openRight_p20 rec β σ) := by
  unfold kY_Dra_openRight_p20
  exact (gz_const _)
theorem gY_Dra_put (β : Nat) (σ : zS) (x0 : Int) : gz (fun rec => kY_Dra_put rec β σ x0) := by
  unfold kY_Dra_put
  exact (gz_if (gz_let (fun _ => (gz_call _ _ _ _))) (gz_call _ _ _ _))
theorem gY_Dra_put_p14 (β : Nat) (σ : zS) (x0 : Int) : gz (fun rec => kY_Dra_put_p14 rec β σ x0) := by
  unfold kY_Dra_put_p14
  exact (gz_if (gz_if (gz_let (fun _ => (gz_if (gz_let (fun _ => (gz_call _ _ _ _))) (gz_const _)))) (gz_const _)) (gz_call _ _ _ _))
theorem gY_Dra_put_p38 (β : Nat) (σ : zS) (x0 : Int) : gz (fun rec => kY_Dra_put_p38 rec β σ x0) := by
  unfold kY_Dra_put_p38
  exact (gz_const _)
theorem gY_Dra_reduce (β : Nat) (σ : zS) : gz (fun rec => kY_Dra_reduce rec β σ) := by
  unfold kY_Dra_reduce
  exact (gz_call _ _ _ _)
theorem gY_Dra_reduce_p6 (β : Nat) (σ : zS) (x0 x1 x2 : Int) : gz (fun rec => kY_Dra_reduce_p6 rec β σ x0 x1 x2) := by
  unfold kY_Dra_reduce_p6
  exact (gz_if (gz_let (fun _ => (gz_let (fun _ => (gz_if (gz_bnd (gz_call _ _ _ _) (fun _ _ => (gz_const _))) (gz_const _)))))) (gz_if (gz_if (gz_if (gz_if (gz_if (gz_if (gz_if (gz_if (gz_if (gz_bnd (gz_call _ _ _ _) (fun _ _ => (gz_if (gz_call _ _ _ _) (gz_call _ _ _ _)))) (gz_const _)) (gz_const _)) (gz_const _)) (gz_const _)) (gz_if (gz_if (gz_call _ _ _ _) (gz_const _)) (gz_const _))) (gz_const _)) (gz_const _)) (gz_const _)) (gz_const _)))
theorem gY_Dra_reduce_p81 (β : Nat) (σ : zS) (x0 x1 x2 x3 x4 x5 : Int) : gz (fun rec => kY_Dra_reduce_p81 rec β σ x0 x1 x2 x3 x4 x5) := by
  unfold kY_Dra_reduce_p81
  exact (gz_call _ _ _ _)
theorem gY_Dra_reduce_p82 (β : Nat) (σ : zS) (x0 x1 x2 x3 x4 x5 x6 : Int) : gz (fun rec => kY_Dra_reduce_p82 rec β σ x0 x1 x2 x3 x4 x5 x6) := by
  unfold kY_Dra_reduce_p82
  exact (gz_call _ _ _ _)
theorem gY_Dra_reduce_p87 (β : Nat) (σ : zS) (x0 x1 x2 x3 x4 x5 x6 x7 : Int) : gz (fun rec => kY_Dra_reduce_p87 rec β σ x0 x1 x2 x3 x4 x5 x6 x7) := by
  unfold kY_Dra_reduce_p87
  exact (gz_if (gz_call _ _ _ _) (gz_if (gz_if (gz_if (gz_if (gz_if (gz_bnd (gz_call _ _ _ _) (fun _ _ => (gz_if (gz_call _ _ _ _) (gz_call _ _ _ _)))) (gz_const _)) (gz_call _ _ _ _)) (gz_const _)) (gz_const _)) (gz_call _ _ _ _)))
theorem gY_Dra_reduce_p128 (β : Nat) (σ : zS) (x0 x1 x2 x3 x4 x5 x6 x7 : Int) : gz (fun rec => kY_Dra_reduce_p128 rec β σ x0 x1 x2 x3 x4 x5 x6 x7) := by
  unfold kY_Dra_reduce_p128
  exact (gz_call _ _ _ _)
theorem gY_Dra_reduce_p129 (β : Nat) (σ : zS) (x0 x1 x2 x3 x4 x5 x6 x7 x8 : Int) : gz (fun rec => kY_Dra_reduce_p129 rec β σ x0 x1 x2 x3 x4 x5 x6 x7 x8) := by
  unfold kY_Dra_reduce_p129
  exact (gz_if (gz_call _ _ _ _) (gz_const _))
theorem gY_Dra_reduce_p137 (β : Nat) (σ : zS) (x0 x1 x2 x3 x4 x5 x6 x7 : Int) : gz (fun rec => kY_Dra_reduce_p137 rec β σ x0 x1 x2 x3 x4 x5 x6 x7) := by
  unfold kY_Dra_reduce_p137
  exact (gz_if (gz_if (gz_let (fun _ => (gz_if (gz_if (gz_if (gz_let (fun _ => (gz_if (gz_let (fun _ => (gz_if (gz_let (fun _ => (gz_if (gz_if (gz_if (gz_let (fun _ => (gz_call _ _ _ _))) (gz_const _)) (gz_const _)) (gz_const _)))) (gz_const _)))) (gz_const _)))) (gz_const _)) (gz_const _)) (gz_const _)))) (gz_const _)) (gz_call _ _ _ _))
theorem gY_Dra_reduce_p202 (β : Nat) (σ : zS) (x0 x1 x2 x3 x4 x5 x6 x7 : Int) : gz (fun rec => kY_Dra_reduce_p202 rec β σ x0 x1 x2 x3 x4 x5 x6 x7) := by
  unfold kY_Dra_reduce_p202
  exact (gz_if (gz_call _ _ _ _) (gz_const _))
theorem gY_Dra_renumber (β : Nat) (σ : zS) : gz (fun rec => kY_Dra_renumber rec β σ) := by
  unfold kY_Dra_renumber
  exact (gz_let (fun _ => (gz_let (fun _ => (gz_call _ _ _ _)))))
theorem gY_Dra_renumber_p15 (β : Nat) (σ : zS) (x0 : Int) : gz (fun rec => kY_Dra_renumber_p15 rec β σ x0) := by
  unfold kY_Dra_renumber_p15
  exact (gz_if (gz_const _) (gz_if (gz_if (gz_call _ _ _ _) (gz_if (gz_if (gz_if (gz_let (fun _ => (gz_let (fun _ => (gz_call _ _ _ _))))) (gz_const _)) (gz_call _ _ _ _)) (gz_const _))) (gz_const _)))
theorem gY_Dra_renumber_p68 (β : Nat) (σ : zS) (x0 x1 : Int) : gz (fun rec => kY_Dra_renumber_p68 rec β σ x0 x1) := by
  unfold kY_Dra_renumber_p68
  exact (gz_if (gz_if (gz_let (fun _ => (gz_call _ _ _ _))) (gz_const _)) (gz_const _))
theorem gY_Dra_renumber_p82 (β : Nat) (σ : zS) (x0 : Int) : gz (fun rec => kY_Dra_renumber_p82 rec β σ x0) := by
  unfold kY_Dra_renumber_p82
  exact (gz_if (gz_call _ _ _ _) (gz_const _))
theorem gY_Dra_replace_68 (β : Nat) (σ : zS) (x0 x1 : Int) : gz (fun rec => kY_Dra_replace_68 rec β σ x0 x1) := by
  unfold kY_Dra_replace_68
  exact (gz_if (gz_bnd (gz_call _ _ _ _) (fun _ _ => (gz_if (gz_let (fun _ => (gz_if (gz_if (gz_if (gz_let (fun _ => (gz_if (gz_if (gz_if (gz_let (fun _ => (gz_call _ _ _ _))) (gz_const _)) (gz_const _)) (gz_const _)))) (gz_const _)) (gz_const _)) (gz_const _)))) (gz_const _)))) (gz_const _))
theorem gY_Dra_replace_68_p70 (β : Nat) (σ : zS) (x0 x1 x2 x3 x4 : Int) : gz (fun rec => kY_Dra_replace_68_p70 rec β σ x0 x1 x2 x3 x4) := by
  unfold kY_Dra_replace_68_p70
  exact (gz_if (gz_const _) (gz_if (gz_if (gz_call _ _ _ _) (gz_call _ _ _ _)) (gz_const _)))
theorem gY_Dra_replace_68_p104 (β : Nat) (σ : zS) (x0 x1 x2 x3 x4 x5 x6 x7 : Int) : gz (fun rec => kY_Dra_replace_68_p104 rec β σ x0 x1 x2 x3 x4 x5 x6 x7) := by
  unfold kY_Dra_replace_68_p104
  exact (gz_if (gz_if (gz_let (fun _ => (gz_if (gz_if (gz_if (gz_call _ _ _ _) (gz_call _ _ _ _)) (gz_const _)) (gz_const _)))) (gz_const _)) (gz_const _))
theorem gY_Dra_replace_68_p135 (β : Nat) (σ : zS) (x0 x1 x2 x3 x4 x5 x6 x7 : Int) : gz (fun rec => kY_Dra_replace_68_p135 rec β σ x0 x1 x2 x3 x4 x5 x6 x7) := by
  unfold kY_Dra_replace_68_p135
  exact (gz_if (gz_if (gz_let (fun _ => (gz_if (gz_call _ _ _ _) (gz_const _)))) (gz_const _)) (gz_const _))
theorem gY_For_addVariable (β : Nat) (σ : zS) : gz (fun rec => kY_For_addVariable rec β σ) := by
  unfold kY_For_addVariable
  exact (gz_if (gz_const _) (gz_if (gz_let (fun _ => (gz_if (gz_let (fun _ => (gz_if (gz_if (gz_let (fun _ => (gz_if (gz_let (fun _ => (gz_const _))) (gz_const _)))) (gz_const _)) (gz_const _)))) (gz_const _)))) (gz_const _)))
theorem gY_For_around (β : Nat) (σ : zS) (x0 : Int) : gz (fun rec => kY_For_around rec β σ x0) := by
  unfold kY_For_around
  exact (gz_if (gz_if (gz_call _ _ _ _) (gz_if (gz_if (gz_if (gz_if (gz_if (gz_if (gz_call _ _ _ _) (gz_const _)) (gz_const _)) (gz_const _)) (gz_const _)) (gz_const _)) (gz_const _))) (gz_const _))
theorem gY_For_around_p57 (β : Nat) (σ : zS) (x0 x1 x2 : Int) : gz (fun rec => kY_For_around_p57 rec β σ x0 x1 x2) := by
  unfold kY_For_around_p57
  exact (gz_const _)
theorem gY_For_aroundAt (β : Nat) (σ : zS) (x0 x1 : Int) : gz (fun rec => kY_For_aroundAt rec β σ x0 x1) := by
  unfold kY_For_aroundAt
  exact (gz_if (gz_if (gz_if (gz_if (gz_if (gz_if (gz_if (gz_if (gz_if (gz_call _ _ _ _) (gz_const _)) (gz_const _)) (gz_if (gz_if (gz_const _) (gz_const _)) (gz_const _))) (gz_const _)) (gz_const _)) (gz_const _)) (gz_const _)) (gz_const _)) (gz_const _))
theorem gY_For_aroundAt_p68 (β : Nat) (σ : zS) (x0 x1 x2 x3 x4 x5 x6 : Int) : gz (fun rec => kY_For_aroundAt_p68 rec β σ x0 x1 x2 x3 x4 x5 x6) := by
  unfold kY_For_aroundAt_p68
  exact (gz_if (gz_const _) (gz_if (gz_if (gz_call _ _ _ _) (gz_const _)) (gz_const _)))
theorem gY_For_bind (β : Nat) (σ : zS) : gz (fun rec => kY_For_bind rec β σ) := by
  unfold kY_For_bind
  exact (gz_if (gz_bnd (gz_call _ _ _ _) (fun _ _ => (gz_if (gz_call _ _ _ _) (gz_if (gz_let (fun _ => (gz_if (gz_call _ _ _ _) (gz_if (gz_if (gz_call _ _ _ _) (gz_const _)) (gz_const _))))) (gz_const _))))) (gz_const _))
theorem gY_For_bind_p49 (β : Nat) (σ : zS) (x0 x1 x2 : Int) : gz (fun rec => kY_For_bind_p49 rec β σ x0 x1 x2) := by
  unfold kY_For_bind_p49
  exact (gz_if (gz_let (fun _ => (gz_let (fun _ => (gz_call _ _ _ _))))) (gz_const _))
theorem gY_For_bind_p55 (β : Nat) (σ : zS) (x0 : Int) : gz (fun rec => kY_For_bind_p55 rec β σ x0) := by
  unfold kY_For_bind_p55
  exact (gz_const _)
theorem gY_For_clausesOf (β : Nat) (σ : zS) (x0 x1 : Int) : gz (fun rec => kY_For_clausesOf rec β σ x0 x1) := by
  unfold kY_For_clausesOf
  exact (gz_if (gz_call _ _ _ _) (gz_call _ _ _ _))
theorem gY_For_clausesOf_p11 (β : Nat) (σ : zS) (x0 x1 x2 x3 : Int) : gz (fun rec => kY_For_clausesOf_p11 rec β σ x0 x1 x2 x3) := by
  unfold kY_For_clausesOf_p11
  exact (gz_if (gz_bnd (gz_call _ _ _ _) (fun _ _ => (gz_const _))) (gz_const _))
theorem gY_For_clear (β : Nat) (σ : zS) : gz (fun rec => kY_For_clear rec β σ) := by
  unfold kY_For_clear
  exact (gz_let (fun _ => (gz_let (fun _ => (gz_let (fun _ => (gz_let (fun _ => (gz_let (fun _ => (gz_let (fun _ => (gz_const _)))))))))))))
theorem gY_For_closeSentence (β : Nat) (σ : zS) (x0 : Int) : gz (fun rec => kY_For_closeSentence rec β σ x0) := by
  unfold kY_For_closeSentence
  exact (gz_if (gz_if (gz_if (gz_let (fun _ => (gz_const _))) (gz_const _)) (gz_const _)) (gz_const _))
theorem gY_For_get (β : Nat) (σ : zS) (x0 x1 : Int) : gz (fun rec => kY_For_get rec β σ x0 x1) := by
  unfold kY_For_get
  exact (gz_if (gz_if (gz_if (gz_const _) (gz_const _)) (gz_const _)) (gz_const _))
theorem gY_For_isWord (β : Nat) (σ : zS) (x0 : Int) : gz (fun rec => kY_For_isWord rec β σ x0) := by
  unfold kY_For_isWord
  exact (gz_if (gz_if (gz_call _ _ _ _) (gz_const _)) (gz_const _))
theorem gY_For_isWord_p17 (β : Nat) (σ : zS) (x0 x1 : Int) : gz (fun rec => kY_For_isWord_p17 rec β σ x0 x1) := by
  unfold kY_For_isWord_p17
  exact (gz_if (gz_const _) (gz_if (gz_if (gz_if (gz_if (gz_if (gz_if (gz_if (gz_call _ _ _ _) (gz_const _)) (gz_const _)) (gz_const _)) (gz_const _)) (gz_const _)) (gz_const _)) (gz_const _)))
theorem gY_For_makeWitnesses (β : Nat) (σ : zS) : gz (fun rec => kY_For_makeWitnesses rec β σ) := by
  unfold kY_For_makeWitnesses
  exact (gz_call _ _ _ _)
theorem gY_For_makeWitnesses_p2 (β : Nat) (σ : zS) (x0 : Int) : gz (fun rec => kY_For_makeWitnesses_p2 rec β σ x0) := by
  unfold kY_For_makeWitnesses_p2
  exact (gz_if (gz_if (gz_if (gz_call _ _ _ _) (gz_const _)) (gz_const _)) (gz_if (gz_if (gz_if (gz_call _ _ _ _) (gz_call _ _ _ _)) (gz_const _)) (gz_const _)))
theorem gY_For_makeWitnesses_p33 (β : Nat) (σ : zS) (x0 x1 : Int) : gz (fun rec => kY_For_makeWitnesses_p33 rec β σ x0 x1) := by
  unfold kY_For_makeWitnesses_p33
  exact (gz_if (gz_if (gz_if (gz_call _ _ _ _) (gz_call _ _ _ _)) (gz_const _)) (gz_const _))
theorem gY_For_makeWitnesses_p55 (β : Nat) (σ : zS) (x0 x1 x2 x3 : Int) : gz (fun rec => kY_For_makeWitnesses_p55 rec β σ x0 x1 x2 x3) := by
  unfold kY_For_makeWitnesses_p55
  exact (gz_if (gz_bnd (gz_call _ _ _ _) (fun _ _ => (gz_if (gz_bnd (gz_call _ _ _ _) (fun _ _ => (gz_if (gz_call _ _ _ _) (gz_const _)))) (gz_const _)))) (gz_const _))
theorem gY_For_makeWitnesses_p83 (β : Nat) (σ : zS) (x0 : Int) : gz (fun rec => kY_For_makeWitnesses_p83 rec β σ x0) := by
  unfold kY_For_makeWitnesses_p83
  exact (gz_if (gz_call _ _ _ _) (gz_if (gz_bnd (gz_call _ _ _ _) (fun _ _ => (gz_if (gz_bnd (gz_call _ _ _ _) (fun _ _ => (gz_if (gz_call _ _ _ _) (gz_const _)))) (gz_const _)))) (gz_const _)))
theorem gY_For_makeWitnesses_p107 (β : Nat) (σ : zS) (x0 : Int) : gz (fun rec => kY_For_makeWitnesses_p107 rec β σ x0) := by
  unfold kY_For_makeWitnesses_p107
  exact (gz_if (gz_const _) (gz_if (gz_if (gz_call _ _ _ _) (gz_if (gz_bnd (gz_call _ _ _ _) (fun _ _ => (gz_if (gz_bnd (gz_call _ _ _ _) (fun _ _ => (gz_call _ _ _ _))) (gz_const _)))) (gz_const _))) (gz_const _)))
theorem gY_For_makeWitnesses_p145 (β : Nat) (σ : zS) (x0 x1 x2 : Int) : gz (fun rec => kY_For_makeWitnesses_p145 rec β σ x0 x1 x2) := by
  unfold kY_For_makeWitnesses_p145
  exact (gz_if (gz_let (fun _ => (gz_if (gz_call _ _ _ _) (gz_const _)))) (gz_const _))
theorem gY_For_reach (β : Nat) (σ : zS) (x0 x1 : Int) : gz (fun rec => kY_For_reach rec β σ x0 x1) := by
  unfold kY_For_reach
  exact (gz_if (gz_if (gz_if (gz_let (fun _ => (gz_const _))) (gz_const _)) (gz_const _)) (gz_const _))
theorem gY_For_reachParts (β : Nat) (σ : zS) (x0 x1 : Int) : gz (fun rec => kY_For_reachParts rec β σ x0 x1) := by
  unfold kY_For_reachParts
  exact (gz_if (gz_bnd (gz_call _ _ _ _) (fun _ _ => (gz_if (gz_bnd (gz_call _ _ _ _) (fun _ _ => (gz_if (gz_bnd (gz_call _ _ _ _) (fun _ _ => (gz_if (gz_call _ _ _ _) (gz_if (gz_if (gz_bnd (gz_call _ _ _ _) (fun _ _ => (gz_call _ _ _ _))) (gz_const _)) (gz_if (gz_if (gz_bnd (gz_call _ _ _ _) (fun _ _ => (gz_if (gz_bnd (gz_call _ _ _ _) (fun _ _ => (gz_if (gz_call _ _ _ _) (gz_call _ _ _ _)))) (gz_const _)))) (gz_const _)) (gz_if (gz_if (gz_bnd (gz_call _ _ _ _) (fun _ _ => (gz_if (gz_bnd (gz_call _ _ _ _) (fun _ _ => (gz_if (gz_call _ _ _ _) (gz_call _ _ _ _)))) (gz_const _)))) (gz_const _)) (gz_if (gz_if (gz_bnd (gz_call _ _ _ _) (fun _ _ => (gz_if (gz_bnd (gz_call _ _ _ _) (fun _ _ => (gz_call _ _ _ _))) (gz_const _)))) (gz_const _)) (gz_if (gz_if (gz_bnd (gz_call _ _ _ _) (fun _ _ => (gz_if (gz_bnd (gz_call _ _ _ _) (fun _ _ => (gz_call _ _ _ _))) (gz_const _)))) (gz_const _)) (gz_if (gz_if (gz_bnd (gz_call _ _ _ _) (fun _ _ => (gz_if (gz_bnd (gz_call _ _ _ _) (fun _ _ => (gz_call _ _ _ _))) (gz_const _)))) (gz_const _)) (gz_if (gz_bnd (gz_call _ _ _ _) (fun _ _ => (gz_if (gz_bnd (gz_call _ _ _ _) (fun _ _ => (gz_call _ _ _ _))) (gz_const _)))) (gz_const _))))))))))) (gz_const _)))) (gz_const _)))) (gz_const _))
theorem gY_For_reachParts_p116 (β : Nat) (σ : zS) (x0 x1 x2 x3 x4 x5 x6 x7 : Int) : gz (fun rec => kY_For_reachParts_p116 rec β σ x0 x1 x2 x3 x4 x5 x6 x7) := by
  unfold kY_For_reachParts_p116
  exact (gz_if (gz_call _ _ _ _) (gz_call _ _ _ _))
theorem gY_For_reachParts_p125 (β : Nat) (σ : zS) (x0 x1 x2 x3 x4 x5 x6 : Int) : gz (fun rec => kY_For_reachParts_p125 rec β σ x0 x1 x2 x3 x4 x5 x6) := by
  unfold kY_For_reachParts_p125
  exact (gz_if (gz_if (gz_let (fun _ => (gz_call _ _ _ _))) (gz_const _)) (gz_const _))
theorem gY_For_reachParts_p180 (β : Nat) (σ : zS) (x0 x1 x2 x3 x4 : Int) : gz (fun rec => kY_For_reachParts_p180 rec β σ x0 x1 x2 x3 x4) := by
  unfold kY_For_reachParts_p180
  exact (gz_const _)
theorem gY_For_replaceFree (β : Nat) (σ : zS) (x0 x1 : Int) : gz (fun rec => kY_For_replaceFree rec β σ x0 x1) := by
  unfold kY_For_replaceFree
  exact (gz_if (gz_if (gz_call _ _ _ _) (gz_const _)) (gz_const _))
theorem gY_For_replaceFree_p12 (β : Nat) (σ : zS) (x0 x1 x2 : Int) : gz (fun rec => kY_For_replaceFree_p12 rec β σ x0 x1 x2) := by
  unfold kY_For_replaceFree_p12
  exact (gz_if (gz_if (gz_if (gz_const _) (gz_if (gz_if (gz_if (gz_let (fun _ => (gz_if (gz_call _ _ _ _) (gz_const _)))) (gz_const _)) (gz_const _)) (gz_const _))) (gz_const _)) (gz_const _))
theorem gY_For_variableOf (β : Nat) (σ : zS) : gz (fun rec => kY_For_variableOf rec β σ) := by
  unfold kY_For_variableOf
  exact (gz_call _ _ _ _)
theorem gY_For_variableOf_p7 (β : Nat) (σ : zS) (x0 x1 : Int) : gz (fun rec => kY_For_variableOf_p7 rec β σ x0 x1) := by
  unfold kY_For_variableOf_p7
  exact (gz_if (gz_call _ _ _ _) (gz_if (gz_call _ _ _ _) (gz_if (gz_bnd (gz_call _ _ _ _) (fun _ _ => (gz_if (gz_if (gz_if (gz_call _ _ _ _) (gz_const _)) (gz_const _)) (gz_const _)))) (gz_const _))))
theorem gY_For_variableOf_p43 (β : Nat) (σ : zS) (x0 x1 : Int) : gz (fun rec => kY_For_variableOf_p43 rec β σ x0 x1) := by
  unfold kY_For_variableOf_p43
  exact (gz_if (gz_if (gz_if (gz_call _ _ _ _) (gz_const _)) (gz_const _)) (gz_const _))
theorem gY_For_variableOf_p66 (β : Nat) (σ : zS) (x0 x1 x2 : Int) : gz (fun rec => kY_For_variableOf_p66 rec β σ x0 x1 x2) := by
  unfold kY_For_variableOf_p66
  exact (gz_if (gz_if (gz_bnd (gz_call _ _ _ _) (fun _ _ => (gz_if (gz_call _ _ _ _) (gz_if (gz_let (fun _ => (gz_if (gz_if (gz_if (gz_let (fun _ => (gz_if (gz_let (fun _ => (gz_if (gz_let (fun _ => (gz_if (gz_if (gz_let (fun _ => (gz_call _ _ _ _))) (gz_const _)) (gz_const _)))) (gz_const _)))) (gz_const _)))) (gz_const _)) (gz_const _)) (gz_const _)))) (gz_const _))))) (gz_const _)) (gz_if (gz_if (gz_bnd (gz_call _ _ _ _) (fun _ _ => (gz_if (gz_if (gz_call _ _ _ _) (gz_const _)) (gz_const _)))) (gz_const _)) (gz_const _)))
theorem gY_For_variableOf_p177 (β : Nat) (σ : zS) (x0 x1 x2 : Int) : gz (fun rec => kY_For_variableOf_p177 rec β σ x0 x1 x2) := by
  unfold kY_For_variableOf_p177
  exact (gz_const _)
theorem gY_For_writeLiteral (β : Nat) (σ : zS) (x0 x1 x2 : Int) : gz (fun rec => kY_For_writeLiteral rec β σ x0 x1 x2) := by
  unfold kY_For_writeLiteral
  exact (gz_if (gz_bnd (gz_call _ _ _ _) (fun _ _ => (gz_if (gz_bnd (gz_call _ _ _ _) (fun _ _ => (gz_if (gz_bnd (gz_call _ _ _ _) (fun _ _ => (gz_if (gz_if (gz_bnd (gz_call _ _ _ _) (fun _ _ => (gz_call _ _ _ _))) (gz_const _)) (gz_if (gz_bnd (gz_call _ _ _ _) (fun _ _ => (gz_call _ _ _ _))) (gz_const _))))) (gz_const _)))) (gz_const _)))) (gz_const _))
theorem gY_For_writeLiteral_p36 (β : Nat) (σ : zS) (x0 x1 x2 : Int) : gz (fun rec => kY_For_writeLiteral_p36 rec β σ x0 x1 x2) := by
  unfold kY_For_writeLiteral_p36
  exact (gz_if (gz_bnd (gz_call _ _ _ _) (fun _ _ => (gz_const _))) (gz_const _))
theorem gY_For_writeTerm (β : Nat) (σ : zS) (x0 : Int) : gz (fun rec => kY_For_writeTerm rec β σ x0) := by
  unfold kY_For_writeTerm
  exact (gz_if (gz_bnd (gz_call _ _ _ _) (fun _ _ => (gz_call _ _ _ _))) (gz_const _))
theorem gY_For_writeTerm_p19 (β : Nat) (σ : zS) (x0 x1 x2 : Int) : gz (fun rec => kY_For_writeTerm_p19 rec β σ x0 x1 x2) := by
  unfold kY_For_writeTerm_p19
  exact (gz_if (gz_call _ _ _ _) (gz_if (gz_if (gz_if (gz_if (gz_bnd (gz_call _ _ _ _) (fun _ _ => (gz_call _ _ _ _))) (gz_const _)) (gz_if (gz_bnd (gz_call _ _ _ _) (fun _ _ => (gz_call _ _ _ _))) (gz_const _))) (gz_const _)) (gz_call _ _ _ _)))
theorem gY_For_writeTerm_p80 (β : Nat) (σ : zS) (x0 x1 x2 : Int) : gz (fun rec => kY_For_writeTerm_p80 rec β σ x0 x1 x2) := by
  unfold kY_For_writeTerm_p80
  exact (gz_if (gz_call _ _ _ _) (gz_const _))
theorem gY_For_writeTerm_p86 (β : Nat) (σ : zS) (x0 x1 x2 : Int) : gz (fun rec => kY_For_writeTerm_p86 rec β σ x0 x1 x2) := by
  unfold kY_For_writeTerm_p86
  exact (gz_const _)
theorem gY_For_writeVariable (β : Nat) (σ : zS) (x0 x1 : Int) : gz (fun rec => kY_For_writeVariable rec β σ x0 x1) := by
  unfold kY_For_writeVariable
  exact (gz_if (gz_if (gz_if (gz_bnd (gz_call _ _ _ _) (fun _ _ => (gz_if (gz_bnd (gz_call _ _ _ _) (fun _ _ => (gz_const _))) (gz_const _)))) (gz_const _)) (gz_if (gz_bnd (gz_call _ _ _ _) (fun _ _ => (gz_if (gz_bnd (gz_call _ _ _ _) (fun _ _ => (gz_if (gz_call _ _ _ _) (gz_let (fun _ => (gz_call _ _ _ _)))))) (gz_const _)))) (gz_const _))) (gz_const _))
theorem gY_For_writeVariable_p47 (β : Nat) (σ : zS) (x0 x1 x2 : Int) : gz (fun rec => kY_For_writeVariable_p47 rec β σ x0 x1 x2) := by
  unfold kY_For_writeVariable_p47
  exact (gz_call _ _ _ _)
theorem gY_For_writeVariable_p50 (β : Nat) (σ : zS) (x0 x1 x2 x3 : Int) : gz (fun rec => kY_For_writeVariable_p50 rec β σ x0 x1 x2 x3) := by
  unfold kY_For_writeVariable_p50
  exact (gz_if (gz_call _ _ _ _) (gz_if (gz_if (gz_bnd (gz_call _ _ _ _) (fun _ _ => (gz_if (gz_if (gz_bnd (gz_call _ _ _ _) (fun _ _ => (gz_if (gz_call _ _ _ _) (gz_const _)))) (gz_const _)) (gz_const _)))) (gz_const _)) (gz_call _ _ _ _)))
theorem gY_For_writeVariable_p85 (β : Nat) (σ : zS) (x0 x1 x2 x3 : Int) : gz (fun rec => kY_For_writeVariable_p85 rec β σ x0 x1 x2 x3) := by
  unfold kY_For_writeVariable_p85
  exact (gz_const _)
theorem gY_Mat_coversAll (β : Nat) (σ : zS) (x0 x1 x2 : Int) : gz (fun rec => kY_Mat_coversAll rec β σ x0 x1 x2) := by
  unfold kY_Mat_coversAll
  exact (gz_if (gz_if (gz_bnd (gz_call _ _ _ _) (fun _ _ => (gz_call _ _ _ _))) (gz_const _)) (gz_const _))
theorem gY_Mat_coversAll_p27 (β : Nat) (σ : zS) (x0 x1 x2 x3 x4 x5 : Int) : gz (fun rec => kY_Mat_coversAll_p27 rec β σ x0 x1 x2 x3 x4 x5) := by
  unfold kY_Mat_coversAll_p27
  exact (gz_if (gz_bnd (gz_call _ _ _ _) (fun _ _ => (gz_if (gz_const _) (gz_call _ _ _ _)))) (gz_const _))
theorem gY_Mat_coversAll_p44 (β : Nat) (σ : zS) (x0 x1 x2 x3 x4 x5 x6 : Int) : gz (fun rec => kY_Mat_coversAll_p44 rec β σ x0 x1 x2 x3 x4 x5 x6) := by
  unfold kY_Mat_coversAll_p44
  exact (gz_if (gz_call _ _ _ _) (gz_if (gz_bnd (gz_call _ _ _ _) (fun _ _ => (gz_if (gz_bnd (gz_call _ _ _ _) (fun _ _ => (gz_if (gz_let (fun _ => (gz_if (gz_bnd (gz_call _ _ _ _) (fun _ _ => (gz_if (gz_if (gz_bnd (gz_call _ _ _ _) (fun _ _ => (gz_if (gz_bnd (gz_call _ _ _ _) (fun _ _ => (gz_if (gz_bnd (gz_call _ _ _ _) (fun _ _ => (gz_if (gz_bnd (gz_call _ _ _ _) (fun _ _ => (gz_if (gz_call _ _ _ _) (gz_if (gz_bnd (gz_call _ _ _ _) (fun _ _ => (gz_if (gz_bnd (gz_call _ _ _ _) (fun _ _ => (gz_if (gz_bnd (gz_call _ _ _ _) (fun _ _ => (gz_if (gz_call _ _ _ _) (gz_if (gz_bnd (gz_call _ _ _ _) (fun _ _ => (gz_if (gz_if (gz_bnd (gz_call _ _ _ _) (fun _ _ => (gz_if (gz_call _ _ _ _) (gz_const _)))) (gz_const _)) (gz_const _)))) (gz_const _))))) (gz_const _)))) (gz_const _)))) (gz_const _))))) (gz_const _)))) (gz_const _)))) (gz_const _)))) (gz_const _)) (gz_const _)))) (gz_const _)))) (gz_call _ _ _ _)))) (gz_const _)))) (gz_const _)))
theorem gY_Mat_coversAll_p199 (β : Nat) (σ : zS) (x0 x1 x2 x3 x4 x5 x6 x7 x8 : Int) : gz (fun rec => kY_Mat_coversAll_p199 rec β σ x0 x1 x2 x3 x4 x5 x6 x7 x8) := by
  unfold kY_Mat_coversAll_p199
  exact (gz_if (gz_call _ _ _ _) (gz_const _))
theorem gY_Mat_coversAll_p205 (β : Nat) (σ : zS) (x0 x1 x2 x3 x4 x5 x6 : Int) : gz (fun rec => kY_Mat_coversAll_p205 rec β σ x0 x1 x2 x3 x4 x5 x6) := by
  unfold kY_Mat_coversAll_p205
  exact (gz_if (gz_bnd (gz_call _ _ _ _) (fun _ _ => (gz_if (gz_call _ _ _ _) (gz_const _)))) (gz_const _))
theorem gY_Mat_makeImage_40 (β : Nat) (σ : zS) (x0 x1 x2 : Int) : gz (fun rec => kY_Mat_makeImage_40 rec β σ x0 x1 x2) := by
  unfold kY_Mat_makeImage_40
  exact (gz_let (fun _ => (gz_call _ _ _ _)))
theorem gY_Mat_makeImage_40_p8 (β : Nat) (σ : zS) (x0 x1 x2 x3 : Int) : gz (fun rec => kY_Mat_makeImage_40_p8 rec β σ x0 x1 x2 x3) := by
  unfold kY_Mat_makeImage_40_p8
  exact (gz_if (gz_if (gz_const _) (gz_if (gz_if (gz_call _ _ _ _) (gz_if (gz_const _) (gz_call _ _ _ _))) (gz_const _))) (gz_const _))
theorem gY_Mat_makeImage_40_p52 (β : Nat) (σ : zS) (x0 x1 x2 x3 x4 : Int) : gz (fun rec => kY_Mat_makeImage_40_p52 rec β σ x0 x1 x2 x3 x4) := by
  unfold kY_Mat_makeImage_40_p52
  exact (gz_if (gz_call _ _ _ _) (gz_if (gz_call _ _ _ _) (gz_const _)))
theorem gY_Mat_makeImage_40_p70 (β : Nat) (σ : zS) (x0 x1 x2 x3 x4 x5 : Int) : gz (fun rec => kY_Mat_makeImage_40_p70 rec β σ x0 x1 x2 x3 x4 x5) := by
  unfold kY_Mat_makeImage_40_p70
  exact (gz_if (gz_call _ _ _ _) (gz_if (gz_bnd (gz_call _ _ _ _) (fun _ _ => (gz_if (gz_call _ _ _ _) (gz_const _)))) (gz_const _)))
theorem gY_Mat_makeImage_40_p94 (β : Nat) (σ : zS) (x0 x1 x2 x3 x4 x5 x6 : Int) : gz (fun rec => kY_Mat_makeImage_40_p94 rec β σ x0 x1 x2 x3 x4 x5 x6) := by
  unfold kY_Mat_makeImage_40_p94
  exact (gz_if (gz_if (gz_call _ _ _ _) (gz_if (gz_if (gz_if (gz_let (fun _ => (gz_call _ _ _ _))) (gz_const _)) (gz_if (gz_let (fun _ => (gz_call _ _ _ _))) (gz_const _))) (gz_call _ _ _ _))) (gz_const _))
theorem gY_Mat_makeImage_40_p123 (β : Nat) (σ : zS) (x0 x1 x2 x3 x4 x5 x6 : Int) : gz (fun rec => kY_Mat_makeImage_40_p123 rec β σ x0 x1 x2 x3 x4 x5 x6) := by
  unfold kY_Mat_makeImage_40_p123
  exact (gz_const _)
theorem gY_Mat_makeImage_40_p160 (β : Nat) (σ : zS) (x0 x1 x2 x3 x4 x5 x6 : Int) : gz (fun rec => kY_Mat_makeImage_40_p160 rec β σ x0 x1 x2 x3 x4 x5 x6) := by
  unfold kY_Mat_makeImage_40_p160
  exact (gz_if (gz_let (fun _ => (gz_if (gz_call _ _ _ _) (gz_const _)))) (gz_const _))
theorem gY_Mat_makeImage_48 (β : Nat) (σ : zS) (x0 x1 x2 : Int) : gz (fun rec => kY_Mat_makeImage_48 rec β σ x0 x1 x2) := by
  unfold kY_Mat_makeImage_48
  exact (gz_let (fun _ => (gz_call _ _ _ _)))
theorem gY_Mat_makeImage_48_p8 (β : Nat) (σ : zS) (x0 x1 x2 x3 : Int) : gz (fun rec => kY_Mat_makeImage_48_p8 rec β σ x0 x1 x2 x3) := by
  unfold kY_Mat_makeImage_48_p8
  exact (gz_if (gz_if (gz_const _) (gz_if (gz_if (gz_call _ _ _ _) (gz_if (gz_const _) (gz_call _ _ _ _))) (gz_const _))) (gz_const _))
theorem gY_Mat_makeImage_48_p52 (β : Nat) (σ : zS) (x0 x1 x2 x3 x4 : Int) : gz (fun rec => kY_Mat_makeImage_48_p52 rec β σ x0 x1 x2 x3 x4) := by
  unfold kY_Mat_makeImage_48_p52
  exact (gz_if (gz_call _ _ _ _) (gz_if (gz_call _ _ _ _) (gz_const _)))
theorem gY_Mat_makeImage_48_p70 (β : Nat) (σ : zS) (x0 x1 x2 x3 x4 x5 : Int) : gz (fun rec => kY_Mat_makeImage_48_p70 rec β σ x0 x1 x2 x3 x4 x5) := by
  unfold kY_Mat_makeImage_48_p70
  exact (gz_if (gz_call _ _ _ _) (gz_if (gz_bnd (gz_call _ _ _ _) (fun _ _ => (gz_if (gz_call _ _ _ _) (gz_const _)))) (gz_const _)))
theorem gY_Mat_makeImage_48_p94 (β : Nat) (σ : zS) (x0 x1 x2 x3 x4 x5 x6 : Int) : gz (fun rec => kY_Mat_makeImage_48_p94 rec β σ x0 x1 x2 x3 x4 x5 x6) := by
  unfold kY_Mat_makeImage_48_p94
  exact (gz_if (gz_if (gz_call _ _ _ _) (gz_if (gz_if (gz_if (gz_let (fun _ => (gz_call _ _ _ _))) (gz_const _)) (gz_if (gz_let (fun _ => (gz_call _ _ _ _))) (gz_const _))) (gz_call _ _ _ _))) (gz_const _))
theorem gY_Mat_makeImage_48_p123 (β : Nat) (σ : zS) (x0 x1 x2 x3 x4 x5 x6 : Int) : gz (fun rec => kY_Mat_makeImage_48_p123 rec β σ x0 x1 x2 x3 x4 x5 x6) := by
  unfold kY_Mat_makeImage_48_p123
  exact (gz_const _)
theorem gY_Mat_makeImage_48_p160 (β : Nat) (σ : zS) (x0 x1 x2 x3 x4 x5 x6 : Int) : gz (fun rec => kY_Mat_makeImage_48_p160 rec β σ x0 x1 x2 x3 x4 x5 x6) := by
  unfold kY_Mat_makeImage_48_p160
  exact (gz_if (gz_let (fun _ => (gz_if (gz_call _ _ _ _) (gz_const _)))) (gz_const _))
theorem gY_Mat_matches_40 (β : Nat) (σ : zS) (x0 x1 x2 : Int) : gz (fun rec => kY_Mat_matches_40 rec β σ x0 x1 x2) := by
  unfold kY_Mat_matches_40
  exact (gz_call _ _ _ _)
theorem gY_Mat_matches_40_p19 (β : Nat) (σ : zS) (x0 x1 x2 x3 x4 : Int) : gz (fun rec => kY_Mat_matches_40_p19 rec β σ x0 x1 x2 x3 x4) := by
  unfold kY_Mat_matches_40_p19
  exact (gz_if (gz_if (gz_const _) (gz_if (gz_if (gz_if (gz_if (gz_if (gz_call _ _ _ _) (gz_if (gz_bnd (gz_call _ _ _ _) (fun _ _ => (gz_if (gz_call _ _ _ _) (gz_const _)))) (gz_const _))) (gz_const _)) (gz_if (gz_if (gz_bnd (gz_call _ _ _ _) (fun _ _ => (gz_if (gz_const _) (gz_call _ _ _ _)))) (gz_const _)) (gz_const _))) (gz_if (gz_if (gz_if (gz_call _ _ _ _) (gz_const _)) (gz_const _)) (gz_const _))) (gz_const _))) (gz_const _))
theorem gY_Mat_matches_40_p99 (β : Nat) (σ : zS) (x0 x1 x2 x3 x4 x5 : Int) : gz (fun rec => kY_Mat_matches_40_p99 rec β σ x0 x1 x2 x3 x4 x5) := by
  unfold kY_Mat_matches_40_p99
  exact (gz_if (gz_let (fun _ => (gz_let (fun _ => (gz_call _ _ _ _))))) (gz_const _))
theorem gY_Mat_matches_40_p147 (β : Nat) (σ : zS) (x0 x1 x2 x3 x4 x5 : Int) : gz (fun rec => kY_Mat_matches_40_p147 rec β σ x0 x1 x2 x3 x4 x5) := by
  unfold kY_Mat_matches_40_p147
  exact (gz_if (gz_bnd (gz_call _ _ _ _) (fun _ _ => (gz_call _ _ _ _))) (gz_const _))
theorem gY_Mat_matches_40_p159 (β : Nat) (σ : zS) (x0 x1 x2 x3 x4 : Int) : gz (fun rec => kY_Mat_matches_40_p159 rec β σ x0 x1 x2 x3 x4) := by
  unfold kY_Mat_matches_40_p159
  exact (gz_if (gz_call _ _ _ _) (gz_const _))
theorem gY_Mat_matches_48 (β : Nat) (σ : zS) (x0 x1 x2 : Int) : gz (fun rec => kY_Mat_matches_48 rec β σ x0 x1 x2) := by
  unfold kY_Mat_matches_48
  exact (gz_call _ _ _ _)
theorem gY_Mat_matches_48_p19 (β : Nat) (σ : zS) (x0 x1 x2 x3 x4 : Int) : gz (fun rec => kY_Mat_matches_48_p19 rec β σ x0 x1 x2 x3 x4) := by
  unfold kY_Mat_matches_48_p19
  exact (gz_if (gz_if (gz_const _) (gz_if (gz_if (gz_if (gz_if (gz_if (gz_call _ _ _ _) (gz_if (gz_bnd (gz_call _ _ _ _) (fun _ _ => (gz_if (gz_call _ _ _ _) (gz_const _)))) (gz_const _))) (gz_const _)) (gz_if (gz_if (gz_bnd (gz_call _ _ _ _) (fun _ _ => (gz_if (gz_const _) (gz_call _ _ _ _)))) (gz_const _)) (gz_const _))) (gz_if (gz_if (gz_if (gz_call _ _ _ _) (gz_const _)) (gz_const _)) (gz_const _))) (gz_const _))) (gz_const _))
theorem gY_Mat_matches_48_p99 (β : Nat) (σ : zS) (x0 x1 x2 x3 x4 x5 : Int) : gz (fun rec => kY_Mat_matches_48_p99 rec β σ x0 x1 x2 x3 x4 x5) := by
  unfold kY_Mat_matches_48_p99
  exact (gz_if (gz_let (fun _ => (gz_let (fun _ => (gz_call _ _ _ _))))) (gz_const _))
theorem gY_Mat_matches_48_p147 (β : Nat) (σ : zS) (x0 x1 x2 x3 x4 x5 : Int) : gz (fun rec => kY_Mat_matches_48_p147 rec β σ x0 x1 x2 x3 x4 x5) := by
  unfold kY_Mat_matches_48_p147
  exact (gz_if (gz_bnd (gz_call _ _ _ _) (fun _ _ => (gz_call _ _ _ _))) (gz_const _))
theorem gY_Mat_matches_48_p159 (β : Nat) (σ : zS) (x0 x1 x2 x3 x4 : Int) : gz (fun rec => kY_Mat_matches_48_p159 rec β σ x0 x1 x2 x3 x4) := by
  unfold kY_Mat_matches_48_p159
  exact (gz_if (gz_call _ _ _ _) (gz_const _))
theorem gY_Mat_rewriteFirst_r57 (β : Nat) (σ : zS) : gz (fun rec => kY_Mat_rewriteFirst_r57 rec β σ) := by
  unfold kY_Mat_rewriteFirst_r57
  exact (gz_call _ _ _ _)
theorem gY_Mat_rewriteFirst_r57_p2 (β : Nat) (σ : zS) (x0 : Int) : gz (fun rec => kY_Mat_rewriteFirst_r57_p2 rec β σ x0) := by
  unfold kY_Mat_rewriteFirst_r57_p2
  exact (gz_if (gz_const _) (gz_call _ _ _ _))
theorem gY_Mat_rewriteFirst_r57_p13 (β : Nat) (σ : zS) (x0 x1 : Int) : gz (fun rec => kY_Mat_rewriteFirst_r57_p13 rec β σ x0 x1) := by
  unfold kY_Mat_rewriteFirst_r57_p13
  exact (gz_if (gz_if (gz_call _ _ _ _) (gz_if (gz_call _ _ _ _) (gz_if (gz_if (gz_bnd (gz_call _ _ _ _) (fun _ _ => (gz_if (gz_if (gz_bnd (gz_call _ _ _ _) (fun _ _ => (gz_if (gz_if (gz_call _ _ _ _) (gz_const _)) (gz_call _ _ _ _)))) (gz_const _)) (gz_call _ _ _ _)))) (gz_const _)) (gz_const _)))) (gz_const _))
theorem gY_Mat_rewriteFirst_r57_p70 (β : Nat) (σ : zS) (x0 x1 x2 : Int) : gz (fun rec => kY_Mat_rewriteFirst_r57_p70 rec β σ x0 x1 x2) := by
  unfold kY_Mat_rewriteFirst_r57_p70
  exact (gz_if (gz_bnd (gz_call _ _ _ _) (fun _ _ => (gz_const _))) (gz_const _))
theorem gY_Mat_rewriteFirst_r57_p92 (β : Nat) (σ : zS) (x0 x1 : Int) : gz (fun rec => kY_Mat_rewriteFirst_r57_p92 rec β σ x0 x1) := by
  unfold kY_Mat_rewriteFirst_r57_p92
  exact (gz_if (gz_call _ _ _ _) (gz_const _))
theorem gY_Mat_rewrites_40 (β : Nat) (σ : zS) (x0 x1 x2 : Int) : gz (fun rec => kY_Mat_rewrites_40 rec β σ x0 x1 x2) := by
  unfold kY_Mat_rewrites_40
  exact (gz_if (gz_bnd (gz_call _ _ _ _) (fun _ _ => (gz_if (gz_bnd (gz_call _ _ _ _) (fun _ _ => (gz_if (gz_if (gz_call _ _ _ _) (gz_if (gz_if (gz_call _ _ _ _) (gz_const _)) (gz_const _))) (gz_const _)))) (gz_const _)))) (gz_const _))
theorem gY_Mat_rewrites_40_p55 (β : Nat) (σ : zS) (x0 x1 x2 x3 x4 x5 : Int) : gz (fun rec => kY_Mat_rewrites_40_p55 rec β σ x0 x1 x2 x3 x4 x5) := by
  unfold kY_Mat_rewrites_40_p55
  exact (gz_let (fun _ => (gz_if (gz_bnd (gz_call _ _ _ _) (fun _ _ => (gz_if (gz_bnd (gz_call _ _ _ _) (fun _ _ => (gz_if (gz_const _) (gz_if (gz_if (gz_bnd (gz_call _ _ _ _) (fun _ _ => (gz_if (gz_bnd (gz_call _ _ _ _) (fun _ _ => (gz_if (gz_bnd (gz_call _ _ _ _) (fun _ _ => (gz_if (gz_if (gz_bnd (gz_call _ _ _ _) (fun _ _ => (gz_if (gz_call _ _ _ _) (gz_if (gz_bnd (gz_call _ _ _ _) (fun _ _ => (gz_if (gz_call _ _ _ _) (gz_call _ _ _ _)))) (gz_const _))))) (gz_const _)) (gz_const _)))) (gz_const _)))) (gz_const _)))) (gz_const _)) (gz_const _))))) (gz_const _)))) (gz_const _))))
theorem gY_Mat_rewrites_40_p159 (β : Nat) (σ : zS) (x0 x1 x2 x3 x4 x5 x6 x7 : Int) : gz (fun rec => kY_Mat_rewrites_40_p159 rec β σ x0 x1 x2 x3 x4 x5 x6 x7) := by
  unfold kY_Mat_rewrites_40_p159
  exact (gz_call _ _ _ _)
theorem gY_Mat_rewrites_40_p160 (β : Nat) (σ : zS) (x0 x1 x2 x3 x4 x5 x6 x7 x8 : Int) : gz (fun rec => kY_Mat_rewrites_40_p160 rec β σ x0 x1 x2 x3 x4 x5 x6 x7 x8) := by
  unfold kY_Mat_rewrites_40_p160
  exact (gz_if (gz_const _) (gz_const _))
theorem gY_Mat_rewrites_48 (β : Nat) (σ : zS) (x0 x1 x2 : Int) : gz (fun rec => kY_Mat_rewrites_48 rec β σ x0 x1 x2) := by
  unfold kY_Mat_rewrites_48
  exact (gz_if (gz_bnd (gz_call _ _ _ _) (fun _ _ => (gz_if (gz_bnd (gz_call _ _ _ _) (fun _ _ => (gz_if (gz_if (gz_call _ _ _ _) (gz_if (gz_if (gz_call _ _ _ _) (gz_const _)) (gz_const _))) (gz_const _)))) (gz_const _)))) (gz_const _))
theorem gY_Mat_rewrites_48_p55 (β : Nat) (σ : zS) (x0 x1 x2 x3 x4 x5 : Int) : gz (fun rec => kY_Mat_rewrites_48_p55 rec β σ x0 x1 x2 x3 x4 x5) := by
  unfold kY_Mat_rewrites_48_p55
  exact (gz_let (fun _ => (gz_if (gz_bnd (gz_call _ _ _ _) (fun _ _ => (gz_if (gz_bnd (gz_call _ _ _ _) (fun _ _ => (gz_if (gz_const _) (gz_if (gz_if (gz_bnd (gz_call _ _ _ _) (fun _ _ => (gz_if (gz_bnd (gz_call _ _ _ _) (fun _ _ => (gz_if (gz_bnd (gz_call _ _ _ _) (fun _ _ => (gz_if (gz_if (gz_bnd (gz_call _ _ _ _) (fun _ _ => (gz_if (gz_call _ _ _ _) (gz_if (gz_bnd (gz_call _ _ _ _) (fun _ _ => (gz_if (gz_call _ _ _ _) (gz_call _ _ _ _)))) (gz_const _))))) (gz_const _)) (gz_const _)))) (gz_const _)))) (gz_const _)))) (gz_const _)) (gz_const _))))) (gz_const _)))) (gz_const _))))
theorem gY_Mat_rewrites_48_p159 (β : Nat) (σ : zS) (x0 x1 x2 x3 x4 x5 x6 x7 : Int) : gz (fun rec => kY_Mat_rewrites_48_p159 rec β σ x0 x1 x2 x3 x4 x5 x6 x7) := by
  unfold kY_Mat_rewrites_48_p159
  exact (gz_call _ _ _ _)
theorem gY_Mat_rewrites_48_p160 (β : Nat) (σ : zS) (x0 x1 x2 x3 x4 x5 x6 x7 x8 : Int) : gz (fun rec => kY_Mat_rewrites_48_p160 rec β σ x0 x1 x2 x3 x4 x5 x6 x7 x8) := by
  unfold kY_Mat_rewrites_48_p160
  exact (gz_if (gz_const _) (gz_const _))
theorem gY_Mat_rewritesIn (β : Nat) (σ : zS) (x0 x1 : Int) : gz (fun rec => kY_Mat_rewritesIn rec β σ x0 x1) := by
  unfold kY_Mat_rewritesIn
  exact (gz_if (gz_bnd (gz_call _ _ _ _) (fun _ _ => (gz_call _ _ _ _))) (gz_const _))
theorem gY_Mat_rewritesIn_p26 (β : Nat) (σ : zS) (x0 x1 x2 x3 : Int) : gz (fun rec => kY_Mat_rewritesIn_p26 rec β σ x0 x1 x2 x3) := by
  unfold kY_Mat_rewritesIn_p26
  exact (gz_if (gz_bnd (gz_call _ _ _ _) (fun _ _ => (gz_if (gz_const _) (gz_if (gz_bnd (gz_call _ _ _ _) (fun _ _ => (gz_if (gz_bnd (gz_call _ _ _ _) (fun _ _ => (gz_call _ _ _ _))) (gz_const _)))) (gz_const _))))) (gz_const _))
theorem gY_Mat_rewritesIn_p61 (β : Nat) (σ : zS) (x0 x1 x2 x3 x4 x5 : Int) : gz (fun rec => kY_Mat_rewritesIn_p61 rec β σ x0 x1 x2 x3 x4 x5) := by
  unfold kY_Mat_rewritesIn_p61
  exact (gz_if (gz_if (gz_call _ _ _ _) (gz_const _)) (gz_if (gz_if (gz_call _ _ _ _) (gz_if (gz_bnd (gz_call _ _ _ _) (fun _ _ => (gz_if (gz_if (gz_bnd (gz_call _ _ _ _) (fun _ _ => (gz_if (gz_call _ _ _ _) (gz_call _ _ _ _)))) (gz_const _)) (gz_call _ _ _ _)))) (gz_const _))) (gz_const _)))
theorem gY_Mat_rewritesIn_p102 (β : Nat) (σ : zS) (x0 x1 x2 x3 x4 x5 : Int) : gz (fun rec => kY_Mat_rewritesIn_p102 rec β σ x0 x1 x2 x3 x4 x5) := by
  unfold kY_Mat_rewritesIn_p102
  exact (gz_const _)
theorem gY_Mat_rewritesIn_p104 (β : Nat) (σ : zS) (x0 x1 x2 x3 x4 x5 : Int) : gz (fun rec => kY_Mat_rewritesIn_p104 rec β σ x0 x1 x2 x3 x4 x5) := by
  unfold kY_Mat_rewritesIn_p104
  exact (gz_if (gz_call _ _ _ _) (gz_const _))
theorem gY_Mat_subsumes (β : Nat) (σ : zS) (x0 x1 : Int) : gz (fun rec => kY_Mat_subsumes rec β σ x0 x1) := by
  unfold kY_Mat_subsumes
  exact (gz_if (gz_bnd (gz_call _ _ _ _) (fun _ _ => (gz_if (gz_bnd (gz_call _ _ _ _) (fun _ _ => (gz_if (gz_call _ _ _ _) (gz_call _ _ _ _)))) (gz_const _)))) (gz_const _))
theorem gY_Mat_subsumes_p28 (β : Nat) (σ : zS) (x0 x1 x2 x3 : Int) : gz (fun rec => kY_Mat_subsumes_p28 rec β σ x0 x1 x2 x3) := by
  unfold kY_Mat_subsumes_p28
  exact (gz_if (gz_bnd (gz_call _ _ _ _) (fun _ _ => (gz_call _ _ _ _))) (gz_const _))
theorem gY_Mat_subsumes_p45 (β : Nat) (σ : zS) (x0 x1 x2 x3 x4 x5 : Int) : gz (fun rec => kY_Mat_subsumes_p45 rec β σ x0 x1 x2 x3 x4 x5) := by
  unfold kY_Mat_subsumes_p45
  exact (gz_if (gz_call _ _ _ _) (gz_if (gz_call _ _ _ _) (gz_let (fun _ => (gz_if (gz_bnd (gz_call _ _ _ _) (fun _ _ => (gz_if (gz_bnd (gz_call _ _ _ _) (fun _ _ => (gz_if (gz_call _ _ _ _) (gz_const _)))) (gz_const _)))) (gz_const _))))))
theorem gY_Mat_subsumes_p88 (β : Nat) (σ : zS) (x0 x1 x2 x3 x4 x5 : Int) : gz (fun rec => kY_Mat_subsumes_p88 rec β σ x0 x1 x2 x3 x4 x5) := by
  unfold kY_Mat_subsumes_p88
  exact (gz_let (fun _ => (gz_if (gz_call _ _ _ _) (gz_if (gz_call _ _ _ _) (gz_if (gz_bnd (gz_call _ _ _ _) (fun _ _ => (gz_if (gz_bnd (gz_call _ _ _ _) (fun _ _ => (gz_if (gz_call _ _ _ _) (gz_call _ _ _ _)))) (gz_const _)))) (gz_const _))))))
theorem gY_Mat_subsumes_p122 (β : Nat) (σ : zS) (x0 x1 x2 x3 x4 x5 : Int) : gz (fun rec => kY_Mat_subsumes_p122 rec β σ x0 x1 x2 x3 x4 x5) := by
  unfold kY_Mat_subsumes_p122
  exact (gz_call _ _ _ _)
theorem gY_Mat_subsumes_p126 (β : Nat) (σ : zS) (x0 x1 x2 x3 x4 x5 : Int) : gz (fun rec => kY_Mat_subsumes_p126 rec β σ x0 x1 x2 x3 x4 x5) := by
  unfold kY_Mat_subsumes_p126
  exact (gz_call _ _ _ _)
theorem gY_Mat_subsumes_p127 (β : Nat) (σ : zS) (x0 x1 x2 x3 x4 x5 x6 : Int) : gz (fun rec => kY_Mat_subsumes_p127 rec β σ x0 x1 x2 x3 x4 x5 x6) := by
  unfold kY_Mat_subsumes_p127
  exact (gz_if (gz_const _) (gz_const _))
theorem gY_Mod_apply (β : Nat) (σ : zS) (x0 x1 : Int) : gz (fun rec => kY_Mod_apply rec β σ x0 x1) := by
  unfold kY_Mod_apply
  exact (gz_if (gz_bnd (gz_call _ _ _ _) (fun _ _ => (gz_if (gz_if (gz_if (gz_call _ _ _ _) (gz_const _)) (gz_const _)) (gz_const _)))) (gz_const _))
theorem gY_Mod_apply_p24 (β : Nat) (σ : zS) (x0 x1 x2 x3 : Int) : gz (fun rec => kY_Mod_apply_p24 rec β σ x0 x1 x2 x3) := by
  unfold kY_Mod_apply_p24
  exact (gz_if (gz_if (gz_bnd (gz_call _ _ _ _) (fun _ _ => (gz_if (gz_if (gz_const _) (gz_call _ _ _ _)) (gz_call _ _ _ _)))) (gz_const _)) (gz_if (gz_if (gz_bnd (gz_call _ _ _ _) (fun _ _ => (gz_if (gz_call _ _ _ _) (gz_const _)))) (gz_const _)) (gz_const _)))
theorem gY_Mod_apply_p91 (β : Nat) (σ : zS) (x0 x1 x2 x3 x4 : Int) : gz (fun rec => kY_Mod_apply_p91 rec β σ x0 x1 x2 x3 x4) := by
  unfold kY_Mod_apply_p91
  exact (gz_const _)
theorem gY_Mod_holds (β : Nat) (σ : zS) (x0 : Int) : gz (fun rec => kY_Mod_holds rec β σ x0) := by
  unfold kY_Mod_holds
  exact (gz_if (gz_bnd (gz_call _ _ _ _) (fun _ _ => (gz_call _ _ _ _))) (gz_const _))
theorem gY_Mod_holds_p13 (β : Nat) (σ : zS) (x0 x1 x2 : Int) : gz (fun rec => kY_Mod_holds_p13 rec β σ x0 x1 x2) := by
  unfold kY_Mod_holds_p13
  exact (gz_if (gz_bnd (gz_call _ _ _ _) (fun _ _ => (gz_if (gz_const _) (gz_if (gz_bnd (gz_call _ _ _ _) (fun _ _ => (gz_if (gz_bnd (gz_call _ _ _ _) (fun _ _ => (gz_if (gz_bnd (gz_call _ _ _ _) (fun _ _ => (gz_if (gz_bnd (gz_call _ _ _ _) (fun _ _ => (gz_if (gz_bnd (gz_call _ _ _ _) (fun _ _ => (gz_if (gz_call _ _ _ _) (gz_call _ _ _ _)))) (gz_const _)))) (gz_const _)))) (gz_const _)))) (gz_const _)))) (gz_const _))))) (gz_const _))
theorem gY_Mod_holds_p82 (β : Nat) (σ : zS) (x0 x1 x2 x3 x4 x5 x6 : Int) : gz (fun rec => kY_Mod_holds_p82 rec β σ x0 x1 x2 x3 x4 x5 x6) := by
  unfold kY_Mod_holds_p82
  exact (gz_if (gz_bnd (gz_call _ _ _ _) (fun _ _ => (gz_if (gz_const _) (gz_if (gz_call _ _ _ _) (gz_const _))))) (gz_const _))
theorem gY_Mod_makesTrue (β : Nat) (σ : zS) (x0 : Int) : gz (fun rec => kY_Mod_makesTrue rec β σ x0) := by
  unfold kY_Mod_makesTrue
  exact (gz_if (gz_bnd (gz_call _ _ _ _) (fun _ _ => (gz_call _ _ _ _))) (gz_const _))
theorem gY_Mod_makesTrue_p15 (β : Nat) (σ : zS) (x0 x1 x2 x3 : Int) : gz (fun rec => kY_Mod_makesTrue_p15 rec β σ x0 x1 x2 x3) := by
  unfold kY_Mod_makesTrue_p15
  exact (gz_if (gz_call _ _ _ _) (gz_if (gz_let (fun _ => (gz_if (gz_if (gz_call _ _ _ _) (gz_const _)) (gz_const _)))) (gz_const _)))
theorem gY_Mod_makesTrue_p45 (β : Nat) (σ : zS) (x0 x1 x2 x3 : Int) : gz (fun rec => kY_Mod_makesTrue_p45 rec β σ x0 x1 x2 x3) := by
  unfold kY_Mod_makesTrue_p45
  exact (gz_if (gz_const _) (gz_if (gz_bnd (gz_call _ _ _ _) (fun _ _ => (gz_if (gz_const _) (gz_if (gz_bnd (gz_call _ _ _ _) (fun _ _ => (gz_if (gz_call _ _ _ _) (gz_const _)))) (gz_const _))))) (gz_const _)))
theorem gY_Mod_mix (β : Nat) (σ : zS) (x0 x1 : Int) : gz (fun rec => kY_Mod_mix rec β σ x0 x1) := by
  unfold kY_Mod_mix
  exact (gz_const _)
theorem gY_Mod_nextElements (β : Nat) (σ : zS) (x0 : Int) : gz (fun rec => kY_Mod_nextElements rec β σ x0) := by
  unfold kY_Mod_nextElements
  exact (gz_call _ _ _ _)
theorem gY_Mod_nextElements_p2 (β : Nat) (σ : zS) (x0 x1 : Int) : gz (fun rec => kY_Mod_nextElements_p2 rec β σ x0 x1) := by
  unfold kY_Mod_nextElements_p2
  exact (gz_if (gz_const _) (gz_if (gz_if (gz_let (fun _ => (gz_if (gz_let (fun _ => (gz_if (gz_call _ _ _ _) (gz_const _)))) (gz_const _)))) (gz_const _)) (gz_const _)))
theorem gY_Mod_suitsText (β : Nat) (σ : zS) (x0 x1 : Int) : gz (fun rec => kY_Mod_suitsText rec β σ x0 x1) := by
  unfold kY_Mod_suitsText
  exact (gz_let (fun _ => (gz_let (fun _ => (gz_call _ _ _ _)))))
theorem gY_Mod_suitsText_p12 (β : Nat) (σ : zS) (x0 x1 x2 : Int) : gz (fun rec => kY_Mod_suitsText_p12 rec β σ x0 x1 x2) := by
  unfold kY_Mod_suitsText_p12
  exact (gz_if (gz_const _) (gz_if (gz_bnd (gz_call _ _ _ _) (fun _ _ => (gz_if (gz_const _) (gz_if (gz_call _ _ _ _) (gz_const _))))) (gz_const _)))
theorem gY_Mod_valueOf (β : Nat) (σ : zS) (x0 x1 : Int) : gz (fun rec => kY_Mod_valueOf rec β σ x0 x1) := by
  unfold kY_Mod_valueOf
  exact (gz_if (gz_call _ _ _ _) (gz_const _))
theorem gY_Mod_valueOf_p7 (β : Nat) (σ : zS) (x0 x1 x2 x3 : Int) : gz (fun rec => kY_Mod_valueOf_p7 rec β σ x0 x1 x2 x3) := by
  unfold kY_Mod_valueOf_p7
  exact (gz_if (gz_if (gz_const _) (gz_const _)) (gz_if (gz_if (gz_if (gz_if (gz_let (fun _ => (gz_if (gz_call _ _ _ _) (gz_const _)))) (gz_const _)) (gz_if (gz_if (gz_if (gz_bnd (gz_call _ _ _ _) (fun _ _ => (gz_if (gz_let (fun _ => (gz_if (gz_call _ _ _ _) (gz_const _)))) (gz_const _)))) (gz_const _)) (gz_const _)) (gz_const _))) (gz_if (gz_if (gz_let (fun _ => (gz_if (gz_call _ _ _ _) (gz_const _)))) (gz_const _)) (gz_const _))) (gz_const _)))
theorem gY_Mod_valueOf_p101 (β : Nat) (σ : zS) (x0 x1 x2 x3 x4 : Int) : gz (fun rec => kY_Mod_valueOf_p101 rec β σ x0 x1 x2 x3 x4) := by
  unfold kY_Mod_valueOf_p101
  exact (gz_if (gz_call _ _ _ _) (gz_const _))
theorem gY_Par_fail (β : Nat) (σ : zS) (x0 x1 : Int) : gz (fun rec => kY_Par_fail rec β σ x0 x1) := by
  unfold kY_Par_fail
  exact (gz_let (fun _ => (gz_let (fun _ => (gz_const _)))))
theorem gY_Par_isNest (β : Nat) (σ : zS) (x0 : Int) : gz (fun rec => kY_Par_isNest rec β σ x0) := by
  unfold kY_Par_isNest
  exact (gz_if (gz_call _ _ _ _) (gz_if (gz_call _ _ _ _) (gz_if (gz_call _ _ _ _) (gz_if (gz_call _ _ _ _) (gz_if (gz_call _ _ _ _) (gz_call _ _ _ _))))))
theorem gY_Par_isNest_p29 (β : Nat) (σ : zS) (x0 : Int) : gz (fun rec => kY_Par_isNest_p29 rec β σ x0) := by
  unfold kY_Par_isNest_p29
  exact (gz_call _ _ _ _)
theorem gY_Par_isNest_p34 (β : Nat) (σ : zS) (x0 x1 : Int) : gz (fun rec => kY_Par_isNest_p34 rec β σ x0 x1) := by
  unfold kY_Par_isNest_p34
  exact (gz_if (gz_const _) (gz_const _))
theorem gY_Par_pop (β : Nat) (σ : zS) : gz (fun rec => kY_Par_pop rec β σ) := by
  unfold kY_Par_pop
  exact (gz_if (gz_bnd (gz_call _ _ _ _) (fun _ _ => (gz_if (gz_bnd (gz_call _ _ _ _) (fun _ _ => (gz_if (gz_call _ _ _ _) (gz_call _ _ _ _)))) (gz_const _)))) (gz_const _))
theorem gY_Par_pop_p20 (β : Nat) (σ : zS) (x0 x1 : Int) : gz (fun rec => kY_Par_pop_p20 rec β σ x0 x1) := by
  unfold kY_Par_pop_p20
  exact (gz_if (gz_let (fun _ => (gz_if (gz_let (fun _ => (gz_if (gz_let (fun _ => (gz_const _))) (gz_const _)))) (gz_const _)))) (gz_const _))
theorem gY_Par_refuse (β : Nat) (σ : zS) : gz (fun rec => kY_Par_refuse rec β σ) := by
  unfold kY_Par_refuse
  exact (gz_if (gz_call _ _ _ _) (gz_call _ _ _ _))
theorem gY_Par_refuse_p16 (β : Nat) (σ : zS) (x0 : Int) : gz (fun rec => kY_Par_refuse_p16 rec β σ x0) := by
  unfold kY_Par_refuse_p16
  exact (gz_if (gz_bnd (gz_call _ _ _ _) (fun _ _ => (gz_const _))) (gz_const _))
theorem gY_Par_settle (β : Nat) (σ : zS) (x0 x1 x2 x3 : Int) : gz (fun rec => kY_Par_settle rec β σ x0 x1 x2 x3) := by
  unfold kY_Par_settle
  exact (gz_if (gz_if (gz_bnd (gz_call _ _ _ _) (fun _ _ => (gz_if (gz_if (gz_bnd (gz_call _ _ _ _) (fun _ _ => (gz_call _ _ _ _))) (gz_const _)) (gz_call _ _ _ _)))) (gz_const _)) (gz_call _ _ _ _))
theorem gY_Par_settle_p27 (β : Nat) (σ : zS) (x0 x1 x2 x3 : Int) : gz (fun rec => kY_Par_settle_p27 rec β σ x0 x1 x2 x3) := by
  unfold kY_Par_settle_p27
  exact (gz_const _)
theorem gY_Par_strength (β : Nat) (σ : zS) (x0 : Int) : gz (fun rec => kY_Par_strength rec β σ x0) := by
  unfold kY_Par_strength
  exact (gz_if (gz_const _) (gz_if (gz_const _) (gz_if (gz_const _) (gz_if (gz_const _) (gz_if (gz_const _) (gz_if (gz_const _) (gz_if (gz_const _) (gz_const _))))))))
theorem gY_Par_top (β : Nat) (σ : zS) : gz (fun rec => kY_Par_top rec β σ) := by
  unfold kY_Par_top
  exact (gz_if (gz_call _ _ _ _) (gz_if (gz_if (gz_call _ _ _ _) (gz_const _)) (gz_const _)))
theorem gY_Par_top_p31 (β : Nat) (σ : zS) (x0 : Int) : gz (fun rec => kY_Par_top_p31 rec β σ x0) := by
  unfold kY_Par_top_p31
  exact (gz_const _)
theorem gY_Sat_choose (β : Nat) (σ : zS) : gz (fun rec => kY_Sat_choose rec β σ) := by
  unfold kY_Sat_choose
  exact (gz_if (gz_call _ _ _ _) (gz_call _ _ _ _))
theorem gY_Sat_choose_p16 (β : Nat) (σ : zS) (x0 : Int) : gz (fun rec => kY_Sat_choose_p16 rec β σ x0) := by
  unfold kY_Sat_choose_p16
  exact (gz_call _ _ _ _)
theorem gY_Sat_choose_p21 (β : Nat) (σ : zS) (x0 x1 x2 : Int) : gz (fun rec => kY_Sat_choose_p21 rec β σ x0 x1 x2) := by
  unfold kY_Sat_choose_p21
  exact (gz_if (gz_const _) (gz_if (gz_bnd (gz_call _ _ _ _) (fun _ _ => (gz_if (gz_if (gz_if (gz_call _ _ _ _) (gz_if (gz_bnd (gz_call _ _ _ _) (fun _ _ => (gz_if (gz_bnd (gz_call _ _ _ _) (fun _ _ => (gz_if (gz_call _ _ _ _) (gz_call _ _ _ _)))) (gz_const _)))) (gz_const _))) (gz_const _)) (gz_call _ _ _ _)))) (gz_const _)))
theorem gY_Sat_choose_p77 (β : Nat) (σ : zS) (x0 x1 x2 : Int) : gz (fun rec => kY_Sat_choose_p77 rec β σ x0 x1 x2) := by
  unfold kY_Sat_choose_p77
  exact (gz_call _ _ _ _)
theorem gY_Sat_choose_p79 (β : Nat) (σ : zS) (x0 x1 x2 : Int) : gz (fun rec => kY_Sat_choose_p79 rec β σ x0 x1 x2) := by
  unfold kY_Sat_choose_p79
  exact (gz_if (gz_call _ _ _ _) (gz_const _))
theorem gY_Sat_clear (β : Nat) (σ : zS) : gz (fun rec => kY_Sat_clear rec β σ) := by
  unfold kY_Sat_clear
  exact (gz_let (fun _ => (gz_let (fun _ => (gz_let (fun _ => (gz_let (fun _ => (gz_let (fun _ => (gz_let (fun _ => (gz_let (fun _ => (gz_let (fun _ => (gz_const _)))))))))))))))))
theorem gY_Sat_clearAway (β : Nat) (σ : zS) (x0 : Int) : gz (fun rec => kY_Sat_clearAway rec β σ x0) := by
  unfold kY_Sat_clearAway
  exact (gz_if (gz_bnd (gz_call _ _ _ _) (fun _ _ => (gz_call _ _ _ _))) (gz_const _))
theorem gY_Sat_clearAway_p8 (β : Nat) (σ : zS) (x0 x1 x2 : Int) : gz (fun rec => kY_Sat_clearAway_p8 rec β σ x0 x1 x2) := by
  unfold kY_Sat_clearAway_p8
  exact (gz_if (gz_const _) (gz_if (gz_bnd (gz_call _ _ _ _) (fun _ _ => (gz_if (gz_call _ _ _ _) (gz_if (gz_bnd (gz_call _ _ _ _) (fun _ _ => (gz_if (gz_if (gz_call _ _ _ _) (gz_if (gz_bnd (gz_call _ _ _ _) (fun _ _ => (gz_if (gz_call _ _ _ _) (gz_if (gz_bnd (gz_call _ _ _ _) (fun _ _ => (gz_call _ _ _ _))) (gz_const _))))) (gz_const _))) (gz_if (gz_bnd (gz_call _ _ _ _) (fun _ _ => (gz_let (fun _ => (gz_call _ _ _ _))))) (gz_const _))))) (gz_const _))))) (gz_const _)))
theorem gY_Sat_clearAway_p90 (β : Nat) (σ : zS) (x0 x1 x2 : Int) : gz (fun rec => kY_Sat_clearAway_p90 rec β σ x0 x1 x2) := by
  unfold kY_Sat_clearAway_p90
  exact (gz_if (gz_call _ _ _ _) (gz_const _))
theorem gY_Sat_isProcessed (β : Nat) (σ : zS) (x0 : Int) : gz (fun rec => kY_Sat_isProcessed rec β σ x0) := by
  unfold kY_Sat_isProcessed
  exact (gz_if (gz_bnd (gz_call _ _ _ _) (fun _ _ => (gz_if (gz_call _ _ _ _) (gz_call _ _ _ _)))) (gz_const _))
theorem gY_Sat_isProcessed_p19 (β : Nat) (σ : zS) (x0 x1 : Int) : gz (fun rec => kY_Sat_isProcessed_p19 rec β σ x0 x1) := by
  unfold kY_Sat_isProcessed_p19
  exact (gz_if (gz_const _) (gz_const _))
theorem gY_Sat_isSingle (β : Nat) (σ : zS) (x0 : Int) : gz (fun rec => kY_Sat_isSingle rec β σ x0) := by
  unfold kY_Sat_isSingle
  exact (gz_if (gz_bnd (gz_call _ _ _ _) (fun _ _ => (gz_if (gz_if (gz_bnd (gz_call _ _ _ _) (fun _ _ => (gz_if (gz_bnd (gz_call _ _ _ _) (fun _ _ => (gz_if (gz_call _ _ _ _) (gz_call _ _ _ _)))) (gz_const _)))) (gz_const _)) (gz_call _ _ _ _)))) (gz_const _))
theorem gY_Sat_isSingle_p37 (β : Nat) (σ : zS) (x0 : Int) : gz (fun rec => kY_Sat_isSingle_p37 rec β σ x0) := by
  unfold kY_Sat_isSingle_p37
  exact (gz_call _ _ _ _)
theorem gY_Sat_isSingle_p38 (β : Nat) (σ : zS) (x0 x1 : Int) : gz (fun rec => kY_Sat_isSingle_p38 rec β σ x0 x1) := by
  unfold kY_Sat_isSingle_p38
  exact (gz_if (gz_const _) (gz_const _))
theorem gY_Sat_isSubsumed (β : Nat) (σ : zS) (x0 : Int) : gz (fun rec => kY_Sat_isSubsumed rec β σ x0) := by
  unfold kY_Sat_isSubsumed
  exact (gz_call _ _ _ _)
theorem gY_Sat_isSubsumed_p2 (β : Nat) (σ : zS) (x0 x1 : Int) : gz (fun rec => kY_Sat_isSubsumed_p2 rec β σ x0 x1) := by
  unfold kY_Sat_isSubsumed_p2
  exact (gz_if (gz_const _) (gz_if (gz_bnd (gz_call _ _ _ _) (fun _ _ => (gz_if (gz_call _ _ _ _) (gz_if (gz_bnd (gz_call _ _ _ _) (fun _ _ => (gz_if (gz_call _ _ _ _) (gz_const _)))) (gz_const _))))) (gz_const _)))
theorem gY_Sat_isSubsumed_p35 (β : Nat) (σ : zS) (x0 x1 : Int) : gz (fun rec => kY_Sat_isSubsumed_p35 rec β σ x0 x1) := by
  unfold kY_Sat_isSubsumed_p35
  exact (gz_if (gz_call _ _ _ _) (gz_const _))
theorem gY_Sat_markProof (β : Nat) (σ : zS) (x0 : Int) : gz (fun rec => kY_Sat_markProof rec β σ x0) := by
  unfold kY_Sat_markProof
  exact (gz_if (gz_bnd (gz_call _ _ _ _) (fun _ _ => (gz_if (gz_call _ _ _ _) (gz_if (gz_bnd (gz_call _ _ _ _) (fun _ _ => (gz_call _ _ _ _))) (gz_const _))))) (gz_const _))
theorem gY_Sat_markProof_p22 (β : Nat) (σ : zS) (x0 : Int) : gz (fun rec => kY_Sat_markProof_p22 rec β σ x0) := by
  unfold kY_Sat_markProof_p22
  exact (gz_const _)
theorem gY_Sat_writeOthers (β : Nat) (σ : zS) (x0 x1 x2 x3 : Int) : gz (fun rec => kY_Sat_writeOthers rec β σ x0 x1 x2 x3) := by
  unfold kY_Sat_writeOthers
  exact (gz_if (gz_bnd (gz_call _ _ _ _) (fun _ _ => (gz_call _ _ _ _))) (gz_const _))
theorem gY_Sat_writeOthers_p15 (β : Nat) (σ : zS) (x0 x1 x2 x3 x4 x5 : Int) : gz (fun rec => kY_Sat_writeOthers_p15 rec β σ x0 x1 x2 x3 x4 x5) := by
  unfold kY_Sat_writeOthers_p15
  exact (gz_if (gz_bnd (gz_call _ _ _ _) (fun _ _ => (gz_if (gz_const _) (gz_if (gz_call _ _ _ _) (gz_if (gz_call _ _ _ _) (gz_if (gz_bnd (gz_call _ _ _ _) (fun _ _ => (gz_if (gz_bnd (gz_call _ _ _ _) (fun _ _ => (gz_if (gz_bnd (gz_call _ _ _ _) (fun _ _ => (gz_if (gz_bnd (gz_call _ _ _ _) (fun _ _ => (gz_if (gz_bnd (gz_call _ _ _ _) (fun _ _ => (gz_if (gz_bnd (gz_call _ _ _ _) (fun _ _ => (gz_if (gz_bnd (gz_call _ _ _ _) (fun _ _ => (gz_if (gz_bnd (gz_call _ _ _ _) (fun _ _ => (gz_if (gz_bnd (gz_call _ _ _ _) (fun _ _ => (gz_call _ _ _ _))) (gz_const _)))) (gz_const _)))) (gz_const _)))) (gz_const _)))) (gz_const _)))) (gz_const _)))) (gz_const _)))) (gz_const _)))) (gz_const _))))))) (gz_const _))
theorem gY_Sat_writeOthers_p134 (β : Nat) (σ : zS) (x0 x1 x2 x3 x4 x5 : Int) : gz (fun rec => kY_Sat_writeOthers_p134 rec β σ x0 x1 x2 x3 x4 x5) := by
  unfold kY_Sat_writeOthers_p134
  exact (gz_if (gz_bnd (gz_call _ _ _ _) (fun _ _ => (gz_if (gz_call _ _ _ _) (gz_const _)))) (gz_const _))
theorem gY_Sat_writePair (β : Nat) (σ : zS) (x0 x1 x2 x3 x4 : Int) : gz (fun rec => kY_Sat_writePair rec β σ x0 x1 x2 x3 x4) := by
  unfold kY_Sat_writePair
  exact (gz_if (gz_bnd (gz_call _ _ _ _) (fun _ _ => (gz_if (gz_bnd (gz_call _ _ _ _) (fun _ _ => (gz_if (gz_bnd (gz_call _ _ _ _) (fun _ _ => (gz_if (gz_bnd (gz_call _ _ _ _) (fun _ _ => (gz_if (gz_if (gz_bnd (gz_call _ _ _ _) (fun _ _ => (gz_if (gz_bnd (gz_call _ _ _ _) (fun _ _ => (gz_if (gz_bnd (gz_call _ _ _ _) (fun _ _ => (gz_if (gz_if (gz_bnd (gz_call _ _ _ _) (fun _ _ => (gz_if (gz_bnd (gz_call _ _ _ _) (fun _ _ => (gz_const _))) (gz_const _)))) (gz_const _)) (gz_const _)))) (gz_const _)))) (gz_const _)))) (gz_const _)) (gz_const _)))) (gz_const _)))) (gz_const _)))) (gz_const _)))) (gz_const _))
theorem gY_Sat_writeRange (β : Nat) (σ : zS) (x0 x1 x2 x3 x4 : Int) : gz (fun rec => kY_Sat_writeRange rec β σ x0 x1 x2 x3 x4) := by
  unfold kY_Sat_writeRange
  exact (gz_if (gz_call _ _ _ _) (gz_if (gz_if (gz_bnd (gz_call _ _ _ _) (fun _ _ => (gz_if (gz_bnd (gz_call _ _ _ _) (fun _ _ => (gz_if (gz_bnd (gz_call _ _ _ _) (fun _ _ => (gz_if (gz_if (gz_bnd (gz_call _ _ _ _) (fun _ _ => (gz_if (gz_bnd (gz_call _ _ _ _) (fun _ _ => (gz_if (gz_bnd (gz_call _ _ _ _) (fun _ _ => (gz_const _))) (gz_const _)))) (gz_const _)))) (gz_const _)) (gz_const _)))) (gz_const _)))) (gz_const _)))) (gz_const _)) (gz_call _ _ _ _)))
theorem gY_Sat_writeRange_p10 (β : Nat) (σ : zS) (x0 x1 x2 x3 x4 : Int) : gz (fun rec => kY_Sat_writeRange_p10 rec β σ x0 x1 x2 x3 x4) := by
  unfold kY_Sat_writeRange_p10
  exact (gz_if (gz_bnd (gz_call _ _ _ _) (fun _ _ => (gz_const _))) (gz_const _))
theorem gY_Sat_writeReplaced (β : Nat) (σ : zS) (x0 x1 x2 x3 : Int) : gz (fun rec => kY_Sat_writeReplaced rec β σ x0 x1 x2 x3) := by
  unfold kY_Sat_writeReplaced
  exact (gz_if (gz_bnd (gz_call _ _ _ _) (fun _ _ => (gz_call _ _ _ _))) (gz_const _))
theorem gY_Sat_writeReplaced_p15 (β : Nat) (σ : zS) (x0 x1 x2 x3 x4 x5 : Int) : gz (fun rec => kY_Sat_writeReplaced_p15 rec β σ x0 x1 x2 x3 x4 x5) := by
  unfold kY_Sat_writeReplaced_p15
  exact (gz_if (gz_bnd (gz_call _ _ _ _) (fun _ _ => (gz_if (gz_const _) (gz_if (gz_bnd (gz_call _ _ _ _) (fun _ _ => (gz_if (gz_bnd (gz_call _ _ _ _) (fun _ _ => (gz_if (gz_bnd (gz_call _ _ _ _) (fun _ _ => (gz_if (gz_bnd (gz_call _ _ _ _) (fun _ _ => (gz_if (gz_bnd (gz_call _ _ _ _) (fun _ _ => (gz_if (gz_bnd (gz_call _ _ _ _) (fun _ _ => (gz_if (gz_bnd (gz_call _ _ _ _) (fun _ _ => (gz_if (gz_bnd (gz_call _ _ _ _) (fun _ _ => (gz_if (gz_bnd (gz_call _ _ _ _) (fun _ _ => (gz_if (gz_bnd (gz_call _ _ _ _) (fun _ _ => (gz_if (gz_call _ _ _ _) (gz_const _)))) (gz_const _)))) (gz_const _)))) (gz_const _)))) (gz_const _)))) (gz_const _)))) (gz_const _)))) (gz_const _)))) (gz_const _)))) (gz_const _)))) (gz_const _))))) (gz_const _))
theorem gY_Sto_behind (β : Nat) (σ : zS) (x0 : Int) : gz (fun rec => kY_Sto_behind rec β σ x0) := by
  unfold kY_Sto_behind
  exact (gz_if (gz_if (gz_if (gz_if (gz_if (gz_if (gz_if (gz_const _) (gz_const _)) (gz_const _)) (gz_const _)) (gz_const _)) (gz_const _)) (gz_const _)) (gz_const _))
theorem gY_Sto_clear (β : Nat) (σ : zS) : gz (fun rec => kY_Sto_clear rec β σ) := by
  unfold kY_Sto_clear
  exact (gz_let (fun _ => (gz_let (fun _ => (gz_let (fun _ => (gz_let (fun _ => (gz_let (fun _ => (gz_const _)))))))))))
theorem gY_Sto_fact (β : Nat) (σ : zS) (x0 x1 : Int) : gz (fun rec => kY_Sto_fact rec β σ x0 x1) := by
  unfold kY_Sto_fact
  exact (gz_if (gz_if (gz_if (gz_const _) (gz_const _)) (gz_const _)) (gz_const _))
theorem gY_Sto_has (β : Nat) (σ : zS) (x0 : Int) : gz (fun rec => kY_Sto_has rec β σ x0) := by
  unfold kY_Sto_has
  exact (gz_if (gz_call _ _ _ _) (gz_if (gz_call _ _ _ _) (gz_call _ _ _ _)))
theorem gY_Sto_has_p16 (β : Nat) (σ : zS) (x0 : Int) : gz (fun rec => kY_Sto_has_p16 rec β σ x0) := by
  unfold kY_Sto_has_p16
  exact (gz_call _ _ _ _)
theorem gY_Sto_has_p17 (β : Nat) (σ : zS) (x0 x1 : Int) : gz (fun rec => kY_Sto_has_p17 rec β σ x0 x1) := by
  unfold kY_Sto_has_p17
  exact (gz_if (gz_const _) (gz_const _))
theorem gY_Sto_headOf (β : Nat) (σ : zS) (x0 x1 : Int) : gz (fun rec => kY_Sto_headOf rec β σ x0 x1) := by
  unfold kY_Sto_headOf
  exact (gz_if (gz_bnd (gz_call _ _ _ _) (fun _ _ => (gz_call _ _ _ _))) (gz_const _))
theorem gY_Sto_headOf_p11 (β : Nat) (σ : zS) (x0 x1 x2 x3 : Int) : gz (fun rec => kY_Sto_headOf_p11 rec β σ x0 x1 x2 x3) := by
  unfold kY_Sto_headOf_p11
  exact (gz_if (gz_const _) (gz_if (gz_bnd (gz_call _ _ _ _) (fun _ _ => (gz_if (gz_call _ _ _ _) (gz_const _)))) (gz_const _)))
theorem gY_Sto_howMany (β : Nat) (σ : zS) (x0 : Int) : gz (fun rec => kY_Sto_howMany rec β σ x0) := by
  unfold kY_Sto_howMany
  exact (gz_call _ _ _ _)
theorem gY_Sto_howMany_p4 (β : Nat) (σ : zS) (x0 x1 x2 : Int) : gz (fun rec => kY_Sto_howMany_p4 rec β σ x0 x1 x2) := by
  unfold kY_Sto_howMany_p4
  exact (gz_if (gz_const _) (gz_if (gz_bnd (gz_call _ _ _ _) (fun _ _ => (gz_if (gz_call _ _ _ _) (gz_call _ _ _ _)))) (gz_const _)))
theorem gY_Sto_howMany_p29 (β : Nat) (σ : zS) (x0 x1 x2 x3 x4 : Int) : gz (fun rec => kY_Sto_howMany_p29 rec β σ x0 x1 x2 x3 x4) := by
  unfold kY_Sto_howMany_p29
  exact (gz_if (gz_if (gz_call _ _ _ _) (gz_const _)) (gz_const _))
theorem gY_Sto_isEligible (β : Nat) (σ : zS) (x0 : Int) : gz (fun rec => kY_Sto_isEligible rec β σ x0) := by
  unfold kY_Sto_isEligible
  exact (gz_if (gz_if (gz_if (gz_call _ _ _ _) (gz_call _ _ _ _)) (gz_const _)) (gz_const _))
theorem gY_Sto_isEligible_p20 (β : Nat) (σ : zS) (x0 x1 : Int) : gz (fun rec => kY_Sto_isEligible_p20 rec β σ x0 x1) := by
  unfold kY_Sto_isEligible_p20
  exact (gz_if (gz_const _) (gz_const _))
theorem gY_Sto_isGreater (β : Nat) (σ : zS) (x0 x1 : Int) : gz (fun rec => kY_Sto_isGreater rec β σ x0 x1) := by
  unfold kY_Sto_isGreater
  exact (gz_call _ _ _ _)
theorem gY_Sto_isGreater_p8 (β : Nat) (σ : zS) (x0 x1 x2 x3 x4 : Int) : gz (fun rec => kY_Sto_isGreater_p8 rec β σ x0 x1 x2 x3 x4) := by
  unfold kY_Sto_isGreater_p8
  exact (gz_if (gz_call _ _ _ _) (gz_call _ _ _ _))
theorem gY_Sto_isGreater_p17 (β : Nat) (σ : zS) (x0 x1 x2 x3 x4 x5 : Int) : gz (fun rec => kY_Sto_isGreater_p17 rec β σ x0 x1 x2 x3 x4 x5) := by
  unfold kY_Sto_isGreater_p17
  exact (gz_if (gz_if (gz_call _ _ _ _) (gz_const _)) (gz_if (gz_if (gz_call _ _ _ _) (gz_call _ _ _ _)) (gz_call _ _ _ _)))
theorem gY_Sto_isGreater_p48 (β : Nat) (σ : zS) (x0 x1 x2 x3 x4 x5 : Int) : gz (fun rec => kY_Sto_isGreater_p48 rec β σ x0 x1 x2 x3 x4 x5) := by
  unfold kY_Sto_isGreater_p48
  exact (gz_call _ _ _ _)
theorem gY_Sto_isGreater_p49 (β : Nat) (σ : zS) (x0 x1 x2 x3 x4 x5 x6 : Int) : gz (fun rec => kY_Sto_isGreater_p49 rec β σ x0 x1 x2 x3 x4 x5 x6) := by
  unfold kY_Sto_isGreater_p49
  exact (gz_if (gz_call _ _ _ _) (gz_if (gz_bnd (gz_call _ _ _ _) (fun _ _ => (gz_if (gz_bnd (gz_call _ _ _ _) (fun _ _ => (gz_if (gz_bnd (gz_call _ _ _ _) (fun _ _ => (gz_if (gz_call _ _ _ _) (gz_call _ _ _ _)))) (gz_const _)))) (gz_const _)))) (gz_const _)))
theorem gY_Sto_isGreater_p114 (β : Nat) (σ : zS) (x0 x1 x2 x3 x4 x5 x6 : Int) : gz (fun rec => kY_Sto_isGreater_p114 rec β σ x0 x1 x2 x3 x4 x5 x6) := by
  unfold kY_Sto_isGreater_p114
  exact (gz_if (gz_call _ _ _ _) (gz_const _))
theorem gY_Sto_isGreater_p129 (β : Nat) (σ : zS) (x0 x1 x2 x3 x4 : Int) : gz (fun rec => kY_Sto_isGreater_p129 rec β σ x0 x1 x2 x3 x4) := by
  unfold kY_Sto_isGreater_p129
  exact (gz_if (gz_if (gz_call _ _ _ _) (gz_call _ _ _ _)) (gz_if (gz_call _ _ _ _) (gz_call _ _ _ _)))
theorem gY_Sto_isGreater_p150 (β : Nat) (σ : zS) (x0 x1 x2 x3 x4 x5 : Int) : gz (fun rec => kY_Sto_isGreater_p150 rec β σ x0 x1 x2 x3 x4 x5) := by
  unfold kY_Sto_isGreater_p150
  exact (gz_call _ _ _ _)
theorem gY_Sto_isGreater_p155 (β : Nat) (σ : zS) (x0 x1 x2 x3 x4 x5 x6 : Int) : gz (fun rec => kY_Sto_isGreater_p155 rec β σ x0 x1 x2 x3 x4 x5 x6) := by
  unfold kY_Sto_isGreater_p155
  exact (gz_if (gz_call _ _ _ _) (gz_if (gz_if (gz_if (gz_bnd (gz_call _ _ _ _) (fun _ _ => (gz_if (gz_bnd (gz_call _ _ _ _) (fun _ _ => (gz_if (gz_bnd (gz_call _ _ _ _) (fun _ _ => (gz_if (gz_call _ _ _ _) (gz_call _ _ _ _)))) (gz_const _)))) (gz_const _)))) (gz_const _)) (gz_call _ _ _ _)) (gz_call _ _ _ _)))
theorem gY_Sto_isGreater_p218 (β : Nat) (σ : zS) (x0 x1 x2 x3 x4 x5 x6 : Int) : gz (fun rec => kY_Sto_isGreater_p218 rec β σ x0 x1 x2 x3 x4 x5 x6) := by
  unfold kY_Sto_isGreater_p218
  exact (gz_call _ _ _ _)
theorem gY_Sto_isGreater_p219 (β : Nat) (σ : zS) (x0 x1 x2 x3 x4 x5 x6 x7 : Int) : gz (fun rec => kY_Sto_isGreater_p219 rec β σ x0 x1 x2 x3 x4 x5 x6 x7) := by
  unfold kY_Sto_isGreater_p219
  exact (gz_if (gz_call _ _ _ _) (gz_const _))
theorem gY_Sto_isGreater_p227 (β : Nat) (σ : zS) (x0 x1 x2 x3 x4 x5 x6 : Int) : gz (fun rec => kY_Sto_isGreater_p227 rec β σ x0 x1 x2 x3 x4 x5 x6) := by
  unfold kY_Sto_isGreater_p227
  exact (gz_if (gz_const _) (gz_if (gz_call _ _ _ _) (gz_const _)))
theorem gY_Sto_isGreater_p249 (β : Nat) (σ : zS) (x0 x1 x2 x3 x4 x5 : Int) : gz (fun rec => kY_Sto_isGreater_p249 rec β σ x0 x1 x2 x3 x4 x5) := by
  unfold kY_Sto_isGreater_p249
  exact (gz_if (gz_const _) (gz_const _))
theorem gY_Sto_isPositive (β : Nat) (σ : zS) (x0 : Int) : gz (fun rec => kY_Sto_isPositive rec β σ x0) := by
  unfold kY_Sto_isPositive
  exact (gz_if (gz_if (gz_if (gz_call _ _ _ _) (gz_call _ _ _ _)) (gz_const _)) (gz_const _))
theorem gY_Sto_isPositive_p20 (β : Nat) (σ : zS) (x0 x1 : Int) : gz (fun rec => kY_Sto_isPositive_p20 rec β σ x0 x1) := by
  unfold kY_Sto_isPositive_p20
  exact (gz_if (gz_const _) (gz_const _))
theorem gY_Sto_isTopmost (β : Nat) (σ : zS) (x0 x1 : Int) : gz (fun rec => kY_Sto_isTopmost rec β σ x0 x1) := by
  unfold kY_Sto_isTopmost
  exact (gz_if (gz_bnd (gz_call _ _ _ _) (fun _ _ => (gz_call _ _ _ _))) (gz_const _))
theorem gY_Sto_isTopmost_p11 (β : Nat) (σ : zS) (x0 x1 x2 x3 : Int) : gz (fun rec => kY_Sto_isTopmost_p11 rec β σ x0 x1 x2 x3) := by
  unfold kY_Sto_isTopmost_p11
  exact (gz_if (gz_bnd (gz_call _ _ _ _) (fun _ _ => (gz_if (gz_const _) (gz_if (gz_call _ _ _ _) (gz_if (gz_bnd (gz_call _ _ _ _) (fun _ _ => (gz_if (gz_call _ _ _ _) (gz_const _)))) (gz_const _)))))) (gz_const _))
theorem gY_Sto_isTopmost_p38 (β : Nat) (σ : zS) (x0 x1 x2 x3 : Int) : gz (fun rec => kY_Sto_isTopmost_p38 rec β σ x0 x1 x2 x3) := by
  unfold kY_Sto_isTopmost_p38
  exact (gz_if (gz_bnd (gz_call _ _ _ _) (fun _ _ => (gz_if (gz_call _ _ _ _) (gz_const _)))) (gz_const _))
theorem gY_Sto_isUsable (β : Nat) (σ : zS) (x0 x1 : Int) : gz (fun rec => kY_Sto_isUsable rec β σ x0 x1) := by
  unfold kY_Sto_isUsable
  exact (gz_if (gz_if (gz_if (gz_call _ _ _ _) (gz_if (gz_if (gz_call _ _ _ _) (gz_call _ _ _ _)) (gz_const _))) (gz_const _)) (gz_const _))
theorem gY_Sto_isUsable_p23 (β : Nat) (σ : zS) (x0 x1 x2 : Int) : gz (fun rec => kY_Sto_isUsable_p23 rec β σ x0 x1 x2) := by
  unfold kY_Sto_isUsable_p23
  exact (gz_call _ _ _ _)
theorem gY_Sto_isUsable_p28 (β : Nat) (σ : zS) (x0 x1 x2 x3 : Int) : gz (fun rec => kY_Sto_isUsable_p28 rec β σ x0 x1 x2 x3) := by
  unfold kY_Sto_isUsable_p28
  exact (gz_if (gz_const _) (gz_const _))
theorem gY_Sto_judge (β : Nat) (σ : zS) (x0 : Int) : gz (fun rec => kY_Sto_judge rec β σ x0) := by
  unfold kY_Sto_judge
  exact (gz_if (gz_bnd (gz_call _ _ _ _) (fun _ _ => (gz_if (gz_bnd (gz_call _ _ _ _) (fun _ _ => (gz_call _ _ _ _))) (gz_const _)))) (gz_const _))
theorem gY_Sto_judge_p17 (β : Nat) (σ : zS) (x0 x1 x2 x3 : Int) : gz (fun rec => kY_Sto_judge_p17 rec β σ x0 x1 x2 x3) := by
  unfold kY_Sto_judge_p17
  exact (gz_if (gz_bnd (gz_call _ _ _ _) (fun _ _ => (gz_if (gz_const _) (gz_if (gz_bnd (gz_call _ _ _ _) (fun _ _ => (gz_if (gz_bnd (gz_call _ _ _ _) (fun _ _ => (gz_if (gz_if (gz_bnd (gz_call _ _ _ _) (fun _ _ => (gz_call _ _ _ _))) (gz_const _)) (gz_if (gz_call _ _ _ _) (gz_call _ _ _ _))))) (gz_const _)))) (gz_const _))))) (gz_const _))
theorem gY_Sto_judge_p68 (β : Nat) (σ : zS) (x0 x1 x2 x3 x4 x5 x6 : Int) : gz (fun rec => kY_Sto_judge_p68 rec β σ x0 x1 x2 x3 x4 x5 x6) := by
  unfold kY_Sto_judge_p68
  exact (gz_if (gz_bnd (gz_call _ _ _ _) (fun _ _ => (gz_if (gz_if (gz_bnd (gz_call _ _ _ _) (fun _ _ => (gz_if (gz_if (gz_call _ _ _ _) (gz_const _)) (gz_if (gz_call _ _ _ _) (gz_const _))))) (gz_const _)) (gz_if (gz_call _ _ _ _) (gz_const _))))) (gz_const _))
theorem gY_Sto_judge_p145 (β : Nat) (σ : zS) (x0 x1 x2 x3 x4 x5 x6 x7 x8 : Int) : gz (fun rec => kY_Sto_judge_p145 rec β σ x0 x1 x2 x3 x4 x5 x6 x7 x8) := by
  unfold kY_Sto_judge_p145
  exact (gz_if (gz_let (fun _ => (gz_if (gz_if (gz_call _ _ _ _) (gz_const _)) (gz_if (gz_call _ _ _ _) (gz_const _))))) (gz_const _))
theorem gY_Sto_judge_p166 (β : Nat) (σ : zS) (x0 x1 x2 x3 x4 x5 x6 x7 x8 : Int) : gz (fun rec => kY_Sto_judge_p166 rec β σ x0 x1 x2 x3 x4 x5 x6 x7 x8) := by
  unfold kY_Sto_judge_p166
  exact (gz_if (gz_let (fun _ => (gz_if (gz_bnd (gz_call _ _ _ _) (fun _ _ => (gz_if (gz_call _ _ _ _) (gz_const _)))) (gz_const _)))) (gz_const _))
theorem gY_Sto_selectedOf (β : Nat) (σ : zS) (x0 : Int) : gz (fun rec => kY_Sto_selectedOf rec β σ x0) := by
  unfold kY_Sto_selectedOf
  exact (gz_if (gz_bnd (gz_call _ _ _ _) (fun _ _ => (gz_call _ _ _ _))) (gz_const _))
theorem gY_Sto_selectedOf_p16 (β : Nat) (σ : zS) (x0 x1 x2 x3 x4 : Int) : gz (fun rec => kY_Sto_selectedOf_p16 rec β σ x0 x1 x2 x3 x4) := by
  unfold kY_Sto_selectedOf_p16
  exact (gz_if (gz_bnd (gz_call _ _ _ _) (fun _ _ => (gz_if (gz_const _) (gz_if (gz_if (gz_if (gz_if (gz_if (gz_bnd (gz_call _ _ _ _) (fun _ _ => (gz_if (gz_if (gz_if (gz_call _ _ _ _) (gz_call _ _ _ _)) (gz_const _)) (gz_if (gz_call _ _ _ _) (gz_const _))))) (gz_const _)) (gz_const _)) (gz_const _)) (gz_const _)) (gz_const _))))) (gz_const _))
theorem gY_Sto_selectedOf_p75 (β : Nat) (σ : zS) (x0 x1 x2 x3 x4 x5 : Int) : gz (fun rec => kY_Sto_selectedOf_p75 rec β σ x0 x1 x2 x3 x4 x5) := by
  unfold kY_Sto_selectedOf_p75
  exact (gz_if (gz_bnd (gz_call _ _ _ _) (fun _ _ => (gz_if (gz_call _ _ _ _) (gz_const _)))) (gz_const _))
theorem gY_Sto_setFact (β : Nat) (σ : zS) (x0 x1 x2 : Int) : gz (fun rec => kY_Sto_setFact rec β σ x0 x1 x2) := by
  unfold kY_Sto_setFact
  exact (gz_if (gz_if (gz_if (gz_let (fun _ => (gz_const _))) (gz_const _)) (gz_const _)) (gz_const _))
theorem gY_Sto_sideAt (β : Nat) (σ : zS) (x0 x1 : Int) : gz (fun rec => kY_Sto_sideAt rec β σ x0 x1) := by
  unfold kY_Sto_sideAt
  exact (gz_if (gz_if (gz_call _ _ _ _) (gz_const _)) (gz_if (gz_if (gz_if (gz_call _ _ _ _) (gz_const _)) (gz_const _)) (gz_const _)))
theorem gY_Sto_sideAt_p22 (β : Nat) (σ : zS) (x0 x1 x2 x3 : Int) : gz (fun rec => kY_Sto_sideAt_p22 rec β σ x0 x1 x2 x3) := by
  unfold kY_Sto_sideAt_p22
  exact (gz_if (gz_const _) (gz_const _))
theorem gY_Sto_sideSize (β : Nat) (σ : zS) (x0 x1 : Int) : gz (fun rec => kY_Sto_sideSize rec β σ x0 x1) := by
  unfold kY_Sto_sideSize
  exact (gz_if (gz_call _ _ _ _) (gz_call _ _ _ _))
theorem gY_Sto_sideSize_p17 (β : Nat) (σ : zS) (x0 x1 x2 x3 : Int) : gz (fun rec => kY_Sto_sideSize_p17 rec β σ x0 x1 x2 x3) := by
  unfold kY_Sto_sideSize_p17
  exact (gz_if (gz_if (gz_const _) (gz_const _)) (gz_const _))
theorem gY_Sym_addWitness (β : Nat) (σ : zS) (x0 : Int) : gz (fun rec => kY_Sym_addWitness rec β σ x0) := by
  unfold kY_Sym_addWitness
  exact (gz_if (gz_const _) (gz_if (gz_let (fun _ => (gz_if (gz_let (fun _ => (gz_if (gz_let (fun _ => (gz_const _))) (gz_const _)))) (gz_const _)))) (gz_const _)))
theorem gY_Sym_after_16 (β : Nat) (σ : zS) (x0 : Int) : gz (fun rec => kY_Sym_after_16 rec β σ x0) := by
  unfold kY_Sym_after_16
  exact (gz_call _ _ _ _)
theorem gY_Sym_after_16_p5 (β : Nat) (σ : zS) (x0 x1 x2 : Int) : gz (fun rec => kY_Sym_after_16_p5 rec β σ x0 x1 x2) := by
  unfold kY_Sym_after_16_p5
  exact (gz_if (gz_call _ _ _ _) (gz_if (gz_call _ _ _ _) (gz_if (gz_if (gz_if (gz_if (gz_call _ _ _ _) (gz_const _)) (gz_const _)) (gz_call _ _ _ _)) (gz_const _))))
theorem gY_Sym_after_16_p39 (β : Nat) (σ : zS) (x0 x1 x2 x3 x4 : Int) : gz (fun rec => kY_Sym_after_16_p39 rec β σ x0 x1 x2 x3 x4) := by
  unfold kY_Sym_after_16_p39
  exact (gz_if (gz_if (gz_call _ _ _ _) (gz_const _)) (gz_const _))
theorem gY_Sym_after_16_p47 (β : Nat) (σ : zS) (x0 x1 x2 : Int) : gz (fun rec => kY_Sym_after_16_p47 rec β σ x0 x1 x2) := by
  unfold kY_Sym_after_16_p47
  exact (gz_const _)
theorem gY_Sym_after_40 (β : Nat) (σ : zS) (x0 : Int) : gz (fun rec => kY_Sym_after_40 rec β σ x0) := by
  unfold kY_Sym_after_40
  exact (gz_call _ _ _ _)
theorem gY_Sym_after_40_p5 (β : Nat) (σ : zS) (x0 x1 x2 : Int) : gz (fun rec => kY_Sym_after_40_p5 rec β σ x0 x1 x2) := by
  unfold kY_Sym_after_40_p5
  exact (gz_if (gz_call _ _ _ _) (gz_if (gz_call _ _ _ _) (gz_if (gz_if (gz_if (gz_if (gz_call _ _ _ _) (gz_const _)) (gz_const _)) (gz_call _ _ _ _)) (gz_const _))))
theorem gY_Sym_after_40_p39 (β : Nat) (σ : zS) (x0 x1 x2 x3 x4 : Int) : gz (fun rec => kY_Sym_after_40_p39 rec β σ x0 x1 x2 x3 x4) := by
  unfold kY_Sym_after_40_p39
  exact (gz_if (gz_if (gz_call _ _ _ _) (gz_const _)) (gz_const _))
theorem gY_Sym_after_40_p47 (β : Nat) (σ : zS) (x0 x1 x2 : Int) : gz (fun rec => kY_Sym_after_40_p47 rec β σ x0 x1 x2) := by
  unfold kY_Sym_after_40_p47
  exact (gz_const _)
theorem gY_Sym_after_48 (β : Nat) (σ : zS) (x0 : Int) : gz (fun rec => kY_Sym_after_48 rec β σ x0) := by
  unfold kY_Sym_after_48
  exact (gz_call _ _ _ _)
theorem gY_Sym_after_48_p5 (β : Nat) (σ : zS) (x0 x1 x2 : Int) : gz (fun rec => kY_Sym_after_48_p5 rec β σ x0 x1 x2) := by
  unfold kY_Sym_after_48_p5
  exact (gz_if (gz_call _ _ _ _) (gz_if (gz_call _ _ _ _) (gz_if (gz_if (gz_if (gz_if (gz_call _ _ _ _) (gz_const _)) (gz_const _)) (gz_call _ _ _ _)) (gz_const _))))
theorem gY_Sym_after_48_p39 (β : Nat) (σ : zS) (x0 x1 x2 x3 x4 : Int) : gz (fun rec => kY_Sym_after_48_p39 rec β σ x0 x1 x2 x3 x4) := by
  unfold kY_Sym_after_48_p39
  exact (gz_if (gz_if (gz_call _ _ _ _) (gz_const _)) (gz_const _))
theorem gY_Sym_after_48_p47 (β : Nat) (σ : zS) (x0 x1 x2 : Int) : gz (fun rec => kY_Sym_after_48_p47 rec β σ x0 x1 x2) := by
  unfold kY_Sym_after_48_p47
  exact (gz_const _)
theorem gY_Sym_after_68 (β : Nat) (σ : zS) (x0 : Int) : gz (fun rec => kY_Sym_after_68 rec β σ x0) := by
  unfold kY_Sym_after_68
  exact (gz_call _ _ _ _)
theorem gY_Sym_after_68_p5 (β : Nat) (σ : zS) (x0 x1 x2 : Int) : gz (fun rec => kY_Sym_after_68_p5 rec β σ x0 x1 x2) := by
  unfold kY_Sym_after_68_p5
  exact (gz_if (gz_call _ _ _ _) (gz_if (gz_call _ _ _ _) (gz_if (gz_if (gz_if (gz_if (gz_call _ _ _ _) (gz_const _)) (gz_const _)) (gz_call _ _ _ _)) (gz_const _))))
theorem gY_Sym_after_68_p39 (β : Nat) (σ : zS) (x0 x1 x2 x3 x4 : Int) : gz (fun rec => kY_Sym_after_68_p39 rec β σ x0 x1 x2 x3 x4) := by
  unfold kY_Sym_after_68_p39
  exact (gz_if (gz_if (gz_call _ _ _ _) (gz_const _)) (gz_const _))
theorem gY_Sym_after_68_p47 (β : Nat) (σ : zS) (x0 x1 x2 : Int) : gz (fun rec => kY_Sym_after_68_p47 rec β σ x0 x1 x2) := by
  unfold kY_Sym_after_68_p47
  exact (gz_const _)
theorem gY_Sym_clear (β : Nat) (σ : zS) : gz (fun rec => kY_Sym_clear rec β σ) := by
  unfold kY_Sym_clear
  exact (gz_let (fun _ => (gz_let (fun _ => (gz_let (fun _ => (gz_const _)))))))
theorem gY_Sym_greater_40_68 (β : Nat) (σ : zS) (x0 x1 : Int) : gz (fun rec => kY_Sym_greater_40_68 rec β σ x0 x1) := by
  unfold kY_Sym_greater_40_68
  exact (gz_call _ _ _ _)
theorem gY_Sym_greater_40_68_p10 (β : Nat) (σ : zS) (x0 x1 x2 x3 x4 : Int) : gz (fun rec => kY_Sym_greater_40_68_p10 rec β σ x0 x1 x2 x3 x4) := by
  unfold kY_Sym_greater_40_68_p10
  exact (gz_if (gz_const _) (gz_if (gz_bnd (gz_call _ _ _ _) (fun _ _ => (gz_if (gz_bnd (gz_call _ _ _ _) (fun _ _ => (gz_if (gz_if (gz_if (gz_if (gz_call _ _ _ _) (gz_const _)) (gz_const _)) (gz_if (gz_if (gz_if (gz_call _ _ _ _) (gz_if (gz_bnd (gz_call _ _ _ _) (fun _ _ => (gz_if (gz_call _ _ _ _) (gz_if (gz_if (gz_if (gz_if (gz_bnd (gz_call _ _ _ _) (fun _ _ => (gz_if (gz_const _) (gz_if (gz_if (gz_if (gz_call _ _ _ _) (gz_const _)) (gz_const _)) (gz_const _))))) (gz_const _)) (gz_if (gz_call _ _ _ _) (gz_call _ _ _ _))) (gz_const _)) (gz_const _))))) (gz_const _))) (gz_const _)) (gz_const _))) (gz_const _)))) (gz_const _)))) (gz_const _)))
theorem gY_Sym_greater_40_68_p72 (β : Nat) (σ : zS) (x0 x1 x2 x3 x4 x5 x6 : Int) : gz (fun rec => kY_Sym_greater_40_68_p72 rec β σ x0 x1 x2 x3 x4 x5 x6) := by
  unfold kY_Sym_greater_40_68_p72
  exact (gz_const _)
theorem gY_Sym_greater_40_68_p110 (β : Nat) (σ : zS) (x0 x1 x2 x3 x4 x5 x6 x7 : Int) : gz (fun rec => kY_Sym_greater_40_68_p110 rec β σ x0 x1 x2 x3 x4 x5 x6 x7) := by
  unfold kY_Sym_greater_40_68_p110
  exact (gz_if (gz_const _) (gz_const _))
theorem gY_Sym_greater_48_48 (β : Nat) (σ : zS) (x0 x1 : Int) : gz (fun rec => kY_Sym_greater_48_48 rec β σ x0 x1) := by
  unfold kY_Sym_greater_48_48
  exact (gz_call _ _ _ _)
theorem gY_Sym_greater_48_48_p10 (β : Nat) (σ : zS) (x0 x1 x2 x3 x4 : Int) : gz (fun rec => kY_Sym_greater_48_48_p10 rec β σ x0 x1 x2 x3 x4) := by
  unfold kY_Sym_greater_48_48_p10
  exact (gz_if (gz_const _) (gz_if (gz_bnd (gz_call _ _ _ _) (fun _ _ => (gz_if (gz_bnd (gz_call _ _ _ _) (fun _ _ => (gz_if (gz_if (gz_if (gz_if (gz_call _ _ _ _) (gz_const _)) (gz_const _)) (gz_if (gz_if (gz_if (gz_call _ _ _ _) (gz_if (gz_bnd (gz_call _ _ _ _) (fun _ _ => (gz_if (gz_call _ _ _ _) (gz_if (gz_if (gz_if (gz_if (gz_if (gz_bnd (gz_call _ _ _ _) (fun _ _ => (gz_if (gz_const _) (gz_if (gz_if (gz_if (gz_call _ _ _ _) (gz_const _)) (gz_const _)) (gz_const _))))) (gz_const _)) (gz_if (gz_call _ _ _ _) (gz_call _ _ _ _))) (gz_const _)) (gz_const _)) (gz_const _))))) (gz_const _))) (gz_const _)) (gz_const _))) (gz_const _)))) (gz_const _)))) (gz_const _)))
theorem gY_Sym_greater_48_48_p72 (β : Nat) (σ : zS) (x0 x1 x2 x3 x4 x5 x6 : Int) : gz (fun rec => kY_Sym_greater_48_48_p72 rec β σ x0 x1 x2 x3 x4 x5 x6) := by
  unfold kY_Sym_greater_48_48_p72
  exact (gz_const _)
theorem gY_Sym_greater_48_48_p110 (β : Nat) (σ : zS) (x0 x1 x2 x3 x4 x5 x6 x7 : Int) : gz (fun rec => kY_Sym_greater_48_48_p110 rec β σ x0 x1 x2 x3 x4 x5 x6 x7) := by
  unfold kY_Sym_greater_48_48_p110
  exact (gz_if (gz_const _) (gz_const _))
theorem gY_Sym_greater_48_68 (β : Nat) (σ : zS) (x0 x1 : Int) : gz (fun rec => kY_Sym_greater_48_68 rec β σ x0 x1) := by
  unfold kY_Sym_greater_48_68
  exact (gz_call _ _ _ _)
theorem gY_Sym_greater_48_68_p10 (β : Nat) (σ : zS) (x0 x1 x2 x3 x4 : Int) : gz (fun rec => kY_Sym_greater_48_68_p10 rec β σ x0 x1 x2 x3 x4) := by
  unfold kY_Sym_greater_48_68_p10
  exact (gz_if (gz_const _) (gz_if (gz_bnd (gz_call _ _ _ _) (fun _ _ => (gz_if (gz_bnd (gz_call _ _ _ _) (fun _ _ => (gz_if (gz_if (gz_if (gz_if (gz_call _ _ _ _) (gz_const _)) (gz_const _)) (gz_if (gz_if (gz_if (gz_call _ _ _ _) (gz_if (gz_bnd (gz_call _ _ _ _) (fun _ _ => (gz_if (gz_call _ _ _ _) (gz_if (gz_if (gz_if (gz_if (gz_if (gz_bnd (gz_call _ _ _ _) (fun _ _ => (gz_if (gz_const _) (gz_if (gz_if (gz_if (gz_call _ _ _ _) (gz_const _)) (gz_const _)) (gz_const _))))) (gz_const _)) (gz_if (gz_call _ _ _ _) (gz_call _ _ _ _))) (gz_const _)) (gz_const _)) (gz_const _))))) (gz_const _))) (gz_const _)) (gz_const _))) (gz_const _)))) (gz_const _)))) (gz_const _)))
theorem gY_Sym_greater_48_68_p72 (β : Nat) (σ : zS) (x0 x1 x2 x3 x4 x5 x6 : Int) : gz (fun rec => kY_Sym_greater_48_68_p72 rec β σ x0 x1 x2 x3 x4 x5 x6) := by
  unfold kY_Sym_greater_48_68_p72
  exact (gz_const _)
theorem gY_Sym_greater_48_68_p110 (β : Nat) (σ : zS) (x0 x1 x2 x3 x4 x5 x6 x7 : Int) : gz (fun rec => kY_Sym_greater_48_68_p110 rec β σ x0 x1 x2 x3 x4 x5 x6 x7) := by
  unfold kY_Sym_greater_48_68_p110
  exact (gz_if (gz_const _) (gz_const _))
theorem gY_Sym_hasAllVariables_40_68 (β : Nat) (σ : zS) (x0 x1 x2 x3 : Int) : gz (fun rec => kY_Sym_hasAllVariables_40_68 rec β σ x0 x1 x2 x3) := by
  unfold kY_Sym_hasAllVariables_40_68
  exact (gz_let (fun _ => (gz_call _ _ _ _)))
theorem gY_Sym_hasAllVariables_40_68_p11 (β : Nat) (σ : zS) (x0 x1 x2 x3 x4 : Int) : gz (fun rec => kY_Sym_hasAllVariables_40_68_p11 rec β σ x0 x1 x2 x3 x4) := by
  unfold kY_Sym_hasAllVariables_40_68_p11
  exact (gz_if (gz_if (gz_call _ _ _ _) (gz_if (gz_if (gz_call _ _ _ _) (gz_if (gz_if (gz_let (fun _ => (gz_call _ _ _ _))) (gz_const _)) (gz_const _))) (gz_const _))) (gz_const _))
theorem gY_Sym_hasAllVariables_40_68_p41 (β : Nat) (σ : zS) (x0 x1 x2 x3 x4 : Int) : gz (fun rec => kY_Sym_hasAllVariables_40_68_p41 rec β σ x0 x1 x2 x3 x4) := by
  unfold kY_Sym_hasAllVariables_40_68_p41
  exact (gz_if (gz_call _ _ _ _) (gz_const _))
theorem gY_Sym_hasAllVariables_40_68_p51 (β : Nat) (σ : zS) (x0 x1 x2 x3 x4 : Int) : gz (fun rec => kY_Sym_hasAllVariables_40_68_p51 rec β σ x0 x1 x2 x3 x4) := by
  unfold kY_Sym_hasAllVariables_40_68_p51
  exact (gz_if (gz_if (gz_const _) (gz_if (gz_if (gz_call _ _ _ _) (gz_if (gz_if (gz_let (fun _ => (gz_if (gz_call _ _ _ _) (gz_const _)))) (gz_const _)) (gz_const _))) (gz_const _))) (gz_const _))
theorem gY_Sym_hasAllVariables_40_68_p91 (β : Nat) (σ : zS) (x0 x1 x2 x3 x4 : Int) : gz (fun rec => kY_Sym_hasAllVariables_40_68_p91 rec β σ x0 x1 x2 x3 x4) := by
  unfold kY_Sym_hasAllVariables_40_68_p91
  exact (gz_if (gz_call _ _ _ _) (gz_const _))
theorem gY_Sym_hasAllVariables_48_48 (β : Nat) (σ : zS) (x0 x1 x2 x3 : Int) : gz (fun rec => kY_Sym_hasAllVariables_48_48 rec β σ x0 x1 x2 x3) := by
  unfold kY_Sym_hasAllVariables_48_48
  exact (gz_let (fun _ => (gz_call _ _ _ _)))
theorem gY_Sym_hasAllVariables_48_48_p11 (β : Nat) (σ : zS) (x0 x1 x2 x3 x4 : Int) : gz (fun rec => kY_Sym_hasAllVariables_48_48_p11 rec β σ x0 x1 x2 x3 x4) := by
  unfold kY_Sym_hasAllVariables_48_48_p11
  exact (gz_if (gz_if (gz_call _ _ _ _) (gz_if (gz_if (gz_call _ _ _ _) (gz_if (gz_if (gz_let (fun _ => (gz_call _ _ _ _))) (gz_const _)) (gz_const _))) (gz_const _))) (gz_const _))
theorem gY_Sym_hasAllVariables_48_48_p41 (β : Nat) (σ : zS) (x0 x1 x2 x3 x4 : Int) : gz (fun rec => kY_Sym_hasAllVariables_48_48_p41 rec β σ x0 x1 x2 x3 x4) := by
  unfold kY_Sym_hasAllVariables_48_48_p41
  exact (gz_if (gz_call _ _ _ _) (gz_const _))
theorem gY_Sym_hasAllVariables_48_48_p51 (β : Nat) (σ : zS) (x0 x1 x2 x3 x4 : Int) : gz (fun rec => kY_Sym_hasAllVariables_48_48_p51 rec β σ x0 x1 x2 x3 x4) := by
  unfold kY_Sym_hasAllVariables_48_48_p51
  exact (gz_if (gz_if (gz_const _) (gz_if (gz_if (gz_call _ _ _ _) (gz_if (gz_if (gz_let (fun _ => (gz_if (gz_call _ _ _ _) (gz_const _)))) (gz_const _)) (gz_const _))) (gz_const _))) (gz_const _))
theorem gY_Sym_hasAllVariables_48_48_p91 (β : Nat) (σ : zS) (x0 x1 x2 x3 x4 : Int) : gz (fun rec => kY_Sym_hasAllVariables_48_48_p91 rec β σ x0 x1 x2 x3 x4) := by
  unfold kY_Sym_hasAllVariables_48_48_p91
  exact (gz_if (gz_call _ _ _ _) (gz_const _))
theorem gY_Sym_hasAllVariables_48_68 (β : Nat) (σ : zS) (x0 x1 x2 x3 : Int) : gz (fun rec => kY_Sym_hasAllVariables_48_68 rec β σ x0 x1 x2 x3) := by
  unfold kY_Sym_hasAllVariables_48_68
  exact (gz_let (fun _ => (gz_call _ _ _ _)))
theorem gY_Sym_hasAllVariables_48_68_p11 (β : Nat) (σ : zS) (x0 x1 x2 x3 x4 : Int) : gz (fun rec => kY_Sym_hasAllVariables_48_68_p11 rec β σ x0 x1 x2 x3 x4) := by
  unfold kY_Sym_hasAllVariables_48_68_p11
  exact (gz_if (gz_if (gz_call _ _ _ _) (gz_if (gz_if (gz_call _ _ _ _) (gz_if (gz_if (gz_let (fun _ => (gz_call _ _ _ _))) (gz_const _)) (gz_const _))) (gz_const _))) (gz_const _))
theorem gY_Sym_hasAllVariables_48_68_p41 (β : Nat) (σ : zS) (x0 x1 x2 x3 x4 : Int) : gz (fun rec => kY_Sym_hasAllVariables_48_68_p41 rec β σ x0 x1 x2 x3 x4) := by
  unfold kY_Sym_hasAllVariables_48_68_p41
  exact (gz_if (gz_call _ _ _ _) (gz_const _))
theorem gY_Sym_hasAllVariables_48_68_p51 (β : Nat) (σ : zS) (x0 x1 x2 x3 x4 : Int) : gz (fun rec => kY_Sym_hasAllVariables_48_68_p51 rec β σ x0 x1 x2 x3 x4) := by
  unfold kY_Sym_hasAllVariables_48_68_p51
  exact (gz_if (gz_if (gz_const _) (gz_if (gz_if (gz_call _ _ _ _) (gz_if (gz_if (gz_let (fun _ => (gz_if (gz_call _ _ _ _) (gz_const _)))) (gz_const _)) (gz_const _))) (gz_const _))) (gz_const _))
theorem gY_Sym_hasAllVariables_48_68_p91 (β : Nat) (σ : zS) (x0 x1 x2 x3 x4 : Int) : gz (fun rec => kY_Sym_hasAllVariables_48_68_p91 rec β σ x0 x1 x2 x3 x4) := by
  unfold kY_Sym_hasAllVariables_48_68_p91
  exact (gz_if (gz_call _ _ _ _) (gz_const _))
theorem gY_Sym_isPredicate (β : Nat) (σ : zS) (x0 : Int) : gz (fun rec => kY_Sym_isPredicate rec β σ x0) := by
  unfold kY_Sym_isPredicate
  exact (gz_if (gz_if (gz_call _ _ _ _) (gz_call _ _ _ _)) (gz_const _))
theorem gY_Sym_isPredicate_p15 (β : Nat) (σ : zS) (x0 x1 : Int) : gz (fun rec => kY_Sym_isPredicate_p15 rec β σ x0 x1) := by
  unfold kY_Sym_isPredicate_p15
  exact (gz_if (gz_const _) (gz_const _))
theorem gY_Sym_isWitness (β : Nat) (σ : zS) (x0 : Int) : gz (fun rec => kY_Sym_isWitness rec β σ x0) := by
  unfold kY_Sym_isWitness
  exact (gz_if (gz_call _ _ _ _) (gz_call _ _ _ _))
theorem gY_Sym_isWitness_p13 (β : Nat) (σ : zS) (x0 x1 : Int) : gz (fun rec => kY_Sym_isWitness_p13 rec β σ x0 x1) := by
  unfold kY_Sym_isWitness_p13
  exact (gz_if (gz_const _) (gz_const _))
theorem gY_Sym_same_40_40 (β : Nat) (σ : zS) (x0 x1 : Int) : gz (fun rec => kY_Sym_same_40_40 rec β σ x0 x1) := by
  unfold kY_Sym_same_40_40
  exact (gz_if (gz_bnd (gz_call _ _ _ _) (fun _ _ => (gz_if (gz_if (gz_if (gz_call _ _ _ _) (gz_const _)) (gz_const _)) (gz_const _)))) (gz_const _))
theorem gY_Sym_same_40_40_p25 (β : Nat) (σ : zS) (x0 x1 x2 x3 : Int) : gz (fun rec => kY_Sym_same_40_40_p25 rec β σ x0 x1 x2 x3) := by
  unfold kY_Sym_same_40_40_p25
  exact (gz_if (gz_const _) (gz_if (gz_if (gz_if (gz_if (gz_if (gz_if (gz_call _ _ _ _) (gz_const _)) (gz_const _)) (gz_const _)) (gz_const _)) (gz_const _)) (gz_const _)))
theorem gY_Sym_same_48_48 (β : Nat) (σ : zS) (x0 x1 : Int) : gz (fun rec => kY_Sym_same_48_48 rec β σ x0 x1) := by
  unfold kY_Sym_same_48_48
  exact (gz_if (gz_bnd (gz_call _ _ _ _) (fun _ _ => (gz_if (gz_if (gz_if (gz_call _ _ _ _) (gz_const _)) (gz_const _)) (gz_const _)))) (gz_const _))
theorem gY_Sym_same_48_48_p25 (β : Nat) (σ : zS) (x0 x1 x2 x3 : Int) : gz (fun rec => kY_Sym_same_48_48_p25 rec β σ x0 x1 x2 x3) := by
  unfold kY_Sym_same_48_48_p25
  exact (gz_if (gz_const _) (gz_if (gz_if (gz_if (gz_if (gz_if (gz_if (gz_call _ _ _ _) (gz_const _)) (gz_const _)) (gz_const _)) (gz_const _)) (gz_const _)) (gz_const _)))
theorem gY_Sym_settles (β : Nat) (σ : zS) (x0 x1 x2 : Int) : gz (fun rec => kY_Sym_settles rec β σ x0 x1 x2) := by
  unfold kY_Sym_settles
  exact (gz_if (gz_if (gz_let (fun _ => (gz_let (fun _ => (gz_call _ _ _ _))))) (gz_call _ _ _ _)) (gz_const _))
theorem gY_Sym_settles_p23 (β : Nat) (σ : zS) (x0 x1 x2 : Int) : gz (fun rec => kY_Sym_settles_p23 rec β σ x0 x1 x2) := by
  unfold kY_Sym_settles_p23
  exact (gz_if (gz_if (gz_if (gz_call _ _ _ _) (gz_call _ _ _ _)) (gz_call _ _ _ _)) (gz_const _))
theorem gY_Sym_settles_p47 (β : Nat) (σ : zS) (x0 x1 x2 : Int) : gz (fun rec => kY_Sym_settles_p47 rec β σ x0 x1 x2) := by
  unfold kY_Sym_settles_p47
  exact (gz_call _ _ _ _)
theorem gY_Sym_settles_p48 (β : Nat) (σ : zS) (x0 x1 x2 x3 : Int) : gz (fun rec => kY_Sym_settles_p48 rec β σ x0 x1 x2 x3) := by
  unfold kY_Sym_settles_p48
  exact (gz_if (gz_const _) (gz_const _))
theorem gY_Sym_toDifference_40_68 (β : Nat) (σ : zS) (x0 x1 x2 : Int) : gz (fun rec => kY_Sym_toDifference_40_68 rec β σ x0 x1 x2) := by
  unfold kY_Sym_toDifference_40_68
  exact (gz_call _ _ _ _)
theorem gY_Sym_toDifference_40_68_p3 (β : Nat) (σ : zS) (x0 x1 x2 x3 : Int) : gz (fun rec => kY_Sym_toDifference_40_68_p3 rec β σ x0 x1 x2 x3) := by
  unfold kY_Sym_toDifference_40_68_p3
  exact (gz_if (gz_call _ _ _ _) (gz_if (gz_if (gz_if (gz_if (gz_if (gz_if (gz_call _ _ _ _) (gz_const _)) (gz_call _ _ _ _)) (gz_const _)) (gz_const _)) (gz_const _)) (gz_const _)))
theorem gY_Sym_toDifference_40_68_p32 (β : Nat) (σ : zS) (x0 x1 x2 x3 : Int) : gz (fun rec => kY_Sym_toDifference_40_68_p32 rec β σ x0 x1 x2 x3) := by
  unfold kY_Sym_toDifference_40_68_p32
  exact (gz_call _ _ _ _)
theorem gY_Sym_toDifference_40_68_p35 (β : Nat) (σ : zS) (x0 x1 x2 x3 x4 : Int) : gz (fun rec => kY_Sym_toDifference_40_68_p35 rec β σ x0 x1 x2 x3 x4) := by
  unfold kY_Sym_toDifference_40_68_p35
  exact (gz_if (gz_call _ _ _ _) (gz_if (gz_call _ _ _ _) (gz_if (gz_if (gz_bnd (gz_call _ _ _ _) (fun _ _ => (gz_if (gz_if (gz_call _ _ _ _) (gz_const _)) (gz_const _)))) (gz_const _)) (gz_const _))))
theorem gY_Sym_toDifference_40_68_p79 (β : Nat) (σ : zS) (x0 x1 x2 x3 x4 : Int) : gz (fun rec => kY_Sym_toDifference_40_68_p79 rec β σ x0 x1 x2 x3 x4) := by
  unfold kY_Sym_toDifference_40_68_p79
  exact (gz_const _)
theorem gY_Sym_toDifference_48_48 (β : Nat) (σ : zS) (x0 x1 x2 : Int) : gz (fun rec => kY_Sym_toDifference_48_48 rec β σ x0 x1 x2) := by
  unfold kY_Sym_toDifference_48_48
  exact (gz_call _ _ _ _)
theorem gY_Sym_toDifference_48_48_p3 (β : Nat) (σ : zS) (x0 x1 x2 x3 : Int) : gz (fun rec => kY_Sym_toDifference_48_48_p3 rec β σ x0 x1 x2 x3) := by
  unfold kY_Sym_toDifference_48_48_p3
  exact (gz_if (gz_call _ _ _ _) (gz_if (gz_if (gz_if (gz_if (gz_if (gz_if (gz_call _ _ _ _) (gz_const _)) (gz_call _ _ _ _)) (gz_const _)) (gz_const _)) (gz_const _)) (gz_const _)))
theorem gY_Sym_toDifference_48_48_p32 (β : Nat) (σ : zS) (x0 x1 x2 x3 : Int) : gz (fun rec => kY_Sym_toDifference_48_48_p32 rec β σ x0 x1 x2 x3) := by
  unfold kY_Sym_toDifference_48_48_p32
  exact (gz_call _ _ _ _)
theorem gY_Sym_toDifference_48_48_p35 (β : Nat) (σ : zS) (x0 x1 x2 x3 x4 : Int) : gz (fun rec => kY_Sym_toDifference_48_48_p35 rec β σ x0 x1 x2 x3 x4) := by
  unfold kY_Sym_toDifference_48_48_p35
  exact (gz_if (gz_call _ _ _ _) (gz_if (gz_call _ _ _ _) (gz_if (gz_if (gz_bnd (gz_call _ _ _ _) (fun _ _ => (gz_if (gz_if (gz_call _ _ _ _) (gz_const _)) (gz_const _)))) (gz_const _)) (gz_const _))))
theorem gY_Sym_toDifference_48_48_p79 (β : Nat) (σ : zS) (x0 x1 x2 x3 x4 : Int) : gz (fun rec => kY_Sym_toDifference_48_48_p79 rec β σ x0 x1 x2 x3 x4) := by
  unfold kY_Sym_toDifference_48_48_p79
  exact (gz_const _)
theorem gY_Sym_toDifference_48_68 (β : Nat) (σ : zS) (x0 x1 x2 : Int) : gz (fun rec => kY_Sym_toDifference_48_68 rec β σ x0 x1 x2) := by
  unfold kY_Sym_toDifference_48_68
  exact (gz_call _ _ _ _)
theorem gY_Sym_toDifference_48_68_p3 (β : Nat) (σ : zS) (x0 x1 x2 x3 : Int) : gz (fun rec => kY_Sym_toDifference_48_68_p3 rec β σ x0 x1 x2 x3) := by
  unfold kY_Sym_toDifference_48_68_p3
  exact (gz_if (gz_call _ _ _ _) (gz_if (gz_if (gz_if (gz_if (gz_if (gz_if (gz_call _ _ _ _) (gz_const _)) (gz_call _ _ _ _)) (gz_const _)) (gz_const _)) (gz_const _)) (gz_const _)))
theorem gY_Sym_toDifference_48_68_p32 (β : Nat) (σ : zS) (x0 x1 x2 x3 : Int) : gz (fun rec => kY_Sym_toDifference_48_68_p32 rec β σ x0 x1 x2 x3) := by
  unfold kY_Sym_toDifference_48_68_p32
  exact (gz_call _ _ _ _)
theorem gY_Sym_toDifference_48_68_p35 (β : Nat) (σ : zS) (x0 x1 x2 x3 x4 : Int) : gz (fun rec => kY_Sym_toDifference_48_68_p35 rec β σ x0 x1 x2 x3 x4) := by
  unfold kY_Sym_toDifference_48_68_p35
  exact (gz_if (gz_call _ _ _ _) (gz_if (gz_call _ _ _ _) (gz_if (gz_if (gz_bnd (gz_call _ _ _ _) (fun _ _ => (gz_if (gz_if (gz_call _ _ _ _) (gz_const _)) (gz_const _)))) (gz_const _)) (gz_const _))))
theorem gY_Sym_toDifference_48_68_p79 (β : Nat) (σ : zS) (x0 x1 x2 x3 x4 : Int) : gz (fun rec => kY_Sym_toDifference_48_68_p79 rec β σ x0 x1 x2 x3 x4) := by
  unfold kY_Sym_toDifference_48_68_p79
  exact (gz_const _)
theorem gY_Uni_clear (β : Nat) (σ : zS) (x0 x1 : Int) : gz (fun rec => kY_Uni_clear rec β σ x0 x1) := by
  unfold kY_Uni_clear
  exact (gz_call _ _ _ _)
theorem gY_Uni_clear_p2 (β : Nat) (σ : zS) (x0 x1 x2 : Int) : gz (fun rec => kY_Uni_clear_p2 rec β σ x0 x1 x2) := by
  unfold kY_Uni_clear_p2
  exact (gz_if (gz_let (fun _ => (gz_let (fun _ => (gz_let (fun _ => (gz_call _ _ _ _))))))) (gz_if (gz_let (fun _ => (gz_let (fun _ => (gz_if (gz_call _ _ _ _) (gz_const _)))))) (gz_const _)))
theorem gY_Uni_clear_p45 (β : Nat) (σ : zS) (x0 x1 x2 : Int) : gz (fun rec => kY_Uni_clear_p45 rec β σ x0 x1 x2) := by
  unfold kY_Uni_clear_p45
  exact (gz_if (gz_let (fun _ => (gz_const _))) (gz_if (gz_if (gz_let (fun _ => (gz_if (gz_call _ _ _ _) (gz_const _)))) (gz_const _)) (gz_const _)))
theorem gY_Uni_occurs (β : Nat) (σ : zS) (x0 x1 x2 : Int) : gz (fun rec => kY_Uni_occurs rec β σ x0 x1 x2) := by
  unfold kY_Uni_occurs
  exact (gz_call _ _ _ _)
theorem gY_Uni_occurs_p15 (β : Nat) (σ : zS) (x0 x1 x2 x3 x4 x5 x6 x7 : Int) : gz (fun rec => kY_Uni_occurs_p15 rec β σ x0 x1 x2 x3 x4 x5 x6 x7) := by
  unfold kY_Uni_occurs_p15
  exact (gz_if (gz_call _ _ _ _) (gz_call _ _ _ _))
theorem gY_Uni_occurs_p29 (β : Nat) (σ : zS) (x0 x1 x2 x3 x4 x5 x6 x7 x8 x9 : Int) : gz (fun rec => kY_Uni_occurs_p29 rec β σ x0 x1 x2 x3 x4 x5 x6 x7 x8 x9) := by
  unfold kY_Uni_occurs_p29
  exact (gz_if (gz_call _ _ _ _) (gz_if (gz_call _ _ _ _) (gz_if (gz_if (gz_if (gz_if (gz_call _ _ _ _) (gz_const _)) (gz_const _)) (gz_call _ _ _ _)) (gz_const _))))
theorem gY_Uni_occurs_p81 (β : Nat) (σ : zS) (x0 x1 x2 x3 x4 x5 x6 x7 x8 x9 x10 x11 x12 : Int) : gz (fun rec => kY_Uni_occurs_p81 rec β σ x0 x1 x2 x3 x4 x5 x6 x7 x8 x9 x10 x11 x12) := by
  unfold kY_Uni_occurs_p81
  exact (gz_if (gz_if (gz_call _ _ _ _) (gz_const _)) (gz_if (gz_if (gz_if (gz_call _ _ _ _) (gz_const _)) (gz_const _)) (gz_const _)))
theorem gY_Uni_occurs_p109 (β : Nat) (σ : zS) (x0 x1 x2 x3 x4 x5 x6 x7 x8 x9 x10 x11 x12 : Int) : gz (fun rec => kY_Uni_occurs_p109 rec β σ x0 x1 x2 x3 x4 x5 x6 x7 x8 x9 x10 x11 x12) := by
  unfold kY_Uni_occurs_p109
  exact (gz_if (gz_call _ _ _ _) (gz_const _))
theorem gY_Uni_occurs_p118 (β : Nat) (σ : zS) (x0 x1 x2 x3 x4 x5 x6 x7 x8 x9 : Int) : gz (fun rec => kY_Uni_occurs_p118 rec β σ x0 x1 x2 x3 x4 x5 x6 x7 x8 x9) := by
  unfold kY_Uni_occurs_p118
  exact (gz_if (gz_call _ _ _ _) (gz_if (gz_call _ _ _ _) (gz_if (gz_bnd (gz_call _ _ _ _) (fun _ _ => (gz_if (gz_if (gz_call _ _ _ _) (gz_const _)) (gz_const _)))) (gz_const _))))
theorem gY_Uni_occurs_p190 (β : Nat) (σ : zS) (x0 x1 x2 x3 x4 x5 x6 x7 : Int) : gz (fun rec => kY_Uni_occurs_p190 rec β σ x0 x1 x2 x3 x4 x5 x6 x7) := by
  unfold kY_Uni_occurs_p190
  exact (gz_if (gz_call _ _ _ _) (gz_call _ _ _ _))
theorem gY_Uni_occurs_p205 (β : Nat) (σ : zS) (x0 x1 x2 x3 x4 x5 x6 x7 x8 : Int) : gz (fun rec => kY_Uni_occurs_p205 rec β σ x0 x1 x2 x3 x4 x5 x6 x7 x8) := by
  unfold kY_Uni_occurs_p205
  exact (gz_if (gz_const _) (gz_const _))
theorem gY_Uni_write (β : Nat) (σ : zS) (x0 x1 x2 x3 : Int) : gz (fun rec => kY_Uni_write rec β σ x0 x1 x2 x3) := by
  unfold kY_Uni_write
  exact (gz_call _ _ _ _)
theorem gY_Uni_write_p3 (β : Nat) (σ : zS) (x0 x1 x2 x3 x4 : Int) : gz (fun rec => kY_Uni_write_p3 rec β σ x0 x1 x2 x3 x4) := by
  unfold kY_Uni_write_p3
  exact (gz_if (gz_call _ _ _ _) (gz_if (gz_if (gz_call _ _ _ _) (gz_if (gz_if (gz_call _ _ _ _) (gz_if (gz_if (gz_call _ _ _ _) (gz_const _)) (gz_const _))) (gz_const _))) (gz_call _ _ _ _)))
theorem gY_Uni_write_p56 (β : Nat) (σ : zS) (x0 x1 x2 x3 x4 x5 x6 : Int) : gz (fun rec => kY_Uni_write_p56 rec β σ x0 x1 x2 x3 x4 x5 x6) := by
  unfold kY_Uni_write_p56
  exact (gz_if (gz_if (gz_bnd (gz_call _ _ _ _) (fun _ _ => (gz_call _ _ _ _))) (gz_const _)) (gz_if (gz_if (gz_if (gz_bnd (gz_call _ _ _ _) (fun _ _ => (gz_if (gz_bnd (gz_call _ _ _ _) (fun _ _ => (gz_call _ _ _ _))) (gz_const _)))) (gz_const _)) (gz_if (gz_bnd (gz_call _ _ _ _) (fun _ _ => (gz_if (gz_if (gz_bnd (gz_call _ _ _ _) (fun _ _ => (gz_call _ _ _ _))) (gz_const _)) (gz_const _)))) (gz_const _))) (gz_const _)))
theorem gY_Uni_write_p141 (β : Nat) (σ : zS) (x0 x1 x2 x3 x4 x5 x6 : Int) : gz (fun rec => kY_Uni_write_p141 rec β σ x0 x1 x2 x3 x4 x5 x6) := by
  unfold kY_Uni_write_p141
  exact (gz_if (gz_call _ _ _ _) (gz_const _))
theorem gY_Uni_write_p147 (β : Nat) (σ : zS) (x0 x1 x2 x3 x4 : Int) : gz (fun rec => kY_Uni_write_p147 rec β σ x0 x1 x2 x3 x4) := by
  unfold kY_Uni_write_p147
  exact (gz_const _)
theorem gY_Wds_advance (β : Nat) (σ : zS) : gz (fun rec => kY_Wds_advance rec β σ) := by
  unfold kY_Wds_advance
  exact (gz_if (gz_bnd (gz_call _ _ _ _) (fun _ _ => (gz_let (fun _ => (gz_let (fun _ => (gz_let (fun _ => (gz_let (fun _ => (gz_if (gz_if (gz_let (fun _ => (gz_if (gz_call _ _ _ _) (gz_call _ _ _ _)))) (gz_const _)) (gz_const _)))))))))))) (gz_const _))
theorem gY_Wds_advance_p65 (β : Nat) (σ : zS) (x0 : Int) : gz (fun rec => kY_Wds_advance_p65 rec β σ x0) := by
  unfold kY_Wds_advance_p65
  exact (gz_if (gz_let (fun _ => (gz_if (gz_if (gz_call _ _ _ _) (gz_if (gz_call _ _ _ _) (gz_if (gz_bnd (gz_call _ _ _ _) (fun _ _ => (gz_call _ _ _ _))) (gz_const _)))) (gz_const _)))) (gz_const _))
theorem gY_Wds_advance_p109 (β : Nat) (σ : zS) : gz (fun rec => kY_Wds_advance_p109 rec β σ) := by
  unfold kY_Wds_advance_p109
  exact (gz_if (gz_if (gz_call _ _ _ _) (gz_if (gz_call _ _ _ _) (gz_const _))) (gz_const _))
theorem gY_Wds_advance_p138 (β : Nat) (σ : zS) (x0 : Int) : gz (fun rec => kY_Wds_advance_p138 rec β σ x0) := by
  unfold kY_Wds_advance_p138
  exact (gz_if (gz_if (gz_call _ _ _ _) (gz_if (gz_call _ _ _ _) (gz_const _))) (gz_const _))
theorem gY_Wds_advance_p166 (β : Nat) (σ : zS) (x0 x1 : Int) : gz (fun rec => kY_Wds_advance_p166 rec β σ x0 x1) := by
  unfold kY_Wds_advance_p166
  exact (gz_if (gz_bnd (gz_call _ _ _ _) (fun _ _ => (gz_call _ _ _ _))) (gz_const _))
theorem gY_Wds_advance_p169 (β : Nat) (σ : zS) : gz (fun rec => kY_Wds_advance_p169 rec β σ) := by
  unfold kY_Wds_advance_p169
  exact (gz_if (gz_let (fun _ => (gz_const _))) (gz_const _))
theorem gY_Wds_isNow (β : Nat) (σ : zS) (x0 : Int) : gz (fun rec => kY_Wds_isNow rec β σ x0) := by
  unfold kY_Wds_isNow
  exact (gz_if (gz_if (gz_call _ _ _ _) (gz_call _ _ _ _)) (gz_call _ _ _ _))
theorem gY_Wds_isNow_p19 (β : Nat) (σ : zS) (x0 : Int) : gz (fun rec => kY_Wds_isNow_p19 rec β σ x0) := by
  unfold kY_Wds_isNow_p19
  exact (gz_call _ _ _ _)
theorem gY_Wds_isNow_p20 (β : Nat) (σ : zS) (x0 x1 : Int) : gz (fun rec => kY_Wds_isNow_p20 rec β σ x0 x1) := by
  unfold kY_Wds_isNow_p20
  exact (gz_if (gz_const _) (gz_const _))
theorem gY_Wds_isProve (β : Nat) (σ : zS) : gz (fun rec => kY_Wds_isProve rec β σ) := by
  unfold kY_Wds_isProve
  exact (gz_if (gz_bnd (gz_call _ _ _ _) (fun _ _ => (gz_if (gz_call _ _ _ _) (gz_if (gz_if (gz_if (gz_if (gz_if (gz_if (gz_if (gz_if (gz_if (gz_if (gz_if (gz_if (gz_if (gz_if (gz_if (gz_call _ _ _ _) (gz_call _ _ _ _)) (gz_const _)) (gz_const _)) (gz_call _ _ _ _)) (gz_const _)) (gz_const _)) (gz_call _ _ _ _)) (gz_const _)) (gz_const _)) (gz_call _ _ _ _)) (gz_const _)) (gz_const _)) (gz_call _ _ _ _)) (gz_const _)) (gz_call _ _ _ _))))) (gz_const _))
theorem gY_Wds_isProve_p98 (β : Nat) (σ : zS) : gz (fun rec => kY_Wds_isProve_p98 rec β σ) := by
  unfold kY_Wds_isProve_p98
  exact (gz_call _ _ _ _)
theorem gY_Wds_isProve_p99 (β : Nat) (σ : zS) (x0 : Int) : gz (fun rec => kY_Wds_isProve_p99 rec β σ x0) := by
  unfold kY_Wds_isProve_p99
  exact (gz_if (gz_const _) (gz_const _))
theorem gY_Wds_skipBlanks (β : Nat) (σ : zS) : gz (fun rec => kY_Wds_skipBlanks rec β σ) := by
  unfold kY_Wds_skipBlanks
  exact (gz_call _ _ _ _)
theorem gY_Wds_skipBlanks_p2 (β : Nat) (σ : zS) (x0 : Int) : gz (fun rec => kY_Wds_skipBlanks_p2 rec β σ x0) := by
  unfold kY_Wds_skipBlanks_p2
  exact (gz_if (gz_const _) (gz_if (gz_if (gz_call _ _ _ _) (gz_if (gz_call _ _ _ _) (gz_if (gz_if (gz_call _ _ _ _) (gz_if (gz_call _ _ _ _) (gz_if (gz_call _ _ _ _) (gz_const _)))) (gz_call _ _ _ _)))) (gz_const _)))
theorem gY_Wds_skipBlanks_p68 (β : Nat) (σ : zS) (x0 x1 : Int) : gz (fun rec => kY_Wds_skipBlanks_p68 rec β σ x0 x1) := by
  unfold kY_Wds_skipBlanks_p68
  exact (gz_if (gz_let (fun _ => (gz_call _ _ _ _))) (gz_const _))
theorem gY_Wds_takeSign (β : Nat) (σ : zS) (x0 x1 : Int) : gz (fun rec => kY_Wds_takeSign rec β σ x0 x1) := by
  unfold kY_Wds_takeSign
  exact (gz_let (fun _ => (gz_if (gz_if (gz_if (gz_call _ _ _ _) (gz_call _ _ _ _)) (gz_if (gz_let (fun _ => (gz_call _ _ _ _))) (gz_if (gz_let (fun _ => (gz_call _ _ _ _))) (gz_if (gz_let (fun _ => (gz_call _ _ _ _))) (gz_if (gz_let (fun _ => (gz_call _ _ _ _))) (gz_if (gz_let (fun _ => (gz_call _ _ _ _))) (gz_if (gz_let (fun _ => (gz_call _ _ _ _))) (gz_if (gz_if (gz_if (gz_call _ _ _ _) (gz_call _ _ _ _)) (gz_call _ _ _ _)) (gz_if (gz_if (gz_call _ _ _ _) (gz_call _ _ _ _)) (gz_if (gz_let (fun _ => (gz_call _ _ _ _))) (gz_if (gz_let (fun _ => (gz_call _ _ _ _))) (gz_if (gz_let (fun _ => (gz_call _ _ _ _))) (gz_let (fun _ => (gz_call _ _ _ _))))))))))))))) (gz_const _))))
theorem gY_Wds_takeSign_p211 (β : Nat) (σ : zS) (x0 x1 x2 : Int) : gz (fun rec => kY_Wds_takeSign_p211 rec β σ x0 x1 x2) := by
  unfold kY_Wds_takeSign_p211
  exact (gz_let (fun _ => (gz_if (gz_call _ _ _ _) (gz_call _ _ _ _))))
theorem gY_Wds_takeSign_p228 (β : Nat) (σ : zS) (x0 x1 x2 : Int) : gz (fun rec => kY_Wds_takeSign_p228 rec β σ x0 x1 x2) := by
  unfold kY_Wds_takeSign_p228
  exact (gz_let (fun _ => (gz_call _ _ _ _)))
theorem gY_Wds_takeSign_p246 (β : Nat) (σ : zS) (x0 x1 x2 : Int) : gz (fun rec => kY_Wds_takeSign_p246 rec β σ x0 x1 x2) := by
  unfold kY_Wds_takeSign_p246
  exact (gz_let (fun _ => (gz_if (gz_call _ _ _ _) (gz_call _ _ _ _))))
theorem gY_Wds_takeSign_p263 (β : Nat) (σ : zS) (x0 x1 x2 : Int) : gz (fun rec => kY_Wds_takeSign_p263 rec β σ x0 x1 x2) := by
  unfold kY_Wds_takeSign_p263
  exact (gz_let (fun _ => (gz_call _ _ _ _)))
theorem gY_Wds_takeSign_p286 (β : Nat) (σ : zS) (x0 x1 : Int) : gz (fun rec => kY_Wds_takeSign_p286 rec β σ x0 x1) := by
  unfold kY_Wds_takeSign_p286
  exact (gz_call _ _ _ _)
theorem gY_Wds_takeSign_p287 (β : Nat) (σ : zS) (x0 x1 x2 : Int) : gz (fun rec => kY_Wds_takeSign_p287 rec β σ x0 x1 x2) := by
  unfold kY_Wds_takeSign_p287
  exact (gz_let (fun _ => (gz_if (gz_call _ _ _ _) (gz_call _ _ _ _))))
theorem gY_Wds_takeSign_p305 (β : Nat) (σ : zS) (x0 x1 x2 : Int) : gz (fun rec => kY_Wds_takeSign_p305 rec β σ x0 x1 x2) := by
  unfold kY_Wds_takeSign_p305
  exact (gz_let (fun _ => (gz_call _ _ _ _)))
theorem gY_Wds_takeSign_p316 (β : Nat) (σ : zS) (x0 x1 : Int) : gz (fun rec => kY_Wds_takeSign_p316 rec β σ x0 x1) := by
  unfold kY_Wds_takeSign_p316
  exact (gz_const _)
theorem gY_Wds_takeWord (β : Nat) (σ : zS) : gz (fun rec => kY_Wds_takeWord rec β σ) := by
  unfold kY_Wds_takeWord
  exact (gz_call _ _ _ _)
theorem gY_Wds_takeWord_p2 (β : Nat) (σ : zS) (x0 : Int) : gz (fun rec => kY_Wds_takeWord_p2 rec β σ x0) := by
  unfold kY_Wds_takeWord_p2
  exact (gz_if (gz_call _ _ _ _) (gz_if (gz_if (gz_call _ _ _ _) (gz_if (gz_if (gz_call _ _ _ _) (gz_if (gz_call _ _ _ _) (gz_call _ _ _ _))) (gz_const _))) (gz_const _)))
theorem gY_Wds_takeWord_p55 (β : Nat) (σ : zS) (x0 x1 : Int) : gz (fun rec => kY_Wds_takeWord_p55 rec β σ x0 x1) := by
  unfold kY_Wds_takeWord_p55
  exact (gz_if (gz_call _ _ _ _) (gz_if (gz_call _ _ _ _) (gz_call _ _ _ _)))
theorem gY_Wds_takeWord_p67 (β : Nat) (σ : zS) (x0 x1 : Int) : gz (fun rec => kY_Wds_takeWord_p67 rec β σ x0 x1) := by
  unfold kY_Wds_takeWord_p67
  exact (gz_if (gz_call _ _ _ _) (gz_call _ _ _ _))
theorem gY_Wds_takeWord_p73 (β : Nat) (σ : zS) (x0 x1 : Int) : gz (fun rec => kY_Wds_takeWord_p73 rec β σ x0 x1) := by
  unfold kY_Wds_takeWord_p73
  exact (gz_call _ _ _ _)
theorem gY_Wds_takeWord_p78 (β : Nat) (σ : zS) (x0 x1 x2 : Int) : gz (fun rec => kY_Wds_takeWord_p78 rec β σ x0 x1 x2) := by
  unfold kY_Wds_takeWord_p78
  exact (gz_if (gz_call _ _ _ _) (gz_call _ _ _ _))
theorem gY_Wds_takeWord_p93 (β : Nat) (σ : zS) (x0 x1 x2 x3 : Int) : gz (fun rec => kY_Wds_takeWord_p93 rec β σ x0 x1 x2 x3) := by
  unfold kY_Wds_takeWord_p93
  exact (gz_if (gz_let (fun _ => (gz_call _ _ _ _))) (gz_const _))
theorem gY_Wds_takeWord_p100 (β : Nat) (σ : zS) (x0 : Int) : gz (fun rec => kY_Wds_takeWord_p100 rec β σ x0) := by
  unfold kY_Wds_takeWord_p100
  exact (gz_if (gz_if (gz_call _ _ _ _) (gz_call _ _ _ _)) (gz_const _))
theorem gY_Wds_takeWord_p119 (β : Nat) (σ : zS) (x0 x1 : Int) : gz (fun rec => kY_Wds_takeWord_p119 rec β σ x0 x1) := by
  unfold kY_Wds_takeWord_p119
  exact (gz_if (gz_if (gz_call _ _ _ _) (gz_call _ _ _ _)) (gz_call _ _ _ _))
theorem gY_Wds_takeWord_p143 (β : Nat) (σ : zS) (x0 x1 x2 : Int) : gz (fun rec => kY_Wds_takeWord_p143 rec β σ x0 x1 x2) := by
  unfold kY_Wds_takeWord_p143
  exact (gz_let (fun _ => (gz_const _)))
theorem gY_Integer_numberOfTrailingZeros (β : Nat) (σ : zS) (x0 : Int) : gz (fun rec => kY_Integer_numberOfTrailingZeros rec β σ x0) := by
  unfold kY_Integer_numberOfTrailingZeros
  exact (gz_if (gz_if (gz_if (gz_call _ _ _ _) (gz_if (gz_call _ _ _ _) (gz_const _))) (gz_const _)) (gz_const _))
theorem gY_Integer_numberOfTrailingZeros_p34 (β : Nat) (σ : zS) (x0 x1 : Int) : gz (fun rec => kY_Integer_numberOfTrailingZeros_p34 rec β σ x0 x1) := by
  unfold kY_Integer_numberOfTrailingZeros_p34
  exact (gz_if (gz_call _ _ _ _) (gz_if (gz_call _ _ _ _) (gz_const _)))
theorem gY_Integer_numberOfTrailingZeros_p49 (β : Nat) (σ : zS) (x0 x1 : Int) : gz (fun rec => kY_Integer_numberOfTrailingZeros_p49 rec β σ x0 x1) := by
  unfold kY_Integer_numberOfTrailingZeros_p49
  exact (gz_if (gz_call _ _ _ _) (gz_if (gz_call _ _ _ _) (gz_const _)))
theorem gY_Integer_numberOfTrailingZeros_p62 (β : Nat) (σ : zS) (x0 x1 : Int) : gz (fun rec => kY_Integer_numberOfTrailingZeros_p62 rec β σ x0 x1) := by
  unfold kY_Integer_numberOfTrailingZeros_p62
  exact (gz_if (gz_call _ _ _ _) (gz_if (gz_call _ _ _ _) (gz_const _)))
theorem gY_Integer_numberOfTrailingZeros_p74 (β : Nat) (σ : zS) (x0 x1 : Int) : gz (fun rec => kY_Integer_numberOfTrailingZeros_p74 rec β σ x0 x1) := by
  unfold kY_Integer_numberOfTrailingZeros_p74
  exact (gz_if (gz_const _) (gz_const _))
theorem gY_CP_addBytes (β : Nat) (σ : zS) (x0 : Int) : gz (fun rec => kY_CP_addBytes rec β σ x0) := by
  unfold kY_CP_addBytes
  exact (gz_call _ _ _ _)
theorem gY_CP_addBytes_p3 (β : Nat) (σ : zS) (x0 x1 : Int) : gz (fun rec => kY_CP_addBytes_p3 rec β σ x0 x1) := by
  unfold kY_CP_addBytes_p3
  exact (gz_if (gz_const _) (gz_if (gz_let (fun _ => (gz_if (gz_call _ _ _ _) (gz_const _)))) (gz_const _)))
theorem gY_CP_read (β : Nat) (σ : zS) : gz (fun rec => kY_CP_read rec β σ) := by
  unfold kY_CP_read
  exact (gz_if (gz_bnd (gz_call _ _ _ _) (fun _ _ => (gz_if (gz_bnd (gz_call _ _ _ _) (fun _ _ => (gz_if (gz_bnd (gz_call _ _ _ _) (fun _ _ => (gz_if (gz_bnd (gz_call _ _ _ _) (fun _ _ => (gz_let (fun _ => (gz_let (fun _ => (gz_let (fun _ => (gz_if (gz_if (gz_bnd (gz_call _ _ _ _) (fun _ _ => (gz_if (gz_bnd (gz_call _ _ _ _) (fun _ _ => (gz_if (gz_call _ _ _ _) (gz_call _ _ _ _)))) (gz_const _)))) (gz_const _)) (gz_call _ _ _ _)))))))))) (gz_const _)))) (gz_const _)))) (gz_const _)))) (gz_const _))
theorem gY_CP_read_p113 (β : Nat) (σ : zS) (x0 x1 : Int) : gz (fun rec => kY_CP_read_p113 rec β σ x0 x1) := by
  unfold kY_CP_read_p113
  exact (gz_let (fun _ => (gz_if (gz_call _ _ _ _) (gz_call _ _ _ _))))
theorem gY_CP_read_p127 (β : Nat) (σ : zS) (x0 x1 : Int) : gz (fun rec => kY_CP_read_p127 rec β σ x0 x1) := by
  unfold kY_CP_read_p127
  exact (gz_let (fun _ => (gz_call _ _ _ _)))
theorem gY_CP_read_p130 (β : Nat) (σ : zS) : gz (fun rec => kY_CP_read_p130 rec β σ) := by
  unfold kY_CP_read_p130
  exact (gz_if (gz_let (fun _ => (gz_const _))) (gz_if (gz_bnd (gz_call _ _ _ _) (fun _ _ => (gz_if (gz_bnd (gz_call _ _ _ _) (fun _ _ => (gz_const _))) (gz_const _)))) (gz_const _)))
theorem gY_CP_writeNumber (β : Nat) (σ : zS) (x0 : Int) : gz (fun rec => kY_CP_writeNumber rec β σ x0) := by
  unfold kY_CP_writeNumber
  exact (gz_if (gz_if (gz_call _ _ _ _) (gz_call _ _ _ _)) (gz_call _ _ _ _))
theorem gY_CP_writeNumber_p23 (β : Nat) (σ : zS) (x0 x1 : Int) : gz (fun rec => kY_CP_writeNumber_p23 rec β σ x0 x1) := by
  unfold kY_CP_writeNumber_p23
  exact (gz_call _ _ _ _)
theorem gY_CP_writeNumber_p24 (β : Nat) (σ : zS) (x0 x1 : Int) : gz (fun rec => kY_CP_writeNumber_p24 rec β σ x0 x1) := by
  unfold kY_CP_writeNumber_p24
  exact (gz_if (gz_const _) (gz_if (gz_const _) (gz_if (gz_if (gz_if (gz_let (fun _ => (gz_if (gz_call _ _ _ _) (gz_const _)))) (gz_const _)) (gz_const _)) (gz_const _))))
theorem gY_For_addNode (β : Nat) (σ : zS) (x0 x1 x2 : Int) : gz (fun rec => kY_For_addNode rec β σ x0 x1 x2) := by
  unfold kY_For_addNode
  exact (gz_if (gz_call _ _ _ _) (gz_if (gz_call _ _ _ _) (gz_const _)))
theorem gY_For_addNode_p14 (β : Nat) (σ : zS) (x0 x1 x2 x3 : Int) : gz (fun rec => kY_For_addNode_p14 rec β σ x0 x1 x2 x3) := by
  unfold kY_For_addNode_p14
  exact (gz_if (gz_call _ _ _ _) (gz_if (gz_call _ _ _ _) (gz_const _)))
theorem gY_For_addNode_p30 (β : Nat) (σ : zS) (x0 x1 x2 x3 x4 : Int) : gz (fun rec => kY_For_addNode_p30 rec β σ x0 x1 x2 x3 x4) := by
  unfold kY_For_addNode_p30
  exact (gz_if (gz_call _ _ _ _) (gz_if (gz_if (gz_call _ _ _ _) (gz_const _)) (gz_const _)))
theorem gY_For_addNode_p54 (β : Nat) (σ : zS) (x0 x1 x2 x3 x4 x5 : Int) : gz (fun rec => kY_For_addNode_p54 rec β σ x0 x1 x2 x3 x4 x5) := by
  unfold kY_For_addNode_p54
  exact (gz_if (gz_call _ _ _ _) (gz_if (gz_if (gz_call _ _ _ _) (gz_const _)) (gz_const _)))
theorem gY_For_addNode_p78 (β : Nat) (σ : zS) (x0 x1 x2 x3 x4 x5 x6 : Int) : gz (fun rec => kY_For_addNode_p78 rec β σ x0 x1 x2 x3 x4 x5 x6) := by
  unfold kY_For_addNode_p78
  exact (gz_if (gz_call _ _ _ _) (gz_if (gz_if (gz_call _ _ _ _) (gz_const _)) (gz_const _)))
theorem gY_For_addNode_p102 (β : Nat) (σ : zS) (x0 x1 x2 x3 x4 x5 x6 x7 : Int) : gz (fun rec => kY_For_addNode_p102 rec β σ x0 x1 x2 x3 x4 x5 x6 x7) := by
  unfold kY_For_addNode_p102
  exact (gz_if (gz_call _ _ _ _) (gz_if (gz_if (gz_call _ _ _ _) (gz_const _)) (gz_const _)))
theorem gY_For_addNode_p126 (β : Nat) (σ : zS) (x0 x1 x2 x3 x4 x5 x6 x7 x8 : Int) : gz (fun rec => kY_For_addNode_p126 rec β σ x0 x1 x2 x3 x4 x5 x6 x7 x8) := by
  unfold kY_For_addNode_p126
  exact (gz_if (gz_call _ _ _ _) (gz_if (gz_call _ _ _ _) (gz_if (gz_call _ _ _ _) (gz_if (gz_call _ _ _ _) (gz_if (gz_if (gz_if (gz_call _ _ _ _) (gz_const _)) (gz_const _)) (gz_if (gz_if (gz_if (gz_call _ _ _ _) (gz_const _)) (gz_const _)) (gz_if (gz_if (gz_if (gz_call _ _ _ _) (gz_const _)) (gz_const _)) (gz_if (gz_if (gz_if (gz_if (gz_if (gz_if (gz_call _ _ _ _) (gz_const _)) (gz_const _)) (gz_const _)) (gz_const _)) (gz_const _)) (gz_const _)))))))))
theorem gY_For_addNode_p271 (β : Nat) (σ : zS) (x0 x1 x2 x3 x4 x5 x6 x7 x8 x9 x10 : Int) : gz (fun rec => kY_For_addNode_p271 rec β σ x0 x1 x2 x3 x4 x5 x6 x7 x8 x9 x10) := by
  unfold kY_For_addNode_p271
  exact (gz_if (gz_call _ _ _ _) (gz_if (gz_if (gz_call _ _ _ _) (gz_const _)) (gz_const _)))
theorem gY_For_addNode_p293 (β : Nat) (σ : zS) (x0 x1 x2 x3 x4 x5 x6 x7 x8 x9 x10 x11 : Int) : gz (fun rec => kY_For_addNode_p293 rec β σ x0 x1 x2 x3 x4 x5 x6 x7 x8 x9 x10 x11) := by
  unfold kY_For_addNode_p293
  exact (gz_if (gz_call _ _ _ _) (gz_if (gz_if (gz_call _ _ _ _) (gz_const _)) (gz_const _)))
theorem gY_For_addNode_p315 (β : Nat) (σ : zS) (x0 x1 x2 x3 x4 x5 x6 x7 x8 x9 x10 x11 x12 : Int) : gz (fun rec => kY_For_addNode_p315 rec β σ x0 x1 x2 x3 x4 x5 x6 x7 x8 x9 x10 x11 x12) := by
  unfold kY_For_addNode_p315
  exact (gz_if (gz_let (fun _ => (gz_if (gz_let (fun _ => (gz_if (gz_let (fun _ => (gz_if (gz_if (gz_let (fun _ => (gz_if (gz_let (fun _ => (gz_if (gz_let (fun _ => (gz_if (gz_let (fun _ => (gz_if (gz_if (gz_const _) (gz_const _)) (gz_const _)))) (gz_const _)))) (gz_const _)))) (gz_const _)))) (gz_const _)) (gz_const _)))) (gz_const _)))) (gz_const _)))) (gz_const _))
theorem gY_For_equivalent (β : Nat) (σ : zS) (x0 x1 x2 x3 : Int) : gz (fun rec => kY_For_equivalent rec β σ x0 x1 x2 x3) := by
  unfold kY_For_equivalent
  exact (gz_if (gz_call _ _ _ _) (gz_call _ _ _ _))
theorem gY_For_equivalent_p11 (β : Nat) (σ : zS) (x0 x1 x2 x3 x4 x5 : Int) : gz (fun rec => kY_For_equivalent_p11 rec β σ x0 x1 x2 x3 x4 x5) := by
  unfold kY_For_equivalent_p11
  exact (gz_if (gz_bnd (gz_call _ _ _ _) (fun _ _ => (gz_if (gz_bnd (gz_call _ _ _ _) (fun _ _ => (gz_if (gz_if (gz_if (gz_if (gz_if (gz_bnd (gz_call _ _ _ _) (fun _ _ => (gz_call _ _ _ _))) (gz_const _)) (gz_const _)) (gz_if (gz_if (gz_bnd (gz_call _ _ _ _) (fun _ _ => (gz_call _ _ _ _))) (gz_const _)) (gz_const _))) (gz_if (gz_call _ _ _ _) (gz_call _ _ _ _))) (gz_const _)))) (gz_const _)))) (gz_const _))
theorem gY_For_equivalent_p42 (β : Nat) (σ : zS) (x0 x1 x2 x3 x4 x5 x6 x7 : Int) : gz (fun rec => kY_For_equivalent_p42 rec β σ x0 x1 x2 x3 x4 x5 x6 x7) := by
  unfold kY_For_equivalent_p42
  exact (gz_if (gz_bnd (gz_call _ _ _ _) (fun _ _ => (gz_call _ _ _ _))) (gz_const _))
theorem gY_For_equivalent_p87 (β : Nat) (σ : zS) (x0 x1 x2 x3 x4 : Int) : gz (fun rec => kY_For_equivalent_p87 rec β σ x0 x1 x2 x3 x4) := by
  unfold kY_For_equivalent_p87
  exact (gz_const _)
theorem gY_For_joined (β : Nat) (σ : zS) (x0 x1 x2 x3 x4 x5 : Int) : gz (fun rec => kY_For_joined rec β σ x0 x1 x2 x3 x4 x5) := by
  unfold kY_For_joined
  exact (gz_if (gz_call _ _ _ _) (gz_call _ _ _ _))
theorem gY_For_joined_p12 (β : Nat) (σ : zS) (x0 x1 x2 x3 x4 x5 x6 x7 : Int) : gz (fun rec => kY_For_joined_p12 rec β σ x0 x1 x2 x3 x4 x5 x6 x7) := by
  unfold kY_For_joined_p12
  exact (gz_if (gz_call _ _ _ _) (gz_call _ _ _ _))
theorem gY_For_joined_p22 (β : Nat) (σ : zS) (x0 x1 x2 x3 x4 x5 x6 x7 x8 : Int) : gz (fun rec => kY_For_joined_p22 rec β σ x0 x1 x2 x3 x4 x5 x6 x7 x8) := by
  unfold kY_For_joined_p22
  exact (gz_if (gz_bnd (gz_call _ _ _ _) (fun _ _ => (gz_if (gz_if (gz_const _) (gz_if (gz_bnd (gz_call _ _ _ _) (fun _ _ => (gz_if (gz_const _) (gz_if (gz_if (gz_bnd (gz_call _ _ _ _) (fun _ _ => (gz_call _ _ _ _))) (gz_const _)) (gz_const _))))) (gz_const _))) (gz_if (gz_if (gz_if (gz_bnd (gz_call _ _ _ _) (fun _ _ => (gz_call _ _ _ _))) (gz_const _)) (gz_const _)) (gz_if (gz_bnd (gz_call _ _ _ _) (fun _ _ => (gz_call _ _ _ _))) (gz_const _)))))) (gz_const _))
theorem gY_For_joined_p92 (β : Nat) (σ : zS) (x0 x1 x2 x3 x4 x5 x6 : Int) : gz (fun rec => kY_For_joined_p92 rec β σ x0 x1 x2 x3 x4 x5 x6) := by
  unfold kY_For_joined_p92
  exact (gz_const _)
theorem gY_For_later (β : Nat) (σ : zS) (x0 x1 x2 : Int) : gz (fun rec => kY_For_later rec β σ x0 x1 x2) := by
  unfold kY_For_later
  exact (gz_if (gz_let (fun _ => (gz_if (gz_call _ _ _ _) (gz_call _ _ _ _)))) (gz_const _))
theorem gY_For_later_p21 (β : Nat) (σ : zS) (x0 x1 x2 x3 : Int) : gz (fun rec => kY_For_later_p21 rec β σ x0 x1 x2 x3) := by
  unfold kY_For_later_p21
  exact (gz_if (gz_let (fun _ => (gz_if (gz_let (fun _ => (gz_const _))) (gz_const _)))) (gz_const _))
theorem gY_For_makeClauses (β : Nat) (σ : zS) : gz (fun rec => kY_For_makeClauses rec β σ) := by
  unfold kY_For_makeClauses
  exact (gz_call _ _ _ _)
theorem gY_For_makeClauses_p5 (β : Nat) (σ : zS) (x0 x1 : Int) : gz (fun rec => kY_For_makeClauses_p5 rec β σ x0 x1) := by
  unfold kY_For_makeClauses_p5
  exact (gz_if (gz_const _) (gz_if (gz_if (gz_if (gz_if (gz_if (gz_call _ _ _ _) (gz_call _ _ _ _)) (gz_const _)) (gz_const _)) (gz_const _)) (gz_const _)))
theorem gY_For_makeClauses_p51 (β : Nat) (σ : zS) (x0 x1 x2 x3 : Int) : gz (fun rec => kY_For_makeClauses_p51 rec β σ x0 x1 x2 x3) := by
  unfold kY_For_makeClauses_p51
  exact (gz_if (gz_bnd (gz_call _ _ _ _) (fun _ _ => (gz_if (gz_bnd (gz_call _ _ _ _) (fun _ _ => (gz_if (gz_if (gz_call _ _ _ _) (gz_const _)) (gz_if (gz_if (gz_call _ _ _ _) (gz_call _ _ _ _)) (gz_const _))))) (gz_const _)))) (gz_const _))
theorem gY_For_makeClauses_p84 (β : Nat) (σ : zS) (x0 x1 x2 x3 : Int) : gz (fun rec => kY_For_makeClauses_p84 rec β σ x0 x1 x2 x3) := by
  unfold kY_For_makeClauses_p84
  exact (gz_if (gz_if (gz_const _) (gz_const _)) (gz_const _))
theorem gY_For_makeClauses_p100 (β : Nat) (σ : zS) (x0 x1 x2 x3 x4 : Int) : gz (fun rec => kY_For_makeClauses_p100 rec β σ x0 x1 x2 x3 x4) := by
  unfold kY_For_makeClauses_p100
  exact (gz_if (gz_bnd (gz_call _ _ _ _) (fun _ _ => (gz_if (gz_if (gz_call _ _ _ _) (gz_const _)) (gz_if (gz_bnd (gz_call _ _ _ _) (fun _ _ => (gz_if (gz_if (gz_bnd (gz_call _ _ _ _) (fun _ _ => (gz_if (gz_bnd (gz_call _ _ _ _) (fun _ _ => (gz_if (gz_if (gz_bnd (gz_call _ _ _ _) (fun _ _ => (gz_call _ _ _ _))) (gz_const _)) (gz_call _ _ _ _)))) (gz_const _)))) (gz_const _)) (gz_if (gz_if (gz_const _) (gz_const _)) (gz_const _))))) (gz_const _))))) (gz_const _))
theorem gY_For_makeClauses_p164 (β : Nat) (σ : zS) (x0 x1 x2 x3 x4 : Int) : gz (fun rec => kY_For_makeClauses_p164 rec β σ x0 x1 x2 x3 x4) := by
  unfold kY_For_makeClauses_p164
  exact (gz_if (gz_call _ _ _ _) (gz_const _))
theorem gY_For_openSentence (β : Nat) (σ : zS) (x0 x1 : Int) : gz (fun rec => kY_For_openSentence rec β σ x0 x1) := by
  unfold kY_For_openSentence
  exact (gz_if (gz_let (fun _ => (gz_if (gz_call _ _ _ _) (gz_call _ _ _ _)))) (gz_const _))
theorem gY_For_openSentence_p21 (β : Nat) (σ : zS) (x0 x1 x2 : Int) : gz (fun rec => kY_For_openSentence_p21 rec β σ x0 x1 x2) := by
  unfold kY_For_openSentence_p21
  exact (gz_if (gz_let (fun _ => (gz_if (gz_let (fun _ => (gz_if (gz_let (fun _ => (gz_if (gz_let (fun _ => (gz_let (fun _ => (gz_const _))))) (gz_const _)))) (gz_const _)))) (gz_const _)))) (gz_const _))
theorem gY_For_writeClause (β : Nat) (σ : zS) (x0 x1 x2 : Int) : gz (fun rec => kY_For_writeClause rec β σ x0 x1 x2) := by
  unfold kY_For_writeClause
  exact (gz_if (gz_bnd (gz_call _ _ _ _) (fun _ _ => (gz_let (fun _ => (gz_if (gz_bnd (gz_call _ _ _ _) (fun _ _ => (gz_call _ _ _ _))) (gz_const _)))))) (gz_const _))
theorem gY_For_writeClause_p23 (β : Nat) (σ : zS) (x0 x1 x2 x3 : Int) : gz (fun rec => kY_For_writeClause_p23 rec β σ x0 x1 x2 x3) := by
  unfold kY_For_writeClause_p23
  exact (gz_if (gz_call _ _ _ _) (gz_if (gz_call _ _ _ _) (gz_if (gz_if (gz_let (fun _ => (gz_if (gz_if (gz_if (gz_if (gz_call _ _ _ _) (gz_call _ _ _ _)) (gz_const _)) (gz_const _)) (gz_const _)))) (gz_const _)) (gz_call _ _ _ _))))
theorem gY_For_writeClause_p103 (β : Nat) (σ : zS) (x0 x1 x2 x3 x4 x5 : Int) : gz (fun rec => kY_For_writeClause_p103 rec β σ x0 x1 x2 x3 x4 x5) := by
  unfold kY_For_writeClause_p103
  exact (gz_if (gz_if (gz_if (gz_bnd (gz_call _ _ _ _) (fun _ _ => (gz_if (gz_call _ _ _ _) (gz_const _)))) (gz_const _)) (gz_const _)) (gz_const _))
theorem gY_For_writeClause_p137 (β : Nat) (σ : zS) (x0 x1 x2 x3 : Int) : gz (fun rec => kY_For_writeClause_p137 rec β σ x0 x1 x2 x3) := by
  unfold kY_For_writeClause_p137
  exact (gz_const _)
theorem gY_For_writePart (β : Nat) (σ : zS) (x0 x1 x2 : Int) : gz (fun rec => kY_For_writePart rec β σ x0 x1 x2) := by
  unfold kY_For_writePart
  exact (gz_if (gz_bnd (gz_call _ _ _ _) (fun _ _ => (gz_if (gz_bnd (gz_call _ _ _ _) (fun _ _ => (gz_if (gz_bnd (gz_call _ _ _ _) (fun _ _ => (gz_if (gz_if (gz_call _ _ _ _) (gz_call _ _ _ _)) (gz_if (gz_if (gz_call _ _ _ _) (gz_call _ _ _ _)) (gz_if (gz_if (gz_call _ _ _ _) (gz_call _ _ _ _)) (gz_if (gz_if (gz_call _ _ _ _) (gz_call _ _ _ _)) (gz_if (gz_if (gz_call _ _ _ _) (gz_call _ _ _ _)) (gz_if (gz_if (gz_call _ _ _ _) (gz_call _ _ _ _)) (gz_if (gz_if (gz_call _ _ _ _) (gz_call _ _ _ _)) (gz_if (gz_bnd (gz_call _ _ _ _) (fun _ _ => (gz_call _ _ _ _))) (gz_const _))))))))))) (gz_const _)))) (gz_const _)))) (gz_const _))
theorem gY_For_writePart_p80 (β : Nat) (σ : zS) (x0 x1 x2 x3 x4 x5 x6 x7 : Int) : gz (fun rec => kY_For_writePart_p80 rec β σ x0 x1 x2 x3 x4 x5 x6 x7) := by
  unfold kY_For_writePart_p80
  exact (gz_if (gz_bnd (gz_call _ _ _ _) (fun _ _ => (gz_call _ _ _ _))) (gz_const _))
theorem gY_For_writePart_p106 (β : Nat) (σ : zS) (x0 x1 x2 x3 x4 x5 x6 x7 : Int) : gz (fun rec => kY_For_writePart_p106 rec β σ x0 x1 x2 x3 x4 x5 x6 x7) := by
  unfold kY_For_writePart_p106
  exact (gz_if (gz_call _ _ _ _) (gz_call _ _ _ _))
theorem gY_For_writePart_p115 (β : Nat) (σ : zS) (x0 x1 x2 x3 x4 x5 x6 x7 : Int) : gz (fun rec => kY_For_writePart_p115 rec β σ x0 x1 x2 x3 x4 x5 x6 x7) := by
  unfold kY_For_writePart_p115
  exact (gz_if (gz_if (gz_let (fun _ => (gz_if (gz_bnd (gz_call _ _ _ _) (fun _ _ => (gz_call _ _ _ _))) (gz_const _)))) (gz_const _)) (gz_const _))
theorem gY_For_writePart_p141 (β : Nat) (σ : zS) (x0 x1 x2 x3 x4 x5 x6 : Int) : gz (fun rec => kY_For_writePart_p141 rec β σ x0 x1 x2 x3 x4 x5 x6) := by
  unfold kY_For_writePart_p141
  exact (gz_if (gz_call _ _ _ _) (gz_call _ _ _ _))
theorem gY_For_writePart_p150 (β : Nat) (σ : zS) (x0 x1 x2 x3 x4 x5 x6 : Int) : gz (fun rec => kY_For_writePart_p150 rec β σ x0 x1 x2 x3 x4 x5 x6) := by
  unfold kY_For_writePart_p150
  exact (gz_if (gz_bnd (gz_call _ _ _ _) (fun _ _ => (gz_call _ _ _ _))) (gz_const _))
theorem gY_For_writePart_p174 (β : Nat) (σ : zS) (x0 x1 x2 x3 x4 x5 x6 : Int) : gz (fun rec => kY_For_writePart_p174 rec β σ x0 x1 x2 x3 x4 x5 x6) := by
  unfold kY_For_writePart_p174
  exact (gz_if (gz_call _ _ _ _) (gz_call _ _ _ _))
theorem gY_For_writePart_p185 (β : Nat) (σ : zS) (x0 x1 x2 x3 x4 x5 x6 x7 x8 : Int) : gz (fun rec => kY_For_writePart_p185 rec β σ x0 x1 x2 x3 x4 x5 x6 x7 x8) := by
  unfold kY_For_writePart_p185
  exact (gz_if (gz_bnd (gz_call _ _ _ _) (fun _ _ => (gz_call _ _ _ _))) (gz_const _))
theorem gY_For_writePart_p224 (β : Nat) (σ : zS) (x0 x1 x2 x3 x4 x5 x6 : Int) : gz (fun rec => kY_For_writePart_p224 rec β σ x0 x1 x2 x3 x4 x5 x6) := by
  unfold kY_For_writePart_p224
  exact (gz_if (gz_call _ _ _ _) (gz_call _ _ _ _))
theorem gY_For_writePart_p233 (β : Nat) (σ : zS) (x0 x1 x2 x3 x4 x5 x6 : Int) : gz (fun rec => kY_For_writePart_p233 rec β σ x0 x1 x2 x3 x4 x5 x6) := by
  unfold kY_For_writePart_p233
  exact (gz_if (gz_bnd (gz_call _ _ _ _) (fun _ _ => (gz_call _ _ _ _))) (gz_const _))
theorem gY_For_writePart_p240 (β : Nat) (σ : zS) (x0 x1 x2 x3 x4 x5 : Int) : gz (fun rec => kY_For_writePart_p240 rec β σ x0 x1 x2 x3 x4 x5) := by
  unfold kY_For_writePart_p240
  exact (gz_const _)
theorem gY_Par_closeBracket (β : Nat) (σ : zS) : gz (fun rec => kY_Par_closeBracket rec β σ) := by
  unfold kY_Par_closeBracket
  exact (gz_if (gz_bnd (gz_call _ _ _ _) (fun _ _ => (gz_if (gz_bnd (gz_call _ _ _ _) (fun _ _ => (gz_if (gz_const _) (gz_if (gz_bnd (gz_call _ _ _ _) (fun _ _ => (gz_if (gz_bnd (gz_call _ _ _ _) (fun _ _ => (gz_const _))) (gz_const _)))) (gz_const _))))) (gz_const _)))) (gz_const _))
theorem gY_Par_closeSentence (β : Nat) (σ : zS) : gz (fun rec => kY_Par_closeSentence rec β σ) := by
  unfold kY_Par_closeSentence
  exact (gz_if (gz_bnd (gz_call _ _ _ _) (fun _ _ => (gz_if (gz_bnd (gz_call _ _ _ _) (fun _ _ => (gz_if (gz_call _ _ _ _) (gz_if (gz_if (gz_if (gz_bnd (gz_call _ _ _ _) (fun _ _ => (gz_if (gz_bnd (gz_call _ _ _ _) (fun _ _ => (gz_const _))) (gz_const _)))) (gz_const _)) (gz_const _)) (gz_call _ _ _ _))))) (gz_const _)))) (gz_const _))
theorem gY_Par_closeSentence_p30 (β : Nat) (σ : zS) : gz (fun rec => kY_Par_closeSentence_p30 rec β σ) := by
  unfold kY_Par_closeSentence_p30
  exact (gz_if (gz_bnd (gz_call _ _ _ _) (fun _ _ => (gz_const _))) (gz_const _))
theorem gY_Par_fold (β : Nat) (σ : zS) (x0 : Int) : gz (fun rec => kY_Par_fold rec β σ x0) := by
  unfold kY_Par_fold
  exact (gz_call _ _ _ _)
theorem gY_Par_fold_p2 (β : Nat) (σ : zS) (x0 x1 : Int) : gz (fun rec => kY_Par_fold_p2 rec β σ x0 x1) := by
  unfold kY_Par_fold_p2
  exact (gz_if (gz_call _ _ _ _) (gz_if (gz_bnd (gz_call _ _ _ _) (fun _ _ => (gz_if (gz_bnd (gz_call _ _ _ _) (fun _ _ => (gz_if (gz_call _ _ _ _) (gz_if (gz_bnd (gz_call _ _ _ _) (fun _ _ => (gz_if (gz_call _ _ _ _) (gz_const _)))) (gz_const _))))) (gz_const _)))) (gz_const _)))
theorem gY_Par_fold_p29 (β : Nat) (σ : zS) (x0 x1 : Int) : gz (fun rec => kY_Par_fold_p29 rec β σ x0 x1) := by
  unfold kY_Par_fold_p29
  exact (gz_const _)
theorem gY_Par_foldTop (β : Nat) (σ : zS) : gz (fun rec => kY_Par_foldTop rec β σ) := by
  unfold kY_Par_foldTop
  exact (gz_if (gz_bnd (gz_call _ _ _ _) (fun _ _ => (gz_if (gz_if (gz_if (gz_if (gz_bnd (gz_call _ _ _ _) (fun _ _ => (gz_call _ _ _ _))) (gz_const _)) (gz_if (gz_call _ _ _ _) (gz_if (gz_call _ _ _ _) (gz_let (fun _ => (gz_if (gz_if (gz_if (gz_bnd (gz_call _ _ _ _) (fun _ _ => (gz_call _ _ _ _))) (gz_const _)) (gz_const _)) (gz_const _))))))) (gz_const _)) (gz_const _)))) (gz_const _))
theorem gY_Par_foldTop_p56 (β : Nat) (σ : zS) (x0 x1 : Int) : gz (fun rec => kY_Par_foldTop_p56 rec β σ x0 x1) := by
  unfold kY_Par_foldTop_p56
  exact (gz_call _ _ _ _)
theorem gY_Par_foldTop_p67 (β : Nat) (σ : zS) (x0 x1 x2 x3 : Int) : gz (fun rec => kY_Par_foldTop_p67 rec β σ x0 x1 x2 x3) := by
  unfold kY_Par_foldTop_p67
  exact (gz_if (gz_call _ _ _ _) (gz_if (gz_if (gz_if (gz_call _ _ _ _) (gz_if (gz_bnd (gz_call _ _ _ _) (fun _ _ => (gz_if (gz_if (gz_call _ _ _ _) (gz_const _)) (gz_const _)))) (gz_const _))) (gz_const _)) (gz_const _)))
theorem gY_Par_foldTop_p123 (β : Nat) (σ : zS) (x0 x1 x2 x3 : Int) : gz (fun rec => kY_Par_foldTop_p123 rec β σ x0 x1 x2 x3) := by
  unfold kY_Par_foldTop_p123
  exact (gz_let (fun _ => (gz_call _ _ _ _)))
theorem gY_Par_foldTop_p174 (β : Nat) (σ : zS) (x0 x1 : Int) : gz (fun rec => kY_Par_foldTop_p174 rec β σ x0 x1) := by
  unfold kY_Par_foldTop_p174
  exact (gz_if (gz_if (gz_let (fun _ => (gz_if (gz_bnd (gz_call _ _ _ _) (fun _ _ => (gz_const _))) (gz_const _)))) (gz_const _)) (gz_const _))
theorem gY_Par_mayBeEquivalent (β : Nat) (σ : zS) : gz (fun rec => kY_Par_mayBeEquivalent rec β σ) := by
  unfold kY_Par_mayBeEquivalent
  exact (gz_if (gz_bnd (gz_call _ _ _ _) (fun _ _ => (gz_if (gz_bnd (gz_call _ _ _ _) (fun _ _ => (gz_call _ _ _ _))) (gz_const _)))) (gz_const _))
theorem gY_Par_mayBeEquivalent_p11 (β : Nat) (σ : zS) (x0 : Int) : gz (fun rec => kY_Par_mayBeEquivalent_p11 rec β σ x0) := by
  unfold kY_Par_mayBeEquivalent_p11
  exact (gz_if (gz_call _ _ _ _) (gz_if (gz_bnd (gz_call _ _ _ _) (fun _ _ => (gz_if (gz_if (gz_bnd (gz_call _ _ _ _) (fun _ _ => (gz_if (gz_bnd (gz_call _ _ _ _) (fun _ _ => (gz_if (gz_call _ _ _ _) (gz_if (gz_bnd (gz_call _ _ _ _) (fun _ _ => (gz_if (gz_call _ _ _ _) (gz_const _)))) (gz_const _))))) (gz_const _)))) (gz_const _)) (gz_call _ _ _ _)))) (gz_const _)))
theorem gY_Par_mayBeEquivalent_p50 (β : Nat) (σ : zS) (x0 : Int) : gz (fun rec => kY_Par_mayBeEquivalent_p50 rec β σ x0) := by
  unfold kY_Par_mayBeEquivalent_p50
  exact (gz_if (gz_bnd (gz_call _ _ _ _) (fun _ _ => (gz_if (gz_bnd (gz_call _ _ _ _) (fun _ _ => (gz_if (gz_bnd (gz_call _ _ _ _) (fun _ _ => (gz_if (gz_call _ _ _ _) (gz_const _)))) (gz_const _)))) (gz_const _)))) (gz_const _))
theorem gY_Par_mayBeEquivalent_p69 (β : Nat) (σ : zS) (x0 : Int) : gz (fun rec => kY_Par_mayBeEquivalent_p69 rec β σ x0) := by
  unfold kY_Par_mayBeEquivalent_p69
  exact (gz_const _)
theorem gY_Par_openSentence (β : Nat) (σ : zS) : gz (fun rec => kY_Par_openSentence rec β σ) := by
  unfold kY_Par_openSentence
  exact (gz_if (gz_bnd (gz_call _ _ _ _) (fun _ _ => (gz_if (gz_bnd (gz_call _ _ _ _) (fun _ _ => (gz_let (fun _ => (gz_let (fun _ => (gz_let (fun _ => (gz_let (fun _ => (gz_if (gz_call _ _ _ _) (gz_if (gz_bnd (gz_call _ _ _ _) (fun _ _ => (gz_call _ _ _ _))) (gz_const _))))))))))))) (gz_const _)))) (gz_const _))
theorem gY_Par_openSentence_p63 (β : Nat) (σ : zS) (x0 : Int) : gz (fun rec => kY_Par_openSentence_p63 rec β σ x0) := by
  unfold kY_Par_openSentence_p63
  exact (gz_const _)
theorem gY_Par_parse_2 (β : Nat) (σ : zS) (x0 : Int) : gz (fun rec => kY_Par_parse_2 rec β σ x0) := by
  unfold kY_Par_parse_2
  exact (gz_let (fun _ => (gz_let (fun _ => (gz_if (gz_bnd (gz_call _ _ _ _) (fun _ _ => (gz_if (gz_bnd (gz_call _ _ _ _) (fun _ _ => (gz_call _ _ _ _))) (gz_const _)))) (gz_const _))))))
theorem gY_Par_parse_2_p28 (β : Nat) (σ : zS) (x0 x1 : Int) : gz (fun rec => kY_Par_parse_2_p28 rec β σ x0 x1) := by
  unfold kY_Par_parse_2_p28
  exact (gz_if (gz_call _ _ _ _) (gz_if (gz_if (gz_call _ _ _ _) (gz_if (gz_bnd (gz_call _ _ _ _) (fun _ _ => (gz_call _ _ _ _))) (gz_const _))) (gz_call _ _ _ _)))
theorem gY_Par_parse_2_p61 (β : Nat) (σ : zS) (x0 x1 x2 x3 : Int) : gz (fun rec => kY_Par_parse_2_p61 rec β σ x0 x1 x2 x3) := by
  unfold kY_Par_parse_2_p61
  exact (gz_if (gz_call _ _ _ _) (gz_if (gz_call _ _ _ _) (gz_if (gz_bnd (gz_call _ _ _ _) (fun _ _ => (gz_if (gz_bnd (gz_call _ _ _ _) (fun _ _ => (gz_if (gz_if (gz_bnd (gz_call _ _ _ _) (fun _ _ => (gz_if (gz_call _ _ _ _) (gz_call _ _ _ _)))) (gz_const _)) (gz_call _ _ _ _)))) (gz_const _)))) (gz_const _))))
theorem gY_Par_parse_2_p99 (β : Nat) (σ : zS) (x0 x1 x2 x3 : Int) : gz (fun rec => kY_Par_parse_2_p99 rec β σ x0 x1 x2 x3) := by
  unfold kY_Par_parse_2_p99
  exact (gz_call _ _ _ _)
theorem gY_Par_parse_2_p100 (β : Nat) (σ : zS) (x0 x1 x2 x3 x4 : Int) : gz (fun rec => kY_Par_parse_2_p100 rec β σ x0 x1 x2 x3 x4) := by
  unfold kY_Par_parse_2_p100
  exact (gz_if (gz_call _ _ _ _) (gz_const _))
theorem gY_Par_parse_2_p108 (β : Nat) (σ : zS) (x0 x1 x2 x3 : Int) : gz (fun rec => kY_Par_parse_2_p108 rec β σ x0 x1 x2 x3) := by
  unfold kY_Par_parse_2_p108
  exact (gz_if (gz_call _ _ _ _) (gz_const _))
theorem gY_Par_parse_2_p114 (β : Nat) (σ : zS) (x0 x1 : Int) : gz (fun rec => kY_Par_parse_2_p114 rec β σ x0 x1) := by
  unfold kY_Par_parse_2_p114
  exact (gz_const _)
theorem gY_Par_push (β : Nat) (σ : zS) (x0 x1 : Int) : gz (fun rec => kY_Par_push rec β σ x0 x1) := by
  unfold kY_Par_push
  exact (gz_if (gz_let (fun _ => (gz_if (gz_let (fun _ => (gz_if (gz_bnd (gz_call _ _ _ _) (fun _ _ => (gz_if (gz_call _ _ _ _) (gz_call _ _ _ _)))) (gz_const _)))) (gz_const _)))) (gz_const _))
theorem gY_Par_push_p33 (β : Nat) (σ : zS) (x0 x1 x2 x3 : Int) : gz (fun rec => kY_Par_push_p33 rec β σ x0 x1 x2 x3) := by
  unfold kY_Par_push_p33
  exact (gz_if (gz_let (fun _ => (gz_const _))) (gz_const _))
theorem gY_Par_takeAtom (β : Nat) (σ : zS) : gz (fun rec => kY_Par_takeAtom rec β σ) := by
  unfold kY_Par_takeAtom
  exact (gz_if (gz_if (gz_bnd (gz_call _ _ _ _) (fun _ _ => (gz_if (gz_if (gz_bnd (gz_call _ _ _ _) (fun _ _ => (gz_if (gz_bnd (gz_call _ _ _ _) (fun _ _ => (gz_if (gz_if (gz_call _ _ _ _) (gz_if (gz_call _ _ _ _) (gz_call _ _ _ _))) (gz_const _)))) (gz_const _)))) (gz_const _)) (gz_if (gz_bnd (gz_call _ _ _ _) (fun _ _ => (gz_if (gz_bnd (gz_call _ _ _ _) (fun _ _ => (gz_const _))) (gz_const _)))) (gz_const _))))) (gz_const _)) (gz_const _))
theorem gY_Par_takeAtom_p95 (β : Nat) (σ : zS) (x0 x1 x2 x3 : Int) : gz (fun rec => kY_Par_takeAtom_p95 rec β σ x0 x1 x2 x3) := by
  unfold kY_Par_takeAtom_p95
  exact (gz_call _ _ _ _)
theorem gY_Par_takeAtom_p100 (β : Nat) (σ : zS) (x0 x1 x2 x3 x4 : Int) : gz (fun rec => kY_Par_takeAtom_p100 rec β σ x0 x1 x2 x3 x4) := by
  unfold kY_Par_takeAtom_p100
  exact (gz_if (gz_call _ _ _ _) (gz_call _ _ _ _))
theorem gY_Par_takeAtom_p114 (β : Nat) (σ : zS) (x0 x1 x2 x3 x4 x5 x6 : Int) : gz (fun rec => kY_Par_takeAtom_p114 rec β σ x0 x1 x2 x3 x4 x5 x6) := by
  unfold kY_Par_takeAtom_p114
  exact (gz_if (gz_bnd (gz_call _ _ _ _) (fun _ _ => (gz_if (gz_if (gz_bnd (gz_call _ _ _ _) (fun _ _ => (gz_if (gz_let (fun _ => (gz_call _ _ _ _))) (gz_const _)))) (gz_const _)) (gz_if (gz_bnd (gz_call _ _ _ _) (fun _ _ => (gz_call _ _ _ _))) (gz_const _))))) (gz_const _))
theorem gY_Par_takeAtom_p151 (β : Nat) (σ : zS) (x0 x1 x2 x3 x4 : Int) : gz (fun rec => kY_Par_takeAtom_p151 rec β σ x0 x1 x2 x3 x4) := by
  unfold kY_Par_takeAtom_p151
  exact (gz_const _)
theorem gY_Par_takeBound (β : Nat) (σ : zS) : gz (fun rec => kY_Par_takeBound rec β σ) := by
  unfold kY_Par_takeBound
  exact (gz_if (gz_bnd (gz_call _ _ _ _) (fun _ _ => (gz_call _ _ _ _))) (gz_const _))
theorem gY_Par_takeBound_p25 (β : Nat) (σ : zS) (x0 x1 x2 : Int) : gz (fun rec => kY_Par_takeBound_p25 rec β σ x0 x1 x2) := by
  unfold kY_Par_takeBound_p25
  exact (gz_if (gz_call _ _ _ _) (gz_if (gz_bnd (gz_call _ _ _ _) (fun _ _ => (gz_if (gz_call _ _ _ _) (gz_if (gz_bnd (gz_call _ _ _ _) (fun _ _ => (gz_if (gz_if (gz_bnd (gz_call _ _ _ _) (fun _ _ => (gz_const _))) (gz_const _)) (gz_if (gz_bnd (gz_call _ _ _ _) (fun _ _ => (gz_if (gz_call _ _ _ _) (gz_const _)))) (gz_const _))))) (gz_const _))))) (gz_const _)))
theorem gY_Par_takeBound_p83 (β : Nat) (σ : zS) (x0 x1 x2 : Int) : gz (fun rec => kY_Par_takeBound_p83 rec β σ x0 x1 x2) := by
  unfold kY_Par_takeBound_p83
  exact (gz_if (gz_call _ _ _ _) (gz_if (gz_bnd (gz_call _ _ _ _) (fun _ _ => (gz_if (gz_call _ _ _ _) (gz_if (gz_bnd (gz_call _ _ _ _) (fun _ _ => (gz_if (gz_bnd (gz_call _ _ _ _) (fun _ _ => (gz_const _))) (gz_const _)))) (gz_const _))))) (gz_const _)))
theorem gY_Par_takeBound_p106 (β : Nat) (σ : zS) (x0 x1 x2 : Int) : gz (fun rec => kY_Par_takeBound_p106 rec β σ x0 x1 x2) := by
  unfold kY_Par_takeBound_p106
  exact (gz_if (gz_bnd (gz_call _ _ _ _) (fun _ _ => (gz_const _))) (gz_const _))
theorem gY_Par_takeEquation (β : Nat) (σ : zS) (x0 : Int) : gz (fun rec => kY_Par_takeEquation rec β σ x0) := by
  unfold kY_Par_takeEquation
  exact (gz_if (gz_if (gz_bnd (gz_call _ _ _ _) (fun _ _ => (gz_if (gz_if (gz_bnd (gz_call _ _ _ _) (fun _ _ => (gz_if (gz_if (gz_bnd (gz_call _ _ _ _) (fun _ _ => (gz_const _))) (gz_const _)) (gz_call _ _ _ _)))) (gz_const _)) (gz_call _ _ _ _)))) (gz_const _)) (gz_const _))
theorem gY_Par_takeEquation_p45 (β : Nat) (σ : zS) (x0 x1 : Int) : gz (fun rec => kY_Par_takeEquation_p45 rec β σ x0 x1) := by
  unfold kY_Par_takeEquation_p45
  exact (gz_if (gz_bnd (gz_call _ _ _ _) (fun _ _ => (gz_if (gz_bnd (gz_call _ _ _ _) (fun _ _ => (gz_if (gz_bnd (gz_call _ _ _ _) (fun _ _ => (gz_if (gz_let (fun _ => (gz_const _))) (gz_const _)))) (gz_const _)))) (gz_const _)))) (gz_const _))
theorem gY_Par_takeName (β : Nat) (σ : zS) : gz (fun rec => kY_Par_takeName rec β σ) := by
  unfold kY_Par_takeName
  exact (gz_if (gz_bnd (gz_call _ _ _ _) (fun _ _ => (gz_if (gz_if (gz_bnd (gz_call _ _ _ _) (fun _ _ => (gz_const _))) (gz_const _)) (gz_if (gz_bnd (gz_call _ _ _ _) (fun _ _ => (gz_if (gz_if (gz_bnd (gz_call _ _ _ _) (fun _ _ => (gz_const _))) (gz_const _)) (gz_if (gz_let (fun _ => (gz_if (gz_bnd (gz_call _ _ _ _) (fun _ _ => (gz_const _))) (gz_const _)))) (gz_const _))))) (gz_const _))))) (gz_const _))
theorem gY_Par_takePrefixes (β : Nat) (σ : zS) : gz (fun rec => kY_Par_takePrefixes rec β σ) := by
  unfold kY_Par_takePrefixes
  exact (gz_call _ _ _ _)
theorem gY_Par_takePrefixes_p4 (β : Nat) (σ : zS) (x0 x1 : Int) : gz (fun rec => kY_Par_takePrefixes_p4 rec β σ x0 x1) := by
  unfold kY_Par_takePrefixes_p4
  exact (gz_if (gz_call _ _ _ _) (gz_if (gz_call _ _ _ _) (gz_if (gz_if (gz_if (gz_bnd (gz_call _ _ _ _) (fun _ _ => (gz_if (gz_if (gz_bnd (gz_call _ _ _ _) (fun _ _ => (gz_if (gz_if (gz_bnd (gz_call _ _ _ _) (fun _ _ => (gz_if (gz_if (gz_bnd (gz_call _ _ _ _) (fun _ _ => (gz_if (gz_call _ _ _ _) (gz_call _ _ _ _)))) (gz_const _)) (gz_call _ _ _ _)))) (gz_const _)) (gz_call _ _ _ _)))) (gz_const _)) (gz_call _ _ _ _)))) (gz_const _)) (gz_if (gz_bnd (gz_call _ _ _ _) (fun _ _ => (gz_call _ _ _ _))) (gz_const _))) (gz_call _ _ _ _))))
theorem gY_Par_takePrefixes_p68 (β : Nat) (σ : zS) (x0 x1 : Int) : gz (fun rec => kY_Par_takePrefixes_p68 rec β σ x0 x1) := by
  unfold kY_Par_takePrefixes_p68
  exact (gz_if (gz_bnd (gz_call _ _ _ _) (fun _ _ => (gz_if (gz_bnd (gz_call _ _ _ _) (fun _ _ => (gz_call _ _ _ _))) (gz_const _)))) (gz_const _))
theorem gY_Par_takePrefixes_p114 (β : Nat) (σ : zS) (x0 x1 : Int) : gz (fun rec => kY_Par_takePrefixes_p114 rec β σ x0 x1) := by
  unfold kY_Par_takePrefixes_p114
  exact (gz_if (gz_bnd (gz_call _ _ _ _) (fun _ _ => (gz_call _ _ _ _))) (gz_const _))
theorem gY_Par_takePrefixes_p123 (β : Nat) (σ : zS) (x0 x1 : Int) : gz (fun rec => kY_Par_takePrefixes_p123 rec β σ x0 x1) := by
  unfold kY_Par_takePrefixes_p123
  exact (gz_if (gz_call _ _ _ _) (gz_const _))
theorem gY_Par_takePrefixes_p129 (β : Nat) (σ : zS) (x0 x1 : Int) : gz (fun rec => kY_Par_takePrefixes_p129 rec β σ x0 x1) := by
  unfold kY_Par_takePrefixes_p129
  exact (gz_const _)
theorem gY_Par_takeSign (β : Nat) (σ : zS) : gz (fun rec => kY_Par_takeSign rec β σ) := by
  unfold kY_Par_takeSign
  exact (gz_call _ _ _ _)
theorem gY_Par_takeSign_p4 (β : Nat) (σ : zS) (x0 x1 : Int) : gz (fun rec => kY_Par_takeSign_p4 rec β σ x0 x1) := by
  unfold kY_Par_takeSign_p4
  exact (gz_if (gz_call _ _ _ _) (gz_if (gz_call _ _ _ _) (gz_if (gz_bnd (gz_call _ _ _ _) (fun _ _ => (gz_if (gz_call _ _ _ _) (gz_if (gz_bnd (gz_call _ _ _ _) (fun _ _ => (gz_if (gz_call _ _ _ _) (gz_call _ _ _ _)))) (gz_const _))))) (gz_const _))))
theorem gY_Par_takeSign_p37 (β : Nat) (σ : zS) (x0 x1 : Int) : gz (fun rec => kY_Par_takeSign_p37 rec β σ x0 x1) := by
  unfold kY_Par_takeSign_p37
  exact (gz_call _ _ _ _)
theorem gY_Par_takeSign_p38 (β : Nat) (σ : zS) (x0 x1 x2 : Int) : gz (fun rec => kY_Par_takeSign_p38 rec β σ x0 x1 x2) := by
  unfold kY_Par_takeSign_p38
  exact (gz_if (gz_call _ _ _ _) (gz_const _))
theorem gY_Par_takeSign_p45 (β : Nat) (σ : zS) (x0 x1 : Int) : gz (fun rec => kY_Par_takeSign_p45 rec β σ x0 x1) := by
  unfold kY_Par_takeSign_p45
  exact (gz_if (gz_call _ _ _ _) (gz_call _ _ _ _))
theorem gY_Par_takeSign_p66 (β : Nat) (σ : zS) (x0 x1 x2 : Int) : gz (fun rec => kY_Par_takeSign_p66 rec β σ x0 x1 x2) := by
  unfold kY_Par_takeSign_p66
  exact (gz_if (gz_if (gz_bnd (gz_call _ _ _ _) (fun _ _ => (gz_const _))) (gz_const _)) (gz_if (gz_if (gz_bnd (gz_call _ _ _ _) (fun _ _ => (gz_const _))) (gz_const _)) (gz_if (gz_if (gz_bnd (gz_call _ _ _ _) (fun _ _ => (gz_const _))) (gz_const _)) (gz_if (gz_if (gz_bnd (gz_call _ _ _ _) (fun _ _ => (gz_const _))) (gz_const _)) (gz_if (gz_if (gz_bnd (gz_call _ _ _ _) (fun _ _ => (gz_const _))) (gz_const _)) (gz_if (gz_if (gz_bnd (gz_call _ _ _ _) (fun _ _ => (gz_const _))) (gz_const _)) (gz_if (gz_if (gz_bnd (gz_call _ _ _ _) (fun _ _ => (gz_const _))) (gz_const _)) (gz_if (gz_if (gz_bnd (gz_call _ _ _ _) (fun _ _ => (gz_const _))) (gz_const _)) (gz_if (gz_if (gz_bnd (gz_call _ _ _ _) (fun _ _ => (gz_const _))) (gz_const _)) (gz_if (gz_if (gz_bnd (gz_call _ _ _ _) (fun _ _ => (gz_const _))) (gz_const _)) (gz_if (gz_if (gz_bnd (gz_call _ _ _ _) (fun _ _ => (gz_const _))) (gz_const _)) (gz_if (gz_if (gz_bnd (gz_call _ _ _ _) (fun _ _ => (gz_if (gz_bnd (gz_call _ _ _ _) (fun _ _ => (gz_call _ _ _ _))) (gz_const _)))) (gz_const _)) (gz_if (gz_if (gz_bnd (gz_call _ _ _ _) (fun _ _ => (gz_if (gz_bnd (gz_call _ _ _ _) (fun _ _ => (gz_call _ _ _ _))) (gz_const _)))) (gz_const _)) (gz_if (gz_if (gz_bnd (gz_call _ _ _ _) (fun _ _ => (gz_if (gz_bnd (gz_call _ _ _ _) (fun _ _ => (gz_call _ _ _ _))) (gz_const _)))) (gz_const _)) (gz_if (gz_bnd (gz_call _ _ _ _) (fun _ _ => (gz_if (gz_if (gz_bnd (gz_call _ _ _ _) (fun _ _ => (gz_const _))) (gz_const _)) (gz_call _ _ _ _)))) (gz_const _))))))))))))))))
theorem gY_Par_takeSign_p188 (β : Nat) (σ : zS) (x0 x1 : Int) : gz (fun rec => kY_Par_takeSign_p188 rec β σ x0 x1) := by
  unfold kY_Par_takeSign_p188
  exact (gz_if (gz_bnd (gz_call _ _ _ _) (fun _ _ => (gz_if (gz_bnd (gz_call _ _ _ _) (fun _ _ => (gz_const _))) (gz_const _)))) (gz_const _))
theorem gY_Par_takeTerm (β : Nat) (σ : zS) (x0 : Int) : gz (fun rec => kY_Par_takeTerm rec β σ x0) := by
  unfold kY_Par_takeTerm
  exact (gz_if (gz_if (gz_bnd (gz_call _ _ _ _) (fun _ _ => (gz_if (gz_if (gz_bnd (gz_call _ _ _ _) (fun _ _ => (gz_if (gz_bnd (gz_call _ _ _ _) (fun _ _ => (gz_if (gz_bnd (gz_call _ _ _ _) (fun _ _ => (gz_const _))) (gz_const _)))) (gz_const _)))) (gz_const _)) (gz_if (gz_bnd (gz_call _ _ _ _) (fun _ _ => (gz_const _))) (gz_const _))))) (gz_const _)) (gz_if (gz_bnd (gz_call _ _ _ _) (fun _ _ => (gz_const _))) (gz_const _)))
theorem gY_Par_takeTerms (β : Nat) (σ : zS) (x0 : Int) : gz (fun rec => kY_Par_takeTerms rec β σ x0) := by
  unfold kY_Par_takeTerms
  exact (gz_if (gz_if (gz_bnd (gz_call _ _ _ _) (fun _ _ => (gz_if (gz_call _ _ _ _) (gz_call _ _ _ _)))) (gz_const _)) (gz_call _ _ _ _))
theorem gY_Par_takeTerms_p18 (β : Nat) (σ : zS) (x0 : Int) : gz (fun rec => kY_Par_takeTerms_p18 rec β σ x0) := by
  unfold kY_Par_takeTerms_p18
  exact (gz_const _)
theorem gY_Par_takeTerms_p27 (β : Nat) (σ : zS) (x0 x1 x2 x3 : Int) : gz (fun rec => kY_Par_takeTerms_p27 rec β σ x0 x1 x2 x3) := by
  unfold kY_Par_takeTerms_p27
  exact (gz_if (gz_call _ _ _ _) (gz_if (gz_call _ _ _ _) (gz_if (gz_bnd (gz_call _ _ _ _) (fun _ _ => (gz_if (gz_if (gz_bnd (gz_call _ _ _ _) (fun _ _ => (gz_if (gz_if (gz_bnd (gz_call _ _ _ _) (fun _ _ => (gz_if (gz_if (gz_call _ _ _ _) (gz_const _)) (gz_if (gz_call _ _ _ _) (gz_const _))))) (gz_const _)) (gz_if (gz_call _ _ _ _) (gz_const _))))) (gz_const _)) (gz_const _)))) (gz_const _))))
theorem gY_Par_takeTerms_p78 (β : Nat) (σ : zS) (x0 x1 x2 x3 : Int) : gz (fun rec => kY_Par_takeTerms_p78 rec β σ x0 x1 x2 x3) := by
  unfold kY_Par_takeTerms_p78
  exact (gz_call _ _ _ _)
theorem gY_Par_takeTerms_p79 (β : Nat) (σ : zS) (x0 x1 x2 x3 x4 : Int) : gz (fun rec => kY_Par_takeTerms_p79 rec β σ x0 x1 x2 x3 x4) := by
  unfold kY_Par_takeTerms_p79
  exact (gz_if (gz_call _ _ _ _) (gz_const _))
theorem gY_Par_takeTerms_p86 (β : Nat) (σ : zS) (x0 x1 x2 x3 : Int) : gz (fun rec => kY_Par_takeTerms_p86 rec β σ x0 x1 x2 x3) := by
  unfold kY_Par_takeTerms_p86
  exact (gz_if (gz_if (gz_bnd (gz_call _ _ _ _) (fun _ _ => (gz_if (gz_if (gz_bnd (gz_call _ _ _ _) (fun _ _ => (gz_call _ _ _ _))) (gz_const _)) (gz_if (gz_bnd (gz_call _ _ _ _) (fun _ _ => (gz_call _ _ _ _))) (gz_const _))))) (gz_const _)) (gz_call _ _ _ _))
theorem gY_Par_takeTerms_p119 (β : Nat) (σ : zS) (x0 x1 x2 x3 : Int) : gz (fun rec => kY_Par_takeTerms_p119 rec β σ x0 x1 x2 x3) := by
  unfold kY_Par_takeTerms_p119
  exact (gz_const _)
theorem gY_Par_takeVariable (β : Nat) (σ : zS) : gz (fun rec => kY_Par_takeVariable rec β σ) := by
  unfold kY_Par_takeVariable
  exact (gz_if (gz_bnd (gz_call _ _ _ _) (fun _ _ => (gz_if (gz_if (gz_bnd (gz_call _ _ _ _) (fun _ _ => (gz_const _))) (gz_const _)) (gz_if (gz_let (fun _ => (gz_if (gz_bnd (gz_call _ _ _ _) (fun _ _ => (gz_const _))) (gz_const _)))) (gz_const _))))) (gz_const _))
theorem gY_Sat_factor (β : Nat) (σ : zS) (x0 : Int) : gz (fun rec => kY_Sat_factor rec β σ x0) := by
  unfold kY_Sat_factor
  exact (gz_if (gz_bnd (gz_call _ _ _ _) (fun _ _ => (gz_call _ _ _ _))) (gz_const _))
theorem gY_Sat_factor_p12 (β : Nat) (σ : zS) (x0 x1 x2 : Int) : gz (fun rec => kY_Sat_factor_p12 rec β σ x0 x1 x2) := by
  unfold kY_Sat_factor_p12
  exact (gz_if (gz_const _) (gz_if (gz_bnd (gz_call _ _ _ _) (fun _ _ => (gz_call _ _ _ _))) (gz_const _)))
theorem gY_Sat_factor_p31 (β : Nat) (σ : zS) (x0 x1 x2 x3 x4 : Int) : gz (fun rec => kY_Sat_factor_p31 rec β σ x0 x1 x2 x3 x4) := by
  unfold kY_Sat_factor_p31
  exact (gz_if (gz_call _ _ _ _) (gz_if (gz_bnd (gz_call _ _ _ _) (fun _ _ => (gz_if (gz_call _ _ _ _) (gz_if (gz_call _ _ _ _) (gz_if (gz_bnd (gz_call _ _ _ _) (fun _ _ => (gz_if (gz_bnd (gz_call _ _ _ _) (fun _ _ => (gz_call _ _ _ _))) (gz_const _)))) (gz_const _)))))) (gz_const _)))
theorem gY_Sat_factor_p72 (β : Nat) (σ : zS) (x0 x1 x2 x3 x4 : Int) : gz (fun rec => kY_Sat_factor_p72 rec β σ x0 x1 x2 x3 x4) := by
  unfold kY_Sat_factor_p72
  exact (gz_if (gz_call _ _ _ _) (gz_const _))
theorem gY_Sat_factor_p78 (β : Nat) (σ : zS) (x0 x1 x2 x3 x4 : Int) : gz (fun rec => kY_Sat_factor_p78 rec β σ x0 x1 x2 x3 x4) := by
  unfold kY_Sat_factor_p78
  exact (gz_if (gz_call _ _ _ _) (gz_const _))
theorem gY_Sat_factorTwo (β : Nat) (σ : zS) (x0 x1 x2 : Int) : gz (fun rec => kY_Sat_factorTwo rec β σ x0 x1 x2) := by
  unfold kY_Sat_factorTwo
  exact (gz_if (gz_bnd (gz_call _ _ _ _) (fun _ _ => (gz_call _ _ _ _))) (gz_const _))
theorem gY_Sat_factorTwo_p15 (β : Nat) (σ : zS) (x0 x1 x2 x3 x4 : Int) : gz (fun rec => kY_Sat_factorTwo_p15 rec β σ x0 x1 x2 x3 x4) := by
  unfold kY_Sat_factorTwo_p15
  exact (gz_if (gz_call _ _ _ _) (gz_if (gz_if (gz_bnd (gz_call _ _ _ _) (fun _ _ => (gz_if (gz_call _ _ _ _) (gz_if (gz_bnd (gz_call _ _ _ _) (fun _ _ => (gz_if (gz_bnd (gz_call _ _ _ _) (fun _ _ => (gz_if (gz_bnd (gz_call _ _ _ _) (fun _ _ => (gz_if (gz_bnd (gz_call _ _ _ _) (fun _ _ => (gz_if (gz_call _ _ _ _) (gz_if (gz_bnd (gz_call _ _ _ _) (fun _ _ => (gz_if (gz_bnd (gz_call _ _ _ _) (fun _ _ => (gz_if (gz_if (gz_if (gz_bnd (gz_call _ _ _ _) (fun _ _ => (gz_if (gz_bnd (gz_call _ _ _ _) (fun _ _ => (gz_if (gz_bnd (gz_call _ _ _ _) (fun _ _ => (gz_call _ _ _ _))) (gz_const _)))) (gz_const _)))) (gz_const _)) (gz_const _)) (gz_const _)))) (gz_const _)))) (gz_const _))))) (gz_const _)))) (gz_const _)))) (gz_const _)))) (gz_const _))))) (gz_const _)) (gz_call _ _ _ _)))
theorem gY_Sat_factorTwo_p150 (β : Nat) (σ : zS) (x0 x1 x2 x3 x4 x5 x6 : Int) : gz (fun rec => kY_Sat_factorTwo_p150 rec β σ x0 x1 x2 x3 x4 x5 x6) := by
  unfold kY_Sat_factorTwo_p150
  exact (gz_if (gz_call _ _ _ _) (gz_const _))
theorem gY_Sat_factorTwo_p156 (β : Nat) (σ : zS) (x0 x1 x2 x3 x4 : Int) : gz (fun rec => kY_Sat_factorTwo_p156 rec β σ x0 x1 x2 x3 x4) := by
  unfold kY_Sat_factorTwo_p156
  exact (gz_const _)
theorem gY_Sat_inferFrom (β : Nat) (σ : zS) (x0 : Int) : gz (fun rec => kY_Sat_inferFrom rec β σ x0) := by
  unfold kY_Sat_inferFrom
  exact (gz_call _ _ _ _)
theorem gY_Sat_inferFrom_p10 (β : Nat) (σ : zS) (x0 x1 x2 : Int) : gz (fun rec => kY_Sat_inferFrom_p10 rec β σ x0 x1 x2) := by
  unfold kY_Sat_inferFrom_p10
  exact (gz_if (gz_call _ _ _ _) (gz_if (gz_if (gz_bnd (gz_call _ _ _ _) (fun _ _ => (gz_if (gz_call _ _ _ _) (gz_if (gz_bnd (gz_call _ _ _ _) (fun _ _ => (gz_if (gz_call _ _ _ _) (gz_if (gz_bnd (gz_call _ _ _ _) (fun _ _ => (gz_call _ _ _ _))) (gz_const _))))) (gz_const _))))) (gz_const _)) (gz_call _ _ _ _)))
theorem gY_Sat_inferFrom_p47 (β : Nat) (σ : zS) (x0 x1 x2 : Int) : gz (fun rec => kY_Sat_inferFrom_p47 rec β σ x0 x1 x2) := by
  unfold kY_Sat_inferFrom_p47
  exact (gz_if (gz_call _ _ _ _) (gz_const _))
theorem gY_Sat_inferFrom_p53 (β : Nat) (σ : zS) (x0 x1 x2 : Int) : gz (fun rec => kY_Sat_inferFrom_p53 rec β σ x0 x1 x2) := by
  unfold kY_Sat_inferFrom_p53
  exact (gz_if (gz_bnd (gz_call _ _ _ _) (fun _ _ => (gz_if (gz_if (gz_bnd (gz_call _ _ _ _) (fun _ _ => (gz_call _ _ _ _))) (gz_const _)) (gz_if (gz_bnd (gz_call _ _ _ _) (fun _ _ => (gz_if (gz_bnd (gz_call _ _ _ _) (fun _ _ => (gz_call _ _ _ _))) (gz_const _)))) (gz_const _))))) (gz_const _))
theorem gY_Sat_inferFrom_p86 (β : Nat) (σ : zS) (x0 x1 x2 : Int) : gz (fun rec => kY_Sat_inferFrom_p86 rec β σ x0 x1 x2) := by
  unfold kY_Sat_inferFrom_p86
  exact (gz_const _)
theorem gY_Sat_keep (β : Nat) (σ : zS) (x0 x1 x2 : Int) : gz (fun rec => kY_Sat_keep rec β σ x0 x1 x2) := by
  unfold kY_Sat_keep
  exact (gz_let (fun _ => (gz_if (gz_if (gz_bnd (gz_call _ _ _ _) (fun _ _ => (gz_if (gz_bnd (gz_call _ _ _ _) (fun _ _ => (gz_if (gz_if (gz_let (fun _ => (gz_call _ _ _ _))) (gz_if (gz_bnd (gz_call _ _ _ _) (fun _ _ => (gz_call _ _ _ _))) (gz_const _))) (gz_let (fun _ => (gz_call _ _ _ _)))))) (gz_const _)))) (gz_const _)) (gz_let (fun _ => (gz_const _))))))
theorem gY_Sat_keep_p97 (β : Nat) (σ : zS) (x0 x1 x2 : Int) : gz (fun rec => kY_Sat_keep_p97 rec β σ x0 x1 x2) := by
  unfold kY_Sat_keep_p97
  exact (gz_const _)
theorem gY_Sat_keepRewritten (β : Nat) (σ : zS) (x0 x1 : Int) : gz (fun rec => kY_Sat_keepRewritten rec β σ x0 x1) := by
  unfold kY_Sat_keepRewritten
  exact (gz_if (gz_bnd (gz_call _ _ _ _) (fun _ _ => (gz_if (gz_if (gz_let (fun _ => (gz_const _))) (gz_if (gz_bnd (gz_call _ _ _ _) (fun _ _ => (gz_if (gz_bnd (gz_call _ _ _ _) (fun _ _ => (gz_if (gz_if (gz_bnd (gz_call _ _ _ _) (fun _ _ => (gz_if (gz_bnd (gz_call _ _ _ _) (fun _ _ => (gz_const _))) (gz_const _)))) (gz_const _)) (gz_const _)))) (gz_const _)))) (gz_const _))) (gz_let (fun _ => (gz_const _)))))) (gz_const _))
theorem gY_Sat_listSingles (β : Nat) (σ : zS) : gz (fun rec => kY_Sat_listSingles rec β σ) := by
  unfold kY_Sat_listSingles
  exact (gz_let (fun _ => (gz_call _ _ _ _)))
theorem gY_Sat_listSingles_p10 (β : Nat) (σ : zS) (x0 : Int) : gz (fun rec => kY_Sat_listSingles_p10 rec β σ x0) := by
  unfold kY_Sat_listSingles_p10
  exact (gz_if (gz_const _) (gz_if (gz_bnd (gz_call _ _ _ _) (fun _ _ => (gz_if (gz_call _ _ _ _) (gz_if (gz_bnd (gz_call _ _ _ _) (fun _ _ => (gz_if (gz_call _ _ _ _) (gz_if (gz_let (fun _ => (gz_call _ _ _ _))) (gz_const _))))) (gz_const _))))) (gz_const _)))
theorem gY_Sat_listSingles_p45 (β : Nat) (σ : zS) (x0 : Int) : gz (fun rec => kY_Sat_listSingles_p45 rec β σ x0) := by
  unfold kY_Sat_listSingles_p45
  exact (gz_if (gz_call _ _ _ _) (gz_const _))
theorem gY_Sat_noteRewriter (β : Nat) (σ : zS) (x0 x1 : Int) : gz (fun rec => kY_Sat_noteRewriter rec β σ x0 x1) := by
  unfold kY_Sat_noteRewriter
  exact (gz_call _ _ _ _)
theorem gY_Sat_noteRewriter_p2 (β : Nat) (σ : zS) (x0 x1 x2 : Int) : gz (fun rec => kY_Sat_noteRewriter_p2 rec β σ x0 x1 x2) := by
  unfold kY_Sat_noteRewriter_p2
  exact (gz_if (gz_if (gz_let (fun _ => (gz_const _))) (gz_const _)) (gz_if (gz_if (gz_const _) (gz_if (gz_call _ _ _ _) (gz_const _))) (gz_const _)))
theorem gY_Sat_refute (β : Nat) (σ : zS) (x0 : Int) : gz (fun rec => kY_Sat_refute rec β σ x0) := by
  unfold kY_Sat_refute
  exact (gz_let (fun _ => (gz_if (gz_bnd (gz_call _ _ _ _) (fun _ _ => (gz_call _ _ _ _))) (gz_const _))))
theorem gY_Sat_refute_p12 (β : Nat) (σ : zS) (x0 x1 : Int) : gz (fun rec => kY_Sat_refute_p12 rec β σ x0 x1) := by
  unfold kY_Sat_refute_p12
  exact (gz_if (gz_call _ _ _ _) (gz_if (gz_bnd (gz_call _ _ _ _) (fun _ _ => (gz_if (gz_if (gz_bnd (gz_call _ _ _ _) (fun _ _ => (gz_if (gz_bnd (gz_call _ _ _ _) (fun _ _ => (gz_if (gz_bnd (gz_call _ _ _ _) (fun _ _ => (gz_if (gz_bnd (gz_call _ _ _ _) (fun _ _ => (gz_call _ _ _ _))) (gz_const _)))) (gz_const _)))) (gz_const _)))) (gz_const _)) (gz_call _ _ _ _)))) (gz_const _)))
theorem gY_Sat_refute_p58 (β : Nat) (σ : zS) (x0 x1 x2 : Int) : gz (fun rec => kY_Sat_refute_p58 rec β σ x0 x1 x2) := by
  unfold kY_Sat_refute_p58
  exact (gz_if (gz_bnd (gz_call _ _ _ _) (fun _ _ => (gz_if (gz_call _ _ _ _) (gz_if (gz_bnd (gz_call _ _ _ _) (fun _ _ => (gz_if (gz_if (gz_if (gz_bnd (gz_call _ _ _ _) (fun _ _ => (gz_if (gz_call _ _ _ _) (gz_const _)))) (gz_const _)) (gz_const _)) (gz_const _)))) (gz_const _))))) (gz_const _))
theorem gY_Sat_refute_p105 (β : Nat) (σ : zS) (x0 x1 : Int) : gz (fun rec => kY_Sat_refute_p105 rec β σ x0 x1) := by
  unfold kY_Sat_refute_p105
  exact (gz_if (gz_call _ _ _ _) (gz_const _))
theorem gY_Sat_refute_p113 (β : Nat) (σ : zS) (x0 x1 : Int) : gz (fun rec => kY_Sat_refute_p113 rec β σ x0 x1) := by
  unfold kY_Sat_refute_p113
  exact (gz_if (gz_const _) (gz_if (gz_bnd (gz_call _ _ _ _) (fun _ _ => (gz_if (gz_if (gz_let (fun _ => (gz_call _ _ _ _))) (gz_const _)) (gz_call _ _ _ _)))) (gz_const _)))
theorem gY_Sat_refute_p140 (β : Nat) (σ : zS) (x0 x1 : Int) : gz (fun rec => kY_Sat_refute_p140 rec β σ x0 x1) := by
  unfold kY_Sat_refute_p140
  exact (gz_if (gz_call _ _ _ _) (gz_const _))
theorem gY_Sat_resolve (β : Nat) (σ : zS) (x0 x1 : Int) : gz (fun rec => kY_Sat_resolve rec β σ x0 x1) := by
  unfold kY_Sat_resolve
  exact (gz_if (gz_bnd (gz_call _ _ _ _) (fun _ _ => (gz_if (gz_bnd (gz_call _ _ _ _) (fun _ _ => (gz_if (gz_if (gz_bnd (gz_call _ _ _ _) (fun _ _ => (gz_if (gz_bnd (gz_call _ _ _ _) (fun _ _ => (gz_if (gz_bnd (gz_call _ _ _ _) (fun _ _ => (gz_if (gz_call _ _ _ _) (gz_if (gz_bnd (gz_call _ _ _ _) (fun _ _ => (gz_if (gz_bnd (gz_call _ _ _ _) (fun _ _ => (gz_if (gz_bnd (gz_call _ _ _ _) (fun _ _ => (gz_call _ _ _ _))) (gz_const _)))) (gz_const _)))) (gz_const _))))) (gz_const _)))) (gz_const _)))) (gz_const _)) (gz_call _ _ _ _)))) (gz_const _)))) (gz_const _))
theorem gY_Sat_resolve_p80 (β : Nat) (σ : zS) (x0 x1 x2 : Int) : gz (fun rec => kY_Sat_resolve_p80 rec β σ x0 x1 x2) := by
  unfold kY_Sat_resolve_p80
  exact (gz_const _)
theorem gY_Sat_rewrite (β : Nat) (σ : zS) (x0 : Int) : gz (fun rec => kY_Sat_rewrite rec β σ x0) := by
  unfold kY_Sat_rewrite
  exact (gz_if (gz_bnd (gz_call _ _ _ _) (fun _ _ => (gz_if (gz_bnd (gz_call _ _ _ _) (fun _ _ => (gz_call _ _ _ _))) (gz_const _)))) (gz_const _))
theorem gY_Sat_rewrite_p29 (β : Nat) (σ : zS) (x0 x1 x2 : Int) : gz (fun rec => kY_Sat_rewrite_p29 rec β σ x0 x1 x2) := by
  unfold kY_Sat_rewrite_p29
  exact (gz_if (gz_call _ _ _ _) (gz_if (gz_bnd (gz_call _ _ _ _) (fun _ _ => (gz_if (gz_call _ _ _ _) (gz_if (gz_bnd (gz_call _ _ _ _) (fun _ _ => (gz_if (gz_call _ _ _ _) (gz_const _)))) (gz_const _))))) (gz_const _)))
theorem gY_Sat_rewrite_p74 (β : Nat) (σ : zS) (x0 x1 x2 : Int) : gz (fun rec => kY_Sat_rewrite_p74 rec β σ x0 x1 x2) := by
  unfold kY_Sat_rewrite_p74
  exact (gz_if (gz_const _) (gz_let (fun _ => (gz_if (gz_bnd (gz_call _ _ _ _) (fun _ _ => (gz_if (gz_bnd (gz_call _ _ _ _) (fun _ _ => (gz_if (gz_let (fun _ => (gz_call _ _ _ _))) (gz_call _ _ _ _)))) (gz_const _)))) (gz_const _)))))
theorem gY_Sat_rewrite_p122 (β : Nat) (σ : zS) (x0 x1 x2 x3 : Int) : gz (fun rec => kY_Sat_rewrite_p122 rec β σ x0 x1 x2 x3) := by
  unfold kY_Sat_rewrite_p122
  exact (gz_const _)
theorem gY_Sat_superpose (β : Nat) (σ : zS) (x0 x1 : Int) : gz (fun rec => kY_Sat_superpose rec β σ x0 x1) := by
  unfold kY_Sat_superpose
  exact (gz_if (gz_bnd (gz_call _ _ _ _) (fun _ _ => (gz_if (gz_bnd (gz_call _ _ _ _) (fun _ _ => (gz_if (gz_if (gz_call _ _ _ _) (gz_const _)) (gz_const _)))) (gz_const _)))) (gz_const _))
theorem gY_Sat_superpose_p28 (β : Nat) (σ : zS) (x0 x1 x2 x3 x4 : Int) : gz (fun rec => kY_Sat_superpose_p28 rec β σ x0 x1 x2 x3 x4) := by
  unfold kY_Sat_superpose_p28
  exact (gz_if (gz_const _) (gz_if (gz_bnd (gz_call _ _ _ _) (fun _ _ => (gz_if (gz_bnd (gz_call _ _ _ _) (fun _ _ => (gz_if (gz_call _ _ _ _) (gz_if (gz_bnd (gz_call _ _ _ _) (fun _ _ => (gz_if (gz_call _ _ _ _) (gz_if (gz_bnd (gz_call _ _ _ _) (fun _ _ => (gz_if (gz_call _ _ _ _) (gz_call _ _ _ _)))) (gz_const _))))) (gz_const _))))) (gz_const _)))) (gz_const _)))
theorem gY_Sat_superpose_p92 (β : Nat) (σ : zS) (x0 x1 x2 x3 x4 x5 : Int) : gz (fun rec => kY_Sat_superpose_p92 rec β σ x0 x1 x2 x3 x4 x5) := by
  unfold kY_Sat_superpose_p92
  exact (gz_call _ _ _ _)
theorem gY_Sat_superpose_p93 (β : Nat) (σ : zS) (x0 x1 x2 x3 x4 x5 x6 : Int) : gz (fun rec => kY_Sat_superpose_p93 rec β σ x0 x1 x2 x3 x4 x5 x6) := by
  unfold kY_Sat_superpose_p93
  exact (gz_call _ _ _ _)
theorem gY_Sat_superpose_p98 (β : Nat) (σ : zS) (x0 x1 x2 x3 x4 x5 x6 x7 : Int) : gz (fun rec => kY_Sat_superpose_p98 rec β σ x0 x1 x2 x3 x4 x5 x6 x7) := by
  unfold kY_Sat_superpose_p98
  exact (gz_if (gz_call _ _ _ _) (gz_if (gz_call _ _ _ _) (gz_if (gz_bnd (gz_call _ _ _ _) (fun _ _ => (gz_if (gz_bnd (gz_call _ _ _ _) (fun _ _ => (gz_if (gz_call _ _ _ _) (gz_if (gz_bnd (gz_call _ _ _ _) (fun _ _ => (gz_if (gz_call _ _ _ _) (gz_if (gz_bnd (gz_call _ _ _ _) (fun _ _ => (gz_call _ _ _ _))) (gz_const _))))) (gz_const _))))) (gz_const _)))) (gz_const _))))
theorem gY_Sat_superpose_p170 (β : Nat) (σ : zS) (x0 x1 x2 x3 x4 x5 x6 x7 x8 : Int) : gz (fun rec => kY_Sat_superpose_p170 rec β σ x0 x1 x2 x3 x4 x5 x6 x7 x8) := by
  unfold kY_Sat_superpose_p170
  exact (gz_if (gz_call _ _ _ _) (gz_const _))
theorem gY_Sat_superpose_p176 (β : Nat) (σ : zS) (x0 x1 x2 x3 x4 x5 x6 x7 : Int) : gz (fun rec => kY_Sat_superpose_p176 rec β σ x0 x1 x2 x3 x4 x5 x6 x7) := by
  unfold kY_Sat_superpose_p176
  exact (gz_if (gz_call _ _ _ _) (gz_const _))
theorem gY_Sat_superposeInto (β : Nat) (σ : zS) (x0 x1 x2 x3 x4 x5 : Int) : gz (fun rec => kY_Sat_superposeInto rec β σ x0 x1 x2 x3 x4 x5) := by
  unfold kY_Sat_superposeInto
  exact (gz_if (gz_bnd (gz_call _ _ _ _) (fun _ _ => (gz_if (gz_bnd (gz_call _ _ _ _) (fun _ _ => (gz_if (gz_bnd (gz_call _ _ _ _) (fun _ _ => (gz_if (gz_call _ _ _ _) (gz_const _)))) (gz_const _)))) (gz_const _)))) (gz_const _))
theorem gY_Sat_superposeInto_p44 (β : Nat) (σ : zS) (x0 x1 x2 x3 x4 x5 x6 x7 x8 x9 : Int) : gz (fun rec => kY_Sat_superposeInto_p44 rec β σ x0 x1 x2 x3 x4 x5 x6 x7 x8 x9) := by
  unfold kY_Sat_superposeInto_p44
  exact (gz_if (gz_call _ _ _ _) (gz_if (gz_if (gz_if (gz_if (gz_call _ _ _ _) (gz_if (gz_call _ _ _ _) (gz_if (gz_call _ _ _ _) (gz_call _ _ _ _)))) (gz_const _)) (gz_const _)) (gz_call _ _ _ _)))
theorem gY_Sat_superposeInto_p108 (β : Nat) (σ : zS) (x0 x1 x2 x3 x4 x5 x6 x7 x8 x9 x10 x11 : Int) : gz (fun rec => kY_Sat_superposeInto_p108 rec β σ x0 x1 x2 x3 x4 x5 x6 x7 x8 x9 x10 x11) := by
  unfold kY_Sat_superposeInto_p108
  exact (gz_if (gz_bnd (gz_call _ _ _ _) (fun _ _ => (gz_if (gz_bnd (gz_call _ _ _ _) (fun _ _ => (gz_if (gz_bnd (gz_call _ _ _ _) (fun _ _ => (gz_if (gz_bnd (gz_call _ _ _ _) (fun _ _ => (gz_if (gz_call _ _ _ _) (gz_if (gz_bnd (gz_call _ _ _ _) (fun _ _ => (gz_if (gz_bnd (gz_call _ _ _ _) (fun _ _ => (gz_if (gz_if (gz_bnd (gz_call _ _ _ _) (fun _ _ => (gz_if (gz_bnd (gz_call _ _ _ _) (fun _ _ => (gz_call _ _ _ _))) (gz_const _)))) (gz_const _)) (gz_const _)))) (gz_const _)))) (gz_const _))))) (gz_const _)))) (gz_const _)))) (gz_const _)))) (gz_const _))
theorem gY_Sat_superposeInto_p189 (β : Nat) (σ : zS) (x0 x1 x2 x3 x4 x5 x6 x7 x8 x9 x10 x11 : Int) : gz (fun rec => kY_Sat_superposeInto_p189 rec β σ x0 x1 x2 x3 x4 x5 x6 x7 x8 x9 x10 x11) := by
  unfold kY_Sat_superposeInto_p189
  exact (gz_if (gz_call _ _ _ _) (gz_const _))
theorem gY_Sat_superposeInto_p195 (β : Nat) (σ : zS) (x0 x1 x2 x3 x4 x5 x6 x7 x8 x9 : Int) : gz (fun rec => kY_Sat_superposeInto_p195 rec β σ x0 x1 x2 x3 x4 x5 x6 x7 x8 x9) := by
  unfold kY_Sat_superposeInto_p195
  exact (gz_const _)
theorem gY_Sat_takeGiven (β : Nat) (σ : zS) : gz (fun rec => kY_Sat_takeGiven rec β σ) := by
  unfold kY_Sat_takeGiven
  exact (gz_if (gz_bnd (gz_call _ _ _ _) (fun _ _ => (gz_if (gz_let (fun _ => (gz_const _))) (gz_let (fun _ => (gz_if (gz_bnd (gz_call _ _ _ _) (fun _ _ => (gz_if (gz_bnd (gz_call _ _ _ _) (fun _ _ => (gz_if (gz_call _ _ _ _) (gz_if (gz_bnd (gz_call _ _ _ _) (fun _ _ => (gz_call _ _ _ _))) (gz_const _))))) (gz_const _)))) (gz_const _))))))) (gz_const _))
theorem gY_Sat_takeGiven_p56 (β : Nat) (σ : zS) (x0 : Int) : gz (fun rec => kY_Sat_takeGiven_p56 rec β σ x0) := by
  unfold kY_Sat_takeGiven_p56
  exact (gz_if (gz_const _) (gz_if (gz_bnd (gz_call _ _ _ _) (fun _ _ => (gz_if (gz_if (gz_bnd (gz_call _ _ _ _) (fun _ _ => (gz_const _))) (gz_const _)) (gz_if (gz_bnd (gz_call _ _ _ _) (fun _ _ => (gz_if (gz_if (gz_bnd (gz_call _ _ _ _) (fun _ _ => (gz_if (gz_bnd (gz_call _ _ _ _) (fun _ _ => (gz_if (gz_bnd (gz_call _ _ _ _) (fun _ _ => (gz_const _))) (gz_const _)))) (gz_const _)))) (gz_const _)) (gz_let (fun _ => (gz_const _)))))) (gz_const _))))) (gz_const _)))
theorem gY_Sto_add (β : Nat) (σ : zS) (x0 x1 x2 : Int) : gz (fun rec => kY_Sto_add rec β σ x0 x1 x2) := by
  unfold kY_Sto_add
  exact (gz_if (gz_let (fun _ => (gz_if (gz_let (fun _ => (gz_if (gz_let (fun _ => (gz_if (gz_let (fun _ => (gz_if (gz_let (fun _ => (gz_if (gz_let (fun _ => (gz_if (gz_let (fun _ => (gz_if (gz_let (fun _ => (gz_if (gz_let (fun _ => (gz_if (gz_let (fun _ => (gz_if (gz_let (fun _ => (gz_call _ _ _ _))) (gz_const _)))) (gz_const _)))) (gz_const _)))) (gz_const _)))) (gz_const _)))) (gz_const _)))) (gz_const _)))) (gz_const _)))) (gz_const _)))) (gz_const _)))) (gz_const _))
theorem gY_Sto_add_p113 (β : Nat) (σ : zS) (x0 x1 x2 x3 : Int) : gz (fun rec => kY_Sto_add_p113 rec β σ x0 x1 x2 x3) := by
  unfold kY_Sto_add_p113
  exact (gz_if (gz_if (gz_let (fun _ => (gz_const _))) (gz_const _)) (gz_if (gz_if (gz_call _ _ _ _) (gz_call _ _ _ _)) (gz_const _)))
theorem gY_Sto_add_p141 (β : Nat) (σ : zS) (x0 x1 x2 x3 x4 : Int) : gz (fun rec => kY_Sto_add_p141 rec β σ x0 x1 x2 x3 x4) := by
  unfold kY_Sto_add_p141
  exact (gz_if (gz_let (fun _ => (gz_if (gz_let (fun _ => (gz_if (gz_let (fun _ => (gz_if (gz_if (gz_if (gz_if (gz_let (fun _ => (gz_if (gz_if (gz_if (gz_if (gz_let (fun _ => (gz_call _ _ _ _))) (gz_const _)) (gz_const _)) (gz_const _)) (gz_const _)))) (gz_const _)) (gz_const _)) (gz_const _)) (gz_const _)))) (gz_const _)))) (gz_const _)))) (gz_const _))
theorem gY_Sto_add_p215 (β : Nat) (σ : zS) (x0 x1 x2 x3 x4 : Int) : gz (fun rec => kY_Sto_add_p215 rec β σ x0 x1 x2 x3 x4) := by
  unfold kY_Sto_add_p215
  exact (gz_if (gz_if (gz_if (gz_call _ _ _ _) (gz_if (gz_if (gz_let (fun _ => (gz_if (gz_call _ _ _ _) (gz_const _)))) (gz_const _)) (gz_const _))) (gz_const _)) (gz_const _))
theorem gY_Sym_numberOf (β : Nat) (σ : zS) : gz (fun rec => kY_Sym_numberOf rec β σ) := by
  unfold kY_Sym_numberOf
  exact (gz_call _ _ _ _)
theorem gY_Sym_numberOf_p2 (β : Nat) (σ : zS) (x0 : Int) : gz (fun rec => kY_Sym_numberOf_p2 rec β σ x0) := by
  unfold kY_Sym_numberOf_p2
  exact (gz_if (gz_if (gz_const _) (gz_if (gz_let (fun _ => (gz_if (gz_let (fun _ => (gz_if (gz_let (fun _ => (gz_if (gz_let (fun _ => (gz_if (gz_let (fun _ => (gz_call _ _ _ _))) (gz_const _)))) (gz_const _)))) (gz_const _)))) (gz_const _)))) (gz_const _))) (gz_call _ _ _ _))
theorem gY_Sym_numberOf_p12 (β : Nat) (σ : zS) (x0 x1 : Int) : gz (fun rec => kY_Sym_numberOf_p12 rec β σ x0 x1) := by
  unfold kY_Sym_numberOf_p12
  exact (gz_if (gz_if (gz_call _ _ _ _) (gz_if (gz_call _ _ _ _) (gz_if (gz_if (gz_if (gz_if (gz_if (gz_if (gz_call _ _ _ _) (gz_const _)) (gz_call _ _ _ _)) (gz_const _)) (gz_const _)) (gz_const _)) (gz_const _)))) (gz_const _))
theorem gY_Sym_numberOf_p66 (β : Nat) (σ : zS) (x0 x1 : Int) : gz (fun rec => kY_Sym_numberOf_p66 rec β σ x0 x1) := by
  unfold kY_Sym_numberOf_p66
  exact (gz_if (gz_if (gz_if (gz_const _) (gz_call _ _ _ _)) (gz_call _ _ _ _)) (gz_const _))
theorem gY_Sym_numberOf_p86 (β : Nat) (σ : zS) (x0 x1 : Int) : gz (fun rec => kY_Sym_numberOf_p86 rec β σ x0 x1) := by
  unfold kY_Sym_numberOf_p86
  exact (gz_if (gz_call _ _ _ _) (gz_const _))
theorem gY_Sym_numberOf_p165 (β : Nat) (σ : zS) (x0 : Int) : gz (fun rec => kY_Sym_numberOf_p165 rec β σ x0) := by
  unfold kY_Sym_numberOf_p165
  exact (gz_if (gz_const _) (gz_if (gz_if (gz_if (gz_let (fun _ => (gz_if (gz_call _ _ _ _) (gz_const _)))) (gz_const _)) (gz_const _)) (gz_const _)))
theorem gY_Uni_join (β : Nat) (σ : zS) (x0 x1 x2 : Int) : gz (fun rec => kY_Uni_join rec β σ x0 x1 x2) := by
  unfold kY_Uni_join
  exact (gz_if (gz_if (gz_call _ _ _ _) (gz_if (gz_bnd (gz_call _ _ _ _) (fun _ _ => (gz_if (gz_call _ _ _ _) (gz_call _ _ _ _)))) (gz_const _))) (gz_const _))
theorem gY_Uni_join_p30 (β : Nat) (σ : zS) (x0 x1 x2 : Int) : gz (fun rec => kY_Uni_join_p30 rec β σ x0 x1 x2) := by
  unfold kY_Uni_join_p30
  exact (gz_if (gz_if (gz_call _ _ _ _) (gz_if (gz_bnd (gz_call _ _ _ _) (fun _ _ => (gz_if (gz_call _ _ _ _) (gz_call _ _ _ _)))) (gz_const _))) (gz_const _))
theorem gY_Uni_join_p60 (β : Nat) (σ : zS) (x0 x1 x2 : Int) : gz (fun rec => kY_Uni_join_p60 rec β σ x0 x1 x2) := by
  unfold kY_Uni_join_p60
  exact (gz_const _)
theorem gY_Uni_join_p62 (β : Nat) (σ : zS) (x0 x1 x2 : Int) : gz (fun rec => kY_Uni_join_p62 rec β σ x0 x1 x2) := by
  unfold kY_Uni_join_p62
  exact (gz_if (gz_if (gz_call _ _ _ _) (gz_call _ _ _ _)) (gz_const _))
theorem gY_Uni_join_p77 (β : Nat) (σ : zS) (x0 x1 x2 x3 : Int) : gz (fun rec => kY_Uni_join_p77 rec β σ x0 x1 x2 x3) := by
  unfold kY_Uni_join_p77
  exact (gz_if (gz_if (gz_call _ _ _ _) (gz_const _)) (gz_const _))
theorem gY_Uni_join_p90 (β : Nat) (σ : zS) (x0 x1 x2 x3 x4 x5 : Int) : gz (fun rec => kY_Uni_join_p90 rec β σ x0 x1 x2 x3 x4 x5) := by
  unfold kY_Uni_join_p90
  exact (gz_if (gz_let (fun _ => (gz_if (gz_if (gz_call _ _ _ _) (gz_if (gz_if (gz_if (gz_bnd (gz_call _ _ _ _) (fun _ _ => (gz_if (gz_call _ _ _ _) (gz_call _ _ _ _)))) (gz_const _)) (gz_const _)) (gz_const _))) (gz_const _)))) (gz_if (gz_if (gz_call _ _ _ _) (gz_call _ _ _ _)) (gz_const _)))
theorem gY_Uni_join_p127 (β : Nat) (σ : zS) (x0 x1 x2 x3 x4 x5 x6 x7 : Int) : gz (fun rec => kY_Uni_join_p127 rec β σ x0 x1 x2 x3 x4 x5 x6 x7) := by
  unfold kY_Uni_join_p127
  exact (gz_if (gz_let (fun _ => (gz_if (gz_call _ _ _ _) (gz_const _)))) (gz_const _))
theorem gY_Uni_join_p198 (β : Nat) (σ : zS) (x0 x1 x2 x3 x4 x5 : Int) : gz (fun rec => kY_Uni_join_p198 rec β σ x0 x1 x2 x3 x4 x5) := by
  unfold kY_Uni_join_p198
  exact (gz_call _ _ _ _)
theorem gY_Uni_join_p203 (β : Nat) (σ : zS) (x0 x1 x2 x3 x4 x5 x6 : Int) : gz (fun rec => kY_Uni_join_p203 rec β σ x0 x1 x2 x3 x4 x5 x6) := by
  unfold kY_Uni_join_p203
  exact (gz_if (gz_const _) (gz_const _))
theorem gY_Uni_meet (β : Nat) (σ : zS) (x0 x1 x2 x3 : Int) : gz (fun rec => kY_Uni_meet rec β σ x0 x1 x2 x3) := by
  unfold kY_Uni_meet
  exact (gz_if (gz_if (gz_if (gz_if (gz_bnd (gz_call _ _ _ _) (fun _ _ => (gz_if (gz_if (gz_bnd (gz_call _ _ _ _) (fun _ _ => (gz_if (gz_let (fun _ => (gz_let (fun _ => (gz_let (fun _ => (gz_const _))))))) (gz_call _ _ _ _)))) (gz_const _)) (gz_call _ _ _ _)))) (gz_const _)) (gz_const _)) (gz_if (gz_call _ _ _ _) (gz_call _ _ _ _))) (gz_const _))
theorem gY_Uni_meet_p39 (β : Nat) (σ : zS) (x0 x1 x2 x3 : Int) : gz (fun rec => kY_Uni_meet_p39 rec β σ x0 x1 x2 x3) := by
  unfold kY_Uni_meet_p39
  exact (gz_const _)
theorem gY_Uni_meet_p78 (β : Nat) (σ : zS) (x0 x1 x2 x3 x4 : Int) : gz (fun rec => kY_Uni_meet_p78 rec β σ x0 x1 x2 x3 x4) := by
  unfold kY_Uni_meet_p78
  exact (gz_if (gz_if (gz_if (gz_if (gz_if (gz_call _ _ _ _) (gz_const _)) (gz_const _)) (gz_const _)) (gz_const _)) (gz_if (gz_if (gz_if (gz_if (gz_call _ _ _ _) (gz_const _)) (gz_const _)) (gz_const _)) (gz_const _)))
theorem gY_Uni_meet_p107 (β : Nat) (σ : zS) (x0 x1 x2 x3 x4 x5 x6 : Int) : gz (fun rec => kY_Uni_meet_p107 rec β σ x0 x1 x2 x3 x4 x5 x6) := by
  unfold kY_Uni_meet_p107
  exact (gz_if (gz_if (gz_call _ _ _ _) (gz_if (gz_call _ _ _ _) (gz_if (gz_if (gz_let (fun _ => (gz_if (gz_let (fun _ => (gz_call _ _ _ _))) (gz_const _)))) (gz_const _)) (gz_const _)))) (gz_const _))
theorem gY_Uni_meet_p154 (β : Nat) (σ : zS) (x0 x1 x2 x3 x4 x5 : Int) : gz (fun rec => kY_Uni_meet_p154 rec β σ x0 x1 x2 x3 x4 x5) := by
  unfold kY_Uni_meet_p154
  exact (gz_if (gz_if (gz_if (gz_bnd (gz_call _ _ _ _) (fun _ _ => (gz_if (gz_const _) (gz_const _)))) (gz_const _)) (gz_const _)) (gz_const _))
theorem gY_Uni_unite (β : Nat) (σ : zS) (x0 x1 x2 x3 x4 : Int) : gz (fun rec => kY_Uni_unite rec β σ x0 x1 x2 x3 x4) := by
  unfold kY_Uni_unite
  exact (gz_if (gz_call _ _ _ _) (gz_const _))
theorem gY_Uni_unite_p30 (β : Nat) (σ : zS) (x0 x1 x2 x3 x4 x5 x6 x7 x8 : Int) : gz (fun rec => kY_Uni_unite_p30 rec β σ x0 x1 x2 x3 x4 x5 x6 x7 x8) := by
  unfold kY_Uni_unite_p30
  exact (gz_if (gz_call _ _ _ _) (gz_if (gz_call _ _ _ _) (gz_if (gz_if (gz_call _ _ _ _) (gz_if (gz_if (gz_if (gz_if (gz_if (gz_if (gz_if (gz_if (gz_call _ _ _ _) (gz_const _)) (gz_const _)) (gz_const _)) (gz_const _)) (gz_const _)) (gz_const _)) (gz_call _ _ _ _)) (gz_const _))) (gz_const _))))
theorem gY_Uni_unite_p58 (β : Nat) (σ : zS) (x0 x1 x2 x3 x4 x5 x6 x7 x8 : Int) : gz (fun rec => kY_Uni_unite_p58 rec β σ x0 x1 x2 x3 x4 x5 x6 x7 x8) := by
  unfold kY_Uni_unite_p58
  exact (gz_if (gz_bnd (gz_call _ _ _ _) (fun _ _ => (gz_if (gz_const _) (gz_if (gz_bnd (gz_call _ _ _ _) (fun _ _ => (gz_if (gz_bnd (gz_call _ _ _ _) (fun _ _ => (gz_if (gz_call _ _ _ _) (gz_const _)))) (gz_const _)))) (gz_const _))))) (gz_const _))
theorem gY_Uni_unite_p149 (β : Nat) (σ : zS) (x0 x1 x2 x3 x4 x5 x6 x7 x8 : Int) : gz (fun rec => kY_Uni_unite_p149 rec β σ x0 x1 x2 x3 x4 x5 x6 x7 x8) := by
  unfold kY_Uni_unite_p149
  exact (gz_if (gz_call _ _ _ _) (gz_const _))
theorem gY_Uni_unite_p155 (β : Nat) (σ : zS) (x0 x1 x2 x3 x4 x5 x6 x7 x8 : Int) : gz (fun rec => kY_Uni_unite_p155 rec β σ x0 x1 x2 x3 x4 x5 x6 x7 x8) := by
  unfold kY_Uni_unite_p155
  exact (gz_const _)
theorem gY_Uni_uniteVariable (β : Nat) (σ : zS) (x0 x1 x2 x3 x4 : Int) : gz (fun rec => kY_Uni_uniteVariable rec β σ x0 x1 x2 x3 x4) := by
  unfold kY_Uni_uniteVariable
  exact (gz_if (gz_if (gz_call _ _ _ _) (gz_if (gz_if (gz_call _ _ _ _) (gz_const _)) (gz_const _))) (gz_const _))
theorem gY_Uni_uniteVariable_p34 (β : Nat) (σ : zS) (x0 x1 x2 x3 x4 x5 : Int) : gz (fun rec => kY_Uni_uniteVariable_p34 rec β σ x0 x1 x2 x3 x4 x5) := by
  unfold kY_Uni_uniteVariable_p34
  exact (gz_if (gz_if (gz_call _ _ _ _) (gz_if (gz_if (gz_call _ _ _ _) (gz_const _)) (gz_const _))) (gz_const _))
theorem gY_Uni_uniteVariable_p71 (β : Nat) (σ : zS) (x0 x1 x2 x3 x4 x5 x6 : Int) : gz (fun rec => kY_Uni_uniteVariable_p71 rec β σ x0 x1 x2 x3 x4 x5 x6) := by
  unfold kY_Uni_uniteVariable_p71
  exact (gz_if (gz_const _) (gz_if (gz_if (gz_bnd (gz_call _ _ _ _) (fun _ _ => (gz_if (gz_const _) (gz_const _)))) (gz_const _)) (gz_if (gz_if (gz_bnd (gz_call _ _ _ _) (fun _ _ => (gz_if (gz_const _) (gz_const _)))) (gz_const _)) (gz_if (gz_bnd (gz_call _ _ _ _) (fun _ _ => (gz_if (gz_const _) (gz_const _)))) (gz_const _)))))
theorem gY_Wds_open_2 (β : Nat) (σ : zS) (x0 : Int) : gz (fun rec => kY_Wds_open_2 rec β σ x0) := by
  unfold kY_Wds_open_2
  exact (gz_let (fun _ => (gz_let (fun _ => (gz_let (fun _ => (gz_if (gz_bnd (gz_call _ _ _ _) (fun _ _ => (gz_const _))) (gz_const _))))))))
theorem gY_CP_clause (β : Nat) (σ : zS) (x0 x1 : Int) : gz (fun rec => kY_CP_clause rec β σ x0 x1) := by
  unfold kY_CP_clause
  exact (gz_if (gz_bnd (gz_call _ _ _ _) (fun _ _ => (gz_if (gz_if (gz_let (fun _ => (gz_const _))) (gz_const _)) (gz_if (gz_call _ _ _ _) (gz_if (gz_if (gz_bnd (gz_call _ _ _ _) (fun _ _ => (gz_const _))) (gz_const _)) (gz_call _ _ _ _)))))) (gz_const _))
theorem gY_CP_clause_p31 (β : Nat) (σ : zS) (x0 x1 : Int) : gz (fun rec => kY_CP_clause_p31 rec β σ x0 x1) := by
  unfold kY_CP_clause_p31
  exact (gz_if (gz_let (fun _ => (gz_const _))) (gz_const _))
theorem gY_CP_end (β : Nat) (σ : zS) (x0 : Int) : gz (fun rec => kY_CP_end rec β σ x0) := by
  unfold kY_CP_end
  exact (gz_if (gz_call _ _ _ _) (gz_if (gz_let (fun _ => (gz_const _))) (gz_call _ _ _ _)))
theorem gY_CP_end_p15 (β : Nat) (σ : zS) (x0 : Int) : gz (fun rec => kY_CP_end_p15 rec β σ x0) := by
  unfold kY_CP_end_p15
  exact (gz_if (gz_let (fun _ => (gz_const _))) (gz_const _))
theorem gY_CP_feed (β : Nat) (σ : zS) (x0 x1 x2 x3 x4 : Int) : gz (fun rec => kY_CP_feed rec β σ x0 x1 x2 x3 x4) := by
  unfold kY_CP_feed
  exact (gz_if (gz_if (gz_if (gz_bnd (gz_call _ _ _ _) (fun _ _ => (gz_if (gz_bnd (gz_call _ _ _ _) (fun _ _ => (gz_if (gz_bnd (gz_call _ _ _ _) (fun _ _ => (gz_if (gz_bnd (gz_call _ _ _ _) (fun _ _ => (gz_if (gz_bnd (gz_call _ _ _ _) (fun _ _ => (gz_const _))) (gz_const _)))) (gz_const _)))) (gz_const _)))) (gz_const _)))) (gz_const _)) (gz_if (gz_let (fun _ => (gz_const _))) (gz_const _))) (gz_const _))
theorem gY_CP_literal (β : Nat) (σ : zS) (x0 x1 x2 : Int) : gz (fun rec => kY_CP_literal rec β σ x0 x1 x2) := by
  unfold kY_CP_literal
  exact (gz_if (gz_bnd (gz_call _ _ _ _) (fun _ _ => (gz_if (gz_call _ _ _ _) (gz_if (gz_call _ _ _ _) (gz_if (gz_bnd (gz_call _ _ _ _) (fun _ _ => (gz_if (gz_if (gz_call _ _ _ _) (gz_if (gz_if (gz_bnd (gz_call _ _ _ _) (fun _ _ => (gz_if (gz_bnd (gz_call _ _ _ _) (fun _ _ => (gz_if (gz_if (gz_if (gz_if (gz_if (gz_if (gz_const _) (gz_const _)) (gz_const _)) (gz_const _)) (gz_const _)) (gz_const _)) (gz_if (gz_call _ _ _ _) (gz_if (gz_call _ _ _ _) (gz_call _ _ _ _)))))) (gz_const _)))) (gz_const _)) (gz_call _ _ _ _))) (gz_call _ _ _ _)))) (gz_const _)))))) (gz_const _))
theorem gY_CP_literal_p28 (β : Nat) (σ : zS) (x0 x1 x2 : Int) : gz (fun rec => kY_CP_literal_p28 rec β σ x0 x1 x2) := by
  unfold kY_CP_literal_p28
  exact (gz_if (gz_let (fun _ => (gz_const _))) (gz_const _))
theorem gY_CP_literal_p47 (β : Nat) (σ : zS) (x0 x1 x2 : Int) : gz (fun rec => kY_CP_literal_p47 rec β σ x0 x1 x2) := by
  unfold kY_CP_literal_p47
  exact (gz_if (gz_let (fun _ => (gz_const _))) (gz_const _))
theorem gY_CP_literal_p131 (β : Nat) (σ : zS) (x0 x1 x2 x3 x4 x5 : Int) : gz (fun rec => kY_CP_literal_p131 rec β σ x0 x1 x2 x3 x4 x5) := by
  unfold kY_CP_literal_p131
  exact (gz_if (gz_if (gz_const _) (gz_const _)) (gz_const _))
theorem gY_CP_look (β : Nat) (σ : zS) (x0 x1 : Int) : gz (fun rec => kY_CP_look rec β σ x0 x1) := by
  unfold kY_CP_look
  exact (gz_if (gz_call _ _ _ _) (gz_if (gz_if (gz_bnd (gz_call _ _ _ _) (fun _ _ => (gz_if (gz_const _) (gz_call _ _ _ _)))) (gz_const _)) (gz_call _ _ _ _)))
theorem gY_CP_look_p10 (β : Nat) (σ : zS) (x0 x1 : Int) : gz (fun rec => kY_CP_look_p10 rec β σ x0 x1) := by
  unfold kY_CP_look_p10
  exact (gz_if (gz_let (fun _ => (gz_const _))) (gz_const _))
theorem gY_CP_look_p46 (β : Nat) (σ : zS) (x0 x1 x2 x3 : Int) : gz (fun rec => kY_CP_look_p46 rec β σ x0 x1 x2 x3) := by
  unfold kY_CP_look_p46
  exact (gz_if (gz_const _) (gz_if (gz_bnd (gz_call _ _ _ _) (fun _ _ => (gz_if (gz_if (gz_call _ _ _ _) (gz_const _)) (gz_call _ _ _ _)))) (gz_const _)))
theorem gY_CP_look_p73 (β : Nat) (σ : zS) (x0 x1 x2 x3 : Int) : gz (fun rec => kY_CP_look_p73 rec β σ x0 x1 x2 x3) := by
  unfold kY_CP_look_p73
  exact (gz_if (gz_call _ _ _ _) (gz_const _))
theorem gY_CP_out (β : Nat) (σ : zS) (x0 : Int) : gz (fun rec => kY_CP_out rec β σ x0) := by
  unfold kY_CP_out
  exact (gz_if (gz_call _ _ _ _) (gz_if (gz_if (gz_const _) (gz_const _)) (gz_call _ _ _ _)))
theorem gY_CP_out_p15 (β : Nat) (σ : zS) (x0 : Int) : gz (fun rec => kY_CP_out_p15 rec β σ x0) := by
  unfold kY_CP_out_p15
  exact (gz_if (gz_let (fun _ => (gz_const _))) (gz_const _))
theorem gY_CP_rewrote (β : Nat) (σ : zS) (x0 x1 : Int) : gz (fun rec => kY_CP_rewrote rec β σ x0 x1) := by
  unfold kY_CP_rewrote
  exact (gz_if (gz_bnd (gz_call _ _ _ _) (fun _ _ => (gz_if (gz_call _ _ _ _) (gz_if (gz_call _ _ _ _) (gz_if (gz_bnd (gz_call _ _ _ _) (fun _ _ => (gz_if (gz_if (gz_bnd (gz_call _ _ _ _) (fun _ _ => (gz_if (gz_if (gz_const _) (gz_const _)) (gz_const _)))) (gz_const _)) (gz_call _ _ _ _)))) (gz_const _)))))) (gz_const _))
theorem gY_CP_rewrote_p29 (β : Nat) (σ : zS) (x0 x1 : Int) : gz (fun rec => kY_CP_rewrote_p29 rec β σ x0 x1) := by
  unfold kY_CP_rewrote_p29
  exact (gz_if (gz_let (fun _ => (gz_const _))) (gz_const _))
theorem gY_CP_run (β : Nat) (σ : zS) (x0 : Int) : gz (fun rec => kY_CP_run rec β σ x0) := by
  unfold kY_CP_run
  exact (gz_if (gz_call _ _ _ _) (gz_if (gz_call _ _ _ _) (gz_call _ _ _ _)))
theorem gY_CP_run_p11 (β : Nat) (σ : zS) (x0 : Int) : gz (fun rec => kY_CP_run_p11 rec β σ x0) := by
  unfold kY_CP_run_p11
  exact (gz_if (gz_let (fun _ => (gz_const _))) (gz_const _))
theorem gY_CP_run_p23 (β : Nat) (σ : zS) (x0 x1 : Int) : gz (fun rec => kY_CP_run_p23 rec β σ x0 x1) := by
  unfold kY_CP_run_p23
  exact (gz_if (gz_call _ _ _ _) (gz_if (gz_if (gz_bnd (gz_call _ _ _ _) (fun _ _ => (gz_if (gz_call _ _ _ _) (gz_if (gz_bnd (gz_call _ _ _ _) (fun _ _ => (gz_call _ _ _ _))) (gz_const _))))) (gz_const _)) (gz_call _ _ _ _)))
theorem gY_CP_run_p59 (β : Nat) (σ : zS) (x0 x1 x2 : Int) : gz (fun rec => kY_CP_run_p59 rec β σ x0 x1 x2) := by
  unfold kY_CP_run_p59
  exact (gz_if (gz_call _ _ _ _) (gz_const _))
theorem gY_CP_run_p65 (β : Nat) (σ : zS) (x0 x1 : Int) : gz (fun rec => kY_CP_run_p65 rec β σ x0 x1) := by
  unfold kY_CP_run_p65
  exact (gz_const _)
theorem gY_CP_search (β : Nat) (σ : zS) (x0 x1 x2 : Int) : gz (fun rec => kY_CP_search rec β σ x0 x1 x2) := by
  unfold kY_CP_search
  exact (gz_if (gz_call _ _ _ _) (gz_if (gz_call _ _ _ _) (gz_if (gz_call _ _ _ _) (gz_if (gz_call _ _ _ _) (gz_call _ _ _ _)))))
theorem gY_CP_search_p21 (β : Nat) (σ : zS) (x0 x1 x2 : Int) : gz (fun rec => kY_CP_search_p21 rec β σ x0 x1 x2) := by
  unfold kY_CP_search_p21
  exact (gz_if (gz_let (fun _ => (gz_const _))) (gz_const _))
theorem gY_CP_search_p35 (β : Nat) (σ : zS) (x0 x1 x2 x3 : Int) : gz (fun rec => kY_CP_search_p35 rec β σ x0 x1 x2 x3) := by
  unfold kY_CP_search_p35
  exact (gz_if (gz_const _) (gz_if (gz_bnd (gz_call _ _ _ _) (fun _ _ => (gz_if (gz_if (gz_call _ _ _ _) (gz_const _)) (gz_const _)))) (gz_const _)))
theorem gY_CP_step (β : Nat) (σ : zS) (x0 : Int) : gz (fun rec => kY_CP_step rec β σ x0) := by
  unfold kY_CP_step
  exact (gz_if (gz_call _ _ _ _) (gz_if (gz_if (gz_const _) (gz_const _)) (gz_call _ _ _ _)))
theorem gY_CP_step_p18 (β : Nat) (σ : zS) (x0 : Int) : gz (fun rec => kY_CP_step_p18 rec β σ x0) := by
  unfold kY_CP_step_p18
  exact (gz_if (gz_let (fun _ => (gz_const _))) (gz_const _))
theorem gY_CP_symbol (β : Nat) (σ : zS) (x0 x1 : Int) : gz (fun rec => kY_CP_symbol rec β σ x0 x1) := by
  unfold kY_CP_symbol
  exact (gz_if (gz_call _ _ _ _) (gz_if (gz_if (gz_call _ _ _ _) (gz_if (gz_if (gz_if (gz_const _) (gz_const _)) (gz_if (gz_if (gz_bnd (gz_call _ _ _ _) (fun _ _ => (gz_call _ _ _ _))) (gz_const _)) (gz_if (gz_bnd (gz_call _ _ _ _) (fun _ _ => (gz_call _ _ _ _))) (gz_const _)))) (gz_call _ _ _ _))) (gz_call _ _ _ _)))
theorem gY_CP_symbol_p15 (β : Nat) (σ : zS) (x0 x1 : Int) : gz (fun rec => kY_CP_symbol_p15 rec β σ x0 x1) := by
  unfold kY_CP_symbol_p15
  exact (gz_if (gz_let (fun _ => (gz_const _))) (gz_const _))
theorem gY_CP_symbol_p35 (β : Nat) (σ : zS) (x0 x1 : Int) : gz (fun rec => kY_CP_symbol_p35 rec β σ x0 x1) := by
  unfold kY_CP_symbol_p35
  exact (gz_if (gz_let (fun _ => (gz_const _))) (gz_const _))
theorem gY_CP_symbol_p83 (β : Nat) (σ : zS) (x0 x1 x2 : Int) : gz (fun rec => kY_CP_symbol_p83 rec β σ x0 x1 x2) := by
  unfold kY_CP_symbol_p83
  exact (gz_if (gz_call _ _ _ _) (gz_call _ _ _ _))
theorem gY_CP_symbol_p93 (β : Nat) (σ : zS) (x0 x1 x2 x3 : Int) : gz (fun rec => kY_CP_symbol_p93 rec β σ x0 x1 x2 x3) := by
  unfold kY_CP_symbol_p93
  exact (gz_const _)
theorem qC_CP_count (rec : mF) (hG : GM rec) (σ : mS) (x0 : Int32) : gm σ (kC_CP_count rec σ x0) := by
  unfold kC_CP_count
  exact (gm_if gm_some (gm_if gm_some (gm_if gm_some (gm_if (gm_bnd hG (Nat.le_of_ble_eq_true rfl) (fun _ _ => gm_some)) (gm_if (gm_bnd hG (Nat.le_of_ble_eq_true rfl) (fun _ _ => gm_some)) (gm_if gm_some (gm_if gm_some (gm_if gm_some (gm_if gm_some (gm_if gm_some (gm_if gm_some (gm_if gm_some (gm_if gm_some (gm_if gm_some gm_some))))))))))))))
theorem qC_CP_fault (rec : mF) (hG : GM rec) (σ : mS) (x0 : Int32) : gm σ (kC_CP_fault rec σ x0) := by
  unfold kC_CP_fault
  exact (gm_if gm_some (gm_if (gm_tail hG (Nat.le_of_ble_eq_true rfl)) (gm_tail hG (Nat.le_of_ble_eq_true rfl))))
theorem qC_CP_fault_p22 (rec : mF) (hG : GM rec) (σ : mS) (x0 x1 : Int32) : gm σ (kC_CP_fault_p22 rec σ x0 x1) := by
  unfold kC_CP_fault_p22
  exact gm_some
theorem qC_CP_proof (rec : mF) (hG : GM rec) (σ : mS) : gm σ (kC_CP_proof rec σ) := by
  unfold kC_CP_proof
  exact gm_some
theorem qC_Dra_cellOf (rec : mF) (hG : GM rec) (σ : mS) (x0 : Int32) : gm σ (kC_Dra_cellOf rec σ x0) := by
  unfold kC_Dra_cellOf
  exact (gm_if (gm_if (gm_if (gm_lt ⟨Nat.le_refl _, Nat.le_refl _, rfl⟩ (gm_tail hG (Nat.le_of_ble_eq_true rfl))) (gm_tail hG (Nat.le_of_ble_eq_true rfl))) (gm_tail hG (Nat.le_of_ble_eq_true rfl))) gm_none)
theorem qC_Dra_cellOf_p27 (rec : mF) (hG : GM rec) (σ : mS) (x0 : Int32) : gm σ (kC_Dra_cellOf_p27 rec σ x0) := by
  unfold kC_Dra_cellOf_p27
  exact (gm_if (gm_if (gm_if (gm_lt ⟨Nat.le_refl _, Nat.le_refl _, rfl⟩ (gm_lt ⟨Nat.le_refl _, Nat.le_refl _, rfl⟩ (gm_if (gm_lt ⟨Nat.le_refl _, Nat.le_refl _, rfl⟩ (gm_tail hG (Nat.le_of_ble_eq_true rfl))) gm_none))) gm_none) (gm_tail hG (Nat.le_of_ble_eq_true rfl))) gm_none)
theorem qC_Dra_cellOf_p64 (rec : mF) (hG : GM rec) (σ : mS) (x0 : Int32) : gm σ (kC_Dra_cellOf_p64 rec σ x0) := by
  unfold kC_Dra_cellOf_p64
  exact (gm_if gm_some gm_none)
theorem qC_Dra_clear (rec : mF) (hG : GM rec) (σ : mS) : gm σ (kC_Dra_clear rec σ) := by
  unfold kC_Dra_clear
  exact (gm_tail hG (Nat.le_of_ble_eq_true rfl))
theorem qC_Dra_clear_p2 (rec : mF) (hG : GM rec) (σ : mS) (x0 : Int32) : gm σ (kC_Dra_clear_p2 rec σ x0) := by
  unfold kC_Dra_clear_p2
  exact (gm_if (gm_lt ⟨Nat.le_refl _, Nat.le_refl _, rfl⟩ (gm_lt ⟨Nat.le_refl _, Nat.le_refl _, rfl⟩ (gm_lt ⟨Nat.le_refl _, Nat.le_refl _, rfl⟩ (gm_lt ⟨Nat.le_refl _, Nat.le_refl _, rfl⟩ gm_some)))) (gm_if (gm_if (gm_lt ⟨Nat.le_refl _, Nat.le_refl _, rfl⟩ (gm_tail hG (Nat.le_of_ble_eq_true rfl))) gm_none) gm_none))
theorem qC_Dra_closeLiteral (rec : mF) (hG : GM rec) (σ : mS) : gm σ (kC_Dra_closeLiteral rec σ) := by
  unfold kC_Dra_closeLiteral
  exact (gm_if (gm_lt ⟨Nat.le_refl _, Nat.le_refl _, rfl⟩ (gm_if (gm_lt ⟨Nat.le_refl _, Nat.le_refl _, rfl⟩ (gm_tail hG (Nat.le_of_ble_eq_true rfl))) gm_none)) (gm_tail hG (Nat.le_of_ble_eq_true rfl)))
theorem qC_Dra_closeLiteral_p30 (rec : mF) (hG : GM rec) (σ : mS) : gm σ (kC_Dra_closeLiteral_p30 rec σ) := by
  unfold kC_Dra_closeLiteral_p30
  exact gm_some
theorem qC_Dra_hasSameSides (rec : mF) (hG : GM rec) (σ : mS) (x0 x1 : Int32) : gm σ (kC_Dra_hasSameSides rec σ x0 x1) := by
  unfold kC_Dra_hasSameSides
  exact (gm_if (gm_if (gm_if (gm_if (gm_if (gm_if (gm_if (gm_if (gm_if (gm_if (gm_bnd hG (Nat.le_of_ble_eq_true rfl) (fun _ _ => (gm_if (gm_tail hG (Nat.le_of_ble_eq_true rfl)) (gm_if (gm_if (gm_bnd hG (Nat.le_of_ble_eq_true rfl) (fun _ _ => (gm_if (gm_tail hG (Nat.le_of_ble_eq_true rfl)) (gm_tail hG (Nat.le_of_ble_eq_true rfl))))) gm_none) gm_none)))) gm_none) gm_none) gm_none) gm_none) gm_none) gm_none) gm_none) gm_none) gm_none) gm_none)
theorem qC_Dra_hasSameSides_p108 (rec : mF) (hG : GM rec) (σ : mS) (x0 x1 x2 x3 x4 x5 : Int32) : gm σ (kC_Dra_hasSameSides_p108 rec σ x0 x1 x2 x3 x4 x5) := by
  unfold kC_Dra_hasSameSides_p108
  exact (gm_if (gm_if (gm_bnd hG (Nat.le_of_ble_eq_true rfl) (fun _ _ => (gm_if (gm_tail hG (Nat.le_of_ble_eq_true rfl)) (gm_if (gm_if (gm_bnd hG (Nat.le_of_ble_eq_true rfl) (fun _ _ => (gm_if (gm_tail hG (Nat.le_of_ble_eq_true rfl)) (gm_tail hG (Nat.le_of_ble_eq_true rfl))))) gm_none) gm_none)))) gm_none) gm_none)
theorem qC_Dra_hasSameSides_p153 (rec : mF) (hG : GM rec) (σ : mS) (x0 x1 x2 x3 x4 x5 : Int32) : gm σ (kC_Dra_hasSameSides_p153 rec σ x0 x1 x2 x3 x4 x5) := by
  unfold kC_Dra_hasSameSides_p153
  exact (gm_tail hG (Nat.le_of_ble_eq_true rfl))
theorem qC_Dra_hasSameSides_p157 (rec : mF) (hG : GM rec) (σ : mS) (x0 x1 x2 x3 x4 x5 : Int32) : gm σ (kC_Dra_hasSameSides_p157 rec σ x0 x1 x2 x3 x4 x5) := by
  unfold kC_Dra_hasSameSides_p157
  exact (gm_tail hG (Nat.le_of_ble_eq_true rfl))
theorem qC_Dra_hasSameSides_p158 (rec : mF) (hG : GM rec) (σ : mS) (x0 x1 x2 x3 x4 x5 x6 : Int32) : gm σ (kC_Dra_hasSameSides_p158 rec σ x0 x1 x2 x3 x4 x5 x6) := by
  unfold kC_Dra_hasSameSides_p158
  exact (gm_if gm_some gm_none)
theorem qC_Dra_isSame (rec : mF) (hG : GM rec) (σ : mS) (x0 x1 x2 x3 : Int32) : gm σ (kC_Dra_isSame rec σ x0 x1 x2 x3) := by
  unfold kC_Dra_isSame
  exact (gm_if (gm_tail hG (Nat.le_of_ble_eq_true rfl)) (gm_tail hG (Nat.le_of_ble_eq_true rfl)))
theorem qC_Dra_isSame_p11 (rec : mF) (hG : GM rec) (σ : mS) (x0 x1 x2 x3 x4 : Int32) : gm σ (kC_Dra_isSame_p11 rec σ x0 x1 x2 x3 x4) := by
  unfold kC_Dra_isSame_p11
  exact (gm_tail hG (Nat.le_of_ble_eq_true rfl))
theorem qC_Dra_isSame_p16 (rec : mF) (hG : GM rec) (σ : mS) (x0 x1 x2 x3 x4 x5 : Int32) : gm σ (kC_Dra_isSame_p16 rec σ x0 x1 x2 x3 x4 x5) := by
  unfold kC_Dra_isSame_p16
  exact (gm_if (gm_tail hG (Nat.le_of_ble_eq_true rfl)) (gm_if (gm_tail hG (Nat.le_of_ble_eq_true rfl)) (gm_if (gm_if (gm_if (gm_tail hG (Nat.le_of_ble_eq_true rfl)) (gm_tail hG (Nat.le_of_ble_eq_true rfl))) gm_none) gm_none)))
theorem qC_Dra_isSame_p53 (rec : mF) (hG : GM rec) (σ : mS) (x0 x1 x2 x3 x4 x5 x6 : Int32) : gm σ (kC_Dra_isSame_p53 rec σ x0 x1 x2 x3 x4 x5 x6) := by
  unfold kC_Dra_isSame_p53
  exact (gm_tail hG (Nat.le_of_ble_eq_true rfl))
theorem qC_Dra_isSame_p61 (rec : mF) (hG : GM rec) (σ : mS) (x0 x1 x2 x3 x4 x5 : Int32) : gm σ (kC_Dra_isSame_p61 rec σ x0 x1 x2 x3 x4 x5) := by
  unfold kC_Dra_isSame_p61
  exact (gm_if gm_some gm_none)
theorem qC_Dra_isTautology (rec : mF) (hG : GM rec) (σ : mS) : gm σ (kC_Dra_isTautology rec σ) := by
  unfold kC_Dra_isTautology
  exact (gm_tail hG (Nat.le_of_ble_eq_true rfl))
theorem qC_Dra_isTautology_p2 (rec : mF) (hG : GM rec) (σ : mS) (x0 : Int32) : gm σ (kC_Dra_isTautology_p2 rec σ x0) := by
  unfold kC_Dra_isTautology_p2
  exact (gm_if gm_some (gm_if (gm_if (gm_if (gm_if (gm_tail hG (Nat.le_of_ble_eq_true rfl)) (gm_if (gm_if (gm_if (gm_if (gm_bnd hG (Nat.le_of_ble_eq_true rfl) (fun _ _ => (gm_if (gm_tail hG (Nat.le_of_ble_eq_true rfl)) gm_some))) gm_none) gm_none) gm_none) gm_none)) gm_none) gm_none) gm_none))
theorem qC_Dra_isTautology_p70 (rec : mF) (hG : GM rec) (σ : mS) (x0 x1 : Int32) : gm σ (kC_Dra_isTautology_p70 rec σ x0 x1) := by
  unfold kC_Dra_isTautology_p70
  exact (gm_tail hG (Nat.le_of_ble_eq_true rfl))
theorem qC_Dra_isTautology_p72 (rec : mF) (hG : GM rec) (σ : mS) (x0 x1 x2 : Int32) : gm σ (kC_Dra_isTautology_p72 rec σ x0 x1 x2) := by
  unfold kC_Dra_isTautology_p72
  exact (gm_if (gm_tail hG (Nat.le_of_ble_eq_true rfl)) (gm_if (gm_if (gm_if (gm_tail hG (Nat.le_of_ble_eq_true rfl)) (gm_bnd hG (Nat.le_of_ble_eq_true rfl) (fun _ _ => (gm_if (gm_tail hG (Nat.le_of_ble_eq_true rfl)) gm_some)))) gm_none) gm_none))
theorem qC_Dra_isTautology_p103 (rec : mF) (hG : GM rec) (σ : mS) (x0 x1 x2 : Int32) : gm σ (kC_Dra_isTautology_p103 rec σ x0 x1 x2) := by
  unfold kC_Dra_isTautology_p103
  exact (gm_tail hG (Nat.le_of_ble_eq_true rfl))
theorem qC_Dra_load (rec : mF) (hG : GM rec) (σ : mS) (x0 : Int32) : gm σ (kC_Dra_load rec σ x0) := by
  unfold kC_Dra_load
  exact (gm_bnd hG (Nat.le_of_ble_eq_true rfl) (fun _ _ => (gm_bnd hG (Nat.le_of_ble_eq_true rfl) (fun _ _ => (gm_tail hG (Nat.le_of_ble_eq_true rfl))))))
theorem qC_Dra_load_p24 (rec : mF) (hG : GM rec) (σ : mS) (x0 x1 x2 : Int32) : gm σ (kC_Dra_load_p24 rec σ x0 x1 x2) := by
  unfold kC_Dra_load_p24
  exact (gm_bnd hG (Nat.le_of_ble_eq_true rfl) (fun _ _ => (gm_if gm_some (gm_if (gm_if (gm_tail hG (Nat.le_of_ble_eq_true rfl)) (gm_tail hG (Nat.le_of_ble_eq_true rfl))) gm_none))))
theorem qC_Dra_load_p51 (rec : mF) (hG : GM rec) (σ : mS) (x0 x1 x2 x3 : Int32) : gm σ (kC_Dra_load_p51 rec σ x0 x1 x2 x3) := by
  unfold kC_Dra_load_p51
  exact (gm_bnd hG (Nat.le_of_ble_eq_true rfl) (fun _ _ => (gm_bnd hG (Nat.le_of_ble_eq_true rfl) (fun _ _ => (gm_tail hG (Nat.le_of_ble_eq_true rfl))))))
theorem qC_Dra_load_p63 (rec : mF) (hG : GM rec) (σ : mS) (x0 x1 x2 x3 : Int32) : gm σ (kC_Dra_load_p63 rec σ x0 x1 x2 x3) := by
  unfold kC_Dra_load_p63
  exact (gm_bnd hG (Nat.le_of_ble_eq_true rfl) (fun _ _ => (gm_if (gm_bnd hG (Nat.le_of_ble_eq_true rfl) (fun _ _ => (gm_bnd hG (Nat.le_of_ble_eq_true rfl) (fun _ _ => (gm_tail hG (Nat.le_of_ble_eq_true rfl)))))) (gm_bnd hG (Nat.le_of_ble_eq_true rfl) (fun _ _ => (gm_if (gm_bnd hG (Nat.le_of_ble_eq_true rfl) (fun _ _ => (gm_tail hG (Nat.le_of_ble_eq_true rfl)))) (gm_tail hG (Nat.le_of_ble_eq_true rfl))))))))
theorem qC_Dra_load_p90 (rec : mF) (hG : GM rec) (σ : mS) (x0 x1 x2 x3 : Int32) : gm σ (kC_Dra_load_p90 rec σ x0 x1 x2 x3) := by
  unfold kC_Dra_load_p90
  exact (gm_if (gm_bnd hG (Nat.le_of_ble_eq_true rfl) (fun _ _ => (gm_tail hG (Nat.le_of_ble_eq_true rfl)))) gm_none)
theorem qC_Dra_openLiteral (rec : mF) (hG : GM rec) (σ : mS) (x0 : Int32) : gm σ (kC_Dra_openLiteral rec σ x0) := by
  unfold kC_Dra_openLiteral
  exact (gm_if (gm_lt ⟨Nat.le_refl _, Nat.le_refl _, rfl⟩ gm_some) (gm_if (gm_lt ⟨Nat.le_refl _, Nat.le_refl _, rfl⟩ (gm_if (gm_lt ⟨Nat.le_refl _, Nat.le_refl _, rfl⟩ gm_some) gm_none)) gm_none))
theorem qC_Dra_openRight (rec : mF) (hG : GM rec) (σ : mS) : gm σ (kC_Dra_openRight rec σ) := by
  unfold kC_Dra_openRight
  exact (gm_if (gm_if (gm_lt ⟨Nat.le_refl _, Nat.le_refl _, rfl⟩ (gm_tail hG (Nat.le_of_ble_eq_true rfl))) gm_none) (gm_tail hG (Nat.le_of_ble_eq_true rfl)))
theorem qC_Dra_openRight_p20 (rec : mF) (hG : GM rec) (σ : mS) : gm σ (kC_Dra_openRight_p20 rec σ) := by
  unfold kC_Dra_openRight_p20
  exact gm_some
theorem qC_Dra_put (rec : mF) (hG : GM rec) (σ : mS) (x0 : Int32) : gm σ (kC_Dra_put rec σ x0) := by
  unfold kC_Dra_put
  exact (gm_if (gm_lt ⟨Nat.le_refl _, Nat.le_refl _, rfl⟩ (gm_tail hG (Nat.le_of_ble_eq_true rfl))) (gm_tail hG (Nat.le_of_ble_eq_true rfl)))
theorem qC_Dra_put_p14 (rec : mF) (hG : GM rec) (σ : mS) (x0 : Int32) : gm σ (kC_Dra_put_p14 rec σ x0) := by
  unfold kC_Dra_put_p14
  exact (gm_if (gm_lt ⟨Nat.le_refl _, Nat.le_refl _, rfl⟩ (gm_if (gm_lt ⟨Nat.le_refl _, Nat.le_refl _, rfl⟩ (gm_tail hG (Nat.le_of_ble_eq_true rfl))) gm_none)) (gm_tail hG (Nat.le_of_ble_eq_true rfl)))
theorem qC_Dra_put_p38 (rec : mF) (hG : GM rec) (σ : mS) (x0 : Int32) : gm σ (kC_Dra_put_p38 rec σ x0) := by
  unfold kC_Dra_put_p38
  exact gm_some
theorem qC_Dra_reduce (rec : mF) (hG : GM rec) (σ : mS) : gm σ (kC_Dra_reduce rec σ) := by
  unfold kC_Dra_reduce
  exact (gm_tail hG (Nat.le_of_ble_eq_true rfl))
theorem qC_Dra_reduce_p6 (rec : mF) (hG : GM rec) (σ : mS) (x0 x1 x2 : Int32) : gm σ (kC_Dra_reduce_p6 rec σ x0 x1 x2) := by
  unfold kC_Dra_reduce_p6
  exact (gm_if (gm_lt ⟨Nat.le_refl _, Nat.le_refl _, rfl⟩ (gm_lt ⟨Nat.le_refl _, Nat.le_refl _, rfl⟩ (gm_bnd hG (Nat.le_of_ble_eq_true rfl) (fun _ _ => gm_some)))) (gm_if (gm_if (gm_if (gm_if (gm_if (gm_if (gm_bnd hG (Nat.le_of_ble_eq_true rfl) (fun _ _ => (gm_if (gm_tail hG (Nat.le_of_ble_eq_true rfl)) (gm_tail hG (Nat.le_of_ble_eq_true rfl))))) gm_none) (gm_tail hG (Nat.le_of_ble_eq_true rfl))) gm_none) gm_none) gm_none) gm_none))
theorem qC_Dra_reduce_p81 (rec : mF) (hG : GM rec) (σ : mS) (x0 x1 x2 x3 x4 x5 : Int32) : gm σ (kC_Dra_reduce_p81 rec σ x0 x1 x2 x3 x4 x5) := by
  unfold kC_Dra_reduce_p81
  exact (gm_tail hG (Nat.le_of_ble_eq_true rfl))
theorem qC_Dra_reduce_p82 (rec : mF) (hG : GM rec) (σ : mS) (x0 x1 x2 x3 x4 x5 x6 : Int32) : gm σ (kC_Dra_reduce_p82 rec σ x0 x1 x2 x3 x4 x5 x6) := by
  unfold kC_Dra_reduce_p82
  exact (gm_tail hG (Nat.le_of_ble_eq_true rfl))
theorem qC_Dra_reduce_p87 (rec : mF) (hG : GM rec) (σ : mS) (x0 x1 x2 x3 x4 x5 x6 x7 : Int32) : gm σ (kC_Dra_reduce_p87 rec σ x0 x1 x2 x3 x4 x5 x6 x7) := by
  unfold kC_Dra_reduce_p87
  exact (gm_if (gm_tail hG (Nat.le_of_ble_eq_true rfl)) (gm_if (gm_if (gm_if (gm_if (gm_bnd hG (Nat.le_of_ble_eq_true rfl) (fun _ _ => (gm_if (gm_tail hG (Nat.le_of_ble_eq_true rfl)) (gm_tail hG (Nat.le_of_ble_eq_true rfl))))) (gm_tail hG (Nat.le_of_ble_eq_true rfl))) gm_none) gm_none) (gm_tail hG (Nat.le_of_ble_eq_true rfl))))
theorem qC_Dra_reduce_p128 (rec : mF) (hG : GM rec) (σ : mS) (x0 x1 x2 x3 x4 x5 x6 x7 : Int32) : gm σ (kC_Dra_reduce_p128 rec σ x0 x1 x2 x3 x4 x5 x6 x7) := by
  unfold kC_Dra_reduce_p128
  exact (gm_tail hG (Nat.le_of_ble_eq_true rfl))
theorem qC_Dra_reduce_p129 (rec : mF) (hG : GM rec) (σ : mS) (x0 x1 x2 x3 x4 x5 x6 x7 x8 : Int32) : gm σ (kC_Dra_reduce_p129 rec σ x0 x1 x2 x3 x4 x5 x6 x7 x8) := by
  unfold kC_Dra_reduce_p129
  exact (gm_tail hG (Nat.le_of_ble_eq_true rfl))
theorem qC_Dra_reduce_p137 (rec : mF) (hG : GM rec) (σ : mS) (x0 x1 x2 x3 x4 x5 x6 x7 : Int32) : gm σ (kC_Dra_reduce_p137 rec σ x0 x1 x2 x3 x4 x5 x6 x7) := by
  unfold kC_Dra_reduce_p137
  exact (gm_if (gm_if (gm_lt ⟨Nat.le_refl _, Nat.le_refl _, rfl⟩ (gm_if (gm_if (gm_lt ⟨Nat.le_refl _, Nat.le_refl _, rfl⟩ (gm_if (gm_lt ⟨Nat.le_refl _, Nat.le_refl _, rfl⟩ (gm_if (gm_lt ⟨Nat.le_refl _, Nat.le_refl _, rfl⟩ (gm_if (gm_lt ⟨Nat.le_refl _, Nat.le_refl _, rfl⟩ (gm_tail hG (Nat.le_of_ble_eq_true rfl))) gm_none)) gm_none)) gm_none)) gm_none) gm_none)) gm_none) (gm_tail hG (Nat.le_of_ble_eq_true rfl)))
theorem qC_Dra_reduce_p202 (rec : mF) (hG : GM rec) (σ : mS) (x0 x1 x2 x3 x4 x5 x6 x7 : Int32) : gm σ (kC_Dra_reduce_p202 rec σ x0 x1 x2 x3 x4 x5 x6 x7) := by
  unfold kC_Dra_reduce_p202
  exact (gm_tail hG (Nat.le_of_ble_eq_true rfl))
theorem qC_Dra_renumber (rec : mF) (hG : GM rec) (σ : mS) : gm σ (kC_Dra_renumber rec σ) := by
  unfold kC_Dra_renumber
  exact (gm_lt ⟨Nat.le_refl _, Nat.le_refl _, rfl⟩ (gm_lt ⟨Nat.le_refl _, Nat.le_refl _, rfl⟩ (gm_tail hG (Nat.le_of_ble_eq_true rfl))))
theorem qC_Dra_renumber_p15 (rec : mF) (hG : GM rec) (σ : mS) (x0 : Int32) : gm σ (kC_Dra_renumber_p15 rec σ x0) := by
  unfold kC_Dra_renumber_p15
  exact (gm_if gm_some (gm_if (gm_if (gm_tail hG (Nat.le_of_ble_eq_true rfl)) (gm_if (gm_if (gm_if (gm_lt ⟨Nat.le_refl _, Nat.le_refl _, rfl⟩ (gm_if (gm_lt ⟨Nat.le_refl _, Nat.le_refl _, rfl⟩ (gm_tail hG (Nat.le_of_ble_eq_true rfl))) gm_none)) (gm_tail hG (Nat.le_of_ble_eq_true rfl))) gm_none) gm_none)) gm_none))
theorem qC_Dra_renumber_p68 (rec : mF) (hG : GM rec) (σ : mS) (x0 x1 : Int32) : gm σ (kC_Dra_renumber_p68 rec σ x0 x1) := by
  unfold kC_Dra_renumber_p68
  exact (gm_if (gm_if (gm_lt ⟨Nat.le_refl _, Nat.le_refl _, rfl⟩ (gm_tail hG (Nat.le_of_ble_eq_true rfl))) gm_none) gm_none)
theorem qC_Dra_renumber_p82 (rec : mF) (hG : GM rec) (σ : mS) (x0 : Int32) : gm σ (kC_Dra_renumber_p82 rec σ x0) := by
  unfold kC_Dra_renumber_p82
  exact (gm_tail hG (Nat.le_of_ble_eq_true rfl))
theorem qC_Dra_replace_68 (rec : mF) (hG : GM rec) (σ : mS) (x0 x1 : Int32) : gm σ (kC_Dra_replace_68 rec σ x0 x1) := by
  unfold kC_Dra_replace_68
  exact (gm_bnd hG (Nat.le_of_ble_eq_true rfl) (fun _ _ => (gm_if (gm_lt ⟨Nat.le_refl _, Nat.le_refl _, rfl⟩ (gm_if (gm_lt ⟨Nat.le_refl _, Nat.le_refl _, rfl⟩ (gm_lt ⟨Nat.le_refl _, Nat.le_refl _, rfl⟩ (gm_tail hG (Nat.le_of_ble_eq_true rfl)))) gm_none)) gm_none)))
theorem qC_Dra_replace_68_p70 (rec : mF) (hG : GM rec) (σ : mS) (x0 x1 x2 x3 x4 : Int32) : gm σ (kC_Dra_replace_68_p70 rec σ x0 x1 x2 x3 x4) := by
  unfold kC_Dra_replace_68_p70
  exact (gm_if gm_some (gm_if (gm_if (gm_if (gm_tail hG (Nat.le_of_ble_eq_true rfl)) (gm_tail hG (Nat.le_of_ble_eq_true rfl))) gm_none) gm_none))
theorem qC_Dra_replace_68_p104 (rec : mF) (hG : GM rec) (σ : mS) (x0 x1 x2 x3 x4 x5 x6 x7 : Int32) : gm σ (kC_Dra_replace_68_p104 rec σ x0 x1 x2 x3 x4 x5 x6 x7) := by
  unfold kC_Dra_replace_68_p104
  exact (gm_if (gm_lt ⟨Nat.le_refl _, Nat.le_refl _, rfl⟩ (gm_if (gm_if (gm_if (gm_tail hG (Nat.le_of_ble_eq_true rfl)) (gm_tail hG (Nat.le_of_ble_eq_true rfl))) gm_none) gm_none)) gm_none)
theorem qC_Dra_replace_68_p135 (rec : mF) (hG : GM rec) (σ : mS) (x0 x1 x2 x3 x4 x5 x6 x7 : Int32) : gm σ (kC_Dra_replace_68_p135 rec σ x0 x1 x2 x3 x4 x5 x6 x7) := by
  unfold kC_Dra_replace_68_p135
  exact (gm_if (gm_lt ⟨Nat.le_refl _, Nat.le_refl _, rfl⟩ (gm_tail hG (Nat.le_of_ble_eq_true rfl))) gm_none)
theorem qC_For_addVariable (rec : mF) (hG : GM rec) (σ : mS) : gm σ (kC_For_addVariable rec σ) := by
  unfold kC_For_addVariable
  exact (gm_if gm_some (gm_if (gm_lt ⟨Nat.le_refl _, Nat.le_refl _, rfl⟩ (gm_if (gm_lt ⟨Nat.le_refl _, Nat.le_refl _, rfl⟩ (gm_if (gm_lt ⟨Nat.le_refl _, Nat.le_refl _, rfl⟩ (gm_lt ⟨Nat.le_refl _, Nat.le_refl _, rfl⟩ gm_some)) gm_none)) gm_none)) gm_none))
theorem qC_For_around (rec : mF) (hG : GM rec) (σ : mS) (x0 : Int32) : gm σ (kC_For_around rec σ x0) := by
  unfold kC_For_around
  exact (gm_if (gm_if (gm_if (gm_if (gm_tail hG (Nat.le_of_ble_eq_true rfl)) gm_none) (gm_if (gm_if (gm_if (gm_tail hG (Nat.le_of_ble_eq_true rfl)) gm_none) gm_none) gm_none)) gm_none) gm_none)
theorem qC_For_around_p57 (rec : mF) (hG : GM rec) (σ : mS) (x0 x1 x2 : Int32) : gm σ (kC_For_around_p57 rec σ x0 x1 x2) := by
  unfold kC_For_around_p57
  exact gm_some
theorem qC_For_aroundAt (rec : mF) (hG : GM rec) (σ : mS) (x0 x1 : Int32) : gm σ (kC_For_aroundAt rec σ x0 x1) := by
  unfold kC_For_aroundAt
  exact (gm_if (gm_if (gm_if (gm_if (gm_if (gm_tail hG (Nat.le_of_ble_eq_true rfl)) gm_none) (gm_if gm_some gm_none)) gm_none) gm_none) gm_none)
theorem qC_For_aroundAt_p68 (rec : mF) (hG : GM rec) (σ : mS) (x0 x1 x2 x3 x4 x5 x6 : Int32) : gm σ (kC_For_aroundAt_p68 rec σ x0 x1 x2 x3 x4 x5 x6) := by
  unfold kC_For_aroundAt_p68
  exact (gm_if gm_some (gm_if (gm_tail hG (Nat.le_of_ble_eq_true rfl)) gm_none))
theorem qC_For_bind (rec : mF) (hG : GM rec) (σ : mS) : gm σ (kC_For_bind rec σ) := by
  unfold kC_For_bind
  exact (gm_bnd hG (Nat.le_of_ble_eq_true rfl) (fun _ _ => (gm_if (gm_tail hG (Nat.le_of_ble_eq_true rfl)) (gm_if (gm_lt ⟨Nat.le_refl _, Nat.le_refl _, rfl⟩ (gm_if (gm_tail hG (Nat.le_of_ble_eq_true rfl)) (gm_if (gm_tail hG (Nat.le_of_ble_eq_true rfl)) gm_none))) gm_none))))
theorem qC_For_bind_p49 (rec : mF) (hG : GM rec) (σ : mS) (x0 x1 x2 : Int32) : gm σ (kC_For_bind_p49 rec σ x0 x1 x2) := by
  unfold kC_For_bind_p49
  exact (gm_if (gm_lt ⟨Nat.le_refl _, Nat.le_refl _, rfl⟩ (gm_lt ⟨Nat.le_refl _, Nat.le_refl _, rfl⟩ (gm_tail hG (Nat.le_of_ble_eq_true rfl)))) gm_none)
theorem qC_For_bind_p55 (rec : mF) (hG : GM rec) (σ : mS) (x0 : Int32) : gm σ (kC_For_bind_p55 rec σ x0) := by
  unfold kC_For_bind_p55
  exact gm_some
theorem qC_For_clausesOf (rec : mF) (hG : GM rec) (σ : mS) (x0 x1 : Int32) : gm σ (kC_For_clausesOf rec σ x0 x1) := by
  unfold kC_For_clausesOf
  exact (gm_if (gm_tail hG (Nat.le_of_ble_eq_true rfl)) (gm_tail hG (Nat.le_of_ble_eq_true rfl)))
theorem qC_For_clausesOf_p11 (rec : mF) (hG : GM rec) (σ : mS) (x0 x1 x2 x3 : Int32) : gm σ (kC_For_clausesOf_p11 rec σ x0 x1 x2 x3) := by
  unfold kC_For_clausesOf_p11
  exact (gm_bnd hG (Nat.le_of_ble_eq_true rfl) (fun _ _ => gm_some))
theorem qC_For_clear (rec : mF) (hG : GM rec) (σ : mS) : gm σ (kC_For_clear rec σ) := by
  unfold kC_For_clear
  exact (gm_lt ⟨Nat.le_refl _, Nat.le_refl _, rfl⟩ (gm_lt ⟨Nat.le_refl _, Nat.le_refl _, rfl⟩ (gm_lt ⟨Nat.le_refl _, Nat.le_refl _, rfl⟩ (gm_lt ⟨Nat.le_refl _, Nat.le_refl _, rfl⟩ (gm_lt ⟨Nat.le_refl _, Nat.le_refl _, rfl⟩ (gm_lt ⟨Nat.le_refl _, Nat.le_refl _, rfl⟩ gm_some))))))
theorem qC_For_closeSentence (rec : mF) (hG : GM rec) (σ : mS) (x0 : Int32) : gm σ (kC_For_closeSentence rec σ x0) := by
  unfold kC_For_closeSentence
  exact (gm_if (gm_lt ⟨Nat.le_refl _, Nat.le_refl _, rfl⟩ gm_some) gm_none)
theorem qC_For_get (rec : mF) (hG : GM rec) (σ : mS) (x0 x1 : Int32) : gm σ (kC_For_get rec σ x0 x1) := by
  unfold kC_For_get
  exact (gm_if gm_some gm_none)
theorem qC_For_isWord (rec : mF) (hG : GM rec) (σ : mS) (x0 : Int32) : gm σ (kC_For_isWord rec σ x0) := by
  unfold kC_For_isWord
  exact (gm_if (gm_if (gm_tail hG (Nat.le_of_ble_eq_true rfl)) gm_some) gm_none)
theorem qC_For_isWord_p17 (rec : mF) (hG : GM rec) (σ : mS) (x0 x1 : Int32) : gm σ (kC_For_isWord_p17 rec σ x0 x1) := by
  unfold kC_For_isWord_p17
  exact (gm_if gm_some (gm_if (gm_if (gm_if (gm_if (gm_tail hG (Nat.le_of_ble_eq_true rfl)) gm_some) gm_none) gm_none) gm_none))
theorem qC_For_makeWitnesses (rec : mF) (hG : GM rec) (σ : mS) : gm σ (kC_For_makeWitnesses rec σ) := by
  unfold kC_For_makeWitnesses
  exact (gm_tail hG (Nat.le_of_ble_eq_true rfl))
theorem qC_For_makeWitnesses_p2 (rec : mF) (hG : GM rec) (σ : mS) (x0 : Int32) : gm σ (kC_For_makeWitnesses_p2 rec σ x0) := by
  unfold kC_For_makeWitnesses_p2
  exact (gm_if (gm_if gm_none (gm_tail hG (Nat.le_of_ble_eq_true rfl))) (gm_if (gm_if (gm_tail hG (Nat.le_of_ble_eq_true rfl)) (gm_tail hG (Nat.le_of_ble_eq_true rfl))) gm_none))
theorem qC_For_makeWitnesses_p33 (rec : mF) (hG : GM rec) (σ : mS) (x0 x1 : Int32) : gm σ (kC_For_makeWitnesses_p33 rec σ x0 x1) := by
  unfold kC_For_makeWitnesses_p33
  exact (gm_if (gm_if (gm_tail hG (Nat.le_of_ble_eq_true rfl)) (gm_tail hG (Nat.le_of_ble_eq_true rfl))) gm_none)
theorem qC_For_makeWitnesses_p55 (rec : mF) (hG : GM rec) (σ : mS) (x0 x1 x2 x3 : Int32) : gm σ (kC_For_makeWitnesses_p55 rec σ x0 x1 x2 x3) := by
  unfold kC_For_makeWitnesses_p55
  exact (gm_bnd hG (Nat.le_of_ble_eq_true rfl) (fun _ _ => (gm_bnd hG (Nat.le_of_ble_eq_true rfl) (fun _ _ => (gm_tail hG (Nat.le_of_ble_eq_true rfl))))))
theorem qC_For_makeWitnesses_p83 (rec : mF) (hG : GM rec) (σ : mS) (x0 : Int32) : gm σ (kC_For_makeWitnesses_p83 rec σ x0) := by
  unfold kC_For_makeWitnesses_p83
  exact (gm_if (gm_tail hG (Nat.le_of_ble_eq_true rfl)) (gm_bnd hG (Nat.le_of_ble_eq_true rfl) (fun _ _ => (gm_bnd hG (Nat.le_of_ble_eq_true rfl) (fun _ _ => (gm_tail hG (Nat.le_of_ble_eq_true rfl)))))))
theorem qC_For_makeWitnesses_p107 (rec : mF) (hG : GM rec) (σ : mS) (x0 : Int32) : gm σ (kC_For_makeWitnesses_p107 rec σ x0) := by
  unfold kC_For_makeWitnesses_p107
  exact (gm_if gm_some (gm_if (gm_if (gm_tail hG (Nat.le_of_ble_eq_true rfl)) (gm_bnd hG (Nat.le_of_ble_eq_true rfl) (fun _ _ => (gm_bnd hG (Nat.le_of_ble_eq_true rfl) (fun _ _ => (gm_tail hG (Nat.le_of_ble_eq_true rfl))))))) gm_none))
theorem qC_For_makeWitnesses_p145 (rec : mF) (hG : GM rec) (σ : mS) (x0 x1 x2 : Int32) : gm σ (kC_For_makeWitnesses_p145 rec σ x0 x1 x2) := by
  unfold kC_For_makeWitnesses_p145
  exact (gm_if (gm_lt ⟨Nat.le_refl _, Nat.le_refl _, rfl⟩ (gm_tail hG (Nat.le_of_ble_eq_true rfl))) gm_none)
theorem qC_For_reach (rec : mF) (hG : GM rec) (σ : mS) (x0 x1 : Int32) : gm σ (kC_For_reach rec σ x0 x1) := by
  unfold kC_For_reach
  exact (gm_if (gm_if (gm_lt ⟨Nat.le_refl _, Nat.le_refl _, rfl⟩ gm_some) gm_none) gm_none)
theorem qC_For_reachParts (rec : mF) (hG : GM rec) (σ : mS) (x0 x1 : Int32) : gm σ (kC_For_reachParts rec σ x0 x1) := by
  unfold kC_For_reachParts
  exact (gm_bnd hG (Nat.le_of_ble_eq_true rfl) (fun _ _ => (gm_bnd hG (Nat.le_of_ble_eq_true rfl) (fun _ _ => (gm_bnd hG (Nat.le_of_ble_eq_true rfl) (fun _ _ => (gm_if (gm_tail hG (Nat.le_of_ble_eq_true rfl)) (gm_if (gm_bnd hG (Nat.le_of_ble_eq_true rfl) (fun _ _ => (gm_tail hG (Nat.le_of_ble_eq_true rfl)))) (gm_if (gm_bnd hG (Nat.le_of_ble_eq_true rfl) (fun _ _ => (gm_bnd hG (Nat.le_of_ble_eq_true rfl) (fun _ _ => (gm_if (gm_tail hG (Nat.le_of_ble_eq_true rfl)) (gm_tail hG (Nat.le_of_ble_eq_true rfl))))))) (gm_if (gm_bnd hG (Nat.le_of_ble_eq_true rfl) (fun _ _ => (gm_bnd hG (Nat.le_of_ble_eq_true rfl) (fun _ _ => (gm_if (gm_tail hG (Nat.le_of_ble_eq_true rfl)) (gm_tail hG (Nat.le_of_ble_eq_true rfl))))))) (gm_if (gm_bnd hG (Nat.le_of_ble_eq_true rfl) (fun _ _ => (gm_bnd hG (Nat.le_of_ble_eq_true rfl) (fun _ _ => (gm_tail hG (Nat.le_of_ble_eq_true rfl)))))) (gm_if (gm_bnd hG (Nat.le_of_ble_eq_true rfl) (fun _ _ => (gm_bnd hG (Nat.le_of_ble_eq_true rfl) (fun _ _ => (gm_tail hG (Nat.le_of_ble_eq_true rfl)))))) (gm_if (gm_bnd hG (Nat.le_of_ble_eq_true rfl) (fun _ _ => (gm_bnd hG (Nat.le_of_ble_eq_true rfl) (fun _ _ => (gm_tail hG (Nat.le_of_ble_eq_true rfl)))))) (gm_bnd hG (Nat.le_of_ble_eq_true rfl) (fun _ _ => (gm_bnd hG (Nat.le_of_ble_eq_true rfl) (fun _ _ => (gm_tail hG (Nat.le_of_ble_eq_true rfl)))))))))))))))))))
theorem qC_For_reachParts_p116 (rec : mF) (hG : GM rec) (σ : mS) (x0 x1 x2 x3 x4 x5 x6 x7 : Int32) : gm σ (kC_For_reachParts_p116 rec σ x0 x1 x2 x3 x4 x5 x6 x7) := by
  unfold kC_For_reachParts_p116
  exact (gm_if (gm_tail hG (Nat.le_of_ble_eq_true rfl)) (gm_tail hG (Nat.le_of_ble_eq_true rfl)))
theorem qC_For_reachParts_p125 (rec : mF) (hG : GM rec) (σ : mS) (x0 x1 x2 x3 x4 x5 x6 : Int32) : gm σ (kC_For_reachParts_p125 rec σ x0 x1 x2 x3 x4 x5 x6) := by
  unfold kC_For_reachParts_p125
  exact (gm_if (gm_lt ⟨Nat.le_refl _, Nat.le_refl _, rfl⟩ (gm_tail hG (Nat.le_of_ble_eq_true rfl))) gm_none)
theorem qC_For_reachParts_p180 (rec : mF) (hG : GM rec) (σ : mS) (x0 x1 x2 x3 x4 : Int32) : gm σ (kC_For_reachParts_p180 rec σ x0 x1 x2 x3 x4) := by
  unfold kC_For_reachParts_p180
  exact gm_some
theorem qC_For_replaceFree (rec : mF) (hG : GM rec) (σ : mS) (x0 x1 : Int32) : gm σ (kC_For_replaceFree rec σ x0 x1) := by
  unfold kC_For_replaceFree
  exact (gm_if (gm_tail hG (Nat.le_of_ble_eq_true rfl)) gm_none)
theorem qC_For_replaceFree_p12 (rec : mF) (hG : GM rec) (σ : mS) (x0 x1 x2 : Int32) : gm σ (kC_For_replaceFree_p12 rec σ x0 x1 x2) := by
  unfold kC_For_replaceFree_p12
  exact (gm_if (gm_if gm_some (gm_if (gm_if (gm_lt ⟨Nat.le_refl _, Nat.le_refl _, rfl⟩ (gm_tail hG (Nat.le_of_ble_eq_true rfl))) gm_none) gm_none)) gm_none)
theorem qC_For_variableOf (rec : mF) (hG : GM rec) (σ : mS) : gm σ (kC_For_variableOf rec σ) := by
  unfold kC_For_variableOf
  exact (gm_tail hG (Nat.le_of_ble_eq_true rfl))
theorem qC_For_variableOf_p7 (rec : mF) (hG : GM rec) (σ : mS) (x0 x1 : Int32) : gm σ (kC_For_variableOf_p7 rec σ x0 x1) := by
  unfold kC_For_variableOf_p7
  exact (gm_if (gm_tail hG (Nat.le_of_ble_eq_true rfl)) (gm_if (gm_tail hG (Nat.le_of_ble_eq_true rfl)) (gm_bnd hG (Nat.le_of_ble_eq_true rfl) (fun _ _ => (gm_if (gm_if (gm_tail hG (Nat.le_of_ble_eq_true rfl)) gm_none) gm_some)))))
theorem qC_For_variableOf_p43 (rec : mF) (hG : GM rec) (σ : mS) (x0 x1 : Int32) : gm σ (kC_For_variableOf_p43 rec σ x0 x1) := by
  unfold kC_For_variableOf_p43
  exact (gm_if (gm_tail hG (Nat.le_of_ble_eq_true rfl)) gm_none)
theorem qC_For_variableOf_p66 (rec : mF) (hG : GM rec) (σ : mS) (x0 x1 x2 : Int32) : gm σ (kC_For_variableOf_p66 rec σ x0 x1 x2) := by
  unfold kC_For_variableOf_p66
  exact (gm_if (gm_bnd hG (Nat.le_of_ble_eq_true rfl) (fun _ _ => (gm_if (gm_tail hG (Nat.le_of_ble_eq_true rfl)) (gm_if (gm_lt ⟨Nat.le_refl _, Nat.le_refl _, rfl⟩ (gm_if (gm_if (gm_lt ⟨Nat.le_refl _, Nat.le_refl _, rfl⟩ (gm_lt ⟨Nat.le_refl _, Nat.le_refl _, rfl⟩ (gm_if (gm_lt ⟨Nat.le_refl _, Nat.le_refl _, rfl⟩ (gm_if (gm_lt ⟨Nat.le_refl _, Nat.le_refl _, rfl⟩ (gm_tail hG (Nat.le_of_ble_eq_true rfl))) gm_none)) gm_none))) gm_none) gm_none)) gm_none)))) (gm_if (gm_bnd hG (Nat.le_of_ble_eq_true rfl) (fun _ _ => (gm_if (gm_tail hG (Nat.le_of_ble_eq_true rfl)) (gm_if gm_some gm_none)))) gm_none))
theorem qC_For_variableOf_p177 (rec : mF) (hG : GM rec) (σ : mS) (x0 x1 x2 : Int32) : gm σ (kC_For_variableOf_p177 rec σ x0 x1 x2) := by
  unfold kC_For_variableOf_p177
  exact gm_some
theorem qC_For_writeLiteral (rec : mF) (hG : GM rec) (σ : mS) (x0 x1 x2 : Int32) : gm σ (kC_For_writeLiteral rec σ x0 x1 x2) := by
  unfold kC_For_writeLiteral
  exact (gm_bnd hG (Nat.le_of_ble_eq_true rfl) (fun _ _ => (gm_bnd hG (Nat.le_of_ble_eq_true rfl) (fun _ _ => (gm_bnd hG (Nat.le_of_ble_eq_true rfl) (fun _ _ => (gm_if (gm_bnd hG (Nat.le_of_ble_eq_true rfl) (fun _ _ => (gm_tail hG (Nat.le_of_ble_eq_true rfl)))) (gm_bnd hG (Nat.le_of_ble_eq_true rfl) (fun _ _ => (gm_tail hG (Nat.le_of_ble_eq_true rfl)))))))))))
theorem qC_For_writeLiteral_p36 (rec : mF) (hG : GM rec) (σ : mS) (x0 x1 x2 : Int32) : gm σ (kC_For_writeLiteral_p36 rec σ x0 x1 x2) := by
  unfold kC_For_writeLiteral_p36
  exact (gm_bnd hG (Nat.le_of_ble_eq_true rfl) (fun _ _ => gm_some))
theorem qC_For_writeTerm (rec : mF) (hG : GM rec) (σ : mS) (x0 : Int32) : gm σ (kC_For_writeTerm rec σ x0) := by
  unfold kC_For_writeTerm
  exact (gm_bnd hG (Nat.le_of_ble_eq_true rfl) (fun _ _ => (gm_tail hG (Nat.le_of_ble_eq_true rfl))))
theorem qC_For_writeTerm_p19 (rec : mF) (hG : GM rec) (σ : mS) (x0 x1 x2 : Int32) : gm σ (kC_For_writeTerm_p19 rec σ x0 x1 x2) := by
  unfold kC_For_writeTerm_p19
  exact (gm_if (gm_tail hG (Nat.le_of_ble_eq_true rfl)) (gm_if (gm_if (gm_if (gm_if (gm_bnd hG (Nat.le_of_ble_eq_true rfl) (fun _ _ => (gm_tail hG (Nat.le_of_ble_eq_true rfl)))) gm_none) (gm_if (gm_bnd hG (Nat.le_of_ble_eq_true rfl) (fun _ _ => (gm_tail hG (Nat.le_of_ble_eq_true rfl)))) gm_none)) gm_none) (gm_tail hG (Nat.le_of_ble_eq_true rfl))))
theorem qC_For_writeTerm_p80 (rec : mF) (hG : GM rec) (σ : mS) (x0 x1 x2 : Int32) : gm σ (kC_For_writeTerm_p80 rec σ x0 x1 x2) := by
  unfold kC_For_writeTerm_p80
  exact (gm_tail hG (Nat.le_of_ble_eq_true rfl))
theorem qC_For_writeTerm_p86 (rec : mF) (hG : GM rec) (σ : mS) (x0 x1 x2 : Int32) : gm σ (kC_For_writeTerm_p86 rec σ x0 x1 x2) := by
  unfold kC_For_writeTerm_p86
  exact gm_some
theorem qC_For_writeVariable (rec : mF) (hG : GM rec) (σ : mS) (x0 x1 : Int32) : gm σ (kC_For_writeVariable rec σ x0 x1) := by
  unfold kC_For_writeVariable
  exact (gm_if (gm_if (gm_bnd hG (Nat.le_of_ble_eq_true rfl) (fun _ _ => (gm_bnd hG (Nat.le_of_ble_eq_true rfl) (fun _ _ => gm_some)))) (gm_if (gm_bnd hG (Nat.le_of_ble_eq_true rfl) (fun _ _ => (gm_bnd hG (Nat.le_of_ble_eq_true rfl) (fun _ _ => (gm_if (gm_tail hG (Nat.le_of_ble_eq_true rfl)) (gm_lt ⟨Nat.le_refl _, Nat.le_refl _, rfl⟩ (gm_tail hG (Nat.le_of_ble_eq_true rfl)))))))) gm_none)) gm_none)
theorem qC_For_writeVariable_p47 (rec : mF) (hG : GM rec) (σ : mS) (x0 x1 x2 : Int32) : gm σ (kC_For_writeVariable_p47 rec σ x0 x1 x2) := by
  unfold kC_For_writeVariable_p47
  exact (gm_tail hG (Nat.le_of_ble_eq_true rfl))
theorem qC_For_writeVariable_p50 (rec : mF) (hG : GM rec) (σ : mS) (x0 x1 x2 x3 : Int32) : gm σ (kC_For_writeVariable_p50 rec σ x0 x1 x2 x3) := by
  unfold kC_For_writeVariable_p50
  exact (gm_if (gm_tail hG (Nat.le_of_ble_eq_true rfl)) (gm_if (gm_bnd hG (Nat.le_of_ble_eq_true rfl) (fun _ _ => (gm_bnd hG (Nat.le_of_ble_eq_true rfl) (fun _ _ => (gm_tail hG (Nat.le_of_ble_eq_true rfl)))))) (gm_tail hG (Nat.le_of_ble_eq_true rfl))))
theorem qC_For_writeVariable_p85 (rec : mF) (hG : GM rec) (σ : mS) (x0 x1 x2 x3 : Int32) : gm σ (kC_For_writeVariable_p85 rec σ x0 x1 x2 x3) := by
  unfold kC_For_writeVariable_p85
  exact gm_some
theorem qC_Mat_coversAll (rec : mF) (hG : GM rec) (σ : mS) (x0 x1 x2 : Int32) : gm σ (kC_Mat_coversAll rec σ x0 x1 x2) := by
  unfold kC_Mat_coversAll
  exact (gm_if (gm_bnd hG (Nat.le_of_ble_eq_true rfl) (fun _ _ => (gm_tail hG (Nat.le_of_ble_eq_true rfl)))) gm_some)
theorem qC_Mat_coversAll_p27 (rec : mF) (hG : GM rec) (σ : mS) (x0 x1 x2 x3 x4 x5 : Int32) : gm σ (kC_Mat_coversAll_p27 rec σ x0 x1 x2 x3 x4 x5) := by
  unfold kC_Mat_coversAll_p27
  exact (gm_bnd hG (Nat.le_of_ble_eq_true rfl) (fun _ _ => (gm_if gm_some (gm_tail hG (Nat.le_of_ble_eq_true rfl)))))
theorem qC_Mat_coversAll_p44 (rec : mF) (hG : GM rec) (σ : mS) (x0 x1 x2 x3 x4 x5 x6 : Int32) : gm σ (kC_Mat_coversAll_p44 rec σ x0 x1 x2 x3 x4 x5 x6) := by
  unfold kC_Mat_coversAll_p44
  exact (gm_if (gm_tail hG (Nat.le_of_ble_eq_true rfl)) (gm_bnd hG (Nat.le_of_ble_eq_true rfl) (fun _ _ => (gm_bnd hG (Nat.le_of_ble_eq_true rfl) (fun _ _ => (gm_if (gm_lt ⟨Nat.le_refl _, Nat.le_refl _, rfl⟩ (gm_bnd hG (Nat.le_of_ble_eq_true rfl) (fun _ _ => (gm_bnd hG (Nat.le_of_ble_eq_true rfl) (fun _ _ => (gm_bnd hG (Nat.le_of_ble_eq_true rfl) (fun _ _ => (gm_bnd hG (Nat.le_of_ble_eq_true rfl) (fun _ _ => (gm_bnd hG (Nat.le_of_ble_eq_true rfl) (fun _ _ => (gm_if (gm_tail hG (Nat.le_of_ble_eq_true rfl)) (gm_bnd hG (Nat.le_of_ble_eq_true rfl) (fun _ _ => (gm_bnd hG (Nat.le_of_ble_eq_true rfl) (fun _ _ => (gm_bnd hG (Nat.le_of_ble_eq_true rfl) (fun _ _ => (gm_if (gm_tail hG (Nat.le_of_ble_eq_true rfl)) (gm_bnd hG (Nat.le_of_ble_eq_true rfl) (fun _ _ => (gm_bnd hG (Nat.le_of_ble_eq_true rfl) (fun _ _ => (gm_if (gm_tail hG (Nat.le_of_ble_eq_true rfl)) gm_some)))))))))))))))))))))))) (gm_tail hG (Nat.le_of_ble_eq_true rfl))))))))
theorem qC_Mat_coversAll_p199 (rec : mF) (hG : GM rec) (σ : mS) (x0 x1 x2 x3 x4 x5 x6 x7 x8 : Int32) : gm σ (kC_Mat_coversAll_p199 rec σ x0 x1 x2 x3 x4 x5 x6 x7 x8) := by
  unfold kC_Mat_coversAll_p199
  exact (gm_tail hG (Nat.le_of_ble_eq_true rfl))
theorem qC_Mat_coversAll_p205 (rec : mF) (hG : GM rec) (σ : mS) (x0 x1 x2 x3 x4 x5 x6 : Int32) : gm σ (kC_Mat_coversAll_p205 rec σ x0 x1 x2 x3 x4 x5 x6) := by
  unfold kC_Mat_coversAll_p205
  exact (gm_bnd hG (Nat.le_of_ble_eq_true rfl) (fun _ _ => (gm_tail hG (Nat.le_of_ble_eq_true rfl))))
theorem qC_Mat_makeImage_40 (rec : mF) (hG : GM rec) (σ : mS) (x0 x1 x2 : Int32) : gm σ (kC_Mat_makeImage_40 rec σ x0 x1 x2) := by
  unfold kC_Mat_makeImage_40
  exact (gm_lt ⟨Nat.le_refl _, Nat.le_refl _, rfl⟩ (gm_tail hG (Nat.le_of_ble_eq_true rfl)))
theorem qC_Mat_makeImage_40_p8 (rec : mF) (hG : GM rec) (σ : mS) (x0 x1 x2 x3 : Int32) : gm σ (kC_Mat_makeImage_40_p8 rec σ x0 x1 x2 x3) := by
  unfold kC_Mat_makeImage_40_p8
  exact (gm_if gm_some (gm_if (gm_if (gm_tail hG (Nat.le_of_ble_eq_true rfl)) (gm_if gm_some (gm_tail hG (Nat.le_of_ble_eq_true rfl)))) gm_none))
theorem qC_Mat_makeImage_40_p52 (rec : mF) (hG : GM rec) (σ : mS) (x0 x1 x2 x3 x4 : Int32) : gm σ (kC_Mat_makeImage_40_p52 rec σ x0 x1 x2 x3 x4) := by
  unfold kC_Mat_makeImage_40_p52
  exact (gm_if (gm_tail hG (Nat.le_of_ble_eq_true rfl)) (gm_if (gm_tail hG (Nat.le_of_ble_eq_true rfl)) gm_none))
theorem qC_Mat_makeImage_40_p70 (rec : mF) (hG : GM rec) (σ : mS) (x0 x1 x2 x3 x4 x5 : Int32) : gm σ (kC_Mat_makeImage_40_p70 rec σ x0 x1 x2 x3 x4 x5) := by
  unfold kC_Mat_makeImage_40_p70
  exact (gm_if (gm_tail hG (Nat.le_of_ble_eq_true rfl)) (gm_bnd hG (Nat.le_of_ble_eq_true rfl) (fun _ _ => (gm_tail hG (Nat.le_of_ble_eq_true rfl)))))
theorem qC_Mat_makeImage_40_p94 (rec : mF) (hG : GM rec) (σ : mS) (x0 x1 x2 x3 x4 x5 x6 : Int32) : gm σ (kC_Mat_makeImage_40_p94 rec σ x0 x1 x2 x3 x4 x5 x6) := by
  unfold kC_Mat_makeImage_40_p94
  exact (gm_if (gm_tail hG (Nat.le_of_ble_eq_true rfl)) (gm_if (gm_if (gm_if (gm_lt ⟨Nat.le_refl _, Nat.le_refl _, rfl⟩ (gm_tail hG (Nat.le_of_ble_eq_true rfl))) gm_none) (gm_if (gm_lt ⟨Nat.le_refl _, Nat.le_refl _, rfl⟩ (gm_tail hG (Nat.le_of_ble_eq_true rfl))) gm_none)) (gm_tail hG (Nat.le_of_ble_eq_true rfl))))
theorem qC_Mat_makeImage_40_p123 (rec : mF) (hG : GM rec) (σ : mS) (x0 x1 x2 x3 x4 x5 x6 : Int32) : gm σ (kC_Mat_makeImage_40_p123 rec σ x0 x1 x2 x3 x4 x5 x6) := by
  unfold kC_Mat_makeImage_40_p123
  exact gm_some
theorem qC_Mat_makeImage_40_p160 (rec : mF) (hG : GM rec) (σ : mS) (x0 x1 x2 x3 x4 x5 x6 : Int32) : gm σ (kC_Mat_makeImage_40_p160 rec σ x0 x1 x2 x3 x4 x5 x6) := by
  unfold kC_Mat_makeImage_40_p160
  exact (gm_lt ⟨Nat.le_refl _, Nat.le_refl _, rfl⟩ (gm_tail hG (Nat.le_of_ble_eq_true rfl)))
theorem qC_Mat_makeImage_48 (rec : mF) (hG : GM rec) (σ : mS) (x0 x1 x2 : Int32) : gm σ (kC_Mat_makeImage_48 rec σ x0 x1 x2) := by
  unfold kC_Mat_makeImage_48
  exact (gm_lt ⟨Nat.le_refl _, Nat.le_refl _, rfl⟩ (gm_tail hG (Nat.le_of_ble_eq_true rfl)))
theorem qC_Mat_makeImage_48_p8 (rec : mF) (hG : GM rec) (σ : mS) (x0 x1 x2 x3 : Int32) : gm σ (kC_Mat_makeImage_48_p8 rec σ x0 x1 x2 x3) := by
  unfold kC_Mat_makeImage_48_p8
  exact (gm_if gm_some (gm_if (gm_if (gm_tail hG (Nat.le_of_ble_eq_true rfl)) (gm_if gm_some (gm_tail hG (Nat.le_of_ble_eq_true rfl)))) gm_none))
theorem qC_Mat_makeImage_48_p52 (rec : mF) (hG : GM rec) (σ : mS) (x0 x1 x2 x3 x4 : Int32) : gm σ (kC_Mat_makeImage_48_p52 rec σ x0 x1 x2 x3 x4) := by
  unfold kC_Mat_makeImage_48_p52
  exact (gm_if (gm_tail hG (Nat.le_of_ble_eq_true rfl)) (gm_if (gm_tail hG (Nat.le_of_ble_eq_true rfl)) gm_none))
theorem qC_Mat_makeImage_48_p70 (rec : mF) (hG : GM rec) (σ : mS) (x0 x1 x2 x3 x4 x5 : Int32) : gm σ (kC_Mat_makeImage_48_p70 rec σ x0 x1 x2 x3 x4 x5) := by
  unfold kC_Mat_makeImage_48_p70
  exact (gm_if (gm_tail hG (Nat.le_of_ble_eq_true rfl)) (gm_bnd hG (Nat.le_of_ble_eq_true rfl) (fun _ _ => (gm_tail hG (Nat.le_of_ble_eq_true rfl)))))
theorem qC_Mat_makeImage_48_p94 (rec : mF) (hG : GM rec) (σ : mS) (x0 x1 x2 x3 x4 x5 x6 : Int32) : gm σ (kC_Mat_makeImage_48_p94 rec σ x0 x1 x2 x3 x4 x5 x6) := by
  unfold kC_Mat_makeImage_48_p94
  exact (gm_if (gm_tail hG (Nat.le_of_ble_eq_true rfl)) (gm_if (gm_if (gm_if (gm_lt ⟨Nat.le_refl _, Nat.le_refl _, rfl⟩ (gm_tail hG (Nat.le_of_ble_eq_true rfl))) gm_none) (gm_if (gm_lt ⟨Nat.le_refl _, Nat.le_refl _, rfl⟩ (gm_tail hG (Nat.le_of_ble_eq_true rfl))) gm_none)) (gm_tail hG (Nat.le_of_ble_eq_true rfl))))
theorem qC_Mat_makeImage_48_p123 (rec : mF) (hG : GM rec) (σ : mS) (x0 x1 x2 x3 x4 x5 x6 : Int32) : gm σ (kC_Mat_makeImage_48_p123 rec σ x0 x1 x2 x3 x4 x5 x6) := by
  unfold kC_Mat_makeImage_48_p123
  exact gm_some
theorem qC_Mat_makeImage_48_p160 (rec : mF) (hG : GM rec) (σ : mS) (x0 x1 x2 x3 x4 x5 x6 : Int32) : gm σ (kC_Mat_makeImage_48_p160 rec σ x0 x1 x2 x3 x4 x5 x6) := by
  unfold kC_Mat_makeImage_48_p160
  exact (gm_lt ⟨Nat.le_refl _, Nat.le_refl _, rfl⟩ (gm_tail hG (Nat.le_of_ble_eq_true rfl)))
theorem qC_Mat_matches_40 (rec : mF) (hG : GM rec) (σ : mS) (x0 x1 x2 : Int32) : gm σ (kC_Mat_matches_40 rec σ x0 x1 x2) := by
  unfold kC_Mat_matches_40
  exact (gm_tail hG (Nat.le_of_ble_eq_true rfl))
theorem qC_Mat_matches_40_p19 (rec : mF) (hG : GM rec) (σ : mS) (x0 x1 x2 x3 x4 : Int32) : gm σ (kC_Mat_matches_40_p19 rec σ x0 x1 x2 x3 x4) := by
  unfold kC_Mat_matches_40_p19
  exact (gm_if gm_some (gm_if (gm_if (gm_if (gm_if (gm_if (gm_if (gm_tail hG (Nat.le_of_ble_eq_true rfl)) (gm_if (gm_bnd hG (Nat.le_of_ble_eq_true rfl) (fun _ _ => (gm_if (gm_tail hG (Nat.le_of_ble_eq_true rfl)) gm_some))) gm_none)) gm_none) (gm_if (gm_bnd hG (Nat.le_of_ble_eq_true rfl) (fun _ _ => (gm_if gm_some (gm_tail hG (Nat.le_of_ble_eq_true rfl))))) gm_none)) gm_none) (gm_if (gm_if (gm_if (gm_tail hG (Nat.le_of_ble_eq_true rfl)) gm_some) gm_none) gm_none)) gm_none))
theorem qC_Mat_matches_40_p99 (rec : mF) (hG : GM rec) (σ : mS) (x0 x1 x2 x3 x4 x5 : Int32) : gm σ (kC_Mat_matches_40_p99 rec σ x0 x1 x2 x3 x4 x5) := by
  unfold kC_Mat_matches_40_p99
  exact (gm_if (gm_lt ⟨Nat.le_refl _, Nat.le_refl _, rfl⟩ (gm_lt ⟨Nat.le_refl _, Nat.le_refl _, rfl⟩ (gm_tail hG (Nat.le_of_ble_eq_true rfl)))) gm_none)
theorem qC_Mat_matches_40_p147 (rec : mF) (hG : GM rec) (σ : mS) (x0 x1 x2 x3 x4 x5 : Int32) : gm σ (kC_Mat_matches_40_p147 rec σ x0 x1 x2 x3 x4 x5) := by
  unfold kC_Mat_matches_40_p147
  exact (gm_bnd hG (Nat.le_of_ble_eq_true rfl) (fun _ _ => (gm_tail hG (Nat.le_of_ble_eq_true rfl))))
theorem qC_Mat_matches_40_p159 (rec : mF) (hG : GM rec) (σ : mS) (x0 x1 x2 x3 x4 : Int32) : gm σ (kC_Mat_matches_40_p159 rec σ x0 x1 x2 x3 x4) := by
  unfold kC_Mat_matches_40_p159
  exact (gm_tail hG (Nat.le_of_ble_eq_true rfl))
theorem qC_Mat_matches_48 (rec : mF) (hG : GM rec) (σ : mS) (x0 x1 x2 : Int32) : gm σ (kC_Mat_matches_48 rec σ x0 x1 x2) := by
  unfold kC_Mat_matches_48
  exact (gm_tail hG (Nat.le_of_ble_eq_true rfl))
theorem qC_Mat_matches_48_p19 (rec : mF) (hG : GM rec) (σ : mS) (x0 x1 x2 x3 x4 : Int32) : gm σ (kC_Mat_matches_48_p19 rec σ x0 x1 x2 x3 x4) := by
  unfold kC_Mat_matches_48_p19
  exact (gm_if gm_some (gm_if (gm_if (gm_if (gm_if (gm_if (gm_if (gm_tail hG (Nat.le_of_ble_eq_true rfl)) (gm_if (gm_bnd hG (Nat.le_of_ble_eq_true rfl) (fun _ _ => (gm_if (gm_tail hG (Nat.le_of_ble_eq_true rfl)) gm_some))) gm_none)) gm_none) (gm_if (gm_bnd hG (Nat.le_of_ble_eq_true rfl) (fun _ _ => (gm_if gm_some (gm_tail hG (Nat.le_of_ble_eq_true rfl))))) gm_none)) gm_none) (gm_if (gm_if (gm_if (gm_tail hG (Nat.le_of_ble_eq_true rfl)) gm_some) gm_none) gm_none)) gm_none))
theorem qC_Mat_matches_48_p99 (rec : mF) (hG : GM rec) (σ : mS) (x0 x1 x2 x3 x4 x5 : Int32) : gm σ (kC_Mat_matches_48_p99 rec σ x0 x1 x2 x3 x4 x5) := by
  unfold kC_Mat_matches_48_p99
  exact (gm_if (gm_lt ⟨Nat.le_refl _, Nat.le_refl _, rfl⟩ (gm_lt ⟨Nat.le_refl _, Nat.le_refl _, rfl⟩ (gm_tail hG (Nat.le_of_ble_eq_true rfl)))) gm_none)
theorem qC_Mat_matches_48_p147 (rec : mF) (hG : GM rec) (σ : mS) (x0 x1 x2 x3 x4 x5 : Int32) : gm σ (kC_Mat_matches_48_p147 rec σ x0 x1 x2 x3 x4 x5) := by
  unfold kC_Mat_matches_48_p147
  exact (gm_bnd hG (Nat.le_of_ble_eq_true rfl) (fun _ _ => (gm_tail hG (Nat.le_of_ble_eq_true rfl))))
theorem qC_Mat_matches_48_p159 (rec : mF) (hG : GM rec) (σ : mS) (x0 x1 x2 x3 x4 : Int32) : gm σ (kC_Mat_matches_48_p159 rec σ x0 x1 x2 x3 x4) := by
  unfold kC_Mat_matches_48_p159
  exact (gm_tail hG (Nat.le_of_ble_eq_true rfl))
theorem qC_Mat_rewriteFirst_r57 (rec : mF) (hG : GM rec) (σ : mS) : gm σ (kC_Mat_rewriteFirst_r57 rec σ) := by
  unfold kC_Mat_rewriteFirst_r57
  exact (gm_tail hG (Nat.le_of_ble_eq_true rfl))
theorem qC_Mat_rewriteFirst_r57_p2 (rec : mF) (hG : GM rec) (σ : mS) (x0 : Int32) : gm σ (kC_Mat_rewriteFirst_r57_p2 rec σ x0) := by
  unfold kC_Mat_rewriteFirst_r57_p2
  exact (gm_if gm_some (gm_tail hG (Nat.le_of_ble_eq_true rfl)))
theorem qC_Mat_rewriteFirst_r57_p13 (rec : mF) (hG : GM rec) (σ : mS) (x0 x1 : Int32) : gm σ (kC_Mat_rewriteFirst_r57_p13 rec σ x0 x1) := by
  unfold kC_Mat_rewriteFirst_r57_p13
  exact (gm_if (gm_if (gm_tail hG (Nat.le_of_ble_eq_true rfl)) (gm_if (gm_tail hG (Nat.le_of_ble_eq_true rfl)) (gm_if (gm_bnd hG (Nat.le_of_ble_eq_true rfl) (fun _ _ => (gm_if (gm_bnd hG (Nat.le_of_ble_eq_true rfl) (fun _ _ => (gm_if (gm_tail hG (Nat.le_of_ble_eq_true rfl)) (gm_tail hG (Nat.le_of_ble_eq_true rfl))))) (gm_tail hG (Nat.le_of_ble_eq_true rfl))))) gm_none))) gm_none)
theorem qC_Mat_rewriteFirst_r57_p70 (rec : mF) (hG : GM rec) (σ : mS) (x0 x1 x2 : Int32) : gm σ (kC_Mat_rewriteFirst_r57_p70 rec σ x0 x1 x2) := by
  unfold kC_Mat_rewriteFirst_r57_p70
  exact (gm_bnd hG (Nat.le_of_ble_eq_true rfl) (fun _ _ => gm_some))
theorem qC_Mat_rewriteFirst_r57_p92 (rec : mF) (hG : GM rec) (σ : mS) (x0 x1 : Int32) : gm σ (kC_Mat_rewriteFirst_r57_p92 rec σ x0 x1) := by
  unfold kC_Mat_rewriteFirst_r57_p92
  exact (gm_tail hG (Nat.le_of_ble_eq_true rfl))
theorem qC_Mat_rewrites_40 (rec : mF) (hG : GM rec) (σ : mS) (x0 x1 x2 : Int32) : gm σ (kC_Mat_rewrites_40 rec σ x0 x1 x2) := by
  unfold kC_Mat_rewrites_40
  exact (gm_bnd hG (Nat.le_of_ble_eq_true rfl) (fun _ _ => (gm_bnd hG (Nat.le_of_ble_eq_true rfl) (fun _ _ => (gm_if (gm_if (gm_tail hG (Nat.le_of_ble_eq_true rfl)) (gm_if (gm_if (gm_tail hG (Nat.le_of_ble_eq_true rfl)) gm_some) gm_none)) gm_none)))))
theorem qC_Mat_rewrites_40_p55 (rec : mF) (hG : GM rec) (σ : mS) (x0 x1 x2 x3 x4 x5 : Int32) : gm σ (kC_Mat_rewrites_40_p55 rec σ x0 x1 x2 x3 x4 x5) := by
  unfold kC_Mat_rewrites_40_p55
  exact (gm_lt ⟨Nat.le_refl _, Nat.le_refl _, rfl⟩ (gm_bnd hG (Nat.le_of_ble_eq_true rfl) (fun _ _ => (gm_bnd hG (Nat.le_of_ble_eq_true rfl) (fun _ _ => (gm_if gm_some (gm_bnd hG (Nat.le_of_ble_eq_true rfl) (fun _ _ => (gm_bnd hG (Nat.le_of_ble_eq_true rfl) (fun _ _ => (gm_bnd hG (Nat.le_of_ble_eq_true rfl) (fun _ _ => (gm_bnd hG (Nat.le_of_ble_eq_true rfl) (fun _ _ => (gm_if (gm_tail hG (Nat.le_of_ble_eq_true rfl)) (gm_bnd hG (Nat.le_of_ble_eq_true rfl) (fun _ _ => (gm_if (gm_tail hG (Nat.le_of_ble_eq_true rfl)) (gm_tail hG (Nat.le_of_ble_eq_true rfl))))))))))))))))))))
theorem qC_Mat_rewrites_40_p159 (rec : mF) (hG : GM rec) (σ : mS) (x0 x1 x2 x3 x4 x5 x6 x7 : Int32) : gm σ (kC_Mat_rewrites_40_p159 rec σ x0 x1 x2 x3 x4 x5 x6 x7) := by
  unfold kC_Mat_rewrites_40_p159
  exact (gm_tail hG (Nat.le_of_ble_eq_true rfl))
theorem qC_Mat_rewrites_40_p160 (rec : mF) (hG : GM rec) (σ : mS) (x0 x1 x2 x3 x4 x5 x6 x7 x8 : Int32) : gm σ (kC_Mat_rewrites_40_p160 rec σ x0 x1 x2 x3 x4 x5 x6 x7 x8) := by
  unfold kC_Mat_rewrites_40_p160
  exact (gm_if gm_some gm_none)
theorem qC_Mat_rewrites_48 (rec : mF) (hG : GM rec) (σ : mS) (x0 x1 x2 : Int32) : gm σ (kC_Mat_rewrites_48 rec σ x0 x1 x2) := by
  unfold kC_Mat_rewrites_48
  exact (gm_bnd hG (Nat.le_of_ble_eq_true rfl) (fun _ _ => (gm_bnd hG (Nat.le_of_ble_eq_true rfl) (fun _ _ => (gm_if (gm_if (gm_tail hG (Nat.le_of_ble_eq_true rfl)) (gm_if (gm_if (gm_tail hG (Nat.le_of_ble_eq_true rfl)) gm_some) gm_none)) gm_none)))))
theorem qC_Mat_rewrites_48_p55 (rec : mF) (hG : GM rec) (σ : mS) (x0 x1 x2 x3 x4 x5 : Int32) : gm σ (kC_Mat_rewrites_48_p55 rec σ x0 x1 x2 x3 x4 x5) := by
  unfold kC_Mat_rewrites_48_p55
  exact (gm_lt ⟨Nat.le_refl _, Nat.le_refl _, rfl⟩ (gm_bnd hG (Nat.le_of_ble_eq_true rfl) (fun _ _ => (gm_bnd hG (Nat.le_of_ble_eq_true rfl) (fun _ _ => (gm_if gm_some (gm_bnd hG (Nat.le_of_ble_eq_true rfl) (fun _ _ => (gm_bnd hG (Nat.le_of_ble_eq_true rfl) (fun _ _ => (gm_bnd hG (Nat.le_of_ble_eq_true rfl) (fun _ _ => (gm_bnd hG (Nat.le_of_ble_eq_true rfl) (fun _ _ => (gm_if (gm_tail hG (Nat.le_of_ble_eq_true rfl)) (gm_bnd hG (Nat.le_of_ble_eq_true rfl) (fun _ _ => (gm_if (gm_tail hG (Nat.le_of_ble_eq_true rfl)) (gm_tail hG (Nat.le_of_ble_eq_true rfl))))))))))))))))))))
theorem qC_Mat_rewrites_48_p159 (rec : mF) (hG : GM rec) (σ : mS) (x0 x1 x2 x3 x4 x5 x6 x7 : Int32) : gm σ (kC_Mat_rewrites_48_p159 rec σ x0 x1 x2 x3 x4 x5 x6 x7) := by
  unfold kC_Mat_rewrites_48_p159
  exact (gm_tail hG (Nat.le_of_ble_eq_true rfl))
theorem qC_Mat_rewrites_48_p160 (rec : mF) (hG : GM rec) (σ : mS) (x0 x1 x2 x3 x4 x5 x6 x7 x8 : Int32) : gm σ (kC_Mat_rewrites_48_p160 rec σ x0 x1 x2 x3 x4 x5 x6 x7 x8) := by
  unfold kC_Mat_rewrites_48_p160
  exact (gm_if gm_some gm_none)
theorem qC_Mat_rewritesIn (rec : mF) (hG : GM rec) (σ : mS) (x0 x1 : Int32) : gm σ (kC_Mat_rewritesIn rec σ x0 x1) := by
  unfold kC_Mat_rewritesIn
  exact (gm_bnd hG (Nat.le_of_ble_eq_true rfl) (fun _ _ => (gm_tail hG (Nat.le_of_ble_eq_true rfl))))
theorem qC_Mat_rewritesIn_p26 (rec : mF) (hG : GM rec) (σ : mS) (x0 x1 x2 x3 : Int32) : gm σ (kC_Mat_rewritesIn_p26 rec σ x0 x1 x2 x3) := by
  unfold kC_Mat_rewritesIn_p26
  exact (gm_bnd hG (Nat.le_of_ble_eq_true rfl) (fun _ _ => (gm_if gm_some (gm_bnd hG (Nat.le_of_ble_eq_true rfl) (fun _ _ => (gm_bnd hG (Nat.le_of_ble_eq_true rfl) (fun _ _ => (gm_tail hG (Nat.le_of_ble_eq_true rfl)))))))))
theorem qC_Mat_rewritesIn_p61 (rec : mF) (hG : GM rec) (σ : mS) (x0 x1 x2 x3 x4 x5 : Int32) : gm σ (kC_Mat_rewritesIn_p61 rec σ x0 x1 x2 x3 x4 x5) := by
  unfold kC_Mat_rewritesIn_p61
  exact (gm_if (gm_tail hG (Nat.le_of_ble_eq_true rfl)) (gm_if (gm_if (gm_tail hG (Nat.le_of_ble_eq_true rfl)) (gm_bnd hG (Nat.le_of_ble_eq_true rfl) (fun _ _ => (gm_if (gm_bnd hG (Nat.le_of_ble_eq_true rfl) (fun _ _ => (gm_if (gm_tail hG (Nat.le_of_ble_eq_true rfl)) (gm_tail hG (Nat.le_of_ble_eq_true rfl))))) (gm_tail hG (Nat.le_of_ble_eq_true rfl)))))) gm_none))
theorem qC_Mat_rewritesIn_p102 (rec : mF) (hG : GM rec) (σ : mS) (x0 x1 x2 x3 x4 x5 : Int32) : gm σ (kC_Mat_rewritesIn_p102 rec σ x0 x1 x2 x3 x4 x5) := by
  unfold kC_Mat_rewritesIn_p102
  exact gm_some
theorem qC_Mat_rewritesIn_p104 (rec : mF) (hG : GM rec) (σ : mS) (x0 x1 x2 x3 x4 x5 : Int32) : gm σ (kC_Mat_rewritesIn_p104 rec σ x0 x1 x2 x3 x4 x5) := by
  unfold kC_Mat_rewritesIn_p104
  exact (gm_tail hG (Nat.le_of_ble_eq_true rfl))
theorem qC_Mat_subsumes (rec : mF) (hG : GM rec) (σ : mS) (x0 x1 : Int32) : gm σ (kC_Mat_subsumes rec σ x0 x1) := by
  unfold kC_Mat_subsumes
  exact (gm_bnd hG (Nat.le_of_ble_eq_true rfl) (fun _ _ => (gm_bnd hG (Nat.le_of_ble_eq_true rfl) (fun _ _ => (gm_if (gm_tail hG (Nat.le_of_ble_eq_true rfl)) (gm_tail hG (Nat.le_of_ble_eq_true rfl)))))))
theorem qC_Mat_subsumes_p28 (rec : mF) (hG : GM rec) (σ : mS) (x0 x1 x2 x3 : Int32) : gm σ (kC_Mat_subsumes_p28 rec σ x0 x1 x2 x3) := by
  unfold kC_Mat_subsumes_p28
  exact (gm_bnd hG (Nat.le_of_ble_eq_true rfl) (fun _ _ => (gm_tail hG (Nat.le_of_ble_eq_true rfl))))
theorem qC_Mat_subsumes_p45 (rec : mF) (hG : GM rec) (σ : mS) (x0 x1 x2 x3 x4 x5 : Int32) : gm σ (kC_Mat_subsumes_p45 rec σ x0 x1 x2 x3 x4 x5) := by
  unfold kC_Mat_subsumes_p45
  exact (gm_if (gm_tail hG (Nat.le_of_ble_eq_true rfl)) (gm_if (gm_tail hG (Nat.le_of_ble_eq_true rfl)) (gm_lt ⟨Nat.le_refl _, Nat.le_refl _, rfl⟩ (gm_bnd hG (Nat.le_of_ble_eq_true rfl) (fun _ _ => (gm_bnd hG (Nat.le_of_ble_eq_true rfl) (fun _ _ => (gm_tail hG (Nat.le_of_ble_eq_true rfl)))))))))
theorem qC_Mat_subsumes_p88 (rec : mF) (hG : GM rec) (σ : mS) (x0 x1 x2 x3 x4 x5 : Int32) : gm σ (kC_Mat_subsumes_p88 rec σ x0 x1 x2 x3 x4 x5) := by
  unfold kC_Mat_subsumes_p88
  exact (gm_lt ⟨Nat.le_refl _, Nat.le_refl _, rfl⟩ (gm_if (gm_tail hG (Nat.le_of_ble_eq_true rfl)) (gm_if (gm_tail hG (Nat.le_of_ble_eq_true rfl)) (gm_bnd hG (Nat.le_of_ble_eq_true rfl) (fun _ _ => (gm_bnd hG (Nat.le_of_ble_eq_true rfl) (fun _ _ => (gm_if (gm_tail hG (Nat.le_of_ble_eq_true rfl)) (gm_tail hG (Nat.le_of_ble_eq_true rfl))))))))))
theorem qC_Mat_subsumes_p122 (rec : mF) (hG : GM rec) (σ : mS) (x0 x1 x2 x3 x4 x5 : Int32) : gm σ (kC_Mat_subsumes_p122 rec σ x0 x1 x2 x3 x4 x5) := by
  unfold kC_Mat_subsumes_p122
  exact (gm_tail hG (Nat.le_of_ble_eq_true rfl))
theorem qC_Mat_subsumes_p126 (rec : mF) (hG : GM rec) (σ : mS) (x0 x1 x2 x3 x4 x5 : Int32) : gm σ (kC_Mat_subsumes_p126 rec σ x0 x1 x2 x3 x4 x5) := by
  unfold kC_Mat_subsumes_p126
  exact (gm_tail hG (Nat.le_of_ble_eq_true rfl))
theorem qC_Mat_subsumes_p127 (rec : mF) (hG : GM rec) (σ : mS) (x0 x1 x2 x3 x4 x5 x6 : Int32) : gm σ (kC_Mat_subsumes_p127 rec σ x0 x1 x2 x3 x4 x5 x6) := by
  unfold kC_Mat_subsumes_p127
  exact (gm_if gm_some gm_none)
theorem qC_Mod_apply (rec : mF) (hG : GM rec) (σ : mS) (x0 x1 : Int32) : gm σ (kC_Mod_apply rec σ x0 x1) := by
  unfold kC_Mod_apply
  exact (gm_bnd hG (Nat.le_of_ble_eq_true rfl) (fun _ _ => (gm_if (gm_tail hG (Nat.le_of_ble_eq_true rfl)) gm_none)))
theorem qC_Mod_apply_p24 (rec : mF) (hG : GM rec) (σ : mS) (x0 x1 x2 x3 : Int32) : gm σ (kC_Mod_apply_p24 rec σ x0 x1 x2 x3) := by
  unfold kC_Mod_apply_p24
  exact (gm_if (gm_bnd hG (Nat.le_of_ble_eq_true rfl) (fun _ _ => (gm_if (gm_if gm_none (gm_tail hG (Nat.le_of_ble_eq_true rfl))) (gm_tail hG (Nat.le_of_ble_eq_true rfl))))) (gm_if (gm_bnd hG (Nat.le_of_ble_eq_true rfl) (fun _ _ => (gm_tail hG (Nat.le_of_ble_eq_true rfl)))) gm_none))
theorem qC_Mod_apply_p91 (rec : mF) (hG : GM rec) (σ : mS) (x0 x1 x2 x3 x4 : Int32) : gm σ (kC_Mod_apply_p91 rec σ x0 x1 x2 x3 x4) := by
  unfold kC_Mod_apply_p91
  exact gm_some
theorem qC_Mod_holds (rec : mF) (hG : GM rec) (σ : mS) (x0 : Int32) : gm σ (kC_Mod_holds rec σ x0) := by
  unfold kC_Mod_holds
  exact (gm_bnd hG (Nat.le_of_ble_eq_true rfl) (fun _ _ => (gm_tail hG (Nat.le_of_ble_eq_true rfl))))
theorem qC_Mod_holds_p13 (rec : mF) (hG : GM rec) (σ : mS) (x0 x1 x2 : Int32) : gm σ (kC_Mod_holds_p13 rec σ x0 x1 x2) := by
  unfold kC_Mod_holds_p13
  exact (gm_bnd hG (Nat.le_of_ble_eq_true rfl) (fun _ _ => (gm_if gm_some (gm_bnd hG (Nat.le_of_ble_eq_true rfl) (fun _ _ => (gm_bnd hG (Nat.le_of_ble_eq_true rfl) (fun _ _ => (gm_bnd hG (Nat.le_of_ble_eq_true rfl) (fun _ _ => (gm_bnd hG (Nat.le_of_ble_eq_true rfl) (fun _ _ => (gm_bnd hG (Nat.le_of_ble_eq_true rfl) (fun _ _ => (gm_if (gm_tail hG (Nat.le_of_ble_eq_true rfl)) (gm_tail hG (Nat.le_of_ble_eq_true rfl))))))))))))))))
theorem qC_Mod_holds_p82 (rec : mF) (hG : GM rec) (σ : mS) (x0 x1 x2 x3 x4 x5 x6 : Int32) : gm σ (kC_Mod_holds_p82 rec σ x0 x1 x2 x3 x4 x5 x6) := by
  unfold kC_Mod_holds_p82
  exact (gm_bnd hG (Nat.le_of_ble_eq_true rfl) (fun _ _ => (gm_if gm_some (gm_tail hG (Nat.le_of_ble_eq_true rfl)))))
theorem qC_Mod_makesTrue (rec : mF) (hG : GM rec) (σ : mS) (x0 : Int32) : gm σ (kC_Mod_makesTrue rec σ x0) := by
  unfold kC_Mod_makesTrue
  exact (gm_bnd hG (Nat.le_of_ble_eq_true rfl) (fun _ _ => (gm_tail hG (Nat.le_of_ble_eq_true rfl))))
theorem qC_Mod_makesTrue_p15 (rec : mF) (hG : GM rec) (σ : mS) (x0 x1 x2 x3 : Int32) : gm σ (kC_Mod_makesTrue_p15 rec σ x0 x1 x2 x3) := by
  unfold kC_Mod_makesTrue_p15
  exact (gm_if (gm_tail hG (Nat.le_of_ble_eq_true rfl)) (gm_if (gm_lt ⟨Nat.le_refl _, Nat.le_refl _, rfl⟩ (gm_tail hG (Nat.le_of_ble_eq_true rfl))) gm_none))
theorem qC_Mod_makesTrue_p45 (rec : mF) (hG : GM rec) (σ : mS) (x0 x1 x2 x3 : Int32) : gm σ (kC_Mod_makesTrue_p45 rec σ x0 x1 x2 x3) := by
  unfold kC_Mod_makesTrue_p45
  exact (gm_if gm_some (gm_bnd hG (Nat.le_of_ble_eq_true rfl) (fun _ _ => (gm_if gm_some (gm_bnd hG (Nat.le_of_ble_eq_true rfl) (fun _ _ => (gm_tail hG (Nat.le_of_ble_eq_true rfl))))))))
theorem qC_Mod_mix (rec : mF) (hG : GM rec) (σ : mS) (x0 x1 : Int32) : gm σ (kC_Mod_mix rec σ x0 x1) := by
  unfold kC_Mod_mix
  exact gm_some
theorem qC_Mod_nextElements (rec : mF) (hG : GM rec) (σ : mS) (x0 : Int32) : gm σ (kC_Mod_nextElements rec σ x0) := by
  unfold kC_Mod_nextElements
  exact (gm_tail hG (Nat.le_of_ble_eq_true rfl))
theorem qC_Mod_nextElements_p2 (rec : mF) (hG : GM rec) (σ : mS) (x0 x1 : Int32) : gm σ (kC_Mod_nextElements_p2 rec σ x0 x1) := by
  unfold kC_Mod_nextElements_p2
  exact (gm_if gm_some (gm_if (gm_if (gm_lt ⟨Nat.le_refl _, Nat.le_refl _, rfl⟩ (gm_if (gm_if (gm_if (gm_lt ⟨Nat.le_refl _, Nat.le_refl _, rfl⟩ (gm_tail hG (Nat.le_of_ble_eq_true rfl))) gm_none) gm_some) gm_none)) gm_none) gm_none))
theorem qC_Mod_suitsText (rec : mF) (hG : GM rec) (σ : mS) (x0 x1 : Int32) : gm σ (kC_Mod_suitsText rec σ x0 x1) := by
  unfold kC_Mod_suitsText
  exact (gm_lt ⟨Nat.le_refl _, Nat.le_refl _, rfl⟩ (gm_lt ⟨Nat.le_refl _, Nat.le_refl _, rfl⟩ (gm_tail hG (Nat.le_of_ble_eq_true rfl))))
theorem qC_Mod_suitsText_p12 (rec : mF) (hG : GM rec) (σ : mS) (x0 x1 x2 : Int32) : gm σ (kC_Mod_suitsText_p12 rec σ x0 x1 x2) := by
  unfold kC_Mod_suitsText_p12
  exact (gm_if gm_some (gm_bnd hG (Nat.le_of_ble_eq_true rfl) (fun _ _ => (gm_if gm_some (gm_tail hG (Nat.le_of_ble_eq_true rfl))))))
theorem qC_Mod_valueOf (rec : mF) (hG : GM rec) (σ : mS) (x0 x1 : Int32) : gm σ (kC_Mod_valueOf rec σ x0 x1) := by
  unfold kC_Mod_valueOf
  exact (gm_tail hG (Nat.le_of_ble_eq_true rfl))
theorem qC_Mod_valueOf_p7 (rec : mF) (hG : GM rec) (σ : mS) (x0 x1 x2 x3 : Int32) : gm σ (kC_Mod_valueOf_p7 rec σ x0 x1 x2 x3) := by
  unfold kC_Mod_valueOf_p7
  exact (gm_if (gm_if gm_some gm_none) (gm_if (gm_if (gm_if (gm_if (gm_lt ⟨Nat.le_refl _, Nat.le_refl _, rfl⟩ (gm_tail hG (Nat.le_of_ble_eq_true rfl))) gm_none) (gm_if (gm_bnd hG (Nat.le_of_ble_eq_true rfl) (fun _ _ => (gm_if (gm_lt ⟨Nat.le_refl _, Nat.le_refl _, rfl⟩ (gm_tail hG (Nat.le_of_ble_eq_true rfl))) gm_none))) gm_none)) (gm_if (gm_if (gm_lt ⟨Nat.le_refl _, Nat.le_refl _, rfl⟩ (gm_tail hG (Nat.le_of_ble_eq_true rfl))) gm_none) gm_none)) gm_none))
theorem qC_Mod_valueOf_p101 (rec : mF) (hG : GM rec) (σ : mS) (x0 x1 x2 x3 x4 : Int32) : gm σ (kC_Mod_valueOf_p101 rec σ x0 x1 x2 x3 x4) := by
  unfold kC_Mod_valueOf_p101
  exact (gm_tail hG (Nat.le_of_ble_eq_true rfl))
theorem qC_Par_fail (rec : mF) (hG : GM rec) (σ : mS) (x0 x1 : Int32) : gm σ (kC_Par_fail rec σ x0 x1) := by
  unfold kC_Par_fail
  exact (gm_lt ⟨Nat.le_refl _, Nat.le_refl _, rfl⟩ (gm_lt ⟨Nat.le_refl _, Nat.le_refl _, rfl⟩ gm_some))
theorem qC_Par_isNest (rec : mF) (hG : GM rec) (σ : mS) (x0 : Int32) : gm σ (kC_Par_isNest rec σ x0) := by
  unfold kC_Par_isNest
  exact (gm_if (gm_tail hG (Nat.le_of_ble_eq_true rfl)) (gm_if (gm_tail hG (Nat.le_of_ble_eq_true rfl)) (gm_if (gm_tail hG (Nat.le_of_ble_eq_true rfl)) (gm_if (gm_tail hG (Nat.le_of_ble_eq_true rfl)) (gm_if (gm_tail hG (Nat.le_of_ble_eq_true rfl)) (gm_tail hG (Nat.le_of_ble_eq_true rfl)))))))
theorem qC_Par_isNest_p29 (rec : mF) (hG : GM rec) (σ : mS) (x0 : Int32) : gm σ (kC_Par_isNest_p29 rec σ x0) := by
  unfold kC_Par_isNest_p29
  exact (gm_tail hG (Nat.le_of_ble_eq_true rfl))
theorem qC_Par_isNest_p34 (rec : mF) (hG : GM rec) (σ : mS) (x0 x1 : Int32) : gm σ (kC_Par_isNest_p34 rec σ x0 x1) := by
  unfold kC_Par_isNest_p34
  exact (gm_if gm_some gm_none)
theorem qC_Par_pop (rec : mF) (hG : GM rec) (σ : mS) : gm σ (kC_Par_pop rec σ) := by
  unfold kC_Par_pop
  exact (gm_bnd hG (Nat.le_of_ble_eq_true rfl) (fun _ _ => (gm_bnd hG (Nat.le_of_ble_eq_true rfl) (fun _ _ => (gm_if (gm_tail hG (Nat.le_of_ble_eq_true rfl)) (gm_tail hG (Nat.le_of_ble_eq_true rfl)))))))
theorem qC_Par_pop_p20 (rec : mF) (hG : GM rec) (σ : mS) (x0 x1 : Int32) : gm σ (kC_Par_pop_p20 rec σ x0 x1) := by
  unfold kC_Par_pop_p20
  exact (gm_lt ⟨Nat.le_refl _, Nat.le_refl _, rfl⟩ (gm_lt ⟨Nat.le_refl _, Nat.le_refl _, rfl⟩ (gm_lt ⟨Nat.le_refl _, Nat.le_refl _, rfl⟩ gm_some)))
theorem qC_Par_refuse (rec : mF) (hG : GM rec) (σ : mS) : gm σ (kC_Par_refuse rec σ) := by
  unfold kC_Par_refuse
  exact (gm_if (gm_tail hG (Nat.le_of_ble_eq_true rfl)) (gm_tail hG (Nat.le_of_ble_eq_true rfl)))
theorem qC_Par_refuse_p16 (rec : mF) (hG : GM rec) (σ : mS) (x0 : Int32) : gm σ (kC_Par_refuse_p16 rec σ x0) := by
  unfold kC_Par_refuse_p16
  exact (gm_bnd hG (Nat.le_of_ble_eq_true rfl) (fun _ _ => gm_some))
theorem qC_Par_settle (rec : mF) (hG : GM rec) (σ : mS) (x0 x1 x2 x3 : Int32) : gm σ (kC_Par_settle rec σ x0 x1 x2 x3) := by
  unfold kC_Par_settle
  exact (gm_if (gm_bnd hG (Nat.le_of_ble_eq_true rfl) (fun _ _ => (gm_if (gm_bnd hG (Nat.le_of_ble_eq_true rfl) (fun _ _ => (gm_tail hG (Nat.le_of_ble_eq_true rfl)))) (gm_tail hG (Nat.le_of_ble_eq_true rfl))))) (gm_tail hG (Nat.le_of_ble_eq_true rfl)))
theorem qC_Par_settle_p27 (rec : mF) (hG : GM rec) (σ : mS) (x0 x1 x2 x3 : Int32) : gm σ (kC_Par_settle_p27 rec σ x0 x1 x2 x3) := by
  unfold kC_Par_settle_p27
  exact gm_some
theorem qC_Par_strength (rec : mF) (hG : GM rec) (σ : mS) (x0 : Int32) : gm σ (kC_Par_strength rec σ x0) := by
  unfold kC_Par_strength
  exact (gm_if gm_some (gm_if gm_some (gm_if gm_some (gm_if gm_some (gm_if gm_some (gm_if gm_some (gm_if gm_some gm_some)))))))
theorem qC_Par_top (rec : mF) (hG : GM rec) (σ : mS) : gm σ (kC_Par_top rec σ) := by
  unfold kC_Par_top
  exact (gm_if (gm_tail hG (Nat.le_of_ble_eq_true rfl)) (gm_if (gm_tail hG (Nat.le_of_ble_eq_true rfl)) gm_none))
theorem qC_Par_top_p31 (rec : mF) (hG : GM rec) (σ : mS) (x0 : Int32) : gm σ (kC_Par_top_p31 rec σ x0) := by
  unfold kC_Par_top_p31
  exact gm_some
theorem qC_Sat_choose (rec : mF) (hG : GM rec) (σ : mS) : gm σ (kC_Sat_choose rec σ) := by
  unfold kC_Sat_choose
  exact (gm_if gm_none (gm_if (gm_tail hG (Nat.le_of_ble_eq_true rfl)) (gm_tail hG (Nat.le_of_ble_eq_true rfl))))
theorem qC_Sat_choose_p16 (rec : mF) (hG : GM rec) (σ : mS) (x0 : Int32) : gm σ (kC_Sat_choose_p16 rec σ x0) := by
  unfold kC_Sat_choose_p16
  exact (gm_tail hG (Nat.le_of_ble_eq_true rfl))
theorem qC_Sat_choose_p21 (rec : mF) (hG : GM rec) (σ : mS) (x0 x1 x2 : Int32) : gm σ (kC_Sat_choose_p21 rec σ x0 x1 x2) := by
  unfold kC_Sat_choose_p21
  exact (gm_if gm_some (gm_bnd hG (Nat.le_of_ble_eq_true rfl) (fun _ _ => (gm_if (gm_if (gm_if (gm_tail hG (Nat.le_of_ble_eq_true rfl)) (gm_bnd hG (Nat.le_of_ble_eq_true rfl) (fun _ _ => (gm_bnd hG (Nat.le_of_ble_eq_true rfl) (fun _ _ => (gm_if (gm_tail hG (Nat.le_of_ble_eq_true rfl)) (gm_tail hG (Nat.le_of_ble_eq_true rfl)))))))) gm_some) (gm_tail hG (Nat.le_of_ble_eq_true rfl))))))
theorem qC_Sat_choose_p77 (rec : mF) (hG : GM rec) (σ : mS) (x0 x1 x2 : Int32) : gm σ (kC_Sat_choose_p77 rec σ x0 x1 x2) := by
  unfold kC_Sat_choose_p77
  exact (gm_tail hG (Nat.le_of_ble_eq_true rfl))
theorem qC_Sat_choose_p79 (rec : mF) (hG : GM rec) (σ : mS) (x0 x1 x2 : Int32) : gm σ (kC_Sat_choose_p79 rec σ x0 x1 x2) := by
  unfold kC_Sat_choose_p79
  exact (gm_tail hG (Nat.le_of_ble_eq_true rfl))
theorem qC_Sat_clear (rec : mF) (hG : GM rec) (σ : mS) : gm σ (kC_Sat_clear rec σ) := by
  unfold kC_Sat_clear
  exact (gm_lt ⟨Nat.le_refl _, Nat.le_refl _, rfl⟩ (gm_lt ⟨Nat.le_refl _, Nat.le_refl _, rfl⟩ (gm_lt ⟨Nat.le_refl _, Nat.le_refl _, rfl⟩ (gm_lt ⟨Nat.le_refl _, Nat.le_refl _, rfl⟩ (gm_lt ⟨Nat.le_refl _, Nat.le_refl _, rfl⟩ (gm_lt ⟨Nat.le_refl _, Nat.le_refl _, rfl⟩ (gm_lt ⟨Nat.le_refl _, Nat.le_refl _, rfl⟩ (gm_lt ⟨Nat.le_refl _, Nat.le_refl _, rfl⟩ gm_some))))))))
theorem qC_Sat_clearAway (rec : mF) (hG : GM rec) (σ : mS) (x0 : Int32) : gm σ (kC_Sat_clearAway rec σ x0) := by
  unfold kC_Sat_clearAway
  exact (gm_bnd hG (Nat.le_of_ble_eq_true rfl) (fun _ _ => (gm_tail hG (Nat.le_of_ble_eq_true rfl))))
theorem qC_Sat_clearAway_p8 (rec : mF) (hG : GM rec) (σ : mS) (x0 x1 x2 : Int32) : gm σ (kC_Sat_clearAway_p8 rec σ x0 x1 x2) := by
  unfold kC_Sat_clearAway_p8
  exact (gm_if gm_some (gm_bnd hG (Nat.le_of_ble_eq_true rfl) (fun _ _ => (gm_if (gm_tail hG (Nat.le_of_ble_eq_true rfl)) (gm_bnd hG (Nat.le_of_ble_eq_true rfl) (fun _ _ => (gm_if (gm_if (gm_tail hG (Nat.le_of_ble_eq_true rfl)) (gm_bnd hG (Nat.le_of_ble_eq_true rfl) (fun _ _ => (gm_if (gm_tail hG (Nat.le_of_ble_eq_true rfl)) (gm_bnd hG (Nat.le_of_ble_eq_true rfl) (fun _ _ => (gm_tail hG (Nat.le_of_ble_eq_true rfl)))))))) (gm_bnd hG (Nat.le_of_ble_eq_true rfl) (fun _ _ => (gm_lt ⟨Nat.le_refl _, Nat.le_refl _, rfl⟩ (gm_tail hG (Nat.le_of_ble_eq_true rfl))))))))))))
theorem qC_Sat_clearAway_p90 (rec : mF) (hG : GM rec) (σ : mS) (x0 x1 x2 : Int32) : gm σ (kC_Sat_clearAway_p90 rec σ x0 x1 x2) := by
  unfold kC_Sat_clearAway_p90
  exact (gm_tail hG (Nat.le_of_ble_eq_true rfl))
theorem qC_Sat_isProcessed (rec : mF) (hG : GM rec) (σ : mS) (x0 : Int32) : gm σ (kC_Sat_isProcessed rec σ x0) := by
  unfold kC_Sat_isProcessed
  exact (gm_bnd hG (Nat.le_of_ble_eq_true rfl) (fun _ _ => (gm_if (gm_tail hG (Nat.le_of_ble_eq_true rfl)) (gm_tail hG (Nat.le_of_ble_eq_true rfl)))))
theorem qC_Sat_isProcessed_p19 (rec : mF) (hG : GM rec) (σ : mS) (x0 x1 : Int32) : gm σ (kC_Sat_isProcessed_p19 rec σ x0 x1) := by
  unfold kC_Sat_isProcessed_p19
  exact (gm_if gm_some gm_none)
theorem qC_Sat_isSingle (rec : mF) (hG : GM rec) (σ : mS) (x0 : Int32) : gm σ (kC_Sat_isSingle rec σ x0) := by
  unfold kC_Sat_isSingle
  exact (gm_bnd hG (Nat.le_of_ble_eq_true rfl) (fun _ _ => (gm_if (gm_bnd hG (Nat.le_of_ble_eq_true rfl) (fun _ _ => (gm_bnd hG (Nat.le_of_ble_eq_true rfl) (fun _ _ => (gm_if (gm_tail hG (Nat.le_of_ble_eq_true rfl)) (gm_tail hG (Nat.le_of_ble_eq_true rfl))))))) (gm_tail hG (Nat.le_of_ble_eq_true rfl)))))
theorem qC_Sat_isSingle_p37 (rec : mF) (hG : GM rec) (σ : mS) (x0 : Int32) : gm σ (kC_Sat_isSingle_p37 rec σ x0) := by
  unfold kC_Sat_isSingle_p37
  exact (gm_tail hG (Nat.le_of_ble_eq_true rfl))
theorem qC_Sat_isSingle_p38 (rec : mF) (hG : GM rec) (σ : mS) (x0 x1 : Int32) : gm σ (kC_Sat_isSingle_p38 rec σ x0 x1) := by
  unfold kC_Sat_isSingle_p38
  exact (gm_if gm_some gm_none)
theorem qC_Sat_isSubsumed (rec : mF) (hG : GM rec) (σ : mS) (x0 : Int32) : gm σ (kC_Sat_isSubsumed rec σ x0) := by
  unfold kC_Sat_isSubsumed
  exact (gm_tail hG (Nat.le_of_ble_eq_true rfl))
theorem qC_Sat_isSubsumed_p2 (rec : mF) (hG : GM rec) (σ : mS) (x0 x1 : Int32) : gm σ (kC_Sat_isSubsumed_p2 rec σ x0 x1) := by
  unfold kC_Sat_isSubsumed_p2
  exact (gm_if gm_some (gm_bnd hG (Nat.le_of_ble_eq_true rfl) (fun _ _ => (gm_if (gm_tail hG (Nat.le_of_ble_eq_true rfl)) (gm_bnd hG (Nat.le_of_ble_eq_true rfl) (fun _ _ => (gm_if (gm_tail hG (Nat.le_of_ble_eq_true rfl)) gm_some)))))))
theorem qC_Sat_isSubsumed_p35 (rec : mF) (hG : GM rec) (σ : mS) (x0 x1 : Int32) : gm σ (kC_Sat_isSubsumed_p35 rec σ x0 x1) := by
  unfold kC_Sat_isSubsumed_p35
  exact (gm_tail hG (Nat.le_of_ble_eq_true rfl))
theorem qC_Sat_markProof (rec : mF) (hG : GM rec) (σ : mS) (x0 : Int32) : gm σ (kC_Sat_markProof rec σ x0) := by
  unfold kC_Sat_markProof
  exact (gm_bnd hG (Nat.le_of_ble_eq_true rfl) (fun _ _ => (gm_if (gm_tail hG (Nat.le_of_ble_eq_true rfl)) (gm_bnd hG (Nat.le_of_ble_eq_true rfl) (fun _ _ => (gm_tail hG (Nat.le_of_ble_eq_true rfl)))))))
theorem qC_Sat_markProof_p22 (rec : mF) (hG : GM rec) (σ : mS) (x0 : Int32) : gm σ (kC_Sat_markProof_p22 rec σ x0) := by
  unfold kC_Sat_markProof_p22
  exact gm_some
theorem qC_Sat_writeOthers (rec : mF) (hG : GM rec) (σ : mS) (x0 x1 x2 x3 : Int32) : gm σ (kC_Sat_writeOthers rec σ x0 x1 x2 x3) := by
  unfold kC_Sat_writeOthers
  exact (gm_bnd hG (Nat.le_of_ble_eq_true rfl) (fun _ _ => (gm_tail hG (Nat.le_of_ble_eq_true rfl))))
theorem qC_Sat_writeOthers_p15 (rec : mF) (hG : GM rec) (σ : mS) (x0 x1 x2 x3 x4 x5 : Int32) : gm σ (kC_Sat_writeOthers_p15 rec σ x0 x1 x2 x3 x4 x5) := by
  unfold kC_Sat_writeOthers_p15
  exact (gm_bnd hG (Nat.le_of_ble_eq_true rfl) (fun _ _ => (gm_if gm_some (gm_if (gm_tail hG (Nat.le_of_ble_eq_true rfl)) (gm_if (gm_tail hG (Nat.le_of_ble_eq_true rfl)) (gm_bnd hG (Nat.le_of_ble_eq_true rfl) (fun _ _ => (gm_bnd hG (Nat.le_of_ble_eq_true rfl) (fun _ _ => (gm_bnd hG (Nat.le_of_ble_eq_true rfl) (fun _ _ => (gm_bnd hG (Nat.le_of_ble_eq_true rfl) (fun _ _ => (gm_bnd hG (Nat.le_of_ble_eq_true rfl) (fun _ _ => (gm_bnd hG (Nat.le_of_ble_eq_true rfl) (fun _ _ => (gm_bnd hG (Nat.le_of_ble_eq_true rfl) (fun _ _ => (gm_bnd hG (Nat.le_of_ble_eq_true rfl) (fun _ _ => (gm_bnd hG (Nat.le_of_ble_eq_true rfl) (fun _ _ => (gm_tail hG (Nat.le_of_ble_eq_true rfl)))))))))))))))))))))))))
theorem qC_Sat_writeOthers_p134 (rec : mF) (hG : GM rec) (σ : mS) (x0 x1 x2 x3 x4 x5 : Int32) : gm σ (kC_Sat_writeOthers_p134 rec σ x0 x1 x2 x3 x4 x5) := by
  unfold kC_Sat_writeOthers_p134
  exact (gm_bnd hG (Nat.le_of_ble_eq_true rfl) (fun _ _ => (gm_tail hG (Nat.le_of_ble_eq_true rfl))))
theorem qC_Sat_writePair (rec : mF) (hG : GM rec) (σ : mS) (x0 x1 x2 x3 x4 : Int32) : gm σ (kC_Sat_writePair rec σ x0 x1 x2 x3 x4) := by
  unfold kC_Sat_writePair
  exact (gm_bnd hG (Nat.le_of_ble_eq_true rfl) (fun _ _ => (gm_bnd hG (Nat.le_of_ble_eq_true rfl) (fun _ _ => (gm_bnd hG (Nat.le_of_ble_eq_true rfl) (fun _ _ => (gm_bnd hG (Nat.le_of_ble_eq_true rfl) (fun _ _ => (gm_bnd hG (Nat.le_of_ble_eq_true rfl) (fun _ _ => (gm_bnd hG (Nat.le_of_ble_eq_true rfl) (fun _ _ => (gm_bnd hG (Nat.le_of_ble_eq_true rfl) (fun _ _ => (gm_bnd hG (Nat.le_of_ble_eq_true rfl) (fun _ _ => (gm_bnd hG (Nat.le_of_ble_eq_true rfl) (fun _ _ => gm_some))))))))))))))))))
theorem qC_Sat_writeRange (rec : mF) (hG : GM rec) (σ : mS) (x0 x1 x2 x3 x4 : Int32) : gm σ (kC_Sat_writeRange rec σ x0 x1 x2 x3 x4) := by
  unfold kC_Sat_writeRange
  exact (gm_if (gm_tail hG (Nat.le_of_ble_eq_true rfl)) (gm_if (gm_bnd hG (Nat.le_of_ble_eq_true rfl) (fun _ _ => (gm_bnd hG (Nat.le_of_ble_eq_true rfl) (fun _ _ => (gm_bnd hG (Nat.le_of_ble_eq_true rfl) (fun _ _ => (gm_bnd hG (Nat.le_of_ble_eq_true rfl) (fun _ _ => (gm_bnd hG (Nat.le_of_ble_eq_true rfl) (fun _ _ => (gm_bnd hG (Nat.le_of_ble_eq_true rfl) (fun _ _ => gm_some)))))))))))) (gm_tail hG (Nat.le_of_ble_eq_true rfl))))
theorem qC_Sat_writeRange_p10 (rec : mF) (hG : GM rec) (σ : mS) (x0 x1 x2 x3 x4 : Int32) : gm σ (kC_Sat_writeRange_p10 rec σ x0 x1 x2 x3 x4) := by
  unfold kC_Sat_writeRange_p10
  exact (gm_bnd hG (Nat.le_of_ble_eq_true rfl) (fun _ _ => gm_some))
theorem qC_Sat_writeReplaced (rec : mF) (hG : GM rec) (σ : mS) (x0 x1 x2 x3 : Int32) : gm σ (kC_Sat_writeReplaced rec σ x0 x1 x2 x3) := by
  unfold kC_Sat_writeReplaced
  exact (gm_bnd hG (Nat.le_of_ble_eq_true rfl) (fun _ _ => (gm_tail hG (Nat.le_of_ble_eq_true rfl))))
theorem qC_Sat_writeReplaced_p15 (rec : mF) (hG : GM rec) (σ : mS) (x0 x1 x2 x3 x4 x5 : Int32) : gm σ (kC_Sat_writeReplaced_p15 rec σ x0 x1 x2 x3 x4 x5) := by
  unfold kC_Sat_writeReplaced_p15
  exact (gm_bnd hG (Nat.le_of_ble_eq_true rfl) (fun _ _ => (gm_if gm_some (gm_bnd hG (Nat.le_of_ble_eq_true rfl) (fun _ _ => (gm_bnd hG (Nat.le_of_ble_eq_true rfl) (fun _ _ => (gm_bnd hG (Nat.le_of_ble_eq_true rfl) (fun _ _ => (gm_bnd hG (Nat.le_of_ble_eq_true rfl) (fun _ _ => (gm_bnd hG (Nat.le_of_ble_eq_true rfl) (fun _ _ => (gm_bnd hG (Nat.le_of_ble_eq_true rfl) (fun _ _ => (gm_bnd hG (Nat.le_of_ble_eq_true rfl) (fun _ _ => (gm_bnd hG (Nat.le_of_ble_eq_true rfl) (fun _ _ => (gm_bnd hG (Nat.le_of_ble_eq_true rfl) (fun _ _ => (gm_bnd hG (Nat.le_of_ble_eq_true rfl) (fun _ _ => (gm_tail hG (Nat.le_of_ble_eq_true rfl)))))))))))))))))))))))))
theorem qC_Sto_behind (rec : mF) (hG : GM rec) (σ : mS) (x0 : Int32) : gm σ (kC_Sto_behind rec σ x0) := by
  unfold kC_Sto_behind
  exact (gm_if (gm_if gm_some gm_none) gm_none)
theorem qC_Sto_clear (rec : mF) (hG : GM rec) (σ : mS) : gm σ (kC_Sto_clear rec σ) := by
  unfold kC_Sto_clear
  exact (gm_lt ⟨Nat.le_refl _, Nat.le_refl _, rfl⟩ (gm_lt ⟨Nat.le_refl _, Nat.le_refl _, rfl⟩ (gm_lt ⟨Nat.le_refl _, Nat.le_refl _, rfl⟩ (gm_lt ⟨Nat.le_refl _, Nat.le_refl _, rfl⟩ (gm_lt ⟨Nat.le_refl _, Nat.le_refl _, rfl⟩ gm_some)))))
theorem qC_Sto_fact (rec : mF) (hG : GM rec) (σ : mS) (x0 x1 : Int32) : gm σ (kC_Sto_fact rec σ x0 x1) := by
  unfold kC_Sto_fact
  exact (gm_if gm_some gm_none)
theorem qC_Sto_has (rec : mF) (hG : GM rec) (σ : mS) (x0 : Int32) : gm σ (kC_Sto_has rec σ x0) := by
  unfold kC_Sto_has
  exact (gm_if (gm_tail hG (Nat.le_of_ble_eq_true rfl)) (gm_if (gm_tail hG (Nat.le_of_ble_eq_true rfl)) (gm_tail hG (Nat.le_of_ble_eq_true rfl))))
theorem qC_Sto_has_p16 (rec : mF) (hG : GM rec) (σ : mS) (x0 : Int32) : gm σ (kC_Sto_has_p16 rec σ x0) := by
  unfold kC_Sto_has_p16
  exact (gm_tail hG (Nat.le_of_ble_eq_true rfl))
theorem qC_Sto_has_p17 (rec : mF) (hG : GM rec) (σ : mS) (x0 x1 : Int32) : gm σ (kC_Sto_has_p17 rec σ x0 x1) := by
  unfold kC_Sto_has_p17
  exact (gm_if gm_some gm_none)
theorem qC_Sto_headOf (rec : mF) (hG : GM rec) (σ : mS) (x0 x1 : Int32) : gm σ (kC_Sto_headOf rec σ x0 x1) := by
  unfold kC_Sto_headOf
  exact (gm_bnd hG (Nat.le_of_ble_eq_true rfl) (fun _ _ => (gm_tail hG (Nat.le_of_ble_eq_true rfl))))
theorem qC_Sto_headOf_p11 (rec : mF) (hG : GM rec) (σ : mS) (x0 x1 x2 x3 : Int32) : gm σ (kC_Sto_headOf_p11 rec σ x0 x1 x2 x3) := by
  unfold kC_Sto_headOf_p11
  exact (gm_if gm_some (gm_bnd hG (Nat.le_of_ble_eq_true rfl) (fun _ _ => (gm_tail hG (Nat.le_of_ble_eq_true rfl)))))
theorem qC_Sto_howMany (rec : mF) (hG : GM rec) (σ : mS) (x0 : Int32) : gm σ (kC_Sto_howMany rec σ x0) := by
  unfold kC_Sto_howMany
  exact (gm_tail hG (Nat.le_of_ble_eq_true rfl))
theorem qC_Sto_howMany_p4 (rec : mF) (hG : GM rec) (σ : mS) (x0 x1 x2 : Int32) : gm σ (kC_Sto_howMany_p4 rec σ x0 x1 x2) := by
  unfold kC_Sto_howMany_p4
  exact (gm_if gm_some (gm_bnd hG (Nat.le_of_ble_eq_true rfl) (fun _ _ => (gm_if (gm_tail hG (Nat.le_of_ble_eq_true rfl)) (gm_tail hG (Nat.le_of_ble_eq_true rfl))))))
theorem qC_Sto_howMany_p29 (rec : mF) (hG : GM rec) (σ : mS) (x0 x1 x2 x3 x4 : Int32) : gm σ (kC_Sto_howMany_p29 rec σ x0 x1 x2 x3 x4) := by
  unfold kC_Sto_howMany_p29
  exact (gm_tail hG (Nat.le_of_ble_eq_true rfl))
theorem qC_Sto_isEligible (rec : mF) (hG : GM rec) (σ : mS) (x0 : Int32) : gm σ (kC_Sto_isEligible rec σ x0) := by
  unfold kC_Sto_isEligible
  exact (gm_if (gm_if (gm_tail hG (Nat.le_of_ble_eq_true rfl)) (gm_tail hG (Nat.le_of_ble_eq_true rfl))) gm_none)
theorem qC_Sto_isEligible_p20 (rec : mF) (hG : GM rec) (σ : mS) (x0 x1 : Int32) : gm σ (kC_Sto_isEligible_p20 rec σ x0 x1) := by
  unfold kC_Sto_isEligible_p20
  exact (gm_if gm_some gm_none)
theorem qC_Sto_isGreater (rec : mF) (hG : GM rec) (σ : mS) (x0 x1 : Int32) : gm σ (kC_Sto_isGreater rec σ x0 x1) := by
  unfold kC_Sto_isGreater
  exact (gm_tail hG (Nat.le_of_ble_eq_true rfl))
theorem qC_Sto_isGreater_p8 (rec : mF) (hG : GM rec) (σ : mS) (x0 x1 x2 x3 x4 : Int32) : gm σ (kC_Sto_isGreater_p8 rec σ x0 x1 x2 x3 x4) := by
  unfold kC_Sto_isGreater_p8
  exact (gm_if (gm_tail hG (Nat.le_of_ble_eq_true rfl)) (gm_tail hG (Nat.le_of_ble_eq_true rfl)))
theorem qC_Sto_isGreater_p17 (rec : mF) (hG : GM rec) (σ : mS) (x0 x1 x2 x3 x4 x5 : Int32) : gm σ (kC_Sto_isGreater_p17 rec σ x0 x1 x2 x3 x4 x5) := by
  unfold kC_Sto_isGreater_p17
  exact (gm_if (gm_tail hG (Nat.le_of_ble_eq_true rfl)) (gm_if (gm_if (gm_tail hG (Nat.le_of_ble_eq_true rfl)) (gm_tail hG (Nat.le_of_ble_eq_true rfl))) (gm_tail hG (Nat.le_of_ble_eq_true rfl))))
theorem qC_Sto_isGreater_p48 (rec : mF) (hG : GM rec) (σ : mS) (x0 x1 x2 x3 x4 x5 : Int32) : gm σ (kC_Sto_isGreater_p48 rec σ x0 x1 x2 x3 x4 x5) := by
  unfold kC_Sto_isGreater_p48
  exact (gm_tail hG (Nat.le_of_ble_eq_true rfl))
theorem qC_Sto_isGreater_p49 (rec : mF) (hG : GM rec) (σ : mS) (x0 x1 x2 x3 x4 x5 x6 : Int32) : gm σ (kC_Sto_isGreater_p49 rec σ x0 x1 x2 x3 x4 x5 x6) := by
  unfold kC_Sto_isGreater_p49
  exact (gm_if (gm_tail hG (Nat.le_of_ble_eq_true rfl)) (gm_bnd hG (Nat.le_of_ble_eq_true rfl) (fun _ _ => (gm_bnd hG (Nat.le_of_ble_eq_true rfl) (fun _ _ => (gm_bnd hG (Nat.le_of_ble_eq_true rfl) (fun _ _ => (gm_if (gm_tail hG (Nat.le_of_ble_eq_true rfl)) (gm_tail hG (Nat.le_of_ble_eq_true rfl))))))))))
theorem qC_Sto_isGreater_p114 (rec : mF) (hG : GM rec) (σ : mS) (x0 x1 x2 x3 x4 x5 x6 : Int32) : gm σ (kC_Sto_isGreater_p114 rec σ x0 x1 x2 x3 x4 x5 x6) := by
  unfold kC_Sto_isGreater_p114
  exact (gm_tail hG (Nat.le_of_ble_eq_true rfl))
theorem qC_Sto_isGreater_p129 (rec : mF) (hG : GM rec) (σ : mS) (x0 x1 x2 x3 x4 : Int32) : gm σ (kC_Sto_isGreater_p129 rec σ x0 x1 x2 x3 x4) := by
  unfold kC_Sto_isGreater_p129
  exact (gm_if (gm_if (gm_tail hG (Nat.le_of_ble_eq_true rfl)) (gm_tail hG (Nat.le_of_ble_eq_true rfl))) (gm_if (gm_tail hG (Nat.le_of_ble_eq_true rfl)) (gm_tail hG (Nat.le_of_ble_eq_true rfl))))
theorem qC_Sto_isGreater_p150 (rec : mF) (hG : GM rec) (σ : mS) (x0 x1 x2 x3 x4 x5 : Int32) : gm σ (kC_Sto_isGreater_p150 rec σ x0 x1 x2 x3 x4 x5) := by
  unfold kC_Sto_isGreater_p150
  exact (gm_tail hG (Nat.le_of_ble_eq_true rfl))
theorem qC_Sto_isGreater_p155 (rec : mF) (hG : GM rec) (σ : mS) (x0 x1 x2 x3 x4 x5 x6 : Int32) : gm σ (kC_Sto_isGreater_p155 rec σ x0 x1 x2 x3 x4 x5 x6) := by
  unfold kC_Sto_isGreater_p155
  exact (gm_if (gm_tail hG (Nat.le_of_ble_eq_true rfl)) (gm_if (gm_if (gm_bnd hG (Nat.le_of_ble_eq_true rfl) (fun _ _ => (gm_bnd hG (Nat.le_of_ble_eq_true rfl) (fun _ _ => (gm_bnd hG (Nat.le_of_ble_eq_true rfl) (fun _ _ => (gm_if (gm_tail hG (Nat.le_of_ble_eq_true rfl)) (gm_tail hG (Nat.le_of_ble_eq_true rfl))))))))) (gm_tail hG (Nat.le_of_ble_eq_true rfl))) (gm_tail hG (Nat.le_of_ble_eq_true rfl))))
theorem qC_Sto_isGreater_p218 (rec : mF) (hG : GM rec) (σ : mS) (x0 x1 x2 x3 x4 x5 x6 : Int32) : gm σ (kC_Sto_isGreater_p218 rec σ x0 x1 x2 x3 x4 x5 x6) := by
  unfold kC_Sto_isGreater_p218
  exact (gm_tail hG (Nat.le_of_ble_eq_true rfl))
theorem qC_Sto_isGreater_p219 (rec : mF) (hG : GM rec) (σ : mS) (x0 x1 x2 x3 x4 x5 x6 x7 : Int32) : gm σ (kC_Sto_isGreater_p219 rec σ x0 x1 x2 x3 x4 x5 x6 x7) := by
  unfold kC_Sto_isGreater_p219
  exact (gm_tail hG (Nat.le_of_ble_eq_true rfl))
theorem qC_Sto_isGreater_p227 (rec : mF) (hG : GM rec) (σ : mS) (x0 x1 x2 x3 x4 x5 x6 : Int32) : gm σ (kC_Sto_isGreater_p227 rec σ x0 x1 x2 x3 x4 x5 x6) := by
  unfold kC_Sto_isGreater_p227
  exact (gm_if gm_some (gm_tail hG (Nat.le_of_ble_eq_true rfl)))
theorem qC_Sto_isGreater_p249 (rec : mF) (hG : GM rec) (σ : mS) (x0 x1 x2 x3 x4 x5 : Int32) : gm σ (kC_Sto_isGreater_p249 rec σ x0 x1 x2 x3 x4 x5) := by
  unfold kC_Sto_isGreater_p249
  exact (gm_if gm_some gm_none)
theorem qC_Sto_isPositive (rec : mF) (hG : GM rec) (σ : mS) (x0 : Int32) : gm σ (kC_Sto_isPositive rec σ x0) := by
  unfold kC_Sto_isPositive
  exact (gm_if (gm_if (gm_tail hG (Nat.le_of_ble_eq_true rfl)) (gm_tail hG (Nat.le_of_ble_eq_true rfl))) gm_none)
theorem qC_Sto_isPositive_p20 (rec : mF) (hG : GM rec) (σ : mS) (x0 x1 : Int32) : gm σ (kC_Sto_isPositive_p20 rec σ x0 x1) := by
  unfold kC_Sto_isPositive_p20
  exact (gm_if gm_some gm_none)
theorem qC_Sto_isTopmost (rec : mF) (hG : GM rec) (σ : mS) (x0 x1 : Int32) : gm σ (kC_Sto_isTopmost rec σ x0 x1) := by
  unfold kC_Sto_isTopmost
  exact (gm_bnd hG (Nat.le_of_ble_eq_true rfl) (fun _ _ => (gm_tail hG (Nat.le_of_ble_eq_true rfl))))
theorem qC_Sto_isTopmost_p11 (rec : mF) (hG : GM rec) (σ : mS) (x0 x1 x2 x3 : Int32) : gm σ (kC_Sto_isTopmost_p11 rec σ x0 x1 x2 x3) := by
  unfold kC_Sto_isTopmost_p11
  exact (gm_bnd hG (Nat.le_of_ble_eq_true rfl) (fun _ _ => (gm_if gm_some (gm_if (gm_tail hG (Nat.le_of_ble_eq_true rfl)) (gm_bnd hG (Nat.le_of_ble_eq_true rfl) (fun _ _ => (gm_if (gm_tail hG (Nat.le_of_ble_eq_true rfl)) gm_some)))))))
theorem qC_Sto_isTopmost_p38 (rec : mF) (hG : GM rec) (σ : mS) (x0 x1 x2 x3 : Int32) : gm σ (kC_Sto_isTopmost_p38 rec σ x0 x1 x2 x3) := by
  unfold kC_Sto_isTopmost_p38
  exact (gm_bnd hG (Nat.le_of_ble_eq_true rfl) (fun _ _ => (gm_tail hG (Nat.le_of_ble_eq_true rfl))))
theorem qC_Sto_isUsable (rec : mF) (hG : GM rec) (σ : mS) (x0 x1 : Int32) : gm σ (kC_Sto_isUsable rec σ x0 x1) := by
  unfold kC_Sto_isUsable
  exact (gm_if (gm_if (gm_tail hG (Nat.le_of_ble_eq_true rfl)) (gm_if (gm_tail hG (Nat.le_of_ble_eq_true rfl)) (gm_tail hG (Nat.le_of_ble_eq_true rfl)))) gm_none)
theorem qC_Sto_isUsable_p23 (rec : mF) (hG : GM rec) (σ : mS) (x0 x1 x2 : Int32) : gm σ (kC_Sto_isUsable_p23 rec σ x0 x1 x2) := by
  unfold kC_Sto_isUsable_p23
  exact (gm_tail hG (Nat.le_of_ble_eq_true rfl))
theorem qC_Sto_isUsable_p28 (rec : mF) (hG : GM rec) (σ : mS) (x0 x1 x2 x3 : Int32) : gm σ (kC_Sto_isUsable_p28 rec σ x0 x1 x2 x3) := by
  unfold kC_Sto_isUsable_p28
  exact (gm_if gm_some gm_none)
theorem qC_Sto_judge (rec : mF) (hG : GM rec) (σ : mS) (x0 : Int32) : gm σ (kC_Sto_judge rec σ x0) := by
  unfold kC_Sto_judge
  exact (gm_bnd hG (Nat.le_of_ble_eq_true rfl) (fun _ _ => (gm_bnd hG (Nat.le_of_ble_eq_true rfl) (fun _ _ => (gm_tail hG (Nat.le_of_ble_eq_true rfl))))))
theorem qC_Sto_judge_p17 (rec : mF) (hG : GM rec) (σ : mS) (x0 x1 x2 x3 : Int32) : gm σ (kC_Sto_judge_p17 rec σ x0 x1 x2 x3) := by
  unfold kC_Sto_judge_p17
  exact (gm_bnd hG (Nat.le_of_ble_eq_true rfl) (fun _ _ => (gm_if gm_some (gm_bnd hG (Nat.le_of_ble_eq_true rfl) (fun _ _ => (gm_bnd hG (Nat.le_of_ble_eq_true rfl) (fun _ _ => (gm_if (gm_bnd hG (Nat.le_of_ble_eq_true rfl) (fun _ _ => (gm_tail hG (Nat.le_of_ble_eq_true rfl)))) (gm_if (gm_tail hG (Nat.le_of_ble_eq_true rfl)) (gm_tail hG (Nat.le_of_ble_eq_true rfl)))))))))))
theorem qC_Sto_judge_p68 (rec : mF) (hG : GM rec) (σ : mS) (x0 x1 x2 x3 x4 x5 x6 : Int32) : gm σ (kC_Sto_judge_p68 rec σ x0 x1 x2 x3 x4 x5 x6) := by
  unfold kC_Sto_judge_p68
  exact (gm_bnd hG (Nat.le_of_ble_eq_true rfl) (fun _ _ => (gm_if (gm_bnd hG (Nat.le_of_ble_eq_true rfl) (fun _ _ => (gm_if (gm_tail hG (Nat.le_of_ble_eq_true rfl)) (gm_tail hG (Nat.le_of_ble_eq_true rfl))))) (gm_tail hG (Nat.le_of_ble_eq_true rfl)))))
theorem qC_Sto_judge_p145 (rec : mF) (hG : GM rec) (σ : mS) (x0 x1 x2 x3 x4 x5 x6 x7 x8 : Int32) : gm σ (kC_Sto_judge_p145 rec σ x0 x1 x2 x3 x4 x5 x6 x7 x8) := by
  unfold kC_Sto_judge_p145
  exact (gm_if (gm_lt ⟨Nat.le_refl _, Nat.le_refl _, rfl⟩ (gm_if (gm_tail hG (Nat.le_of_ble_eq_true rfl)) (gm_tail hG (Nat.le_of_ble_eq_true rfl)))) gm_none)
theorem qC_Sto_judge_p166 (rec : mF) (hG : GM rec) (σ : mS) (x0 x1 x2 x3 x4 x5 x6 x7 x8 : Int32) : gm σ (kC_Sto_judge_p166 rec σ x0 x1 x2 x3 x4 x5 x6 x7 x8) := by
  unfold kC_Sto_judge_p166
  exact (gm_if (gm_lt ⟨Nat.le_refl _, Nat.le_refl _, rfl⟩ (gm_bnd hG (Nat.le_of_ble_eq_true rfl) (fun _ _ => (gm_tail hG (Nat.le_of_ble_eq_true rfl))))) gm_none)
theorem qC_Sto_selectedOf (rec : mF) (hG : GM rec) (σ : mS) (x0 : Int32) : gm σ (kC_Sto_selectedOf rec σ x0) := by
  unfold kC_Sto_selectedOf
  exact (gm_bnd hG (Nat.le_of_ble_eq_true rfl) (fun _ _ => (gm_tail hG (Nat.le_of_ble_eq_true rfl))))
theorem qC_Sto_selectedOf_p16 (rec : mF) (hG : GM rec) (σ : mS) (x0 x1 x2 x3 x4 : Int32) : gm σ (kC_Sto_selectedOf_p16 rec σ x0 x1 x2 x3 x4) := by
  unfold kC_Sto_selectedOf_p16
  exact (gm_bnd hG (Nat.le_of_ble_eq_true rfl) (fun _ _ => (gm_if gm_some (gm_if (gm_if (gm_bnd hG (Nat.le_of_ble_eq_true rfl) (fun _ _ => (gm_if (gm_if (gm_tail hG (Nat.le_of_ble_eq_true rfl)) (gm_tail hG (Nat.le_of_ble_eq_true rfl))) (gm_tail hG (Nat.le_of_ble_eq_true rfl))))) gm_none) gm_none))))
theorem qC_Sto_selectedOf_p75 (rec : mF) (hG : GM rec) (σ : mS) (x0 x1 x2 x3 x4 x5 : Int32) : gm σ (kC_Sto_selectedOf_p75 rec σ x0 x1 x2 x3 x4 x5) := by
  unfold kC_Sto_selectedOf_p75
  exact (gm_bnd hG (Nat.le_of_ble_eq_true rfl) (fun _ _ => (gm_tail hG (Nat.le_of_ble_eq_true rfl))))
theorem qC_Sto_setFact (rec : mF) (hG : GM rec) (σ : mS) (x0 x1 x2 : Int32) : gm σ (kC_Sto_setFact rec σ x0 x1 x2) := by
  unfold kC_Sto_setFact
  exact (gm_if (gm_lt ⟨Nat.le_refl _, Nat.le_refl _, rfl⟩ gm_some) gm_none)
theorem qC_Sto_sideAt (rec : mF) (hG : GM rec) (σ : mS) (x0 x1 : Int32) : gm σ (kC_Sto_sideAt rec σ x0 x1) := by
  unfold kC_Sto_sideAt
  exact (gm_if (gm_tail hG (Nat.le_of_ble_eq_true rfl)) (gm_if (gm_tail hG (Nat.le_of_ble_eq_true rfl)) gm_none))
theorem qC_Sto_sideAt_p22 (rec : mF) (hG : GM rec) (σ : mS) (x0 x1 x2 x3 : Int32) : gm σ (kC_Sto_sideAt_p22 rec σ x0 x1 x2 x3) := by
  unfold kC_Sto_sideAt_p22
  exact gm_some
theorem qC_Sto_sideSize (rec : mF) (hG : GM rec) (σ : mS) (x0 x1 : Int32) : gm σ (kC_Sto_sideSize rec σ x0 x1) := by
  unfold kC_Sto_sideSize
  exact (gm_if (gm_tail hG (Nat.le_of_ble_eq_true rfl)) (gm_tail hG (Nat.le_of_ble_eq_true rfl)))
theorem qC_Sto_sideSize_p17 (rec : mF) (hG : GM rec) (σ : mS) (x0 x1 x2 x3 : Int32) : gm σ (kC_Sto_sideSize_p17 rec σ x0 x1 x2 x3) := by
  unfold kC_Sto_sideSize_p17
  exact (gm_if gm_some gm_none)
theorem qC_Sym_addWitness (rec : mF) (hG : GM rec) (σ : mS) (x0 : Int32) : gm σ (kC_Sym_addWitness rec σ x0) := by
  unfold kC_Sym_addWitness
  exact (gm_if gm_some (gm_if (gm_lt ⟨Nat.le_refl _, Nat.le_refl _, rfl⟩ (gm_if (gm_lt ⟨Nat.le_refl _, Nat.le_refl _, rfl⟩ (gm_lt ⟨Nat.le_refl _, Nat.le_refl _, rfl⟩ gm_some)) gm_none)) gm_none))
theorem qC_Sym_after_16 (rec : mF) (hG : GM rec) (σ : mS) (x0 : Int32) : gm σ (kC_Sym_after_16 rec σ x0) := by
  unfold kC_Sym_after_16
  exact (gm_tail hG (Nat.le_of_ble_eq_true rfl))
theorem qC_Sym_after_16_p5 (rec : mF) (hG : GM rec) (σ : mS) (x0 x1 x2 : Int32) : gm σ (kC_Sym_after_16_p5 rec σ x0 x1 x2) := by
  unfold kC_Sym_after_16_p5
  exact (gm_if (gm_tail hG (Nat.le_of_ble_eq_true rfl)) (gm_if (gm_tail hG (Nat.le_of_ble_eq_true rfl)) (gm_if (gm_if (gm_if (gm_if (gm_tail hG (Nat.le_of_ble_eq_true rfl)) gm_none) gm_none) (gm_tail hG (Nat.le_of_ble_eq_true rfl))) gm_none)))
theorem qC_Sym_after_16_p39 (rec : mF) (hG : GM rec) (σ : mS) (x0 x1 x2 x3 x4 : Int32) : gm σ (kC_Sym_after_16_p39 rec σ x0 x1 x2 x3 x4) := by
  unfold kC_Sym_after_16_p39
  exact (gm_tail hG (Nat.le_of_ble_eq_true rfl))
theorem qC_Sym_after_16_p47 (rec : mF) (hG : GM rec) (σ : mS) (x0 x1 x2 : Int32) : gm σ (kC_Sym_after_16_p47 rec σ x0 x1 x2) := by
  unfold kC_Sym_after_16_p47
  exact gm_some
theorem qC_Sym_after_40 (rec : mF) (hG : GM rec) (σ : mS) (x0 : Int32) : gm σ (kC_Sym_after_40 rec σ x0) := by
  unfold kC_Sym_after_40
  exact (gm_tail hG (Nat.le_of_ble_eq_true rfl))
theorem qC_Sym_after_40_p5 (rec : mF) (hG : GM rec) (σ : mS) (x0 x1 x2 : Int32) : gm σ (kC_Sym_after_40_p5 rec σ x0 x1 x2) := by
  unfold kC_Sym_after_40_p5
  exact (gm_if (gm_tail hG (Nat.le_of_ble_eq_true rfl)) (gm_if (gm_tail hG (Nat.le_of_ble_eq_true rfl)) (gm_if (gm_if (gm_if (gm_if (gm_tail hG (Nat.le_of_ble_eq_true rfl)) gm_none) gm_none) (gm_tail hG (Nat.le_of_ble_eq_true rfl))) gm_none)))
theorem qC_Sym_after_40_p39 (rec : mF) (hG : GM rec) (σ : mS) (x0 x1 x2 x3 x4 : Int32) : gm σ (kC_Sym_after_40_p39 rec σ x0 x1 x2 x3 x4) := by
  unfold kC_Sym_after_40_p39
  exact (gm_tail hG (Nat.le_of_ble_eq_true rfl))
theorem qC_Sym_after_40_p47 (rec : mF) (hG : GM rec) (σ : mS) (x0 x1 x2 : Int32) : gm σ (kC_Sym_after_40_p47 rec σ x0 x1 x2) := by
  unfold kC_Sym_after_40_p47
  exact gm_some
theorem qC_Sym_after_48 (rec : mF) (hG : GM rec) (σ : mS) (x0 : Int32) : gm σ (kC_Sym_after_48 rec σ x0) := by
  unfold kC_Sym_after_48
  exact (gm_tail hG (Nat.le_of_ble_eq_true rfl))
theorem qC_Sym_after_48_p5 (rec : mF) (hG : GM rec) (σ : mS) (x0 x1 x2 : Int32) : gm σ (kC_Sym_after_48_p5 rec σ x0 x1 x2) := by
  unfold kC_Sym_after_48_p5
  exact (gm_if (gm_tail hG (Nat.le_of_ble_eq_true rfl)) (gm_if (gm_tail hG (Nat.le_of_ble_eq_true rfl)) (gm_if (gm_if (gm_if (gm_if (gm_tail hG (Nat.le_of_ble_eq_true rfl)) gm_none) gm_none) (gm_tail hG (Nat.le_of_ble_eq_true rfl))) gm_none)))
theorem qC_Sym_after_48_p39 (rec : mF) (hG : GM rec) (σ : mS) (x0 x1 x2 x3 x4 : Int32) : gm σ (kC_Sym_after_48_p39 rec σ x0 x1 x2 x3 x4) := by
  unfold kC_Sym_after_48_p39
  exact (gm_tail hG (Nat.le_of_ble_eq_true rfl))
theorem qC_Sym_after_48_p47 (rec : mF) (hG : GM rec) (σ : mS) (x0 x1 x2 : Int32) : gm σ (kC_Sym_after_48_p47 rec σ x0 x1 x2) := by
  unfold kC_Sym_after_48_p47
  exact gm_some
theorem qC_Sym_after_68 (rec : mF) (hG : GM rec) (σ : mS) (x0 : Int32) : gm σ (kC_Sym_after_68 rec σ x0) := by
  unfold kC_Sym_after_68
  exact (gm_tail hG (Nat.le_of_ble_eq_true rfl))
theorem qC_Sym_after_68_p5 (rec : mF) (hG : GM rec) (σ : mS) (x0 x1 x2 : Int32) : gm σ (kC_Sym_after_68_p5 rec σ x0 x1 x2) := by
  unfold kC_Sym_after_68_p5
  exact (gm_if (gm_tail hG (Nat.le_of_ble_eq_true rfl)) (gm_if (gm_tail hG (Nat.le_of_ble_eq_true rfl)) (gm_if (gm_if (gm_if (gm_if (gm_tail hG (Nat.le_of_ble_eq_true rfl)) gm_none) gm_none) (gm_tail hG (Nat.le_of_ble_eq_true rfl))) gm_none)))
theorem qC_Sym_after_68_p39 (rec : mF) (hG : GM rec) (σ : mS) (x0 x1 x2 x3 x4 : Int32) : gm σ (kC_Sym_after_68_p39 rec σ x0 x1 x2 x3 x4) := by
  unfold kC_Sym_after_68_p39
  exact (gm_tail hG (Nat.le_of_ble_eq_true rfl))
theorem qC_Sym_after_68_p47 (rec : mF) (hG : GM rec) (σ : mS) (x0 x1 x2 : Int32) : gm σ (kC_Sym_after_68_p47 rec σ x0 x1 x2) := by
  unfold kC_Sym_after_68_p47
  exact gm_some
theorem qC_Sym_clear (rec : mF) (hG : GM rec) (σ : mS) : gm σ (kC_Sym_clear rec σ) := by
  unfold kC_Sym_clear
  exact (gm_lt ⟨Nat.le_refl _, Nat.le_refl _, rfl⟩ (gm_lt ⟨Nat.le_refl _, Nat.le_refl _, rfl⟩ (gm_lt ⟨Nat.le_refl _, Nat.le_refl _, rfl⟩ gm_some)))
theorem qC_Sym_greater_40_68 (rec : mF) (hG : GM rec) (σ : mS) (x0 x1 : Int32) : gm σ (kC_Sym_greater_40_68 rec σ x0 x1) := by
  unfold kC_Sym_greater_40_68
  exact (gm_tail hG (Nat.le_of_ble_eq_true rfl))
theorem qC_Sym_greater_40_68_p10 (rec : mF) (hG : GM rec) (σ : mS) (x0 x1 x2 x3 x4 : Int32) : gm σ (kC_Sym_greater_40_68_p10 rec σ x0 x1 x2 x3 x4) := by
  unfold kC_Sym_greater_40_68_p10
  exact (gm_if gm_some (gm_bnd hG (Nat.le_of_ble_eq_true rfl) (fun _ _ => (gm_bnd hG (Nat.le_of_ble_eq_true rfl) (fun _ _ => (gm_if (gm_if (gm_tail hG (Nat.le_of_ble_eq_true rfl)) (gm_if (gm_tail hG (Nat.le_of_ble_eq_true rfl)) (gm_bnd hG (Nat.le_of_ble_eq_true rfl) (fun _ _ => (gm_if (gm_tail hG (Nat.le_of_ble_eq_true rfl)) (gm_if (gm_if (gm_if (gm_if (gm_bnd hG (Nat.le_of_ble_eq_true rfl) (fun _ _ => (gm_if gm_some (gm_tail hG (Nat.le_of_ble_eq_true rfl))))) (gm_if (gm_if (gm_if (gm_tail hG (Nat.le_of_ble_eq_true rfl)) (gm_tail hG (Nat.le_of_ble_eq_true rfl))) gm_none) gm_none)) gm_none) gm_none) gm_some)))))) gm_none))))))
theorem qC_Sym_greater_40_68_p72 (rec : mF) (hG : GM rec) (σ : mS) (x0 x1 x2 x3 x4 x5 x6 : Int32) : gm σ (kC_Sym_greater_40_68_p72 rec σ x0 x1 x2 x3 x4 x5 x6) := by
  unfold kC_Sym_greater_40_68_p72
  exact gm_some
theorem qC_Sym_greater_40_68_p110 (rec : mF) (hG : GM rec) (σ : mS) (x0 x1 x2 x3 x4 x5 x6 x7 : Int32) : gm σ (kC_Sym_greater_40_68_p110 rec σ x0 x1 x2 x3 x4 x5 x6 x7) := by
  unfold kC_Sym_greater_40_68_p110
  exact (gm_if gm_some gm_none)
theorem qC_Sym_greater_48_48 (rec : mF) (hG : GM rec) (σ : mS) (x0 x1 : Int32) : gm σ (kC_Sym_greater_48_48 rec σ x0 x1) := by
  unfold kC_Sym_greater_48_48
  exact (gm_tail hG (Nat.le_of_ble_eq_true rfl))
theorem qC_Sym_greater_48_48_p10 (rec : mF) (hG : GM rec) (σ : mS) (x0 x1 x2 x3 x4 : Int32) : gm σ (kC_Sym_greater_48_48_p10 rec σ x0 x1 x2 x3 x4) := by
  unfold kC_Sym_greater_48_48_p10
  exact (gm_if gm_some (gm_bnd hG (Nat.le_of_ble_eq_true rfl) (fun _ _ => (gm_bnd hG (Nat.le_of_ble_eq_true rfl) (fun _ _ => (gm_if (gm_if (gm_tail hG (Nat.le_of_ble_eq_true rfl)) (gm_if (gm_tail hG (Nat.le_of_ble_eq_true rfl)) (gm_bnd hG (Nat.le_of_ble_eq_true rfl) (fun _ _ => (gm_if (gm_tail hG (Nat.le_of_ble_eq_true rfl)) (gm_if (gm_if (gm_if (gm_if (gm_bnd hG (Nat.le_of_ble_eq_true rfl) (fun _ _ => (gm_if gm_some (gm_tail hG (Nat.le_of_ble_eq_true rfl))))) (gm_if (gm_if (gm_if (gm_tail hG (Nat.le_of_ble_eq_true rfl)) (gm_tail hG (Nat.le_of_ble_eq_true rfl))) gm_none) gm_none)) gm_none) gm_none) gm_some)))))) gm_none))))))
theorem qC_Sym_greater_48_48_p72 (rec : mF) (hG : GM rec) (σ : mS) (x0 x1 x2 x3 x4 x5 x6 : Int32) : gm σ (kC_Sym_greater_48_48_p72 rec σ x0 x1 x2 x3 x4 x5 x6) := by
  unfold kC_Sym_greater_48_48_p72
  exact gm_some
theorem qC_Sym_greater_48_48_p110 (rec : mF) (hG : GM rec) (σ : mS) (x0 x1 x2 x3 x4 x5 x6 x7 : Int32) : gm σ (kC_Sym_greater_48_48_p110 rec σ x0 x1 x2 x3 x4 x5 x6 x7) := by
  unfold kC_Sym_greater_48_48_p110
  exact (gm_if gm_some gm_none)
theorem qC_Sym_greater_48_68 (rec : mF) (hG : GM rec) (σ : mS) (x0 x1 : Int32) : gm σ (kC_Sym_greater_48_68 rec σ x0 x1) := by
  unfold kC_Sym_greater_48_68
  exact (gm_tail hG (Nat.le_of_ble_eq_true rfl))
theorem qC_Sym_greater_48_68_p10 (rec : mF) (hG : GM rec) (σ : mS) (x0 x1 x2 x3 x4 : Int32) : gm σ (kC_Sym_greater_48_68_p10 rec σ x0 x1 x2 x3 x4) := by
  unfold kC_Sym_greater_48_68_p10
  exact (gm_if gm_some (gm_bnd hG (Nat.le_of_ble_eq_true rfl) (fun _ _ => (gm_bnd hG (Nat.le_of_ble_eq_true rfl) (fun _ _ => (gm_if (gm_if (gm_tail hG (Nat.le_of_ble_eq_true rfl)) (gm_if (gm_tail hG (Nat.le_of_ble_eq_true rfl)) (gm_bnd hG (Nat.le_of_ble_eq_true rfl) (fun _ _ => (gm_if (gm_tail hG (Nat.le_of_ble_eq_true rfl)) (gm_if (gm_if (gm_if (gm_if (gm_bnd hG (Nat.le_of_ble_eq_true rfl) (fun _ _ => (gm_if gm_some (gm_tail hG (Nat.le_of_ble_eq_true rfl))))) (gm_if (gm_if (gm_if (gm_tail hG (Nat.le_of_ble_eq_true rfl)) (gm_tail hG (Nat.le_of_ble_eq_true rfl))) gm_none) gm_none)) gm_none) gm_none) gm_some)))))) gm_none))))))
theorem qC_Sym_greater_48_68_p72 (rec : mF) (hG : GM rec) (σ : mS) (x0 x1 x2 x3 x4 x5 x6 : Int32) : gm σ (kC_Sym_greater_48_68_p72 rec σ x0 x1 x2 x3 x4 x5 x6) := by
  unfold kC_Sym_greater_48_68_p72
  exact gm_some
theorem qC_Sym_greater_48_68_p110 (rec : mF) (hG : GM rec) (σ : mS) (x0 x1 x2 x3 x4 x5 x6 x7 : Int32) : gm σ (kC_Sym_greater_48_68_p110 rec σ x0 x1 x2 x3 x4 x5 x6 x7) := by
  unfold kC_Sym_greater_48_68_p110
  exact (gm_if gm_some gm_none)
theorem qC_Sym_hasAllVariables_40_68 (rec : mF) (hG : GM rec) (σ : mS) (x0 x1 x2 x3 : Int32) : gm σ (kC_Sym_hasAllVariables_40_68 rec σ x0 x1 x2 x3) := by
  unfold kC_Sym_hasAllVariables_40_68
  exact (gm_lt ⟨Nat.le_refl _, Nat.le_refl _, rfl⟩ (gm_tail hG (Nat.le_of_ble_eq_true rfl)))
theorem qC_Sym_hasAllVariables_40_68_p11 (rec : mF) (hG : GM rec) (σ : mS) (x0 x1 x2 x3 x4 : Int32) : gm σ (kC_Sym_hasAllVariables_40_68_p11 rec σ x0 x1 x2 x3 x4) := by
  unfold kC_Sym_hasAllVariables_40_68_p11
  exact (gm_if (gm_tail hG (Nat.le_of_ble_eq_true rfl)) (gm_if (gm_if (gm_tail hG (Nat.le_of_ble_eq_true rfl)) (gm_if (gm_if (gm_if (gm_lt ⟨Nat.le_refl _, Nat.le_refl _, rfl⟩ (gm_tail hG (Nat.le_of_ble_eq_true rfl))) gm_none) gm_none) gm_none)) gm_none))
theorem qC_Sym_hasAllVariables_40_68_p41 (rec : mF) (hG : GM rec) (σ : mS) (x0 x1 x2 x3 x4 : Int32) : gm σ (kC_Sym_hasAllVariables_40_68_p41 rec σ x0 x1 x2 x3 x4) := by
  unfold kC_Sym_hasAllVariables_40_68_p41
  exact (gm_tail hG (Nat.le_of_ble_eq_true rfl))
theorem qC_Sym_hasAllVariables_40_68_p51 (rec : mF) (hG : GM rec) (σ : mS) (x0 x1 x2 x3 x4 : Int32) : gm σ (kC_Sym_hasAllVariables_40_68_p51 rec σ x0 x1 x2 x3 x4) := by
  unfold kC_Sym_hasAllVariables_40_68_p51
  exact (gm_if gm_some (gm_if (gm_if (gm_tail hG (Nat.le_of_ble_eq_true rfl)) (gm_if (gm_if (gm_if (gm_lt ⟨Nat.le_refl _, Nat.le_refl _, rfl⟩ (gm_if (gm_tail hG (Nat.le_of_ble_eq_true rfl)) gm_some)) gm_none) gm_none) gm_none)) gm_none))
theorem qC_Sym_hasAllVariables_40_68_p91 (rec : mF) (hG : GM rec) (σ : mS) (x0 x1 x2 x3 x4 : Int32) : gm σ (kC_Sym_hasAllVariables_40_68_p91 rec σ x0 x1 x2 x3 x4) := by
  unfold kC_Sym_hasAllVariables_40_68_p91
  exact (gm_tail hG (Nat.le_of_ble_eq_true rfl))
theorem qC_Sym_hasAllVariables_48_48 (rec : mF) (hG : GM rec) (σ : mS) (x0 x1 x2 x3 : Int32) : gm σ (kC_Sym_hasAllVariables_48_48 rec σ x0 x1 x2 x3) := by
  unfold kC_Sym_hasAllVariables_48_48
  exact (gm_lt ⟨Nat.le_refl _, Nat.le_refl _, rfl⟩ (gm_tail hG (Nat.le_of_ble_eq_true rfl)))
theorem qC_Sym_hasAllVariables_48_48_p11 (rec : mF) (hG : GM rec) (σ : mS) (x0 x1 x2 x3 x4 : Int32) : gm σ (kC_Sym_hasAllVariables_48_48_p11 rec σ x0 x1 x2 x3 x4) := by
  unfold kC_Sym_hasAllVariables_48_48_p11
  exact (gm_if (gm_tail hG (Nat.le_of_ble_eq_true rfl)) (gm_if (gm_if (gm_tail hG (Nat.le_of_ble_eq_true rfl)) (gm_if (gm_if (gm_if (gm_lt ⟨Nat.le_refl _, Nat.le_refl _, rfl⟩ (gm_tail hG (Nat.le_of_ble_eq_true rfl))) gm_none) gm_none) gm_none)) gm_none))
theorem qC_Sym_hasAllVariables_48_48_p41 (rec : mF) (hG : GM rec) (σ : mS) (x0 x1 x2 x3 x4 : Int32) : gm σ (kC_Sym_hasAllVariables_48_48_p41 rec σ x0 x1 x2 x3 x4) := by
  unfold kC_Sym_hasAllVariables_48_48_p41
  exact (gm_tail hG (Nat.le_of_ble_eq_true rfl))
theorem qC_Sym_hasAllVariables_48_48_p51 (rec : mF) (hG : GM rec) (σ : mS) (x0 x1 x2 x3 x4 : Int32) : gm σ (kC_Sym_hasAllVariables_48_48_p51 rec σ x0 x1 x2 x3 x4) := by
  unfold kC_Sym_hasAllVariables_48_48_p51
  exact (gm_if gm_some (gm_if (gm_if (gm_tail hG (Nat.le_of_ble_eq_true rfl)) (gm_if (gm_if (gm_if (gm_lt ⟨Nat.le_refl _, Nat.le_refl _, rfl⟩ (gm_if (gm_tail hG (Nat.le_of_ble_eq_true rfl)) gm_some)) gm_none) gm_none) gm_none)) gm_none))
theorem qC_Sym_hasAllVariables_48_48_p91 (rec : mF) (hG : GM rec) (σ : mS) (x0 x1 x2 x3 x4 : Int32) : gm σ (kC_Sym_hasAllVariables_48_48_p91 rec σ x0 x1 x2 x3 x4) := by
  unfold kC_Sym_hasAllVariables_48_48_p91
  exact (gm_tail hG (Nat.le_of_ble_eq_true rfl))
theorem qC_Sym_hasAllVariables_48_68 (rec : mF) (hG : GM rec) (σ : mS) (x0 x1 x2 x3 : Int32) : gm σ (kC_Sym_hasAllVariables_48_68 rec σ x0 x1 x2 x3) := by
  unfold kC_Sym_hasAllVariables_48_68
  exact (gm_lt ⟨Nat.le_refl _, Nat.le_refl _, rfl⟩ (gm_tail hG (Nat.le_of_ble_eq_true rfl)))
theorem qC_Sym_hasAllVariables_48_68_p11 (rec : mF) (hG : GM rec) (σ : mS) (x0 x1 x2 x3 x4 : Int32) : gm σ (kC_Sym_hasAllVariables_48_68_p11 rec σ x0 x1 x2 x3 x4) := by
  unfold kC_Sym_hasAllVariables_48_68_p11
  exact (gm_if (gm_tail hG (Nat.le_of_ble_eq_true rfl)) (gm_if (gm_if (gm_tail hG (Nat.le_of_ble_eq_true rfl)) (gm_if (gm_if (gm_if (gm_lt ⟨Nat.le_refl _, Nat.le_refl _, rfl⟩ (gm_tail hG (Nat.le_of_ble_eq_true rfl))) gm_none) gm_none) gm_none)) gm_none))
theorem qC_Sym_hasAllVariables_48_68_p41 (rec : mF) (hG : GM rec) (σ : mS) (x0 x1 x2 x3 x4 : Int32) : gm σ (kC_Sym_hasAllVariables_48_68_p41 rec σ x0 x1 x2 x3 x4) := by
  unfold kC_Sym_hasAllVariables_48_68_p41
  exact (gm_tail hG (Nat.le_of_ble_eq_true rfl))
theorem qC_Sym_hasAllVariables_48_68_p51 (rec : mF) (hG : GM rec) (σ : mS) (x0 x1 x2 x3 x4 : Int32) : gm σ (kC_Sym_hasAllVariables_48_68_p51 rec σ x0 x1 x2 x3 x4) := by
  unfold kC_Sym_hasAllVariables_48_68_p51
  exact (gm_if gm_some (gm_if (gm_if (gm_tail hG (Nat.le_of_ble_eq_true rfl)) (gm_if (gm_if (gm_if (gm_lt ⟨Nat.le_refl _, Nat.le_refl _, rfl⟩ (gm_if (gm_tail hG (Nat.le_of_ble_eq_true rfl)) gm_some)) gm_none) gm_none) gm_none)) gm_none))
theorem qC_Sym_hasAllVariables_48_68_p91 (rec : mF) (hG : GM rec) (σ : mS) (x0 x1 x2 x3 x4 : Int32) : gm σ (kC_Sym_hasAllVariables_48_68_p91 rec σ x0 x1 x2 x3 x4) := by
  unfold kC_Sym_hasAllVariables_48_68_p91
  exact (gm_tail hG (Nat.le_of_ble_eq_true rfl))
theorem qC_Sym_isPredicate (rec : mF) (hG : GM rec) (σ : mS) (x0 : Int32) : gm σ (kC_Sym_isPredicate rec σ x0) := by
  unfold kC_Sym_isPredicate
  exact (gm_if (gm_if (gm_tail hG (Nat.le_of_ble_eq_true rfl)) (gm_tail hG (Nat.le_of_ble_eq_true rfl))) gm_none)
theorem qC_Sym_isPredicate_p15 (rec : mF) (hG : GM rec) (σ : mS) (x0 x1 : Int32) : gm σ (kC_Sym_isPredicate_p15 rec σ x0 x1) := by
  unfold kC_Sym_isPredicate_p15
  exact (gm_if gm_some gm_none)
theorem qC_Sym_isWitness (rec : mF) (hG : GM rec) (σ : mS) (x0 : Int32) : gm σ (kC_Sym_isWitness rec σ x0) := by
  unfold kC_Sym_isWitness
  exact (gm_if (gm_tail hG (Nat.le_of_ble_eq_true rfl)) (gm_tail hG (Nat.le_of_ble_eq_true rfl)))
theorem qC_Sym_isWitness_p13 (rec : mF) (hG : GM rec) (σ : mS) (x0 x1 : Int32) : gm σ (kC_Sym_isWitness_p13 rec σ x0 x1) := by
  unfold kC_Sym_isWitness_p13
  exact (gm_if gm_some gm_none)
theorem qC_Sym_same_40_40 (rec : mF) (hG : GM rec) (σ : mS) (x0 x1 : Int32) : gm σ (kC_Sym_same_40_40 rec σ x0 x1) := by
  unfold kC_Sym_same_40_40
  exact (gm_bnd hG (Nat.le_of_ble_eq_true rfl) (fun _ _ => (gm_if (gm_tail hG (Nat.le_of_ble_eq_true rfl)) gm_some)))
theorem qC_Sym_same_40_40_p25 (rec : mF) (hG : GM rec) (σ : mS) (x0 x1 x2 x3 : Int32) : gm σ (kC_Sym_same_40_40_p25 rec σ x0 x1 x2 x3) := by
  unfold kC_Sym_same_40_40_p25
  exact (gm_if gm_some (gm_if (gm_if (gm_if (gm_tail hG (Nat.le_of_ble_eq_true rfl)) gm_some) gm_none) gm_none))
theorem qC_Sym_same_48_48 (rec : mF) (hG : GM rec) (σ : mS) (x0 x1 : Int32) : gm σ (kC_Sym_same_48_48 rec σ x0 x1) := by
  unfold kC_Sym_same_48_48
  exact (gm_bnd hG (Nat.le_of_ble_eq_true rfl) (fun _ _ => (gm_if (gm_tail hG (Nat.le_of_ble_eq_true rfl)) gm_some)))
theorem qC_Sym_same_48_48_p25 (rec : mF) (hG : GM rec) (σ : mS) (x0 x1 x2 x3 : Int32) : gm σ (kC_Sym_same_48_48_p25 rec σ x0 x1 x2 x3) := by
  unfold kC_Sym_same_48_48_p25
  exact (gm_if gm_some (gm_if (gm_if (gm_if (gm_tail hG (Nat.le_of_ble_eq_true rfl)) gm_some) gm_none) gm_none))
theorem qC_Sym_settles (rec : mF) (hG : GM rec) (σ : mS) (x0 x1 x2 : Int32) : gm σ (kC_Sym_settles rec σ x0 x1 x2) := by
  unfold kC_Sym_settles
  exact (gm_if (gm_if (gm_if (gm_lt ⟨Nat.le_refl _, Nat.le_refl _, rfl⟩ (gm_if (gm_lt ⟨Nat.le_refl _, Nat.le_refl _, rfl⟩ (gm_tail hG (Nat.le_of_ble_eq_true rfl))) gm_none)) gm_none) (gm_tail hG (Nat.le_of_ble_eq_true rfl))) gm_none)
theorem qC_Sym_settles_p23 (rec : mF) (hG : GM rec) (σ : mS) (x0 x1 x2 : Int32) : gm σ (kC_Sym_settles_p23 rec σ x0 x1 x2) := by
  unfold kC_Sym_settles_p23
  exact (gm_if (gm_if (gm_if (gm_if (gm_tail hG (Nat.le_of_ble_eq_true rfl)) (gm_tail hG (Nat.le_of_ble_eq_true rfl))) gm_none) (gm_tail hG (Nat.le_of_ble_eq_true rfl))) gm_none)
theorem qC_Sym_settles_p47 (rec : mF) (hG : GM rec) (σ : mS) (x0 x1 x2 : Int32) : gm σ (kC_Sym_settles_p47 rec σ x0 x1 x2) := by
  unfold kC_Sym_settles_p47
  exact (gm_tail hG (Nat.le_of_ble_eq_true rfl))
theorem qC_Sym_settles_p48 (rec : mF) (hG : GM rec) (σ : mS) (x0 x1 x2 x3 : Int32) : gm σ (kC_Sym_settles_p48 rec σ x0 x1 x2 x3) := by
  unfold kC_Sym_settles_p48
  exact (gm_if gm_some gm_none)
theorem qC_Sym_toDifference_40_68 (rec : mF) (hG : GM rec) (σ : mS) (x0 x1 x2 : Int32) : gm σ (kC_Sym_toDifference_40_68 rec σ x0 x1 x2) := by
  unfold kC_Sym_toDifference_40_68
  exact (gm_tail hG (Nat.le_of_ble_eq_true rfl))
theorem qC_Sym_toDifference_40_68_p3 (rec : mF) (hG : GM rec) (σ : mS) (x0 x1 x2 x3 : Int32) : gm σ (kC_Sym_toDifference_40_68_p3 rec σ x0 x1 x2 x3) := by
  unfold kC_Sym_toDifference_40_68_p3
  exact (gm_if (gm_tail hG (Nat.le_of_ble_eq_true rfl)) (gm_if (gm_if (gm_if (gm_tail hG (Nat.le_of_ble_eq_true rfl)) (gm_tail hG (Nat.le_of_ble_eq_true rfl))) gm_none) gm_none))
theorem qC_Sym_toDifference_40_68_p32 (rec : mF) (hG : GM rec) (σ : mS) (x0 x1 x2 x3 : Int32) : gm σ (kC_Sym_toDifference_40_68_p32 rec σ x0 x1 x2 x3) := by
  unfold kC_Sym_toDifference_40_68_p32
  exact (gm_tail hG (Nat.le_of_ble_eq_true rfl))
theorem qC_Sym_toDifference_40_68_p35 (rec : mF) (hG : GM rec) (σ : mS) (x0 x1 x2 x3 x4 : Int32) : gm σ (kC_Sym_toDifference_40_68_p35 rec σ x0 x1 x2 x3 x4) := by
  unfold kC_Sym_toDifference_40_68_p35
  exact (gm_if (gm_tail hG (Nat.le_of_ble_eq_true rfl)) (gm_if (gm_tail hG (Nat.le_of_ble_eq_true rfl)) (gm_bnd hG (Nat.le_of_ble_eq_true rfl) (fun _ _ => (gm_if (gm_tail hG (Nat.le_of_ble_eq_true rfl)) gm_some)))))
theorem qC_Sym_toDifference_40_68_p79 (rec : mF) (hG : GM rec) (σ : mS) (x0 x1 x2 x3 x4 : Int32) : gm σ (kC_Sym_toDifference_40_68_p79 rec σ x0 x1 x2 x3 x4) := by
  unfold kC_Sym_toDifference_40_68_p79
  exact gm_some
theorem qC_Sym_toDifference_48_48 (rec : mF) (hG : GM rec) (σ : mS) (x0 x1 x2 : Int32) : gm σ (kC_Sym_toDifference_48_48 rec σ x0 x1 x2) := by
  unfold kC_Sym_toDifference_48_48
  exact (gm_tail hG (Nat.le_of_ble_eq_true rfl))
theorem qC_Sym_toDifference_48_48_p3 (rec : mF) (hG : GM rec) (σ : mS) (x0 x1 x2 x3 : Int32) : gm σ (kC_Sym_toDifference_48_48_p3 rec σ x0 x1 x2 x3) := by
  unfold kC_Sym_toDifference_48_48_p3
  exact (gm_if (gm_tail hG (Nat.le_of_ble_eq_true rfl)) (gm_if (gm_if (gm_if (gm_tail hG (Nat.le_of_ble_eq_true rfl)) (gm_tail hG (Nat.le_of_ble_eq_true rfl))) gm_none) gm_none))
theorem qC_Sym_toDifference_48_48_p32 (rec : mF) (hG : GM rec) (σ : mS) (x0 x1 x2 x3 : Int32) : gm σ (kC_Sym_toDifference_48_48_p32 rec σ x0 x1 x2 x3) := by
  unfold kC_Sym_toDifference_48_48_p32
  exact (gm_tail hG (Nat.le_of_ble_eq_true rfl))
theorem qC_Sym_toDifference_48_48_p35 (rec : mF) (hG : GM rec) (σ : mS) (x0 x1 x2 x3 x4 : Int32) : gm σ (kC_Sym_toDifference_48_48_p35 rec σ x0 x1 x2 x3 x4) := by
  unfold kC_Sym_toDifference_48_48_p35
  exact (gm_if (gm_tail hG (Nat.le_of_ble_eq_true rfl)) (gm_if (gm_tail hG (Nat.le_of_ble_eq_true rfl)) (gm_bnd hG (Nat.le_of_ble_eq_true rfl) (fun _ _ => (gm_if (gm_tail hG (Nat.le_of_ble_eq_true rfl)) gm_some)))))
theorem qC_Sym_toDifference_48_48_p79 (rec : mF) (hG : GM rec) (σ : mS) (x0 x1 x2 x3 x4 : Int32) : gm σ (kC_Sym_toDifference_48_48_p79 rec σ x0 x1 x2 x3 x4) := by
  unfold kC_Sym_toDifference_48_48_p79
  exact gm_some
theorem qC_Sym_toDifference_48_68 (rec : mF) (hG : GM rec) (σ : mS) (x0 x1 x2 : Int32) : gm σ (kC_Sym_toDifference_48_68 rec σ x0 x1 x2) := by
  unfold kC_Sym_toDifference_48_68
  exact (gm_tail hG (Nat.le_of_ble_eq_true rfl))
theorem qC_Sym_toDifference_48_68_p3 (rec : mF) (hG : GM rec) (σ : mS) (x0 x1 x2 x3 : Int32) : gm σ (kC_Sym_toDifference_48_68_p3 rec σ x0 x1 x2 x3) := by
  unfold kC_Sym_toDifference_48_68_p3
  exact (gm_if (gm_tail hG (Nat.le_of_ble_eq_true rfl)) (gm_if (gm_if (gm_if (gm_tail hG (Nat.le_of_ble_eq_true rfl)) (gm_tail hG (Nat.le_of_ble_eq_true rfl))) gm_none) gm_none))
theorem qC_Sym_toDifference_48_68_p32 (rec : mF) (hG : GM rec) (σ : mS) (x0 x1 x2 x3 : Int32) : gm σ (kC_Sym_toDifference_48_68_p32 rec σ x0 x1 x2 x3) := by
  unfold kC_Sym_toDifference_48_68_p32
  exact (gm_tail hG (Nat.le_of_ble_eq_true rfl))
theorem qC_Sym_toDifference_48_68_p35 (rec : mF) (hG : GM rec) (σ : mS) (x0 x1 x2 x3 x4 : Int32) : gm σ (kC_Sym_toDifference_48_68_p35 rec σ x0 x1 x2 x3 x4) := by
  unfold kC_Sym_toDifference_48_68_p35
  exact (gm_if (gm_tail hG (Nat.le_of_ble_eq_true rfl)) (gm_if (gm_tail hG (Nat.le_of_ble_eq_true rfl)) (gm_bnd hG (Nat.le_of_ble_eq_true rfl) (fun _ _ => (gm_if (gm_tail hG (Nat.le_of_ble_eq_true rfl)) gm_some)))))
theorem qC_Sym_toDifference_48_68_p79 (rec : mF) (hG : GM rec) (σ : mS) (x0 x1 x2 x3 x4 : Int32) : gm σ (kC_Sym_toDifference_48_68_p79 rec σ x0 x1 x2 x3 x4) := by
  unfold kC_Sym_toDifference_48_68_p79
  exact gm_some
theorem qC_Uni_clear (rec : mF) (hG : GM rec) (σ : mS) (x0 x1 : Int32) : gm σ (kC_Uni_clear rec σ x0 x1) := by
  unfold kC_Uni_clear
  exact (gm_tail hG (Nat.le_of_ble_eq_true rfl))
theorem qC_Uni_clear_p2 (rec : mF) (hG : GM rec) (σ : mS) (x0 x1 x2 : Int32) : gm σ (kC_Uni_clear_p2 rec σ x0 x1 x2) := by
  unfold kC_Uni_clear_p2
  exact (gm_if (gm_lt ⟨Nat.le_refl _, Nat.le_refl _, rfl⟩ (gm_lt ⟨Nat.le_refl _, Nat.le_refl _, rfl⟩ (gm_lt ⟨Nat.le_refl _, Nat.le_refl _, rfl⟩ (gm_tail hG (Nat.le_of_ble_eq_true rfl))))) (gm_if (gm_lt ⟨Nat.le_refl _, Nat.le_refl _, rfl⟩ (gm_if (gm_lt ⟨Nat.le_refl _, Nat.le_refl _, rfl⟩ (gm_tail hG (Nat.le_of_ble_eq_true rfl))) gm_none)) gm_none))
theorem qC_Uni_clear_p45 (rec : mF) (hG : GM rec) (σ : mS) (x0 x1 x2 : Int32) : gm σ (kC_Uni_clear_p45 rec σ x0 x1 x2) := by
  unfold kC_Uni_clear_p45
  exact (gm_if (gm_lt ⟨Nat.le_refl _, Nat.le_refl _, rfl⟩ gm_some) (gm_if (gm_if (gm_lt ⟨Nat.le_refl _, Nat.le_refl _, rfl⟩ (gm_tail hG (Nat.le_of_ble_eq_true rfl))) gm_none) gm_none))
theorem qC_Uni_occurs (rec : mF) (hG : GM rec) (σ : mS) (x0 x1 x2 : Int32) : gm σ (kC_Uni_occurs rec σ x0 x1 x2) := by
  unfold kC_Uni_occurs
  exact (gm_tail hG (Nat.le_of_ble_eq_true rfl))
theorem qC_Uni_occurs_p15 (rec : mF) (hG : GM rec) (σ : mS) (x0 x1 x2 x3 x4 x5 x6 x7 : Int32) : gm σ (kC_Uni_occurs_p15 rec σ x0 x1 x2 x3 x4 x5 x6 x7) := by
  unfold kC_Uni_occurs_p15
  exact (gm_if (gm_tail hG (Nat.le_of_ble_eq_true rfl)) (gm_tail hG (Nat.le_of_ble_eq_true rfl)))
theorem qC_Uni_occurs_p29 (rec : mF) (hG : GM rec) (σ : mS) (x0 x1 x2 x3 x4 x5 x6 x7 x8 x9 : Int32) : gm σ (kC_Uni_occurs_p29 rec σ x0 x1 x2 x3 x4 x5 x6 x7 x8 x9) := by
  unfold kC_Uni_occurs_p29
  exact (gm_if (gm_tail hG (Nat.le_of_ble_eq_true rfl)) (gm_if (gm_tail hG (Nat.le_of_ble_eq_true rfl)) (gm_if (gm_if (gm_if (gm_tail hG (Nat.le_of_ble_eq_true rfl)) gm_none) (gm_tail hG (Nat.le_of_ble_eq_true rfl))) gm_none)))
theorem qC_Uni_occurs_p81 (rec : mF) (hG : GM rec) (σ : mS) (x0 x1 x2 x3 x4 x5 x6 x7 x8 x9 x10 x11 x12 : Int32) : gm σ (kC_Uni_occurs_p81 rec σ x0 x1 x2 x3 x4 x5 x6 x7 x8 x9 x10 x11 x12) := by
  unfold kC_Uni_occurs_p81
  exact (gm_if (gm_tail hG (Nat.le_of_ble_eq_true rfl)) (gm_if (gm_tail hG (Nat.le_of_ble_eq_true rfl)) gm_none))
theorem qC_Uni_occurs_p109 (rec : mF) (hG : GM rec) (σ : mS) (x0 x1 x2 x3 x4 x5 x6 x7 x8 x9 x10 x11 x12 : Int32) : gm σ (kC_Uni_occurs_p109 rec σ x0 x1 x2 x3 x4 x5 x6 x7 x8 x9 x10 x11 x12) := by
  unfold kC_Uni_occurs_p109
  exact (gm_tail hG (Nat.le_of_ble_eq_true rfl))
theorem qC_Uni_occurs_p118 (rec : mF) (hG : GM rec) (σ : mS) (x0 x1 x2 x3 x4 x5 x6 x7 x8 x9 : Int32) : gm σ (kC_Uni_occurs_p118 rec σ x0 x1 x2 x3 x4 x5 x6 x7 x8 x9) := by
  unfold kC_Uni_occurs_p118
  exact (gm_if (gm_tail hG (Nat.le_of_ble_eq_true rfl)) (gm_if (gm_tail hG (Nat.le_of_ble_eq_true rfl)) (gm_bnd hG (Nat.le_of_ble_eq_true rfl) (fun _ _ => (gm_if (gm_if (gm_tail hG (Nat.le_of_ble_eq_true rfl)) gm_none) gm_none)))))
theorem qC_Uni_occurs_p190 (rec : mF) (hG : GM rec) (σ : mS) (x0 x1 x2 x3 x4 x5 x6 x7 : Int32) : gm σ (kC_Uni_occurs_p190 rec σ x0 x1 x2 x3 x4 x5 x6 x7) := by
  unfold kC_Uni_occurs_p190
  exact (gm_if (gm_tail hG (Nat.le_of_ble_eq_true rfl)) (gm_tail hG (Nat.le_of_ble_eq_true rfl)))
theorem qC_Uni_occurs_p205 (rec : mF) (hG : GM rec) (σ : mS) (x0 x1 x2 x3 x4 x5 x6 x7 x8 : Int32) : gm σ (kC_Uni_occurs_p205 rec σ x0 x1 x2 x3 x4 x5 x6 x7 x8) := by
  unfold kC_Uni_occurs_p205
  exact (gm_if gm_some gm_none)
theorem qC_Uni_write (rec : mF) (hG : GM rec) (σ : mS) (x0 x1 x2 x3 : Int32) : gm σ (kC_Uni_write rec σ x0 x1 x2 x3) := by
  unfold kC_Uni_write
  exact (gm_tail hG (Nat.le_of_ble_eq_true rfl))
theorem qC_Uni_write_p3 (rec : mF) (hG : GM rec) (σ : mS) (x0 x1 x2 x3 x4 : Int32) : gm σ (kC_Uni_write_p3 rec σ x0 x1 x2 x3 x4) := by
  unfold kC_Uni_write_p3
  exact (gm_if (gm_tail hG (Nat.le_of_ble_eq_true rfl)) (gm_if (gm_if (gm_tail hG (Nat.le_of_ble_eq_true rfl)) (gm_if (gm_if (gm_tail hG (Nat.le_of_ble_eq_true rfl)) (gm_if (gm_tail hG (Nat.le_of_ble_eq_true rfl)) gm_none)) gm_none)) (gm_tail hG (Nat.le_of_ble_eq_true rfl))))
theorem qC_Uni_write_p56 (rec : mF) (hG : GM rec) (σ : mS) (x0 x1 x2 x3 x4 x5 x6 : Int32) : gm σ (kC_Uni_write_p56 rec σ x0 x1 x2 x3 x4 x5 x6) := by
  unfold kC_Uni_write_p56
  exact (gm_if (gm_bnd hG (Nat.le_of_ble_eq_true rfl) (fun _ _ => (gm_tail hG (Nat.le_of_ble_eq_true rfl)))) (gm_if (gm_if (gm_bnd hG (Nat.le_of_ble_eq_true rfl) (fun _ _ => (gm_bnd hG (Nat.le_of_ble_eq_true rfl) (fun _ _ => (gm_tail hG (Nat.le_of_ble_eq_true rfl)))))) (gm_if (gm_if (gm_bnd hG (Nat.le_of_ble_eq_true rfl) (fun _ _ => (gm_if (gm_bnd hG (Nat.le_of_ble_eq_true rfl) (fun _ _ => (gm_tail hG (Nat.le_of_ble_eq_true rfl)))) gm_none))) gm_none) gm_none)) gm_none))
theorem qC_Uni_write_p141 (rec : mF) (hG : GM rec) (σ : mS) (x0 x1 x2 x3 x4 x5 x6 : Int32) : gm σ (kC_Uni_write_p141 rec σ x0 x1 x2 x3 x4 x5 x6) := by
  unfold kC_Uni_write_p141
  exact (gm_tail hG (Nat.le_of_ble_eq_true rfl))
theorem qC_Uni_write_p147 (rec : mF) (hG : GM rec) (σ : mS) (x0 x1 x2 x3 x4 : Int32) : gm σ (kC_Uni_write_p147 rec σ x0 x1 x2 x3 x4) := by
  unfold kC_Uni_write_p147
  exact gm_some
theorem qC_Wds_advance (rec : mF) (hG : GM rec) (σ : mS) : gm σ (kC_Wds_advance rec σ) := by
  unfold kC_Wds_advance
  exact (gm_bnd hG (Nat.le_of_ble_eq_true rfl) (fun _ _ => (gm_lt ⟨Nat.le_refl _, Nat.le_refl _, rfl⟩ (gm_lt ⟨Nat.le_refl _, Nat.le_refl _, rfl⟩ (gm_lt ⟨Nat.le_refl _, Nat.le_refl _, rfl⟩ (gm_lt ⟨Nat.le_refl _, Nat.le_refl _, rfl⟩ (gm_if (gm_lt ⟨Nat.le_refl _, Nat.le_refl _, rfl⟩ (gm_if (gm_tail hG (Nat.le_of_ble_eq_true rfl)) (gm_tail hG (Nat.le_of_ble_eq_true rfl)))) gm_some)))))))
theorem qC_Wds_advance_p65 (rec : mF) (hG : GM rec) (σ : mS) (x0 : Int32) : gm σ (kC_Wds_advance_p65 rec σ x0) := by
  unfold kC_Wds_advance_p65
  exact (gm_if (gm_lt ⟨Nat.le_refl _, Nat.le_refl _, rfl⟩ (gm_if (gm_if (gm_tail hG (Nat.le_of_ble_eq_true rfl)) (gm_if (gm_if (gm_tail hG (Nat.le_of_ble_eq_true rfl)) (gm_bnd hG (Nat.le_of_ble_eq_true rfl) (fun _ _ => (gm_tail hG (Nat.le_of_ble_eq_true rfl))))) gm_none)) gm_none)) gm_none)
theorem qC_Wds_advance_p109 (rec : mF) (hG : GM rec) (σ : mS) : gm σ (kC_Wds_advance_p109 rec σ) := by
  unfold kC_Wds_advance_p109
  exact (gm_if (gm_tail hG (Nat.le_of_ble_eq_true rfl)) (gm_if (gm_tail hG (Nat.le_of_ble_eq_true rfl)) gm_none))
theorem qC_Wds_advance_p138 (rec : mF) (hG : GM rec) (σ : mS) (x0 : Int32) : gm σ (kC_Wds_advance_p138 rec σ x0) := by
  unfold kC_Wds_advance_p138
  exact (gm_if (gm_tail hG (Nat.le_of_ble_eq_true rfl)) (gm_if (gm_tail hG (Nat.le_of_ble_eq_true rfl)) gm_none))
theorem qC_Wds_advance_p166 (rec : mF) (hG : GM rec) (σ : mS) (x0 x1 : Int32) : gm σ (kC_Wds_advance_p166 rec σ x0 x1) := by
  unfold kC_Wds_advance_p166
  exact (gm_bnd hG (Nat.le_of_ble_eq_true rfl) (fun _ _ => (gm_tail hG (Nat.le_of_ble_eq_true rfl))))
theorem qC_Wds_advance_p169 (rec : mF) (hG : GM rec) (σ : mS) : gm σ (kC_Wds_advance_p169 rec σ) := by
  unfold kC_Wds_advance_p169
  exact (gm_lt ⟨Nat.le_refl _, Nat.le_refl _, rfl⟩ gm_some)
theorem qC_Wds_isNow (rec : mF) (hG : GM rec) (σ : mS) (x0 : Int32) : gm σ (kC_Wds_isNow rec σ x0) := by
  unfold kC_Wds_isNow
  exact (gm_if (gm_if (gm_tail hG (Nat.le_of_ble_eq_true rfl)) (gm_tail hG (Nat.le_of_ble_eq_true rfl))) (gm_tail hG (Nat.le_of_ble_eq_true rfl)))
theorem qC_Wds_isNow_p19 (rec : mF) (hG : GM rec) (σ : mS) (x0 : Int32) : gm σ (kC_Wds_isNow_p19 rec σ x0) := by
  unfold kC_Wds_isNow_p19
  exact (gm_tail hG (Nat.le_of_ble_eq_true rfl))
theorem qC_Wds_isNow_p20 (rec : mF) (hG : GM rec) (σ : mS) (x0 x1 : Int32) : gm σ (kC_Wds_isNow_p20 rec σ x0 x1) := by
  unfold kC_Wds_isNow_p20
  exact (gm_if gm_some gm_none)
theorem qC_Wds_isProve (rec : mF) (hG : GM rec) (σ : mS) : gm σ (kC_Wds_isProve rec σ) := by
  unfold kC_Wds_isProve
  exact (gm_bnd hG (Nat.le_of_ble_eq_true rfl) (fun _ _ => (gm_if (gm_tail hG (Nat.le_of_ble_eq_true rfl)) (gm_if (gm_if (gm_if (gm_if (gm_if (gm_if (gm_if (gm_if (gm_if (gm_if (gm_if (gm_tail hG (Nat.le_of_ble_eq_true rfl)) (gm_tail hG (Nat.le_of_ble_eq_true rfl))) gm_none) (gm_tail hG (Nat.le_of_ble_eq_true rfl))) gm_none) (gm_tail hG (Nat.le_of_ble_eq_true rfl))) gm_none) (gm_tail hG (Nat.le_of_ble_eq_true rfl))) gm_none) (gm_tail hG (Nat.le_of_ble_eq_true rfl))) gm_none) (gm_tail hG (Nat.le_of_ble_eq_true rfl))))))
theorem qC_Wds_isProve_p98 (rec : mF) (hG : GM rec) (σ : mS) : gm σ (kC_Wds_isProve_p98 rec σ) := by
  unfold kC_Wds_isProve_p98
  exact (gm_tail hG (Nat.le_of_ble_eq_true rfl))
theorem qC_Wds_isProve_p99 (rec : mF) (hG : GM rec) (σ : mS) (x0 : Int32) : gm σ (kC_Wds_isProve_p99 rec σ x0) := by
  unfold kC_Wds_isProve_p99
  exact (gm_if gm_some gm_none)
theorem qC_Wds_skipBlanks (rec : mF) (hG : GM rec) (σ : mS) : gm σ (kC_Wds_skipBlanks rec σ) := by
  unfold kC_Wds_skipBlanks
  exact (gm_tail hG (Nat.le_of_ble_eq_true rfl))
theorem qC_Wds_skipBlanks_p2 (rec : mF) (hG : GM rec) (σ : mS) (x0 : Int32) : gm σ (kC_Wds_skipBlanks_p2 rec σ x0) := by
  unfold kC_Wds_skipBlanks_p2
  exact (gm_if gm_some (gm_if (gm_if (gm_tail hG (Nat.le_of_ble_eq_true rfl)) (gm_if (gm_tail hG (Nat.le_of_ble_eq_true rfl)) (gm_if (gm_if (gm_tail hG (Nat.le_of_ble_eq_true rfl)) (gm_if (gm_tail hG (Nat.le_of_ble_eq_true rfl)) (gm_if (gm_tail hG (Nat.le_of_ble_eq_true rfl)) gm_some))) (gm_tail hG (Nat.le_of_ble_eq_true rfl))))) gm_none))
theorem qC_Wds_skipBlanks_p68 (rec : mF) (hG : GM rec) (σ : mS) (x0 x1 : Int32) : gm σ (kC_Wds_skipBlanks_p68 rec σ x0 x1) := by
  unfold kC_Wds_skipBlanks_p68
  exact (gm_lt ⟨Nat.le_refl _, Nat.le_refl _, rfl⟩ (gm_tail hG (Nat.le_of_ble_eq_true rfl)))
theorem qC_Wds_takeSign (rec : mF) (hG : GM rec) (σ : mS) (x0 x1 : Int32) : gm σ (kC_Wds_takeSign rec σ x0 x1) := by
  unfold kC_Wds_takeSign
  exact (gm_lt ⟨Nat.le_refl _, Nat.le_refl _, rfl⟩ (gm_if (gm_if (gm_if (gm_tail hG (Nat.le_of_ble_eq_true rfl)) (gm_tail hG (Nat.le_of_ble_eq_true rfl))) (gm_if (gm_lt ⟨Nat.le_refl _, Nat.le_refl _, rfl⟩ (gm_tail hG (Nat.le_of_ble_eq_true rfl))) (gm_if (gm_lt ⟨Nat.le_refl _, Nat.le_refl _, rfl⟩ (gm_tail hG (Nat.le_of_ble_eq_true rfl))) (gm_if (gm_lt ⟨Nat.le_refl _, Nat.le_refl _, rfl⟩ (gm_tail hG (Nat.le_of_ble_eq_true rfl))) (gm_if (gm_lt ⟨Nat.le_refl _, Nat.le_refl _, rfl⟩ (gm_tail hG (Nat.le_of_ble_eq_true rfl))) (gm_if (gm_lt ⟨Nat.le_refl _, Nat.le_refl _, rfl⟩ (gm_tail hG (Nat.le_of_ble_eq_true rfl))) (gm_if (gm_lt ⟨Nat.le_refl _, Nat.le_refl _, rfl⟩ (gm_tail hG (Nat.le_of_ble_eq_true rfl))) (gm_if (gm_if (gm_if (gm_tail hG (Nat.le_of_ble_eq_true rfl)) (gm_tail hG (Nat.le_of_ble_eq_true rfl))) (gm_tail hG (Nat.le_of_ble_eq_true rfl))) (gm_if (gm_if (gm_tail hG (Nat.le_of_ble_eq_true rfl)) (gm_tail hG (Nat.le_of_ble_eq_true rfl))) (gm_if (gm_lt ⟨Nat.le_refl _, Nat.le_refl _, rfl⟩ (gm_tail hG (Nat.le_of_ble_eq_true rfl))) (gm_if (gm_lt ⟨Nat.le_refl _, Nat.le_refl _, rfl⟩ (gm_tail hG (Nat.le_of_ble_eq_true rfl))) (gm_if (gm_lt ⟨Nat.le_refl _, Nat.le_refl _, rfl⟩ (gm_tail hG (Nat.le_of_ble_eq_true rfl))) (gm_lt ⟨Nat.le_refl _, Nat.le_refl _, rfl⟩ (gm_tail hG (Nat.le_of_ble_eq_true rfl))))))))))))))) gm_none))
theorem qC_Wds_takeSign_p211 (rec : mF) (hG : GM rec) (σ : mS) (x0 x1 x2 : Int32) : gm σ (kC_Wds_takeSign_p211 rec σ x0 x1 x2) := by
  unfold kC_Wds_takeSign_p211
  exact (gm_lt ⟨Nat.le_refl _, Nat.le_refl _, rfl⟩ (gm_if (gm_tail hG (Nat.le_of_ble_eq_true rfl)) (gm_tail hG (Nat.le_of_ble_eq_true rfl))))
theorem qC_Wds_takeSign_p228 (rec : mF) (hG : GM rec) (σ : mS) (x0 x1 x2 : Int32) : gm σ (kC_Wds_takeSign_p228 rec σ x0 x1 x2) := by
  unfold kC_Wds_takeSign_p228
  exact (gm_lt ⟨Nat.le_refl _, Nat.le_refl _, rfl⟩ (gm_tail hG (Nat.le_of_ble_eq_true rfl)))
theorem qC_Wds_takeSign_p246 (rec : mF) (hG : GM rec) (σ : mS) (x0 x1 x2 : Int32) : gm σ (kC_Wds_takeSign_p246 rec σ x0 x1 x2) := by
  unfold kC_Wds_takeSign_p246
  exact (gm_lt ⟨Nat.le_refl _, Nat.le_refl _, rfl⟩ (gm_if (gm_tail hG (Nat.le_of_ble_eq_true rfl)) (gm_tail hG (Nat.le_of_ble_eq_true rfl))))
theorem qC_Wds_takeSign_p263 (rec : mF) (hG : GM rec) (σ : mS) (x0 x1 x2 : Int32) : gm σ (kC_Wds_takeSign_p263 rec σ x0 x1 x2) := by
  unfold kC_Wds_takeSign_p263
  exact (gm_lt ⟨Nat.le_refl _, Nat.le_refl _, rfl⟩ (gm_tail hG (Nat.le_of_ble_eq_true rfl)))
theorem qC_Wds_takeSign_p286 (rec : mF) (hG : GM rec) (σ : mS) (x0 x1 : Int32) : gm σ (kC_Wds_takeSign_p286 rec σ x0 x1) := by
  unfold kC_Wds_takeSign_p286
  exact (gm_tail hG (Nat.le_of_ble_eq_true rfl))
theorem qC_Wds_takeSign_p287 (rec : mF) (hG : GM rec) (σ : mS) (x0 x1 x2 : Int32) : gm σ (kC_Wds_takeSign_p287 rec σ x0 x1 x2) := by
  unfold kC_Wds_takeSign_p287
  exact (gm_lt ⟨Nat.le_refl _, Nat.le_refl _, rfl⟩ (gm_if (gm_tail hG (Nat.le_of_ble_eq_true rfl)) (gm_tail hG (Nat.le_of_ble_eq_true rfl))))
theorem qC_Wds_takeSign_p305 (rec : mF) (hG : GM rec) (σ : mS) (x0 x1 x2 : Int32) : gm σ (kC_Wds_takeSign_p305 rec σ x0 x1 x2) := by
  unfold kC_Wds_takeSign_p305
  exact (gm_lt ⟨Nat.le_refl _, Nat.le_refl _, rfl⟩ (gm_tail hG (Nat.le_of_ble_eq_true rfl)))
theorem qC_Wds_takeSign_p316 (rec : mF) (hG : GM rec) (σ : mS) (x0 x1 : Int32) : gm σ (kC_Wds_takeSign_p316 rec σ x0 x1) := by
  unfold kC_Wds_takeSign_p316
  exact gm_some
theorem qC_Wds_takeWord (rec : mF) (hG : GM rec) (σ : mS) : gm σ (kC_Wds_takeWord rec σ) := by
  unfold kC_Wds_takeWord
  exact (gm_tail hG (Nat.le_of_ble_eq_true rfl))
theorem qC_Wds_takeWord_p2 (rec : mF) (hG : GM rec) (σ : mS) (x0 : Int32) : gm σ (kC_Wds_takeWord_p2 rec σ x0) := by
  unfold kC_Wds_takeWord_p2
  exact (gm_if (gm_tail hG (Nat.le_of_ble_eq_true rfl)) (gm_if (gm_tail hG (Nat.le_of_ble_eq_true rfl)) (gm_if (gm_if (gm_tail hG (Nat.le_of_ble_eq_true rfl)) (gm_if (gm_tail hG (Nat.le_of_ble_eq_true rfl)) (gm_tail hG (Nat.le_of_ble_eq_true rfl)))) gm_none)))
theorem qC_Wds_takeWord_p55 (rec : mF) (hG : GM rec) (σ : mS) (x0 x1 : Int32) : gm σ (kC_Wds_takeWord_p55 rec σ x0 x1) := by
  unfold kC_Wds_takeWord_p55
  exact (gm_if (gm_tail hG (Nat.le_of_ble_eq_true rfl)) (gm_if (gm_tail hG (Nat.le_of_ble_eq_true rfl)) (gm_tail hG (Nat.le_of_ble_eq_true rfl))))
theorem qC_Wds_takeWord_p67 (rec : mF) (hG : GM rec) (σ : mS) (x0 x1 : Int32) : gm σ (kC_Wds_takeWord_p67 rec σ x0 x1) := by
  unfold kC_Wds_takeWord_p67
  exact (gm_if (gm_tail hG (Nat.le_of_ble_eq_true rfl)) (gm_tail hG (Nat.le_of_ble_eq_true rfl)))
theorem qC_Wds_takeWord_p73 (rec : mF) (hG : GM rec) (σ : mS) (x0 x1 : Int32) : gm σ (kC_Wds_takeWord_p73 rec σ x0 x1) := by
  unfold kC_Wds_takeWord_p73
  exact (gm_tail hG (Nat.le_of_ble_eq_true rfl))
theorem qC_Wds_takeWord_p78 (rec : mF) (hG : GM rec) (σ : mS) (x0 x1 x2 : Int32) : gm σ (kC_Wds_takeWord_p78 rec σ x0 x1 x2) := by
  unfold kC_Wds_takeWord_p78
  exact (gm_if (gm_tail hG (Nat.le_of_ble_eq_true rfl)) (gm_tail hG (Nat.le_of_ble_eq_true rfl)))
theorem qC_Wds_takeWord_p93 (rec : mF) (hG : GM rec) (σ : mS) (x0 x1 x2 x3 : Int32) : gm σ (kC_Wds_takeWord_p93 rec σ x0 x1 x2 x3) := by
  unfold kC_Wds_takeWord_p93
  exact (gm_lt ⟨Nat.le_refl _, Nat.le_refl _, rfl⟩ (gm_tail hG (Nat.le_of_ble_eq_true rfl)))
theorem qC_Wds_takeWord_p100 (rec : mF) (hG : GM rec) (σ : mS) (x0 : Int32) : gm σ (kC_Wds_takeWord_p100 rec σ x0) := by
  unfold kC_Wds_takeWord_p100
  exact (gm_if (gm_if (gm_tail hG (Nat.le_of_ble_eq_true rfl)) (gm_tail hG (Nat.le_of_ble_eq_true rfl))) gm_none)
theorem qC_Wds_takeWord_p119 (rec : mF) (hG : GM rec) (σ : mS) (x0 x1 : Int32) : gm σ (kC_Wds_takeWord_p119 rec σ x0 x1) := by
  unfold kC_Wds_takeWord_p119
  exact (gm_if (gm_if (gm_tail hG (Nat.le_of_ble_eq_true rfl)) (gm_tail hG (Nat.le_of_ble_eq_true rfl))) (gm_tail hG (Nat.le_of_ble_eq_true rfl)))
theorem qC_Wds_takeWord_p143 (rec : mF) (hG : GM rec) (σ : mS) (x0 x1 x2 : Int32) : gm σ (kC_Wds_takeWord_p143 rec σ x0 x1 x2) := by
  unfold kC_Wds_takeWord_p143
  exact (gm_lt ⟨Nat.le_refl _, Nat.le_refl _, rfl⟩ gm_some)
theorem qC_Integer_numberOfTrailingZeros (rec : mF) (hG : GM rec) (σ : mS) (x0 : Int32) : gm σ (kC_Integer_numberOfTrailingZeros rec σ x0) := by
  unfold kC_Integer_numberOfTrailingZeros
  exact (gm_if (gm_if (gm_tail hG (Nat.le_of_ble_eq_true rfl)) (gm_tail hG (Nat.le_of_ble_eq_true rfl))) gm_some)
theorem qC_Integer_numberOfTrailingZeros_p34 (rec : mF) (hG : GM rec) (σ : mS) (x0 x1 : Int32) : gm σ (kC_Integer_numberOfTrailingZeros_p34 rec σ x0 x1) := by
  unfold kC_Integer_numberOfTrailingZeros_p34
  exact (gm_if (gm_tail hG (Nat.le_of_ble_eq_true rfl)) (gm_tail hG (Nat.le_of_ble_eq_true rfl)))
theorem qC_Integer_numberOfTrailingZeros_p49 (rec : mF) (hG : GM rec) (σ : mS) (x0 x1 : Int32) : gm σ (kC_Integer_numberOfTrailingZeros_p49 rec σ x0 x1) := by
  unfold kC_Integer_numberOfTrailingZeros_p49
  exact (gm_if (gm_tail hG (Nat.le_of_ble_eq_true rfl)) (gm_tail hG (Nat.le_of_ble_eq_true rfl)))
theorem qC_Integer_numberOfTrailingZeros_p62 (rec : mF) (hG : GM rec) (σ : mS) (x0 x1 : Int32) : gm σ (kC_Integer_numberOfTrailingZeros_p62 rec σ x0 x1) := by
  unfold kC_Integer_numberOfTrailingZeros_p62
  exact (gm_if (gm_tail hG (Nat.le_of_ble_eq_true rfl)) (gm_tail hG (Nat.le_of_ble_eq_true rfl)))
theorem qC_Integer_numberOfTrailingZeros_p74 (rec : mF) (hG : GM rec) (σ : mS) (x0 x1 : Int32) : gm σ (kC_Integer_numberOfTrailingZeros_p74 rec σ x0 x1) := by
  unfold kC_Integer_numberOfTrailingZeros_p74
  exact gm_some
theorem um_0 {σ : mS} {k : Option mR} (h : gm σ (k)) (xs : List Int32) : gm σ (u_0 k xs) := by
  match xs with
  | [] => exact h
  | _ :: _ => exact gm_none
theorem um_1 {σ : mS} {k : Int32 → Option mR} (h : ∀ x0, gm σ (k x0)) (xs : List Int32) : gm σ (u_1 k xs) := by
  match xs with
  | [x0] => exact h x0
  | [] => exact gm_none
  | _ :: _ :: _ => exact gm_none
theorem um_2 {σ : mS} {k : Int32 → Int32 → Option mR} (h : ∀ x0 x1, gm σ (k x0 x1)) (xs : List Int32) : gm σ (u_2 k xs) := by
  match xs with
  | [x0, x1] => exact h x0 x1
  | [] => exact gm_none
  | [_] => exact gm_none
  | _ :: _ :: _ :: _ => exact gm_none
theorem um_3 {σ : mS} {k : Int32 → Int32 → Int32 → Option mR} (h : ∀ x0 x1 x2, gm σ (k x0 x1 x2)) (xs : List Int32) : gm σ (u_3 k xs) := by
  match xs with
  | [x0, x1, x2] => exact h x0 x1 x2
  | [] => exact gm_none
  | [_] => exact gm_none
  | [_, _] => exact gm_none
  | _ :: _ :: _ :: _ :: _ => exact gm_none
theorem um_4 {σ : mS} {k : Int32 → Int32 → Int32 → Int32 → Option mR} (h : ∀ x0 x1 x2 x3, gm σ (k x0 x1 x2 x3)) (xs : List Int32) : gm σ (u_4 k xs) := by
  match xs with
  | [x0, x1, x2, x3] => exact h x0 x1 x2 x3
  | [] => exact gm_none
  | [_] => exact gm_none
  | [_, _] => exact gm_none
  | [_, _, _] => exact gm_none
  | _ :: _ :: _ :: _ :: _ :: _ => exact gm_none
theorem um_5 {σ : mS} {k : Int32 → Int32 → Int32 → Int32 → Int32 → Option mR} (h : ∀ x0 x1 x2 x3 x4, gm σ (k x0 x1 x2 x3 x4)) (xs : List Int32) : gm σ (u_5 k xs) := by
  match xs with
  | [x0, x1, x2, x3, x4] => exact h x0 x1 x2 x3 x4
  | [] => exact gm_none
  | [_] => exact gm_none
  | [_, _] => exact gm_none
  | [_, _, _] => exact gm_none
  | [_, _, _, _] => exact gm_none
  | _ :: _ :: _ :: _ :: _ :: _ :: _ => exact gm_none
theorem um_6 {σ : mS} {k : Int32 → Int32 → Int32 → Int32 → Int32 → Int32 → Option mR} (h : ∀ x0 x1 x2 x3 x4 x5, gm σ (k x0 x1 x2 x3 x4 x5)) (xs : List Int32) : gm σ (u_6 k xs) := by
  match xs with
  | [x0, x1, x2, x3, x4, x5] => exact h x0 x1 x2 x3 x4 x5
  | [] => exact gm_none
  | [_] => exact gm_none
  | [_, _] => exact gm_none
  | [_, _, _] => exact gm_none
  | [_, _, _, _] => exact gm_none
  | [_, _, _, _, _] => exact gm_none
  | _ :: _ :: _ :: _ :: _ :: _ :: _ :: _ => exact gm_none
theorem um_7 {σ : mS} {k : Int32 → Int32 → Int32 → Int32 → Int32 → Int32 → Int32 → Option mR} (h : ∀ x0 x1 x2 x3 x4 x5 x6, gm σ (k x0 x1 x2 x3 x4 x5 x6)) (xs : List Int32) : gm σ (u_7 k xs) := by
  match xs with
  | [x0, x1, x2, x3, x4, x5, x6] => exact h x0 x1 x2 x3 x4 x5 x6
  | [] => exact gm_none
  | [_] => exact gm_none
  | [_, _] => exact gm_none
  | [_, _, _] => exact gm_none
  | [_, _, _, _] => exact gm_none
  | [_, _, _, _, _] => exact gm_none
  | [_, _, _, _, _, _] => exact gm_none
  | _ :: _ :: _ :: _ :: _ :: _ :: _ :: _ :: _ => exact gm_none
theorem um_8 {σ : mS} {k : Int32 → Int32 → Int32 → Int32 → Int32 → Int32 → Int32 → Int32 → Option mR} (h : ∀ x0 x1 x2 x3 x4 x5 x6 x7, gm σ (k x0 x1 x2 x3 x4 x5 x6 x7)) (xs : List Int32) : gm σ (u_8 k xs) := by
  match xs with
  | [x0, x1, x2, x3, x4, x5, x6, x7] => exact h x0 x1 x2 x3 x4 x5 x6 x7
  | [] => exact gm_none
  | [_] => exact gm_none
  | [_, _] => exact gm_none
  | [_, _, _] => exact gm_none
  | [_, _, _, _] => exact gm_none
  | [_, _, _, _, _] => exact gm_none
  | [_, _, _, _, _, _] => exact gm_none
  | [_, _, _, _, _, _, _] => exact gm_none
  | _ :: _ :: _ :: _ :: _ :: _ :: _ :: _ :: _ :: _ => exact gm_none
theorem um_9 {σ : mS} {k : Int32 → Int32 → Int32 → Int32 → Int32 → Int32 → Int32 → Int32 → Int32 → Option mR} (h : ∀ x0 x1 x2 x3 x4 x5 x6 x7 x8, gm σ (k x0 x1 x2 x3 x4 x5 x6 x7 x8)) (xs : List Int32) : gm σ (u_9 k xs) := by
  match xs with
  | [x0, x1, x2, x3, x4, x5, x6, x7, x8] => exact h x0 x1 x2 x3 x4 x5 x6 x7 x8
  | [] => exact gm_none
  | [_] => exact gm_none
  | [_, _] => exact gm_none
  | [_, _, _] => exact gm_none
  | [_, _, _, _] => exact gm_none
  | [_, _, _, _, _] => exact gm_none
  | [_, _, _, _, _, _] => exact gm_none
  | [_, _, _, _, _, _, _] => exact gm_none
  | [_, _, _, _, _, _, _, _] => exact gm_none
  | _ :: _ :: _ :: _ :: _ :: _ :: _ :: _ :: _ :: _ :: _ => exact gm_none
theorem um_10 {σ : mS} {k : Int32 → Int32 → Int32 → Int32 → Int32 → Int32 → Int32 → Int32 → Int32 → Int32 → Option mR} (h : ∀ x0 x1 x2 x3 x4 x5 x6 x7 x8 x9, gm σ (k x0 x1 x2 x3 x4 x5 x6 x7 x8 x9)) (xs : List Int32) : gm σ (u_10 k xs) := by
  match xs with
  | [x0, x1, x2, x3, x4, x5, x6, x7, x8, x9] => exact h x0 x1 x2 x3 x4 x5 x6 x7 x8 x9
  | [] => exact gm_none
  | [_] => exact gm_none
  | [_, _] => exact gm_none
  | [_, _, _] => exact gm_none
  | [_, _, _, _] => exact gm_none
  | [_, _, _, _, _] => exact gm_none
  | [_, _, _, _, _, _] => exact gm_none
  | [_, _, _, _, _, _, _] => exact gm_none
  | [_, _, _, _, _, _, _, _] => exact gm_none
  | [_, _, _, _, _, _, _, _, _] => exact gm_none
  | _ :: _ :: _ :: _ :: _ :: _ :: _ :: _ :: _ :: _ :: _ :: _ => exact gm_none
theorem um_11 {σ : mS} {k : Int32 → Int32 → Int32 → Int32 → Int32 → Int32 → Int32 → Int32 → Int32 → Int32 → Int32 → Option mR} (h : ∀ x0 x1 x2 x3 x4 x5 x6 x7 x8 x9 x10, gm σ (k x0 x1 x2 x3 x4 x5 x6 x7 x8 x9 x10)) (xs : List Int32) : gm σ (u_11 k xs) := by
  match xs with
  | [x0, x1, x2, x3, x4, x5, x6, x7, x8, x9, x10] => exact h x0 x1 x2 x3 x4 x5 x6 x7 x8 x9 x10
  | [] => exact gm_none
  | [_] => exact gm_none
  | [_, _] => exact gm_none
  | [_, _, _] => exact gm_none
  | [_, _, _, _] => exact gm_none
  | [_, _, _, _, _] => exact gm_none
  | [_, _, _, _, _, _] => exact gm_none
  | [_, _, _, _, _, _, _] => exact gm_none
  | [_, _, _, _, _, _, _, _] => exact gm_none
  | [_, _, _, _, _, _, _, _, _] => exact gm_none
  | [_, _, _, _, _, _, _, _, _, _] => exact gm_none
  | _ :: _ :: _ :: _ :: _ :: _ :: _ :: _ :: _ :: _ :: _ :: _ :: _ => exact gm_none
theorem um_12 {σ : mS} {k : Int32 → Int32 → Int32 → Int32 → Int32 → Int32 → Int32 → Int32 → Int32 → Int32 → Int32 → Int32 → Option mR} (h : ∀ x0 x1 x2 x3 x4 x5 x6 x7 x8 x9 x10 x11, gm σ (k x0 x1 x2 x3 x4 x5 x6 x7 x8 x9 x10 x11)) (xs : List Int32) : gm σ (u_12 k xs) := by
  match xs with
  | [x0, x1, x2, x3, x4, x5, x6, x7, x8, x9, x10, x11] => exact h x0 x1 x2 x3 x4 x5 x6 x7 x8 x9 x10 x11
  | [] => exact gm_none
  | [_] => exact gm_none
  | [_, _] => exact gm_none
  | [_, _, _] => exact gm_none
  | [_, _, _, _] => exact gm_none
  | [_, _, _, _, _] => exact gm_none
  | [_, _, _, _, _, _] => exact gm_none
  | [_, _, _, _, _, _, _] => exact gm_none
  | [_, _, _, _, _, _, _, _] => exact gm_none
  | [_, _, _, _, _, _, _, _, _] => exact gm_none
  | [_, _, _, _, _, _, _, _, _, _] => exact gm_none
  | [_, _, _, _, _, _, _, _, _, _, _] => exact gm_none
  | _ :: _ :: _ :: _ :: _ :: _ :: _ :: _ :: _ :: _ :: _ :: _ :: _ :: _ => exact gm_none
theorem um_13 {σ : mS} {k : Int32 → Int32 → Int32 → Int32 → Int32 → Int32 → Int32 → Int32 → Int32 → Int32 → Int32 → Int32 → Int32 → Option mR} (h : ∀ x0 x1 x2 x3 x4 x5 x6 x7 x8 x9 x10 x11 x12, gm σ (k x0 x1 x2 x3 x4 x5 x6 x7 x8 x9 x10 x11 x12)) (xs : List Int32) : gm σ (u_13 k xs) := by
  match xs with
  | [x0, x1, x2, x3, x4, x5, x6, x7, x8, x9, x10, x11, x12] => exact h x0 x1 x2 x3 x4 x5 x6 x7 x8 x9 x10 x11 x12
  | [] => exact gm_none
  | [_] => exact gm_none
  | [_, _] => exact gm_none
  | [_, _, _] => exact gm_none
  | [_, _, _, _] => exact gm_none
  | [_, _, _, _, _] => exact gm_none
  | [_, _, _, _, _, _] => exact gm_none
  | [_, _, _, _, _, _, _] => exact gm_none
  | [_, _, _, _, _, _, _, _] => exact gm_none
  | [_, _, _, _, _, _, _, _, _] => exact gm_none
  | [_, _, _, _, _, _, _, _, _, _] => exact gm_none
  | [_, _, _, _, _, _, _, _, _, _, _] => exact gm_none
  | [_, _, _, _, _, _, _, _, _, _, _, _] => exact gm_none
  | _ :: _ :: _ :: _ :: _ :: _ :: _ :: _ :: _ :: _ :: _ :: _ :: _ :: _ :: _ => exact gm_none
theorem up_1 {σ : mS} {k : Int32 → Option mR} (h : ∀ x0, g2 σ (k x0)) (xs : List Int32) : g2 σ (u_1 k xs) := by
  match xs with
  | [x0] => exact h x0
  | [] => exact g2_none
  | _ :: _ :: _ => exact g2_none
theorem up_2 {σ : mS} {k : Int32 → Int32 → Option mR} (h : ∀ x0 x1, g2 σ (k x0 x1)) (xs : List Int32) : g2 σ (u_2 k xs) := by
  match xs with
  | [x0, x1] => exact h x0 x1
  | [] => exact g2_none
  | [_] => exact g2_none
  | _ :: _ :: _ :: _ => exact g2_none
theorem up_3 {σ : mS} {k : Int32 → Int32 → Int32 → Option mR} (h : ∀ x0 x1 x2, g2 σ (k x0 x1 x2)) (xs : List Int32) : g2 σ (u_3 k xs) := by
  match xs with
  | [x0, x1, x2] => exact h x0 x1 x2
  | [] => exact g2_none
  | [_] => exact g2_none
  | [_, _] => exact g2_none
  | _ :: _ :: _ :: _ :: _ => exact g2_none
theorem up_4 {σ : mS} {k : Int32 → Int32 → Int32 → Int32 → Option mR} (h : ∀ x0 x1 x2 x3, g2 σ (k x0 x1 x2 x3)) (xs : List Int32) : g2 σ (u_4 k xs) := by
  match xs with
  | [x0, x1, x2, x3] => exact h x0 x1 x2 x3
  | [] => exact g2_none
  | [_] => exact g2_none
  | [_, _] => exact g2_none
  | [_, _, _] => exact g2_none
  | _ :: _ :: _ :: _ :: _ :: _ => exact g2_none
theorem up_5 {σ : mS} {k : Int32 → Int32 → Int32 → Int32 → Int32 → Option mR} (h : ∀ x0 x1 x2 x3 x4, g2 σ (k x0 x1 x2 x3 x4)) (xs : List Int32) : g2 σ (u_5 k xs) := by
  match xs with
  | [x0, x1, x2, x3, x4] => exact h x0 x1 x2 x3 x4
  | [] => exact g2_none
  | [_] => exact g2_none
  | [_, _] => exact g2_none
  | [_, _, _] => exact g2_none
  | [_, _, _, _] => exact g2_none
  | _ :: _ :: _ :: _ :: _ :: _ :: _ => exact g2_none
theorem up_6 {σ : mS} {k : Int32 → Int32 → Int32 → Int32 → Int32 → Int32 → Option mR} (h : ∀ x0 x1 x2 x3 x4 x5, g2 σ (k x0 x1 x2 x3 x4 x5)) (xs : List Int32) : g2 σ (u_6 k xs) := by
  match xs with
  | [x0, x1, x2, x3, x4, x5] => exact h x0 x1 x2 x3 x4 x5
  | [] => exact g2_none
  | [_] => exact g2_none
  | [_, _] => exact g2_none
  | [_, _, _] => exact g2_none
  | [_, _, _, _] => exact g2_none
  | [_, _, _, _, _] => exact g2_none
  | _ :: _ :: _ :: _ :: _ :: _ :: _ :: _ => exact g2_none
