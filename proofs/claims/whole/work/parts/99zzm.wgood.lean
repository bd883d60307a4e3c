def nR (rec : zF) : zF := fun t β σ xs => if t < 1000 then rec t β σ xs else none
def xR (rec : zF) : zF := fun t β σ xs => if t < 1000 then none else rec t β σ xs
def nRm (rec : mF) : mF := fun t σ xs => if t < 1000 then rec t σ xs else none
def xRm (rec : mF) : mF := fun t σ xs => if t < 1000 then none else rec t σ xs
theorem gz_callN (t β : Nat) (σ : zS) (xs : List Int) : gz (fun rec => nR rec t β σ xs) := by
  unfold nR
  exact gz_if (gz_call _ _ _ _) (gz_const _)
theorem gz_callX (t β : Nat) (σ : zS) (xs : List Int) : gz (fun rec => xR rec t β σ xs) := by
  unfold xR
  exact gz_if (gz_const _) (gz_call _ _ _ _)
theorem gW_parse (β : Nat) (σ : zS) : gz (fun rec => kW_parse (nR rec) (xR rec) β σ) := by
  unfold kW_parse
  exact (gz_let (fun _ => (gz_let (fun _ => (gz_let (fun _ => (gz_callX _ _ _ _)))))))
theorem gW_parse_15 (β : Nat) (σ : zS) : gz (fun rec => kW_parse_15 (nR rec) (xR rec) β σ) := by
  unfold kW_parse_15
  exact (gz_if (gz_bnd (gz_callN _ _ _ _) (fun _ _ => (gz_if (gz_let (fun _ => (gz_const _))) (gz_if (gz_let (fun _ => (gz_let (fun _ => (gz_let (fun _ => (gz_if (gz_if (gz_if (gz_if (gz_bnd (gz_callN _ _ _ _) (fun _ _ => (gz_if (gz_callX _ _ _ _) (gz_if (gz_if (gz_bnd (gz_callN _ _ _ _) (fun _ _ => (gz_if (gz_callX _ _ _ _) (gz_if (gz_if (gz_bnd (gz_callN _ _ _ _) (fun _ _ => (gz_if (gz_callX _ _ _ _) (gz_if (gz_if (gz_bnd (gz_callN _ _ _ _) (fun _ _ => (gz_if (gz_callX _ _ _ _) (gz_if (gz_if (gz_bnd (gz_callN _ _ _ _) (fun _ _ => (gz_if (gz_callX _ _ _ _) (gz_callX _ _ _ _)))) (gz_const _)) (gz_const _))))) (gz_const _)) (gz_const _))))) (gz_const _)) (gz_const _))))) (gz_const _)) (gz_const _))))) (gz_const _)) (gz_callX _ _ _ _)) (gz_const _)) (gz_callX _ _ _ _)))))))) (gz_const _))))) (gz_const _))
theorem gW_parse_143 (β : Nat) (σ : zS) : gz (fun rec => kW_parse_143 (nR rec) (xR rec) β σ) := by
  unfold kW_parse_143
  exact (gz_callX _ _ _ _)
theorem gW_parse_144 (β : Nat) (σ : zS) (x0 : Int) : gz (fun rec => kW_parse_144 (nR rec) (xR rec) β σ x0) := by
  unfold kW_parse_144
  exact (gz_if (gz_callX _ _ _ _) (gz_if (gz_bnd (gz_callN _ _ _ _) (fun _ _ => (gz_callX _ _ _ _))) (gz_const _)))
theorem gW_parse_153 (β : Nat) (σ : zS) (x0 : Int) : gz (fun rec => kW_parse_153 (nR rec) (xR rec) β σ x0) := by
  unfold kW_parse_153
  exact (gz_if (gz_if (gz_let (fun _ => (gz_if (gz_bnd (gz_callX _ _ _ _) (fun _ _ => (gz_if (gz_if (gz_let (fun _ => (gz_if (gz_bnd (gz_callX _ _ _ _) (fun _ _ => (gz_if (gz_if (gz_let (fun _ => (gz_if (gz_let (fun _ => (gz_callX _ _ _ _))) (gz_const _)))) (gz_const _)) (gz_const _)))) (gz_const _)))) (gz_const _)) (gz_const _)))) (gz_const _)))) (gz_const _)) (gz_const _))
theorem gW_parse_211 (β : Nat) (σ : zS) (x0 x1 : Int) : gz (fun rec => kW_parse_211 (nR rec) (xR rec) β σ x0 x1) := by
  unfold kW_parse_211
  exact (gz_if (gz_if (gz_let (fun _ => (gz_callX _ _ _ _))) (gz_const _)) (gz_if (gz_let (fun _ => (gz_if (gz_if (gz_let (fun _ => (gz_if (gz_callX _ _ _ _) (gz_const _)))) (gz_const _)) (gz_const _)))) (gz_const _)))
theorem gW_formula (β : Nat) (σ : zS) (x0 : Int) : gz (fun rec => kW_formula (nR rec) (xR rec) β σ x0) := by
  unfold kW_formula
  exact (gz_if (gz_bnd (gz_callX _ _ _ _) (fun _ _ => (gz_if (gz_if (gz_bnd (gz_callN _ _ _ _) (fun _ _ => (gz_if (gz_if (gz_bnd (gz_callN _ _ _ _) (fun _ _ => (gz_if (gz_bnd (gz_callX _ _ _ _) (fun _ _ => (gz_if (gz_if (gz_bnd (gz_callN _ _ _ _) (fun _ _ => (gz_let (fun _ => (gz_const _))))) (gz_const _)) (gz_const _)))) (gz_const _)))) (gz_const _)) (gz_let (fun _ => (gz_const _)))))) (gz_const _)) (gz_const _)))) (gz_const _))
theorem gW_implication (β : Nat) (σ : zS) (x0 : Int) : gz (fun rec => kW_implication (nR rec) (xR rec) β σ x0) := by
  unfold kW_implication
  exact (gz_if (gz_bnd (gz_callX _ _ _ _) (fun _ _ => (gz_if (gz_if (gz_bnd (gz_callN _ _ _ _) (fun _ _ => (gz_if (gz_if (gz_bnd (gz_callN _ _ _ _) (fun _ _ => (gz_if (gz_bnd (gz_callX _ _ _ _) (fun _ _ => (gz_if (gz_if (gz_bnd (gz_callX _ _ _ _) (fun _ _ => (gz_if (gz_if (gz_bnd (gz_callN _ _ _ _) (fun _ _ => (gz_let (fun _ => (gz_const _))))) (gz_const _)) (gz_const _)))) (gz_const _)) (gz_const _)))) (gz_const _)))) (gz_const _)) (gz_let (fun _ => (gz_const _)))))) (gz_const _)) (gz_const _)))) (gz_const _))
theorem gW_choice (β : Nat) (σ : zS) (x0 : Int) : gz (fun rec => kW_choice (nR rec) (xR rec) β σ x0) := by
  unfold kW_choice
  exact (gz_if (gz_bnd (gz_callX _ _ _ _) (fun _ _ => (gz_if (gz_callX _ _ _ _) (gz_const _)))) (gz_const _))
theorem gW_choice_6 (β : Nat) (σ : zS) (x0 x1 : Int) : gz (fun rec => kW_choice_6 (nR rec) (xR rec) β σ x0 x1) := by
  unfold kW_choice_6
  exact (gz_if (gz_bnd (gz_callN _ _ _ _) (fun _ _ => (gz_if (gz_if (gz_bnd (gz_callN _ _ _ _) (fun _ _ => (gz_if (gz_bnd (gz_callX _ _ _ _) (fun _ _ => (gz_if (gz_if (gz_bnd (gz_callN _ _ _ _) (fun _ _ => (gz_callX _ _ _ _))) (gz_const _)) (gz_const _)))) (gz_const _)))) (gz_const _)) (gz_let (fun _ => (gz_const _)))))) (gz_const _))
theorem gW_joint (β : Nat) (σ : zS) (x0 : Int) : gz (fun rec => kW_joint (nR rec) (xR rec) β σ x0) := by
  unfold kW_joint
  exact (gz_if (gz_bnd (gz_callX _ _ _ _) (fun _ _ => (gz_if (gz_callX _ _ _ _) (gz_const _)))) (gz_const _))
theorem gW_joint_6 (β : Nat) (σ : zS) (x0 x1 : Int) : gz (fun rec => kW_joint_6 (nR rec) (xR rec) β σ x0 x1) := by
  unfold kW_joint_6
  exact (gz_if (gz_bnd (gz_callN _ _ _ _) (fun _ _ => (gz_if (gz_if (gz_bnd (gz_callN _ _ _ _) (fun _ _ => (gz_if (gz_bnd (gz_callX _ _ _ _) (fun _ _ => (gz_if (gz_if (gz_bnd (gz_callN _ _ _ _) (fun _ _ => (gz_callX _ _ _ _))) (gz_const _)) (gz_const _)))) (gz_const _)))) (gz_const _)) (gz_let (fun _ => (gz_const _)))))) (gz_const _))
theorem gW_unit (β : Nat) (σ : zS) (x0 : Int) : gz (fun rec => kW_unit (nR rec) (xR rec) β σ x0) := by
  unfold kW_unit
  exact (gz_if (gz_bnd (gz_callN _ _ _ _) (fun _ _ => (gz_if (gz_if (gz_bnd (gz_callN _ _ _ _) (fun _ _ => (gz_if (gz_bnd (gz_callX _ _ _ _) (fun _ _ => (gz_if (gz_if (gz_bnd (gz_callX _ _ _ _) (fun _ _ => (gz_if (gz_if (gz_if (gz_if (gz_bnd (gz_callN _ _ _ _) (fun _ _ => (gz_let (fun _ => (gz_const _))))) (gz_const _)) (gz_const _)) (gz_const _)) (gz_const _)))) (gz_const _)) (gz_const _)))) (gz_const _)))) (gz_const _)) (gz_if (gz_callX _ _ _ _) (gz_if (gz_callX _ _ _ _) (gz_if (gz_if (gz_bnd (gz_callN _ _ _ _) (fun _ _ => (gz_if (gz_bnd (gz_callX _ _ _ _) (fun _ _ => (gz_if (gz_if (gz_bnd (gz_callX _ _ _ _) (fun _ _ => (gz_if (gz_if (gz_bnd (gz_callX _ _ _ _) (fun _ _ => (gz_if (gz_let (fun _ => (gz_const _))) (gz_const _)))) (gz_const _)) (gz_const _)))) (gz_const _)) (gz_const _)))) (gz_const _)))) (gz_const _)) (gz_if (gz_callX _ _ _ _) (gz_if (gz_callX _ _ _ _) (gz_if (gz_let (fun _ => (gz_let (fun _ => (gz_let (fun _ => (gz_const _))))))) (gz_let (fun _ => (gz_let (fun _ => (gz_let (fun _ => (gz_const _)))))))))))))))) (gz_const _))
theorem gW_unit_53 (β : Nat) (σ : zS) (x0 x1 : Int) : gz (fun rec => kW_unit_53 (nR rec) (xR rec) β σ x0 x1) := by
  unfold kW_unit_53
  exact (gz_if (gz_callX _ _ _ _) (gz_callX _ _ _ _))
theorem gW_unit_68 (β : Nat) (σ : zS) (x0 x1 x2 x3 : Int) : gz (fun rec => kW_unit_68 (nR rec) (xR rec) β σ x0 x1 x2 x3) := by
  unfold kW_unit_68
  exact (gz_if (gz_bnd (gz_callX _ _ _ _) (fun _ _ => (gz_if (gz_let (fun _ => (gz_const _))) (gz_const _)))) (gz_const _))
theorem gW_unit_115 (β : Nat) (σ : zS) (x0 x1 : Int) : gz (fun rec => kW_unit_115 (nR rec) (xR rec) β σ x0 x1) := by
  unfold kW_unit_115
  exact (gz_if (gz_bnd (gz_callX _ _ _ _) (fun _ _ => (gz_if (gz_let (fun _ => (gz_const _))) (gz_const _)))) (gz_const _))
theorem gW_nest (β : Nat) (σ : zS) (x0 : Int) : gz (fun rec => kW_nest (nR rec) (xR rec) β σ x0) := by
  unfold kW_nest
  exact (gz_if (gz_if (gz_bnd (gz_callN _ _ _ _) (fun _ _ => (gz_let (fun _ => (gz_let (fun _ => (gz_let (fun _ => (gz_const _))))))))) (gz_const _)) (gz_let (fun _ => (gz_if (gz_const _) (gz_const _)))))
theorem gW_bound2 (β : Nat) (σ : zS) (x0 x1 : Int) : gz (fun rec => kW_bound2 (nR rec) (xR rec) β σ x0 x1) := by
  unfold kW_bound2
  exact (gz_if (gz_bnd (gz_callN _ _ _ _) (fun _ _ => (gz_if (gz_bnd (gz_callN _ _ _ _) (fun _ _ => (gz_if (gz_callX _ _ _ _) (gz_if (gz_let (fun _ => (gz_let (fun _ => (gz_let (fun _ => (gz_const _))))))) (gz_let (fun _ => (gz_let (fun _ => (gz_let (fun _ => (gz_const _))))))))))) (gz_const _)))) (gz_const _))
theorem gW_bound2_28 (β : Nat) (σ : zS) (x0 x1 x2 x3 : Int) : gz (fun rec => kW_bound2_28 (nR rec) (xR rec) β σ x0 x1 x2 x3) := by
  unfold kW_bound2_28
  exact (gz_if (gz_bnd (gz_callN _ _ _ _) (fun _ _ => (gz_if (gz_if (gz_let (fun _ => (gz_if (gz_bnd (gz_callX _ _ _ _) (fun _ _ => (gz_if (gz_if (gz_let (fun _ => (gz_if (gz_bnd (gz_callN _ _ _ _) (fun _ _ => (gz_callX _ _ _ _))) (gz_const _)))) (gz_const _)) (gz_const _)))) (gz_const _)))) (gz_const _)) (gz_if (gz_bnd (gz_callX _ _ _ _) (fun _ _ => (gz_if (gz_if (gz_bnd (gz_callX _ _ _ _) (fun _ _ => (gz_if (gz_if (gz_bnd (gz_callX _ _ _ _) (fun _ _ => (gz_if (gz_let (fun _ => (gz_if (gz_if (gz_if (gz_if (gz_if (gz_if (gz_bnd (gz_callN _ _ _ _) (fun _ _ => (gz_let (fun _ => (gz_const _))))) (gz_const _)) (gz_const _)) (gz_const _)) (gz_const _)) (gz_const _)) (gz_const _)))) (gz_const _)))) (gz_const _)) (gz_const _)))) (gz_const _)) (gz_const _)))) (gz_const _))))) (gz_const _))
theorem gW_binder (β : Nat) (σ : zS) : gz (fun rec => kW_binder (nR rec) (xR rec) β σ) := by
  unfold kW_binder
  exact (gz_if (gz_let (fun _ => (gz_let (fun _ => (gz_let (fun _ => (gz_const _))))))) (gz_if (gz_let (fun _ => (gz_if (gz_if (gz_let (fun _ => (gz_if (gz_let (fun _ => (gz_if (gz_let (fun _ => (gz_let (fun _ => (gz_const _))))) (gz_const _)))) (gz_const _)))) (gz_const _)) (gz_const _)))) (gz_const _)))
theorem gW_must (β : Nat) (σ : zS) (x0 : Int) : gz (fun rec => kW_must (nR rec) (xR rec) β σ x0) := by
  unfold kW_must
  exact (gz_if (gz_bnd (gz_callN _ _ _ _) (fun _ _ => (gz_if (gz_if (gz_bnd (gz_callN _ _ _ _) (fun _ _ => (gz_let (fun _ => (gz_const _))))) (gz_const _)) (gz_if (gz_let (fun _ => (gz_let (fun _ => (gz_let (fun _ => (gz_const _))))))) (gz_let (fun _ => (gz_let (fun _ => (gz_let (fun _ => (gz_const _))))))))))) (gz_const _))
theorem gW_atom1 (β : Nat) (σ : zS) (x0 : Int) : gz (fun rec => kW_atom1 (nR rec) (xR rec) β σ x0) := by
  unfold kW_atom1
  exact (gz_if (gz_bnd (gz_callN _ _ _ _) (fun _ _ => (gz_if (gz_if (gz_bnd (gz_callX _ _ _ _) (fun _ _ => (gz_if (gz_if (gz_bnd (gz_callN _ _ _ _) (fun _ _ => (gz_if (gz_if (gz_bnd (gz_callN _ _ _ _) (fun _ _ => (gz_if (gz_bnd (gz_callN _ _ _ _) (fun _ _ => (gz_if (gz_callX _ _ _ _) (gz_if (gz_bnd (gz_callN _ _ _ _) (fun _ _ => (gz_if (gz_callX _ _ _ _) (gz_if (gz_let (fun _ => (gz_let (fun _ => (gz_let (fun _ => (gz_const _))))))) (gz_let (fun _ => (gz_let (fun _ => (gz_let (fun _ => (gz_const _))))))))))) (gz_const _))))) (gz_const _)))) (gz_const _)) (gz_const _)))) (gz_const _)) (gz_const _)))) (gz_const _)) (gz_if (gz_bnd (gz_callX _ _ _ _) (fun _ _ => (gz_if (gz_if (gz_bnd (gz_callN _ _ _ _) (fun _ _ => (gz_if (gz_bnd (gz_callN _ _ _ _) (fun _ _ => (gz_if (gz_if (gz_bnd (gz_callX _ _ _ _) (fun _ _ => (gz_if (gz_callX _ _ _ _) (gz_const _)))) (gz_const _)) (gz_callX _ _ _ _)))) (gz_const _)))) (gz_const _)) (gz_const _)))) (gz_const _))))) (gz_const _))
theorem gW_atom1_50 (β : Nat) (σ : zS) (x0 x1 x2 : Int) : gz (fun rec => kW_atom1_50 (nR rec) (xR rec) β σ x0 x1 x2) := by
  unfold kW_atom1_50
  exact (gz_if (gz_bnd (gz_callX _ _ _ _) (fun _ _ => (gz_if (gz_let (fun _ => (gz_const _))) (gz_const _)))) (gz_const _))
theorem gW_atom1_89 (β : Nat) (σ : zS) (x0 x1 x2 x3 : Int) : gz (fun rec => kW_atom1_89 (nR rec) (xR rec) β σ x0 x1 x2 x3) := by
  unfold kW_atom1_89
  exact (gz_if (gz_bnd (gz_callN _ _ _ _) (fun _ _ => (gz_if (gz_bnd (gz_callN _ _ _ _) (fun _ _ => (gz_if (gz_callX _ _ _ _) (gz_if (gz_callX _ _ _ _) (gz_callX _ _ _ _))))) (gz_const _)))) (gz_const _))
theorem gW_atom1_122 (β : Nat) (σ : zS) (x0 x1 x2 x3 x4 x5 x6 : Int) : gz (fun rec => kW_atom1_122 (nR rec) (xR rec) β σ x0 x1 x2 x3 x4 x5 x6) := by
  unfold kW_atom1_122
  exact (gz_callX _ _ _ _)
theorem gW_atom1_127 (β : Nat) (σ : zS) (x0 x1 x2 x3 x4 x5 x6 x7 : Int) : gz (fun rec => kW_atom1_127 (nR rec) (xR rec) β σ x0 x1 x2 x3 x4 x5 x6 x7) := by
  unfold kW_atom1_127
  exact (gz_if (gz_bnd (gz_callX _ _ _ _) (fun _ _ => (gz_if (gz_if (gz_callX _ _ _ _) (gz_if (gz_callX _ _ _ _) (gz_if (gz_bnd (gz_callN _ _ _ _) (fun _ _ => (gz_if (gz_bnd (gz_callN _ _ _ _) (fun _ _ => (gz_let (fun _ => (gz_const _))))) (gz_const _)))) (gz_const _)))) (gz_const _)))) (gz_const _))
theorem gW_atom1_148 (β : Nat) (σ : zS) (x0 x1 x2 x3 x4 x5 : Int) : gz (fun rec => kW_atom1_148 (nR rec) (xR rec) β σ x0 x1 x2 x3 x4 x5) := by
  unfold kW_atom1_148
  exact (gz_if (gz_bnd (gz_callN _ _ _ _) (fun _ _ => (gz_if (gz_bnd (gz_callX _ _ _ _) (fun _ _ => (gz_if (gz_let (fun _ => (gz_const _))) (gz_const _)))) (gz_const _)))) (gz_const _))
theorem gW_variable (β : Nat) (σ : zS) : gz (fun rec => kW_variable (nR rec) (xR rec) β σ) := by
  unfold kW_variable
  exact (gz_if (gz_callX _ _ _ _) (gz_const _))
theorem gW_variable_7 (β : Nat) (σ : zS) (x0 : Int) : gz (fun rec => kW_variable_7 (nR rec) (xR rec) β σ x0) := by
  unfold kW_variable_7
  exact (gz_if (gz_callX _ _ _ _) (gz_if (gz_if (gz_bnd (gz_callN _ _ _ _) (fun _ _ => (gz_if (gz_if (gz_callX _ _ _ _) (gz_const _)) (gz_let (fun _ => (gz_const _)))))) (gz_const _)) (gz_const _)))
theorem gW_variable_39 (β : Nat) (σ : zS) (x0 : Int) : gz (fun rec => kW_variable_39 (nR rec) (xR rec) β σ x0) := by
  unfold kW_variable_39
  exact (gz_if (gz_if (gz_bnd (gz_callX _ _ _ _) (fun _ _ => (gz_if (gz_if (gz_let (fun _ => (gz_if (gz_let (fun _ => (gz_let (fun _ => (gz_const _))))) (gz_const _)))) (gz_const _)) (gz_const _)))) (gz_const _)) (gz_if (gz_if (gz_bnd (gz_callN _ _ _ _) (fun _ _ => (gz_if (gz_if (gz_callX _ _ _ _) (gz_const _)) (gz_let (fun _ => (gz_const _)))))) (gz_const _)) (gz_const _)))
theorem gW_equation (β : Nat) (σ : zS) (x0 x1 : Int) : gz (fun rec => kW_equation (nR rec) (xR rec) β σ x0 x1) := by
  unfold kW_equation
  exact (gz_if (gz_bnd (gz_callN _ _ _ _) (fun _ _ => (gz_if (gz_callX _ _ _ _) (gz_callX _ _ _ _)))) (gz_const _))
theorem gW_equation_15 (β : Nat) (σ : zS) (x0 x1 x2 : Int) : gz (fun rec => kW_equation_15 (nR rec) (xR rec) β σ x0 x1 x2) := by
  unfold kW_equation_15
  exact (gz_if (gz_bnd (gz_callN _ _ _ _) (fun _ _ => (gz_if (gz_bnd (gz_callX _ _ _ _) (fun _ _ => (gz_if (gz_if (gz_bnd (gz_callN _ _ _ _) (fun _ _ => (gz_if (gz_callX _ _ _ _) (gz_if (gz_bnd (gz_callN _ _ _ _) (fun _ _ => (gz_callX _ _ _ _))) (gz_const _))))) (gz_const _)) (gz_const _)))) (gz_const _)))) (gz_const _))
theorem gW_equation_56 (β : Nat) (σ : zS) (x0 x1 x2 x3 x4 x5 : Int) : gz (fun rec => kW_equation_56 (nR rec) (xR rec) β σ x0 x1 x2 x3 x4 x5) := by
  unfold kW_equation_56
  exact (gz_let (fun _ => (gz_const _)))
theorem gW_side1 (β : Nat) (σ : zS) (x0 : Int) : gz (fun rec => kW_side1 (nR rec) (xR rec) β σ x0) := by
  unfold kW_side1
  exact (gz_if (gz_bnd (gz_callN _ _ _ _) (fun _ _ => (gz_if (gz_if (gz_bnd (gz_callX _ _ _ _) (fun _ _ => (gz_if (gz_if (gz_bnd (gz_callN _ _ _ _) (fun _ _ => (gz_if (gz_if (gz_bnd (gz_callN _ _ _ _) (fun _ _ => (gz_let (fun _ => (gz_const _))))) (gz_const _)) (gz_const _)))) (gz_const _)) (gz_const _)))) (gz_const _)) (gz_if (gz_if (gz_bnd (gz_callX _ _ _ _) (fun _ _ => (gz_if (gz_if (gz_bnd (gz_callN _ _ _ _) (fun _ _ => (gz_if (gz_bnd (gz_callN _ _ _ _) (fun _ _ => (gz_if (gz_if (gz_bnd (gz_callX _ _ _ _) (fun _ _ => (gz_if (gz_callX _ _ _ _) (gz_const _)))) (gz_const _)) (gz_callX _ _ _ _)))) (gz_const _)))) (gz_const _)) (gz_const _)))) (gz_const _)) (gz_if (gz_let (fun _ => (gz_let (fun _ => (gz_let (fun _ => (gz_const _))))))) (gz_let (fun _ => (gz_let (fun _ => (gz_let (fun _ => (gz_const _)))))))))))) (gz_const _))
theorem gW_side1_71 (β : Nat) (σ : zS) (x0 x1 x2 x3 x4 : Int) : gz (fun rec => kW_side1_71 (nR rec) (xR rec) β σ x0 x1 x2 x3 x4) := by
  unfold kW_side1_71
  exact (gz_if (gz_bnd (gz_callN _ _ _ _) (fun _ _ => (gz_if (gz_bnd (gz_callX _ _ _ _) (fun _ _ => (gz_if (gz_if (gz_bnd (gz_callN _ _ _ _) (fun _ _ => (gz_let (fun _ => (gz_const _))))) (gz_const _)) (gz_const _)))) (gz_const _)))) (gz_const _))
theorem gW_symbol1 (β : Nat) (σ : zS) : gz (fun rec => kW_symbol1 (nR rec) (xR rec) β σ) := by
  unfold kW_symbol1
  exact (gz_if (gz_callX _ _ _ _) (gz_const _))
theorem gW_symbol1_12 (β : Nat) (σ : zS) (x0 x1 : Int) : gz (fun rec => kW_symbol1_12 (nR rec) (xR rec) β σ x0 x1) := by
  unfold kW_symbol1_12
  exact (gz_if (gz_if (gz_let (fun _ => (gz_let (fun _ => (gz_let (fun _ => (gz_const _))))))) (gz_if (gz_let (fun _ => (gz_if (gz_let (fun _ => (gz_if (gz_let (fun _ => (gz_if (gz_let (fun _ => (gz_callX _ _ _ _))) (gz_const _)))) (gz_const _)))) (gz_const _)))) (gz_const _))) (gz_if (gz_if (gz_callX _ _ _ _) (gz_callX _ _ _ _)) (gz_const _)))
theorem gW_symbol1_35 (β : Nat) (σ : zS) (x0 x1 x2 : Int) : gz (fun rec => kW_symbol1_35 (nR rec) (xR rec) β σ x0 x1 x2) := by
  unfold kW_symbol1_35
  exact (gz_callX _ _ _ _)
theorem gW_symbol1_39 (β : Nat) (σ : zS) (x0 x1 x2 x3 : Int) : gz (fun rec => kW_symbol1_39 (nR rec) (xR rec) β σ x0 x1 x2 x3) := by
  unfold kW_symbol1_39
  exact (gz_if (gz_callX _ _ _ _) (gz_if (gz_callX _ _ _ _) (gz_if (gz_if (gz_if (gz_if (gz_if (gz_if (gz_callX _ _ _ _) (gz_callX _ _ _ _)) (gz_const _)) (gz_const _)) (gz_const _)) (gz_const _)) (gz_const _))))
theorem gW_symbol1_83 (β : Nat) (σ : zS) (x0 x1 x2 x3 x4 : Int) : gz (fun rec => kW_symbol1_83 (nR rec) (xR rec) β σ x0 x1 x2 x3 x4) := by
  unfold kW_symbol1_83
  exact (gz_if (gz_callX _ _ _ _) (gz_const _))
theorem gW_symbol1_90 (β : Nat) (σ : zS) (x0 x1 x2 x3 : Int) : gz (fun rec => kW_symbol1_90 (nR rec) (xR rec) β σ x0 x1 x2 x3) := by
  unfold kW_symbol1_90
  exact (gz_if (gz_if (gz_callX _ _ _ _) (gz_const _)) (gz_let (fun _ => (gz_const _))))
theorem gW_symbol1_170 (β : Nat) (σ : zS) (x0 x1 : Int) : gz (fun rec => kW_symbol1_170 (nR rec) (xR rec) β σ x0 x1) := by
  unfold kW_symbol1_170
  exact (gz_if (gz_let (fun _ => (gz_const _))) (gz_if (gz_let (fun _ => (gz_if (gz_if (gz_if (gz_let (fun _ => (gz_if (gz_callX _ _ _ _) (gz_const _)))) (gz_const _)) (gz_const _)) (gz_const _)))) (gz_const _)))
theorem gW_arguments (β : Nat) (σ : zS) (x0 : Int) : gz (fun rec => kW_arguments (nR rec) (xR rec) β σ x0) := by
  unfold kW_arguments
  exact (gz_if (gz_bnd (gz_callN _ _ _ _) (fun _ _ => (gz_if (gz_bnd (gz_callX _ _ _ _) (fun _ _ => (gz_if (gz_if (gz_bnd (gz_callX _ _ _ _) (fun _ _ => (gz_if (gz_callX _ _ _ _) (gz_const _)))) (gz_const _)) (gz_const _)))) (gz_const _)))) (gz_const _))
theorem gW_arguments_19 (β : Nat) (σ : zS) (x0 x1 x2 x3 : Int) : gz (fun rec => kW_arguments_19 (nR rec) (xR rec) β σ x0 x1 x2 x3) := by
  unfold kW_arguments_19
  exact (gz_if (gz_bnd (gz_callN _ _ _ _) (fun _ _ => (gz_if (gz_if (gz_bnd (gz_callN _ _ _ _) (fun _ _ => (gz_if (gz_bnd (gz_callX _ _ _ _) (fun _ _ => (gz_if (gz_if (gz_let (fun _ => (gz_callX _ _ _ _))) (gz_const _)) (gz_const _)))) (gz_const _)))) (gz_const _)) (gz_if (gz_bnd (gz_callX _ _ _ _) (fun _ _ => (gz_if (gz_let (fun _ => (gz_const _))) (gz_const _)))) (gz_const _))))) (gz_const _))
theorem gW_check (β : Nat) (σ : zS) (x0 x1 x2 x3 : Int) : gz (fun rec => kW_check (nR rec) (xR rec) β σ x0 x1 x2 x3) := by
  unfold kW_check
  exact (gz_if (gz_if (gz_let (fun _ => (gz_let (fun _ => (gz_callX _ _ _ _))))) (gz_if (gz_if (gz_callX _ _ _ _) (gz_callX _ _ _ _)) (gz_callX _ _ _ _))) (gz_const _))
theorem gW_check_46 (β : Nat) (σ : zS) (x0 x1 x2 x3 : Int) : gz (fun rec => kW_check_46 (nR rec) (xR rec) β σ x0 x1 x2 x3) := by
  unfold kW_check_46
  exact (gz_let (fun _ => (gz_let (fun _ => (gz_let (fun _ => (gz_const _)))))))
theorem gW_check_57 (β : Nat) (σ : zS) (x0 x1 x2 x3 : Int) : gz (fun rec => kW_check_57 (nR rec) (xR rec) β σ x0 x1 x2 x3) := by
  unfold kW_check_57
  exact (gz_let (fun _ => (gz_const _)))
theorem gW_clausify (β : Nat) (σ : zS) : gz (fun rec => kW_clausify (nR rec) (xR rec) β σ) := by
  unfold kW_clausify
  exact (gz_callX _ _ _ _)
theorem gW_clausify_2 (β : Nat) (σ : zS) (x0 : Int) : gz (fun rec => kW_clausify_2 (nR rec) (xR rec) β σ x0) := by
  unfold kW_clausify_2
  exact (gz_if (gz_callX _ _ _ _) (gz_if (gz_if (gz_if (gz_callX _ _ _ _) (gz_if (gz_callX _ _ _ _) (gz_const _))) (gz_const _)) (gz_const _)))
theorem gW_clausify_33 (β : Nat) (σ : zS) (x0 : Int) : gz (fun rec => kW_clausify_33 (nR rec) (xR rec) β σ x0) := by
  unfold kW_clausify_33
  exact (gz_callX _ _ _ _)
theorem gW_clausify_35 (β : Nat) (σ : zS) (x0 x1 : Int) : gz (fun rec => kW_clausify_35 (nR rec) (xR rec) β σ x0 x1) := by
  unfold kW_clausify_35
  exact (gz_if (gz_if (gz_let (fun _ => (gz_callX _ _ _ _))) (gz_const _)) (gz_callX _ _ _ _))
theorem gW_clausify_42 (β : Nat) (σ : zS) (x0 x1 x2 : Int) : gz (fun rec => kW_clausify_42 (nR rec) (xR rec) β σ x0 x1 x2) := by
  unfold kW_clausify_42
  exact (gz_if (gz_if (gz_if (gz_callX _ _ _ _) (gz_callX _ _ _ _)) (gz_if (gz_if (gz_if (gz_let (fun _ => (gz_if (gz_callX _ _ _ _) (gz_let (fun _ => (gz_callX _ _ _ _)))))) (gz_const _)) (gz_const _)) (gz_const _))) (gz_const _))
theorem gW_clausify_92 (β : Nat) (σ : zS) (x0 x1 x2 x3 : Int) : gz (fun rec => kW_clausify_92 (nR rec) (xR rec) β σ x0 x1 x2 x3) := by
  unfold kW_clausify_92
  exact (gz_if (gz_callX _ _ _ _) (gz_const _))
theorem gW_clausify_119 (β : Nat) (σ : zS) (x0 x1 x2 x3 x4 : Int) : gz (fun rec => kW_clausify_119 (nR rec) (xR rec) β σ x0 x1 x2 x3 x4) := by
  unfold kW_clausify_119
  exact (gz_if (gz_if (gz_bnd (gz_callN _ _ _ _) (fun _ _ => (gz_if (gz_callX _ _ _ _) (gz_const _)))) (gz_const _)) (gz_const _))
theorem gW_clausify_146 (β : Nat) (σ : zS) (x0 x1 : Int) : gz (fun rec => kW_clausify_146 (nR rec) (xR rec) β σ x0 x1) := by
  unfold kW_clausify_146
  exact (gz_if (gz_callX _ _ _ _) (gz_if (gz_let (fun _ => (gz_if (gz_callX _ _ _ _) (gz_callX _ _ _ _)))) (gz_const _)))
theorem gW_clausify_186 (β : Nat) (σ : zS) (x0 x1 x2 x3 : Int) : gz (fun rec => kW_clausify_186 (nR rec) (xR rec) β σ x0 x1 x2 x3) := by
  unfold kW_clausify_186
  exact (gz_if (gz_if (gz_let (fun _ => (gz_if (gz_callX _ _ _ _) (gz_const _)))) (gz_const _)) (gz_const _))
theorem gW_clausify_195 (β : Nat) (σ : zS) (x0 x1 : Int) : gz (fun rec => kW_clausify_195 (nR rec) (xR rec) β σ x0 x1) := by
  unfold kW_clausify_195
  exact (gz_if (gz_callX _ _ _ _) (gz_if (gz_if (gz_callX _ _ _ _) (gz_if (gz_let (fun _ => (gz_if (gz_let (fun _ => (gz_if (gz_let (fun _ => (gz_let (fun _ => (gz_callX _ _ _ _))))) (gz_const _)))) (gz_const _)))) (gz_const _))) (gz_const _)))
theorem gW_clausify_257 (β : Nat) (σ : zS) (x0 x1 : Int) : gz (fun rec => kW_clausify_257 (nR rec) (xR rec) β σ x0 x1) := by
  unfold kW_clausify_257
  exact (gz_if (gz_callX _ _ _ _) (gz_const _))
theorem gW_clausify_267 (β : Nat) (σ : zS) (x0 x1 x2 : Int) : gz (fun rec => kW_clausify_267 (nR rec) (xR rec) β σ x0 x1 x2) := by
  unfold kW_clausify_267
  exact (gz_if (gz_let (fun _ => (gz_const _))) (gz_if (gz_if (gz_let (fun _ => (gz_let (fun _ => (gz_let (fun _ => (gz_const _))))))) (gz_const _)) (gz_if (gz_if (gz_callX _ _ _ _) (gz_callX _ _ _ _)) (gz_const _))))
theorem gW_clausify_317 (β : Nat) (σ : zS) (x0 x1 x2 x3 x4 x5 : Int) : gz (fun rec => kW_clausify_317 (nR rec) (xR rec) β σ x0 x1 x2 x3 x4 x5) := by
  unfold kW_clausify_317
  exact (gz_if (gz_bnd (gz_callN _ _ _ _) (fun _ _ => (gz_if (gz_if (gz_if (gz_bnd (gz_callX _ _ _ _) (fun _ _ => (gz_if (gz_if (gz_callX _ _ _ _) (gz_const _)) (gz_const _)))) (gz_const _)) (gz_if (gz_let (fun _ => (gz_let (fun _ => (gz_let (fun _ => (gz_const _))))))) (gz_const _))) (gz_const _)))) (gz_const _))
theorem gW_sentenceClauses (β : Nat) (σ : zS) (x0 : Int) : gz (fun rec => kW_sentenceClauses (nR rec) (xR rec) β σ x0) := by
  unfold kW_sentenceClauses
  exact (gz_let (fun _ => (gz_let (fun _ => (gz_callX _ _ _ _)))))
theorem gW_sentenceClauses_14 (β : Nat) (σ : zS) (x0 x1 : Int) : gz (fun rec => kW_sentenceClauses_14 (nR rec) (xR rec) β σ x0 x1) := by
  unfold kW_sentenceClauses_14
  exact (gz_if (gz_if (gz_let (fun _ => (gz_if (gz_callX _ _ _ _) (gz_callX _ _ _ _)))) (gz_if (gz_if (gz_if (gz_callX _ _ _ _) (gz_callX _ _ _ _)) (gz_const _)) (gz_const _))) (gz_const _))
theorem gW_sentenceClauses_52 (β : Nat) (σ : zS) (x0 x1 x2 x3 : Int) : gz (fun rec => kW_sentenceClauses_52 (nR rec) (xR rec) β σ x0 x1 x2 x3) := by
  unfold kW_sentenceClauses_52
  exact (gz_if (gz_bnd (gz_callN _ _ _ _) (fun _ _ => (gz_if (gz_callX _ _ _ _) (gz_const _)))) (gz_const _))
theorem gW_sentenceClauses_87 (β : Nat) (σ : zS) (x0 x1 x2 x3 : Int) : gz (fun rec => kW_sentenceClauses_87 (nR rec) (xR rec) β σ x0 x1 x2 x3) := by
  unfold kW_sentenceClauses_87
  exact (gz_if (gz_bnd (gz_callX _ _ _ _) (fun _ _ => (gz_if (gz_callX _ _ _ _) (gz_if (gz_if (gz_let (fun _ => (gz_let (fun _ => (gz_let (fun _ => (gz_const _))))))) (gz_const _)) (gz_const _))))) (gz_const _))
theorem gW_sentenceClauses_111 (β : Nat) (σ : zS) (x0 x1 : Int) : gz (fun rec => kW_sentenceClauses_111 (nR rec) (xR rec) β σ x0 x1) := by
  unfold kW_sentenceClauses_111
  exact (gz_if (gz_let (fun _ => (gz_callX _ _ _ _))) (gz_if (gz_if (gz_if (gz_bnd (gz_callN _ _ _ _) (fun _ _ => (gz_if (gz_if (gz_let (fun _ => (gz_let (fun _ => (gz_let (fun _ => (gz_const _))))))) (gz_const _)) (gz_if (gz_callX _ _ _ _) (gz_const _))))) (gz_const _)) (gz_const _)) (gz_const _)))
theorem gW_sentenceClauses_167 (β : Nat) (σ : zS) (x0 x1 : Int) : gz (fun rec => kW_sentenceClauses_167 (nR rec) (xR rec) β σ x0 x1) := by
  unfold kW_sentenceClauses_167
  exact (gz_if (gz_let (fun _ => (gz_const _))) (gz_let (fun _ => (gz_let (fun _ => (gz_if (gz_callX _ _ _ _) (gz_const _)))))))
theorem gW_sentenceClauses_196 (β : Nat) (σ : zS) (x0 x1 x2 x3 : Int) : gz (fun rec => kW_sentenceClauses_196 (nR rec) (xR rec) β σ x0 x1 x2 x3) := by
  unfold kW_sentenceClauses_196
  exact (gz_if (gz_if (gz_if (gz_if (gz_bnd (gz_callN _ _ _ _) (fun _ _ => (gz_if (gz_bnd (gz_callN _ _ _ _) (fun _ _ => (gz_if (gz_if (gz_bnd (gz_callN _ _ _ _) (fun _ _ => (gz_callX _ _ _ _))) (gz_const _)) (gz_callX _ _ _ _)))) (gz_const _)))) (gz_const _)) (gz_if (gz_if (gz_bnd (gz_callN _ _ _ _) (fun _ _ => (gz_if (gz_if (gz_if (gz_bnd (gz_callN _ _ _ _) (fun _ _ => (gz_if (gz_if (gz_if (gz_callX _ _ _ _) (gz_callX _ _ _ _)) (gz_const _)) (gz_const _)))) (gz_const _)) (gz_const _)) (gz_const _)))) (gz_const _)) (gz_const _))) (gz_const _)) (gz_const _))
theorem gW_sentenceClauses_252 (β : Nat) (σ : zS) (x0 x1 x2 x3 x4 x5 x6 : Int) : gz (fun rec => kW_sentenceClauses_252 (nR rec) (xR rec) β σ x0 x1 x2 x3 x4 x5 x6) := by
  unfold kW_sentenceClauses_252
  exact (gz_if (gz_bnd (gz_callN _ _ _ _) (fun _ _ => (gz_if (gz_callX _ _ _ _) (gz_const _)))) (gz_const _))
theorem gW_sentenceClauses_280 (β : Nat) (σ : zS) (x0 x1 x2 x3 : Int) : gz (fun rec => kW_sentenceClauses_280 (nR rec) (xR rec) β σ x0 x1 x2 x3) := by
  unfold kW_sentenceClauses_280
  exact (gz_if (gz_callX _ _ _ _) (gz_const _))
theorem gW_clauses (β : Nat) (σ : zS) (x0 x1 : Int) : gz (fun rec => kW_clauses (nR rec) (xR rec) β σ x0 x1) := by
  unfold kW_clauses
  exact (gz_if (gz_if (gz_callX _ _ _ _) (gz_if (gz_if (gz_bnd (gz_callX _ _ _ _) (fun _ _ => (gz_if (gz_callX _ _ _ _) (gz_const _)))) (gz_const _)) (gz_if (gz_if (gz_callX _ _ _ _) (gz_callX _ _ _ _)) (gz_if (gz_if (gz_callX _ _ _ _) (gz_callX _ _ _ _)) (gz_if (gz_if (gz_callX _ _ _ _) (gz_callX _ _ _ _)) (gz_if (gz_if (gz_callX _ _ _ _) (gz_callX _ _ _ _)) (gz_if (gz_callX _ _ _ _) (gz_callX _ _ _ _)))))))) (gz_const _))
theorem gW_clauses_69 (β : Nat) (σ : zS) (x0 x1 x2 x3 : Int) : gz (fun rec => kW_clauses_69 (nR rec) (xR rec) β σ x0 x1 x2 x3) := by
  unfold kW_clauses_69
  exact (gz_if (gz_bnd (gz_callX _ _ _ _) (fun _ _ => (gz_if (gz_callX _ _ _ _) (gz_const _)))) (gz_const _))
theorem gW_clauses_105 (β : Nat) (σ : zS) (x0 x1 x2 x3 x4 x5 x6 : Int) : gz (fun rec => kW_clauses_105 (nR rec) (xR rec) β σ x0 x1 x2 x3 x4 x5 x6) := by
  unfold kW_clauses_105
  exact (gz_if (gz_callX _ _ _ _) (gz_callX _ _ _ _))
theorem gW_clauses_114 (β : Nat) (σ : zS) (x0 x1 x2 x3 x4 x5 x6 : Int) : gz (fun rec => kW_clauses_114 (nR rec) (xR rec) β σ x0 x1 x2 x3 x4 x5 x6) := by
  unfold kW_clauses_114
  exact (gz_if (gz_bnd (gz_callX _ _ _ _) (fun _ _ => (gz_if (gz_callX _ _ _ _) (gz_const _)))) (gz_const _))
theorem gW_clauses_142 (β : Nat) (σ : zS) (x0 x1 x2 x3 x4 : Int) : gz (fun rec => kW_clauses_142 (nR rec) (xR rec) β σ x0 x1 x2 x3 x4) := by
  unfold kW_clauses_142
  exact (gz_if (gz_callX _ _ _ _) (gz_callX _ _ _ _))
theorem gW_clauses_152 (β : Nat) (σ : zS) (x0 x1 x2 x3 x4 x5 x6 : Int) : gz (fun rec => kW_clauses_152 (nR rec) (xR rec) β σ x0 x1 x2 x3 x4 x5 x6) := by
  unfold kW_clauses_152
  exact (gz_if (gz_bnd (gz_callX _ _ _ _) (fun _ _ => (gz_if (gz_callX _ _ _ _) (gz_const _)))) (gz_const _))
theorem gW_clauses_180 (β : Nat) (σ : zS) (x0 x1 x2 x3 x4 : Int) : gz (fun rec => kW_clauses_180 (nR rec) (xR rec) β σ x0 x1 x2 x3 x4) := by
  unfold kW_clauses_180
  exact (gz_if (gz_bnd (gz_callX _ _ _ _) (fun _ _ => (gz_if (gz_if (gz_if (gz_if (gz_bnd (gz_callX _ _ _ _) (fun _ _ => (gz_if (gz_callX _ _ _ _) (gz_const _)))) (gz_const _)) (gz_const _)) (gz_if (gz_if (gz_bnd (gz_callX _ _ _ _) (fun _ _ => (gz_if (gz_callX _ _ _ _) (gz_const _)))) (gz_const _)) (gz_const _))) (gz_const _)))) (gz_const _))
theorem gW_clauses_241 (β : Nat) (σ : zS) (x0 x1 x2 x3 : Int) : gz (fun rec => kW_clauses_241 (nR rec) (xR rec) β σ x0 x1 x2 x3) := by
  unfold kW_clauses_241
  exact (gz_if (gz_if (gz_if (gz_bnd (gz_callX _ _ _ _) (fun _ _ => (gz_if (gz_let (fun _ => (gz_callX _ _ _ _))) (gz_const _)))) (gz_const _)) (gz_if (gz_if (gz_if (gz_callX _ _ _ _) (gz_const _)) (gz_const _)) (gz_if (gz_if (gz_callX _ _ _ _) (gz_const _)) (gz_const _)))) (gz_const _))
theorem gW_clauses_286 (β : Nat) (σ : zS) (x0 x1 x2 x3 x4 x5 : Int) : gz (fun rec => kW_clauses_286 (nR rec) (xR rec) β σ x0 x1 x2 x3 x4 x5) := by
  unfold kW_clauses_286
  exact (gz_if (gz_callX _ _ _ _) (gz_callX _ _ _ _))
theorem gW_clauses_295 (β : Nat) (σ : zS) (x0 x1 x2 x3 x4 x5 : Int) : gz (fun rec => kW_clauses_295 (nR rec) (xR rec) β σ x0 x1 x2 x3 x4 x5) := by
  unfold kW_clauses_295
  exact (gz_if (gz_bnd (gz_callN _ _ _ _) (fun _ _ => (gz_if (gz_callX _ _ _ _) (gz_const _)))) (gz_const _))
theorem gW_clauses_320 (β : Nat) (σ : zS) (x0 x1 : Int) : gz (fun rec => kW_clauses_320 (nR rec) (xR rec) β σ x0 x1) := by
  unfold kW_clauses_320
  exact (gz_let (fun _ => (gz_const _)))
theorem gW_atom2 (β : Nat) (σ : zS) (x0 x1 : Int) : gz (fun rec => kW_atom2 (nR rec) (xR rec) β σ x0 x1) := by
  unfold kW_atom2
  exact (gz_if (gz_if (gz_if (gz_callX _ _ _ _) (gz_const _)) (gz_if (gz_bnd (gz_callN _ _ _ _) (fun _ _ => (gz_if (gz_bnd (gz_callN _ _ _ _) (fun _ _ => (gz_if (gz_callX _ _ _ _) (gz_const _)))) (gz_const _)))) (gz_const _))) (gz_const _))
theorem gW_atom2_49 (β : Nat) (σ : zS) (x0 x1 x2 x3 : Int) : gz (fun rec => kW_atom2_49 (nR rec) (xR rec) β σ x0 x1 x2 x3) := by
  unfold kW_atom2_49
  exact (gz_if (gz_if (gz_callX _ _ _ _) (gz_const _)) (gz_if (gz_bnd (gz_callN _ _ _ _) (fun _ _ => (gz_if (gz_if (gz_callX _ _ _ _) (gz_const _)) (gz_const _)))) (gz_const _)))
theorem gW_atom2_84 (β : Nat) (σ : zS) (x0 x1 x2 : Int) : gz (fun rec => kW_atom2_84 (nR rec) (xR rec) β σ x0 x1 x2) := by
  unfold kW_atom2_84
  exact (gz_if (gz_if (gz_if (gz_if (gz_if (gz_bnd (gz_callN _ _ _ _) (fun _ _ => (gz_if (gz_callX _ _ _ _) (gz_const _)))) (gz_const _)) (gz_const _)) (gz_if (gz_bnd (gz_callN _ _ _ _) (fun _ _ => (gz_if (gz_callX _ _ _ _) (gz_const _)))) (gz_const _))) (gz_const _)) (gz_let (fun _ => (gz_const _))))
theorem gW_atom2_161 (β : Nat) (σ : zS) (x0 x1 x2 x3 x4 x5 : Int) : gz (fun rec => kW_atom2_161 (nR rec) (xR rec) β σ x0 x1 x2 x3 x4 x5) := by
  unfold kW_atom2_161
  exact (gz_if (gz_let (fun _ => (gz_if (gz_if (gz_if (gz_bnd (gz_callN _ _ _ _) (fun _ _ => (gz_if (gz_callX _ _ _ _) (gz_const _)))) (gz_const _)) (gz_if (gz_bnd (gz_callN _ _ _ _) (fun _ _ => (gz_if (gz_callX _ _ _ _) (gz_const _)))) (gz_const _))) (gz_const _)))) (gz_const _))
theorem gW_atom2_197 (β : Nat) (σ : zS) (x0 x1 x2 x3 x4 x5 : Int) : gz (fun rec => kW_atom2_197 (nR rec) (xR rec) β σ x0 x1 x2 x3 x4 x5) := by
  unfold kW_atom2_197
  exact (gz_if (gz_let (fun _ => (gz_if (gz_if (gz_callX _ _ _ _) (gz_const _)) (gz_if (gz_callX _ _ _ _) (gz_const _))))) (gz_const _))
theorem gW_atom2_215 (β : Nat) (σ : zS) (x0 x1 x2 x3 x4 x5 : Int) : gz (fun rec => kW_atom2_215 (nR rec) (xR rec) β σ x0 x1 x2 x3 x4 x5) := by
  unfold kW_atom2_215
  exact (gz_if (gz_let (fun _ => (gz_if (gz_let (fun _ => (gz_if (gz_let (fun _ => (gz_let (fun _ => (gz_const _))))) (gz_const _)))) (gz_const _)))) (gz_const _))
theorem gW_joined2 (β : Nat) (σ : zS) (x0 x1 x2 x3 x4 : Int) : gz (fun rec => kW_joined2 (nR rec) (xR rec) β σ x0 x1 x2 x3 x4) := by
  unfold kW_joined2
  exact (gz_if (gz_bnd (gz_callX _ _ _ _) (fun _ _ => (gz_if (gz_if (gz_bnd (gz_callX _ _ _ _) (fun _ _ => (gz_if (gz_if (gz_if (gz_bnd (gz_callX _ _ _ _) (fun _ _ => (gz_if (gz_callX _ _ _ _) (gz_const _)))) (gz_const _)) (gz_callX _ _ _ _)) (gz_const _)))) (gz_const _)) (gz_const _)))) (gz_const _))
theorem gW_joined2_38 (β : Nat) (σ : zS) (x0 x1 x2 x3 x4 x5 x6 : Int) : gz (fun rec => kW_joined2_38 (nR rec) (xR rec) β σ x0 x1 x2 x3 x4 x5 x6) := by
  unfold kW_joined2_38
  exact (gz_let (fun _ => (gz_const _)))
theorem gW_either (β : Nat) (σ : zS) (x0 x1 : Int) : gz (fun rec => kW_either (nR rec) (xR rec) β σ x0 x1) := by
  unfold kW_either
  exact (gz_callX _ _ _ _)
theorem gW_either_8 (β : Nat) (σ : zS) (x0 x1 x2 x3 : Int) : gz (fun rec => kW_either_8 (nR rec) (xR rec) β σ x0 x1 x2 x3) := by
  unfold kW_either_8
  exact (gz_if (gz_if (gz_callX _ _ _ _) (gz_const _)) (gz_callX _ _ _ _))
theorem gW_either_17 (β : Nat) (σ : zS) (x0 x1 x2 x3 x4 : Int) : gz (fun rec => kW_either_17 (nR rec) (xR rec) β σ x0 x1 x2 x3 x4) := by
  unfold kW_either_17
  exact (gz_if (gz_if (gz_callX _ _ _ _) (gz_const _)) (gz_if (gz_if (gz_if (gz_if (gz_if (gz_if (gz_if (gz_let (fun _ => (gz_if (gz_if (gz_if (gz_if (gz_let (fun _ => (gz_if (gz_if (gz_let (fun _ => (gz_if (gz_let (fun _ => (gz_if (gz_callX _ _ _ _) (gz_const _)))) (gz_const _)))) (gz_const _)) (gz_const _)))) (gz_const _)) (gz_const _)) (gz_const _)) (gz_const _)))) (gz_const _)) (gz_const _)) (gz_const _)) (gz_let (fun _ => (gz_const _)))) (gz_const _)) (gz_const _)) (gz_const _)))
theorem gW_either_176 (β : Nat) (σ : zS) (x0 x1 x2 x3 x4 : Int) : gz (fun rec => kW_either_176 (nR rec) (xR rec) β σ x0 x1 x2 x3 x4) := by
  unfold kW_either_176
  exact (gz_if (gz_if (gz_let (fun _ => (gz_let (fun _ => (gz_const _))))) (gz_const _)) (gz_if (gz_if (gz_if (gz_if (gz_if (gz_if (gz_let (fun _ => (gz_if (gz_let (fun _ => (gz_if (gz_callX _ _ _ _) (gz_const _)))) (gz_const _)))) (gz_const _)) (gz_const _)) (gz_const _)) (gz_const _)) (gz_const _)) (gz_const _)))
theorem gW_read (β : Nat) (σ : zS) : gz (fun rec => kW_read (nR rec) (xR rec) β σ) := by
  unfold kW_read
  exact (gz_let (fun _ => (gz_let (fun _ => (gz_let (fun _ => (gz_let (fun _ => (gz_let (fun _ => (gz_let (fun _ => (gz_let (fun _ => (gz_let (fun _ => (gz_let (fun _ => (gz_let (fun _ => (gz_let (fun _ => (gz_let (fun _ => (gz_let (fun _ => (gz_callX _ _ _ _)))))))))))))))))))))))))))
theorem gW_read_65 (β : Nat) (σ : zS) : gz (fun rec => kW_read_65 (nR rec) (xR rec) β σ) := by
  unfold kW_read_65
  exact (gz_let (fun _ => (gz_let (fun _ => (gz_let (fun _ => (gz_let (fun _ => (gz_let (fun _ => (gz_let (fun _ => (gz_let (fun _ => (gz_let (fun _ => (gz_let (fun _ => (gz_let (fun _ => (gz_let (fun _ => (gz_let (fun _ => (gz_if (gz_let (fun _ => (gz_let (fun _ => (gz_callX _ _ _ _))))) (gz_const _))))))))))))))))))))))))))
theorem gW_read_139 (β : Nat) (σ : zS) : gz (fun rec => kW_read_139 (nR rec) (xR rec) β σ) := by
  unfold kW_read_139
  exact (gz_if (gz_bnd (gz_callX _ _ _ _) (fun _ _ => (gz_if (gz_if (gz_bnd (gz_callX _ _ _ _) (fun _ _ => (gz_if (gz_callX _ _ _ _) (gz_if (gz_let (fun _ => (gz_let (fun _ => (gz_let (fun _ => (gz_let (fun _ => (gz_let (fun _ => (gz_let (fun _ => (gz_callX _ _ _ _))))))))))))) (gz_const _))))) (gz_const _)) (gz_if (gz_let (fun _ => (gz_let (fun _ => (gz_let (fun _ => (gz_let (fun _ => (gz_let (fun _ => (gz_let (fun _ => (gz_callX _ _ _ _))))))))))))) (gz_const _))))) (gz_const _))
theorem gW_read_187 (β : Nat) (σ : zS) : gz (fun rec => kW_read_187 (nR rec) (xR rec) β σ) := by
  unfold kW_read_187
  exact (gz_let (fun _ => (gz_let (fun _ => (gz_if (gz_let (fun _ => (gz_const _))) (gz_let (fun _ => (gz_const _))))))))
