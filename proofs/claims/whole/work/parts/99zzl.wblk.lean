def kW_parse (rec rex : zF) (β : Nat) (σ : zS) : Option zR := lt_ (zI σ 7 0) (fun σ1 => lt_ (zI σ1 12 0) (fun σ2 => lt_ (zI σ2 11 0) (fun σ3 => rex tX_parse_15 β σ3 [])))
def kW_parse_15 (rec rex : zF) (β : Nat) (σ : zS) : Option zR := if 1 ≤ β then (zbd (rec tM_peek (β - 1) σ []) (fun σ1 r1 => if r1 = 0 then (lt_ (zI σ1 3000 0) (fun u => some (u, 0))) else (if zb (σ1.1 55) 20100 then (lt_ (zA σ1 50 (σ1.1 55) (σ1.1 9)) (fun σ2 => lt_ (zI σ2 28 0) (fun σ3 => lt_ (zI σ3 29 0) (fun σ4 => if (σ4.1 8) = 2 then (if zr ((σ4.1 10) - (σ4.1 9)) then (if ((σ4.1 10) - (σ4.1 9)) = 5 then (if 1 ≤ β then (zbd (rec tM_at (β - 1) σ4 [(σ4.1 9), 112]) (fun σ5 r5 => if r5 = 0 then (rex tX_parse_143 β σ5 []) else (if zr ((σ5.1 9) + 1) then (if 1 ≤ β then (zbd (rec tM_at (β - 1) σ5 [((σ5.1 9) + 1), 114]) (fun σ6 r6 => if r6 = 0 then (rex tX_parse_143 β σ6 []) else (if zr ((σ6.1 9) + 2) then (if 1 ≤ β then (zbd (rec tM_at (β - 1) σ6 [((σ6.1 9) + 2), 111]) (fun σ7 r7 => if r7 = 0 then (rex tX_parse_143 β σ7 []) else (if zr ((σ7.1 9) + 3) then (if 1 ≤ β then (zbd (rec tM_at (β - 1) σ7 [((σ7.1 9) + 3), 118]) (fun σ8 r8 => if r8 = 0 then (rex tX_parse_143 β σ8 []) else (if zr ((σ8.1 9) + 4) then (if 1 ≤ β then (zbd (rec tM_at (β - 1) σ8 [((σ8.1 9) + 4), 101]) (fun σ9 r9 => if r9 = 0 then (rex tX_parse_143 β σ9 []) else (rex tX_parse_144 β σ9 [1]))) else none) else none))) else none) else none))) else none) else none))) else none) else none))) else none) else (rex tX_parse_143 β σ4 [])) else none) else (rex tX_parse_143 β σ4 []))))) else none))) else none
def kW_parse_143 (rec rex : zF) (β : Nat) (σ : zS) : Option zR := rex tX_parse_144 β σ [0]
def kW_parse_144 (rec rex : zF) (β : Nat) (σ : zS) (x0 : Int) : Option zR := if x0 = 0 then (rex tX_parse_153 β σ [x0]) else (if 1 ≤ β then (zbd (rec tM_take (β - 1) σ []) (fun σ1 r1 => rex tX_parse_153 β σ1 [x0])) else none)
def kW_parse_153 (rec rex : zF) (β : Nat) (σ : zS) (x0 : Int) : Option zR := if zb (σ.1 55) 20100 then (if x0 = 0 ∨ x0 = 1 then (lt_ (zA σ 57 (σ.1 55) x0) (fun σ1 => if 1 ≤ β then (zbd (rex tX_formula (β - 1) σ1 [0]) (fun σ2 r2 => if (σ2.1 3000) = 0 then (if zb (σ1.1 55) 20100 then (lt_ (zA σ2 51 (σ1.1 55) r2) (fun σ3 => if 1 ≤ β then (zbd (rex tX_must (β - 1) σ3 [46]) (fun σ4 r4 => if (σ4.1 3000) = 0 then (if zb (σ4.1 55) 20100 then (lt_ (zA σ4 52 (σ4.1 55) (σ4.1 56)) (fun σ5 => if zb (σ5.1 55) 20100 then (lt_ (zA σ5 53 (σ5.1 55) (σ5.1 29)) (fun σ6 => rex tX_parse_211 β σ6 [x0, 0])) else none)) else none) else (some (σ4, 0)))) else none)) else none) else (some (σ2, 0)))) else none)) else none) else none
def kW_parse_211 (rec rex : zF) (β : Nat) (σ : zS) (x0 x1 : Int) : Option zR := if (σ.1 29) ≤ x1 then (if zr ((σ.1 55) + 1) then (lt_ (zI σ 55 ((σ.1 55) + 1)) (fun σ1 => rex tX_parse_15 β σ1 [])) else none) else (if zr ((σ.1 56) + 1) then (lt_ (zI σ 56 ((σ.1 56) + 1)) (fun σ2 => if zb x1 300 then (if zb (σ.1 56) 300 then (lt_ (zA σ2 54 (σ.1 56) (σ2.2.1 27 x1)) (fun σ3 => if zr (x1 + 1) then (rex tX_parse_211 β σ3 [x0, (x1 + 1)]) else none)) else none) else none)) else none)
def kW_formula (rec rex : zF) (β : Nat) (σ : zS) (x0 : Int) : Option zR := if 1 ≤ β then (zbd (rex tX_implication (β - 1) σ [x0]) (fun σ1 r1 => if (σ1.1 3000) = 0 then (if 1 ≤ β then (zbd (rec tM_peek (β - 1) σ1 []) (fun σ2 r2 => if r2 = 302 then (if 1 ≤ β then (zbd (rec tM_take (β - 1) σ2 []) (fun σ3 r3 => if 1 ≤ β then (zbd (rex tX_implication (β - 1) σ3 [x0]) (fun σ4 r4 => if (σ4.1 3000) = 0 then (if 1 ≤ β then (zbd (rec tM_joined1 (β - 1) σ4 [5, r1, r4]) (fun σ5 r5 => lt_ (zI σ5 3000 0) (fun u => some (u, r5)))) else none) else (some (σ4, 0)))) else none)) else none) else (lt_ (zI σ2 3000 0) (fun u => some (u, r1))))) else none) else (some (σ1, 0)))) else none
def kW_implication (rec rex : zF) (β : Nat) (σ : zS) (x0 : Int) : Option zR := if 1 ≤ β then (zbd (rex tX_choice (β - 1) σ [x0]) (fun σ1 r1 => if (σ1.1 3000) = 0 then (if 1 ≤ β then (zbd (rec tM_peek (β - 1) σ1 []) (fun σ2 r2 => if r2 = 301 then (if 1 ≤ β then (zbd (rec tM_take (β - 1) σ2 []) (fun σ3 r3 => if 1 ≤ β then (zbd (rex tX_nest (β - 1) σ3 [x0]) (fun σ4 r4 => if (σ4.1 3000) = 0 then (if 1 ≤ β then (zbd (rex tX_implication (β - 1) σ4 [r4]) (fun σ5 r5 => if (σ5.1 3000) = 0 then (if 1 ≤ β then (zbd (rec tM_joined1 (β - 1) σ5 [4, r1, r5]) (fun σ6 r6 => lt_ (zI σ6 3000 0) (fun u => some (u, r6)))) else none) else (some (σ5, 0)))) else none) else (some (σ4, 0)))) else none)) else none) else (lt_ (zI σ2 3000 0) (fun u => some (u, r1))))) else none) else (some (σ1, 0)))) else none
def kW_choice (rec rex : zF) (β : Nat) (σ : zS) (x0 : Int) : Option zR := if 1 ≤ β then (zbd (rex tX_joint (β - 1) σ [x0]) (fun σ1 r1 => if (σ1.1 3000) = 0 then (rex tX_choice_6 β σ1 [x0, r1]) else (some (σ1, 0)))) else none
def kW_choice_6 (rec rex : zF) (β : Nat) (σ : zS) (x0 x1 : Int) : Option zR := if 1 ≤ β then (zbd (rec tM_peek (β - 1) σ []) (fun σ1 r1 => if r1 = 124 then (if 1 ≤ β then (zbd (rec tM_take (β - 1) σ1 []) (fun σ2 r2 => if 1 ≤ β then (zbd (rex tX_joint (β - 1) σ2 [x0]) (fun σ3 r3 => if (σ3.1 3000) = 0 then (if 1 ≤ β then (zbd (rec tM_joined1 (β - 1) σ3 [3, x1, r3]) (fun σ4 r4 => rex tX_choice_6 β σ4 [x0, r4])) else none) else (some (σ3, 0)))) else none)) else none) else (lt_ (zI σ1 3000 0) (fun u => some (u, x1))))) else none
def kW_joint (rec rex : zF) (β : Nat) (σ : zS) (x0 : Int) : Option zR := if 1 ≤ β then (zbd (rex tX_unit (β - 1) σ [x0]) (fun σ1 r1 => if (σ1.1 3000) = 0 then (rex tX_joint_6 β σ1 [x0, r1]) else (some (σ1, 0)))) else none
def kW_joint_6 (rec rex : zF) (β : Nat) (σ : zS) (x0 x1 : Int) : Option zR := if 1 ≤ β then (zbd (rec tM_peek (β - 1) σ []) (fun σ1 r1 => if r1 = 38 then (if 1 ≤ β then (zbd (rec tM_take (β - 1) σ1 []) (fun σ2 r2 => if 1 ≤ β then (zbd (rex tX_unit (β - 1) σ2 [x0]) (fun σ3 r3 => if (σ3.1 3000) = 0 then (if 1 ≤ β then (zbd (rec tM_joined1 (β - 1) σ3 [2, x1, r3]) (fun σ4 r4 => rex tX_joint_6 β σ4 [x0, r4])) else none) else (some (σ3, 0)))) else none)) else none) else (lt_ (zI σ1 3000 0) (fun u => some (u, x1))))) else none
def kW_unit (rec rex : zF) (β : Nat) (σ : zS) (x0 : Int) : Option zR := if 1 ≤ β then (zbd (rec tM_peek (β - 1) σ []) (fun σ1 r1 => if r1 = 126 then (if 1 ≤ β then (zbd (rec tM_take (β - 1) σ1 []) (fun σ6 r6 => if 1 ≤ β then (zbd (rex tX_nest (β - 1) σ6 [x0]) (fun σ7 r7 => if (σ7.1 3000) = 0 then (if 1 ≤ β then (zbd (rex tX_unit (β - 1) σ7 [r7]) (fun σ8 r8 => if (σ8.1 3000) = 0 then (if zb r8 20100 then (if zr (1 + (σ8.2.1 33 r8)) then (if 1 ≤ β then (zbd (rec tM_node (β - 1) σ8 [1, r8, 0, (1 + (σ8.2.1 33 r8))]) (fun σ9 r9 => lt_ (zI σ9 3000 0) (fun u => some (u, r9)))) else none) else none) else none) else (some (σ8, 0)))) else none) else (some (σ7, 0)))) else none)) else none) else (if r1 = 33 then (rex tX_unit_53 β σ1 [x0, r1]) else (if r1 = 63 then (rex tX_unit_53 β σ1 [x0, r1]) else (if r1 = 40 then (if 1 ≤ β then (zbd (rec tM_take (β - 1) σ1 []) (fun σ2 r2 => if 1 ≤ β then (zbd (rex tX_nest (β - 1) σ2 [x0]) (fun σ3 r3 => if (σ3.1 3000) = 0 then (if 1 ≤ β then (zbd (rex tX_formula (β - 1) σ3 [r3]) (fun σ4 r4 => if (σ4.1 3000) = 0 then (if 1 ≤ β then (zbd (rex tX_must (β - 1) σ4 [41]) (fun σ5 r5 => if (σ5.1 3000) = 0 then (lt_ (zI σ5 3000 0) (fun u => some (u, r4))) else (some (σ5, 0)))) else none) else (some (σ4, 0)))) else none) else (some (σ3, 0)))) else none)) else none) else (if r1 = 1 then (rex tX_unit_115 β σ1 [x0, r1]) else (if r1 = 2 then (rex tX_unit_115 β σ1 [x0, r1]) else (if (σ1.1 8) = 304 then (lt_ (zI σ1 3003 3) (fun u1 => lt_ (zI u1 3004 (σ1.1 9)) (fun u2 => lt_ (zI u2 3000 1) (fun u3 => some (u3, 0))))) else (lt_ (zI σ1 3003 1) (fun u1 => lt_ (zI u1 3004 (σ1.1 9)) (fun u2 => lt_ (zI u2 3000 1) (fun u3 => some (u3, 0))))))))))))) else none
def kW_unit_53 (rec rex : zF) (β : Nat) (σ : zS) (x0 x1 : Int) : Option zR := if x1 = 33 then (rex tX_unit_68 β σ [x0, x1, 6, x0]) else (rex tX_unit_68 β σ [x0, x1, 7, x0])
def kW_unit_68 (rec rex : zF) (β : Nat) (σ : zS) (x0 x1 x2 x3 : Int) : Option zR := if 1 ≤ β then (zbd (rex tX_bound2 (β - 1) σ [x3, x2]) (fun σ1 r1 => if (σ1.1 3000) = 0 then (lt_ (zI σ1 3000 0) (fun u => some (u, r1))) else (some (σ1, 0)))) else none
def kW_unit_115 (rec rex : zF) (β : Nat) (σ : zS) (x0 x1 : Int) : Option zR := if 1 ≤ β then (zbd (rex tX_atom1 (β - 1) σ [x0]) (fun σ1 r1 => if (σ1.1 3000) = 0 then (lt_ (zI σ1 3000 0) (fun u => some (u, r1))) else (some (σ1, 0)))) else none
def kW_nest (rec rex : zF) (β : Nat) (σ : zS) (x0 : Int) : Option zR := if x0 = 60 then (if 1 ≤ β then (zbd (rec tM_peek (β - 1) σ []) (fun σ1 r1 => lt_ (zI σ1 3003 3) (fun u1 => lt_ (zI u1 3004 (σ1.1 9)) (fun u2 => lt_ (zI u2 3000 1) (fun u3 => some (u3, 0)))))) else none) else (lt_ (zI σ 3000 0) (fun u => if zr (x0 + 1) then (some (u, (x0 + 1))) else none))
def kW_bound2 (rec rex : zF) (β : Nat) (σ : zS) (x0 x1 : Int) : Option zR := if 1 ≤ β then (zbd (rec tM_take (β - 1) σ []) (fun σ1 r1 => if 1 ≤ β then (zbd (rec tM_peek (β - 1) σ1 []) (fun σ2 r2 => if r2 = 1 then (rex tX_bound2_28 β σ2 [x0, x1, (σ1.1 25), (σ1.1 28)]) else (if (σ2.1 8) = 304 then (lt_ (zI σ2 3003 3) (fun u1 => lt_ (zI u1 3004 (σ2.1 9)) (fun u2 => lt_ (zI u2 3000 1) (fun u3 => some (u3, 0))))) else (lt_ (zI σ2 3003 1) (fun u1 => lt_ (zI u1 3004 (σ2.1 9)) (fun u2 => lt_ (zI u2 3000 1) (fun u3 => some (u3, 0)))))))) else none)) else none
def kW_bound2_28 (rec rex : zF) (β : Nat) (σ : zS) (x0 x1 x2 x3 : Int) : Option zR := if 1 ≤ β then (zbd (rec tM_peek (β - 1) σ []) (fun σ1 r1 => if r1 = 1 then (if zr ((σ1.1 28) + 1) then (lt_ (zI σ1 28 ((σ1.1 28) + 1)) (fun σ7 => if 1 ≤ β then (zbd (rex tX_binder (β - 1) σ7 []) (fun σ8 r8 => if (σ8.1 3000) = 0 then (if zb (σ1.1 28) 300 then (lt_ (zA σ8 26 (σ1.1 28) r8) (fun σ9 => if 1 ≤ β then (zbd (rec tM_take (β - 1) σ9 []) (fun σ10 r10 => rex tX_bound2_28 β σ10 [x0, x1, x2, x3])) else none)) else none) else (some (σ8, 0)))) else none)) else none) else (if 1 ≤ β then (zbd (rex tX_must (β - 1) σ1 [58]) (fun σ2 r2 => if (σ2.1 3000) = 0 then (if 1 ≤ β then (zbd (rex tX_nest (β - 1) σ2 [x0]) (fun σ3 r3 => if (σ3.1 3000) = 0 then (if 1 ≤ β then (zbd (rex tX_formula (β - 1) σ3 [r3]) (fun σ4 r4 => if (σ4.1 3000) = 0 then (lt_ (zI σ4 28 x3) (fun σ5 => if zb r4 20100 then (if zr (x2 * 1000) then (if zr ((σ1.1 25) - x2) then (if zr ((x2 * 1000) + ((σ1.1 25) - x2)) then (if zr (((σ1.1 25) - x2) + (σ5.2.1 33 r4)) then (if 1 ≤ β then (zbd (rec tM_node (β - 1) σ5 [x1, r4, ((x2 * 1000) + ((σ1.1 25) - x2)), (((σ1.1 25) - x2) + (σ5.2.1 33 r4))]) (fun σ6 r6 => lt_ (zI σ6 3000 0) (fun u => some (u, r6)))) else none) else none) else none) else none) else none) else none)) else (some (σ4, 0)))) else none) else (some (σ3, 0)))) else none) else (some (σ2, 0)))) else none))) else none
def kW_binder (rec rex : zF) (β : Nat) (σ : zS) : Option zR := if (σ.1 25) = 300 then (lt_ (zI σ 3003 3) (fun u1 => lt_ (zI u1 3004 (σ.1 9)) (fun u2 => lt_ (zI u2 3000 1) (fun u3 => some (u3, 0))))) else (if zb (σ.1 25) 300 then (lt_ (zA σ 21 (σ.1 25) (σ.1 9)) (fun σ1 => if zb (σ1.1 25) 300 then (if zr ((σ1.1 10) - (σ1.1 9)) then (lt_ (zA σ1 22 (σ1.1 25) ((σ1.1 10) - (σ1.1 9))) (fun σ2 => if zb (σ2.1 25) 300 then (lt_ (zA σ2 24 (σ2.1 25) 0) (fun σ3 => if zr ((σ3.1 25) + 1) then (lt_ (zI σ3 25 ((σ3.1 25) + 1)) (fun σ4 => lt_ (zI σ4 3000 0) (fun u => some (u, (σ3.1 25))))) else none)) else none)) else none) else none)) else none)
def kW_must (rec rex : zF) (β : Nat) (σ : zS) (x0 : Int) : Option zR := if 1 ≤ β then (zbd (rec tM_peek (β - 1) σ []) (fun σ1 r1 => if r1 = x0 then (if 1 ≤ β then (zbd (rec tM_take (β - 1) σ1 []) (fun σ2 r2 => lt_ (zI σ2 3000 0) (fun u => some (u, 0)))) else none) else (if (σ1.1 8) = 304 then (lt_ (zI σ1 3003 3) (fun u1 => lt_ (zI u1 3004 (σ1.1 9)) (fun u2 => lt_ (zI u2 3000 1) (fun u3 => some (u3, 0))))) else (lt_ (zI σ1 3003 1) (fun u1 => lt_ (zI u1 3004 (σ1.1 9)) (fun u2 => lt_ (zI u2 3000 1) (fun u3 => some (u3, 0)))))))) else none
def kW_atom1 (rec rex : zF) (β : Nat) (σ : zS) (x0 : Int) : Option zR := if 1 ≤ β then (zbd (rec tM_peek (β - 1) σ []) (fun σ1 r1 => if r1 = 1 then (if 1 ≤ β then (zbd (rex tX_variable (β - 1) σ1 []) (fun σ6 r6 => if (σ6.1 3000) = 0 then (if 1 ≤ β then (zbd (rec tM_take (β - 1) σ6 []) (fun σ7 r7 => if zr ((-1) - r6) then (if 1 ≤ β then (zbd (rec tM_term (β - 1) σ7 [((-1) - r6), (-1)]) (fun σ8 r8 => if 1 ≤ β then (zbd (rec tM_peek (β - 1) σ8 []) (fun σ9 r9 => if r9 = 61 then (rex tX_atom1_50 β σ9 [x0, r6, r8]) else (if 1 ≤ β then (zbd (rec tM_peek (β - 1) σ9 []) (fun σ10 r10 => if r10 = 300 then (rex tX_atom1_50 β σ10 [x0, r6, r8]) else (if (σ10.1 8) = 304 then (lt_ (zI σ10 3003 3) (fun u1 => lt_ (zI u1 3004 (σ10.1 9)) (fun u2 => lt_ (zI u2 3000 1) (fun u3 => some (u3, 0))))) else (lt_ (zI σ10 3003 1) (fun u1 => lt_ (zI u1 3004 (σ10.1 9)) (fun u2 => lt_ (zI u2 3000 1) (fun u3 => some (u3, 0)))))))) else none))) else none)) else none) else none)) else none) else (some (σ6, 0)))) else none) else (if 1 ≤ β then (zbd (rex tX_symbol1 (β - 1) σ1 []) (fun σ2 r2 => if (σ2.1 3000) = 0 then (if 1 ≤ β then (zbd (rec tM_take (β - 1) σ2 []) (fun σ3 r3 => if 1 ≤ β then (zbd (rec tM_peek (β - 1) σ3 []) (fun σ4 r4 => if r4 = 40 then (if 1 ≤ β then (zbd (rex tX_arguments (β - 1) σ4 [x0]) (fun σ5 r5 => if (σ5.1 3000) = 0 then (rex tX_atom1_89 β σ5 [x0, (σ1.1 9), r2, r5]) else (some (σ5, 0)))) else none) else (rex tX_atom1_89 β σ4 [x0, (σ1.1 9), r2, (-1)]))) else none)) else none) else (some (σ2, 0)))) else none))) else none
def kW_atom1_50 (rec rex : zF) (β : Nat) (σ : zS) (x0 x1 x2 : Int) : Option zR := if 1 ≤ β then (zbd (rex tX_equation (β - 1) σ [x2, x0]) (fun σ1 r1 => if (σ1.1 3000) = 0 then (lt_ (zI σ1 3000 0) (fun u => some (u, r1))) else (some (σ1, 0)))) else none
def kW_atom1_89 (rec rex : zF) (β : Nat) (σ : zS) (x0 x1 x2 x3 : Int) : Option zR := if 1 ≤ β then (zbd (rec tM_length (β - 1) σ [x3]) (fun σ1 r1 => if 1 ≤ β then (zbd (rec tM_peek (β - 1) σ1 []) (fun σ2 r2 => if r2 = 61 then (rex tX_atom1_122 β σ2 [x0, x1, x2, x3, r1, r2, x2]) else (if r2 = 300 then (rex tX_atom1_122 β σ2 [x0, x1, x2, x3, r1, r2, x2]) else (rex tX_atom1_127 β σ2 [x0, x1, x2, x3, r1, r2, 1, x2])))) else none)) else none
def kW_atom1_122 (rec rex : zF) (β : Nat) (σ : zS) (x0 x1 x2 x3 x4 x5 x6 : Int) : Option zR := rex tX_atom1_127 β σ [x0, x1, x2, x3, x4, x5, 2, x6]
def kW_atom1_127 (rec rex : zF) (β : Nat) (σ : zS) (x0 x1 x2 x3 x4 x5 x6 x7 : Int) : Option zR := if 1 ≤ β then (zbd (rex tX_check (β - 1) σ [x7, x6, x4, x1]) (fun σ1 r1 => if (σ1.1 3000) = 0 then (if x5 = 61 then (rex tX_atom1_148 β σ1 [x0, x1, x2, x3, x4, x5]) else (if x5 = 300 then (rex tX_atom1_148 β σ1 [x0, x1, x2, x3, x4, x5]) else (if 1 ≤ β then (zbd (rec tM_termOf (β - 1) σ1 [x2, x3]) (fun σ2 r2 => if 1 ≤ β then (zbd (rec tM_node (β - 1) σ2 [0, (σ2.1 39), (-1), 1]) (fun σ3 r3 => lt_ (zI σ3 3000 0) (fun u => some (u, r3)))) else none)) else none))) else (some (σ1, 0)))) else none
def kW_atom1_148 (rec rex : zF) (β : Nat) (σ : zS) (x0 x1 x2 x3 x4 x5 : Int) : Option zR := if 1 ≤ β then (zbd (rec tM_term (β - 1) σ [x2, x3]) (fun σ1 r1 => if 1 ≤ β then (zbd (rex tX_equation (β - 1) σ1 [r1, x0]) (fun σ2 r2 => if (σ2.1 3000) = 0 then (lt_ (zI σ2 3000 0) (fun u => some (u, r2))) else (some (σ2, 0)))) else none)) else none
def kW_variable (rec rex : zF) (β : Nat) (σ : zS) : Option zR := if zr ((σ.1 28) - 1) then (rex tX_variable_7 β σ [((σ.1 28) - 1)]) else none
def kW_variable_7 (rec rex : zF) (β : Nat) (σ : zS) (x0 : Int) : Option zR := if x0 < 0 then (rex tX_variable_39 β σ [0]) else (if zb x0 300 then (if 1 ≤ β then (zbd (rec tM_isBinder (β - 1) σ [(σ.2.1 26 x0)]) (fun σ1 r1 => if r1 = 0 then (if zr (x0 + (-1)) then (rex tX_variable_7 β σ1 [(x0 + (-1))]) else none) else (lt_ (zI σ1 3000 0) (fun u => some (u, (σ1.2.1 26 x0)))))) else none) else none)
def kW_variable_39 (rec rex : zF) (β : Nat) (σ : zS) (x0 : Int) : Option zR := if (σ.1 29) ≤ x0 then (if 1 ≤ β then (zbd (rex tX_binder (β - 1) σ []) (fun σ1 r1 => if (σ1.1 3000) = 0 then (if zr ((σ1.1 29) + 1) then (lt_ (zI σ1 29 ((σ1.1 29) + 1)) (fun σ2 => if zb (σ1.1 29) 300 then (lt_ (zA σ2 27 (σ1.1 29) r1) (fun σ3 => lt_ (zI σ3 3000 0) (fun u => some (u, r1)))) else none)) else none) else (some (σ1, 0)))) else none) else (if zb x0 300 then (if 1 ≤ β then (zbd (rec tM_isBinder (β - 1) σ [(σ.2.1 27 x0)]) (fun σ4 r4 => if r4 = 0 then (if zr (x0 + 1) then (rex tX_variable_39 β σ4 [(x0 + 1)]) else none) else (lt_ (zI σ4 3000 0) (fun u => some (u, (σ4.2.1 27 x0)))))) else none) else none)
def kW_equation (rec rex : zF) (β : Nat) (σ : zS) (x0 x1 : Int) : Option zR := if 1 ≤ β then (zbd (rec tM_peek (β - 1) σ []) (fun σ1 r1 => if r1 = 300 then (rex tX_equation_15 β σ1 [x0, x1, 1]) else (rex tX_equation_15 β σ1 [x0, x1, 0]))) else none
def kW_equation_15 (rec rex : zF) (β : Nat) (σ : zS) (x0 x1 x2 : Int) : Option zR := if 1 ≤ β then (zbd (rec tM_take (β - 1) σ []) (fun σ1 r1 => if 1 ≤ β then (zbd (rex tX_side1 (β - 1) σ1 [x1]) (fun σ2 r2 => if (σ2.1 3000) = 0 then (if 1 ≤ β then (zbd (rec tM_node (β - 1) σ2 [0, x0, r2, 1]) (fun σ3 r3 => if x2 = 0 then (rex tX_equation_56 β σ3 [x0, x1, x2, r2, r3, r3]) else (if 1 ≤ β then (zbd (rec tM_node (β - 1) σ3 [1, r3, 0, 1]) (fun σ4 r4 => rex tX_equation_56 β σ4 [x0, x1, x2, r2, r3, r4])) else none))) else none) else (some (σ2, 0)))) else none)) else none
def kW_equation_56 (rec rex : zF) (β : Nat) (σ : zS) (x0 x1 x2 x3 x4 x5 : Int) : Option zR := lt_ (zI σ 3000 0) (fun u => some (u, x5))
def kW_side1 (rec rex : zF) (β : Nat) (σ : zS) (x0 : Int) : Option zR := if 1 ≤ β then (zbd (rec tM_peek (β - 1) σ []) (fun σ1 r1 => if r1 = 1 then (if 1 ≤ β then (zbd (rex tX_variable (β - 1) σ1 []) (fun σ6 r6 => if (σ6.1 3000) = 0 then (if 1 ≤ β then (zbd (rec tM_take (β - 1) σ6 []) (fun σ7 r7 => if zr ((-1) - r6) then (if 1 ≤ β then (zbd (rec tM_term (β - 1) σ7 [((-1) - r6), (-1)]) (fun σ8 r8 => lt_ (zI σ8 3000 0) (fun u => some (u, r8)))) else none) else none)) else none) else (some (σ6, 0)))) else none) else (if r1 = 2 then (if 1 ≤ β then (zbd (rex tX_symbol1 (β - 1) σ1 []) (fun σ2 r2 => if (σ2.1 3000) = 0 then (if 1 ≤ β then (zbd (rec tM_take (β - 1) σ2 []) (fun σ3 r3 => if 1 ≤ β then (zbd (rec tM_peek (β - 1) σ3 []) (fun σ4 r4 => if r4 = 40 then (if 1 ≤ β then (zbd (rex tX_arguments (β - 1) σ4 [x0]) (fun σ5 r5 => if (σ5.1 3000) = 0 then (rex tX_side1_71 β σ5 [x0, r1, (σ1.1 9), r2, r5]) else (some (σ5, 0)))) else none) else (rex tX_side1_71 β σ4 [x0, r1, (σ1.1 9), r2, (-1)]))) else none)) else none) else (some (σ2, 0)))) else none) else (if (σ1.1 8) = 304 then (lt_ (zI σ1 3003 3) (fun u1 => lt_ (zI u1 3004 (σ1.1 9)) (fun u2 => lt_ (zI u2 3000 1) (fun u3 => some (u3, 0))))) else (lt_ (zI σ1 3003 1) (fun u1 => lt_ (zI u1 3004 (σ1.1 9)) (fun u2 => lt_ (zI u2 3000 1) (fun u3 => some (u3, 0))))))))) else none
def kW_side1_71 (rec rex : zF) (β : Nat) (σ : zS) (x0 x1 x2 x3 x4 : Int) : Option zR := if 1 ≤ β then (zbd (rec tM_length (β - 1) σ [x4]) (fun σ1 r1 => if 1 ≤ β then (zbd (rex tX_check (β - 1) σ1 [x3, 2, r1, x2]) (fun σ2 r2 => if (σ2.1 3000) = 0 then (if 1 ≤ β then (zbd (rec tM_term (β - 1) σ2 [x3, x4]) (fun σ3 r3 => lt_ (zI σ3 3000 0) (fun u => some (u, r3)))) else none) else (some (σ2, 0)))) else none)) else none
def kW_symbol1 (rec rex : zF) (β : Nat) (σ : zS) : Option zR := if zr ((σ.1 10) - (σ.1 9)) then (rex tX_symbol1_12 β σ [((σ.1 10) - (σ.1 9)), 1]) else none
def kW_symbol1_12 (rec rex : zF) (β : Nat) (σ : zS) (x0 x1 : Int) : Option zR := if (σ.1 20) < x1 then (if (σ.1 20) = 250 then (lt_ (zI σ 3003 3) (fun u1 => lt_ (zI u1 3004 (σ.1 9)) (fun u2 => lt_ (zI u2 3000 1) (fun u3 => some (u3, 0))))) else (if zr ((σ.1 20) + 1) then (lt_ (zI σ 20 ((σ.1 20) + 1)) (fun σ1 => if zb (σ1.1 20) 900 then (lt_ (zA σ1 13 (σ1.1 20) (σ1.1 18)) (fun σ2 => if zb (σ2.1 20) 900 then (lt_ (zA σ2 14 (σ2.1 20) x0) (fun σ3 => if zb (σ3.1 20) 900 then (lt_ (zA σ3 16 (σ3.1 20) 0) (fun σ4 => rex tX_symbol1_170 β σ4 [x0, 0])) else none)) else none)) else none)) else none)) else (if zb x1 900 then (if (σ.2.1 14 x1) = x0 then (rex tX_symbol1_35 β σ [x0, x1, 1]) else (rex tX_symbol1_35 β σ [x0, x1, 0])) else none)
def kW_symbol1_35 (rec rex : zF) (β : Nat) (σ : zS) (x0 x1 x2 : Int) : Option zR := rex tX_symbol1_39 β σ [x0, x1, x2, 0]
def kW_symbol1_39 (rec rex : zF) (β : Nat) (σ : zS) (x0 x1 x2 x3 : Int) : Option zR := if x2 = 0 then (rex tX_symbol1_90 β σ [x0, x1, x2, x3]) else (if x0 ≤ x3 then (rex tX_symbol1_90 β σ [x0, x1, x2, x3]) else (if zb x1 900 then (if zr ((σ.2.1 13 x1) + x3) then (if zb ((σ.2.1 13 x1) + x3) 9000 then (if zr ((σ.1 9) + x3) then (if zb ((σ.1 9) + x3) 65536 then (if (σ.2.1 17 ((σ.2.1 13 x1) + x3)) = (σ.2.1 0 ((σ.1 9) + x3)) then (rex tX_symbol1_83 β σ [x0, x1, x2, x3, 1]) else (rex tX_symbol1_83 β σ [x0, x1, x2, x3, 0])) else none) else none) else none) else none) else none))
def kW_symbol1_83 (rec rex : zF) (β : Nat) (σ : zS) (x0 x1 x2 x3 x4 : Int) : Option zR := if zr (x3 + 1) then (rex tX_symbol1_39 β σ [x0, x1, x4, (x3 + 1)]) else none
def kW_symbol1_90 (rec rex : zF) (β : Nat) (σ : zS) (x0 x1 x2 x3 : Int) : Option zR := if x2 = 0 then (if zr (x1 + 1) then (rex tX_symbol1_12 β σ [x0, (x1 + 1)]) else none) else (lt_ (zI σ 3000 0) (fun u => some (u, x1)))
def kW_symbol1_170 (rec rex : zF) (β : Nat) (σ : zS) (x0 x1 : Int) : Option zR := if x0 ≤ x1 then (lt_ (zI σ 3000 0) (fun u => some (u, (σ.1 20)))) else (if zr ((σ.1 18) + 1) then (lt_ (zI σ 18 ((σ.1 18) + 1)) (fun σ1 => if zr ((σ1.1 9) + x1) then (if zb ((σ1.1 9) + x1) 65536 then (if zb (σ.1 18) 9000 then (lt_ (zA σ1 17 (σ.1 18) (znb (σ1.2.1 0 ((σ1.1 9) + x1)))) (fun σ2 => if zr (x1 + 1) then (rex tX_symbol1_170 β σ2 [x0, (x1 + 1)]) else none)) else none) else none) else none)) else none)
def kW_arguments (rec rex : zF) (β : Nat) (σ : zS) (x0 : Int) : Option zR := if 1 ≤ β then (zbd (rec tM_take (β - 1) σ []) (fun σ1 r1 => if 1 ≤ β then (zbd (rex tX_nest (β - 1) σ1 [x0]) (fun σ2 r2 => if (σ2.1 3000) = 0 then (if 1 ≤ β then (zbd (rex tX_side1 (β - 1) σ2 [r2]) (fun σ3 r3 => if (σ3.1 3000) = 0 then (rex tX_arguments_19 β σ3 [x0, r2, r3, r3]) else (some (σ3, 0)))) else none) else (some (σ2, 0)))) else none)) else none
def kW_arguments_19 (rec rex : zF) (β : Nat) (σ : zS) (x0 x1 x2 x3 : Int) : Option zR := if 1 ≤ β then (zbd (rec tM_peek (β - 1) σ []) (fun σ1 r1 => if r1 = 44 then (if 1 ≤ β then (zbd (rec tM_take (β - 1) σ1 []) (fun σ3 r3 => if 1 ≤ β then (zbd (rex tX_side1 (β - 1) σ3 [x1]) (fun σ4 r4 => if (σ4.1 3000) = 0 then (if zb x3 20100 then (lt_ (zA σ4 36 x3 r4) (fun σ5 => rex tX_arguments_19 β σ5 [x0, x1, x2, (σ5.2.1 36 x3)])) else none) else (some (σ4, 0)))) else none)) else none) else (if 1 ≤ β then (zbd (rex tX_must (β - 1) σ1 [41]) (fun σ2 r2 => if (σ2.1 3000) = 0 then (lt_ (zI σ2 3000 0) (fun u => some (u, x2))) else (some (σ2, 0)))) else none))) else none
def kW_check (rec rex : zF) (β : Nat) (σ : zS) (x0 x1 x2 x3 : Int) : Option zR := if zb x0 900 then (if (σ.2.1 16 x0) = 0 then (lt_ (zA σ 16 x0 x1) (fun σ1 => lt_ (zA σ1 15 x0 x2) (fun σ2 => rex tX_check_57 β σ2 [x0, x1, x2, x3]))) else (if (σ.2.1 16 x0) = x1 then (if (σ.2.1 15 x0) = x2 then (rex tX_check_57 β σ [x0, x1, x2, x3]) else (rex tX_check_46 β σ [x0, x1, x2, x3])) else (rex tX_check_46 β σ [x0, x1, x2, x3]))) else none
def kW_check_46 (rec rex : zF) (β : Nat) (σ : zS) (x0 x1 x2 x3 : Int) : Option zR := lt_ (zI σ 3003 2) (fun u1 => lt_ (zI u1 3004 x3) (fun u2 => lt_ (zI u2 3000 1) (fun u3 => some (u3, 0))))
def kW_check_57 (rec rex : zF) (β : Nat) (σ : zS) (x0 x1 x2 x3 : Int) : Option zR := lt_ (zI σ 3000 0) (fun u => some (u, 0))
def kW_clausify (rec rex : zF) (β : Nat) (σ : zS) : Option zR := rex tX_clausify_2 β σ [0]
def kW_clausify_2 (rec rex : zF) (β : Nat) (σ : zS) (x0 : Int) : Option zR := if (σ.1 55) ≤ x0 then (rex tX_clausify_33 β σ [x0]) else (if zb x0 20100 then (if zb (σ.2.1 51 x0) 20100 then (if 200 < (σ.2.1 33 (σ.2.1 51 x0)) then (rex tX_clausify_33 β σ [x0]) else (if zr (x0 + 1) then (rex tX_clausify_2 β σ [(x0 + 1)]) else none)) else none) else none)
def kW_clausify_33 (rec rex : zF) (β : Nat) (σ : zS) (x0 : Int) : Option zR := rex tX_clausify_35 β σ [x0, 0]
def kW_clausify_35 (rec rex : zF) (β : Nat) (σ : zS) (x0 x1 : Int) : Option zR := if x0 ≤ x1 then (if zr (1 + (σ.1 20)) then (lt_ (zI σ 19 (1 + (σ.1 20))) (fun σ1 => rex tX_clausify_146 β σ1 [x0, 1])) else none) else (rex tX_clausify_42 β σ [x0, x1, 0])
def kW_clausify_42 (rec rex : zF) (β : Nat) (σ : zS) (x0 x1 x2 : Int) : Option zR := if zb x1 20100 then (if (σ.2.1 53 x1) ≤ x2 then (if (σ.2.1 57 x1) = 0 then (rex tX_clausify_119 β σ [x0, x1, x2, 1, (σ.2.1 51 x1)]) else (rex tX_clausify_119 β σ [x0, x1, x2, 0, (σ.2.1 51 x1)])) else (if zr ((σ.2.1 52 x1) + x2) then (if zb ((σ.2.1 52 x1) + x2) 300 then (if zb (σ.2.1 54 ((σ.2.1 52 x1) + x2)) 300 then (lt_ (zA σ 58 (σ.2.1 54 ((σ.2.1 52 x1) + x2)) x2) (fun σ1 => if (σ1.2.1 57 x1) = 0 then (rex tX_clausify_92 β σ1 [x0, x1, x2, (σ.2.1 54 ((σ.2.1 52 x1) + x2))]) else (lt_ (zA σ1 24 (σ.2.1 54 ((σ.2.1 52 x1) + x2)) 1) (fun σ2 => rex tX_clausify_92 β σ2 [x0, x1, x2, (σ.2.1 54 ((σ.2.1 52 x1) + x2))])))) else none) else none) else none)) else none
def kW_clausify_92 (rec rex : zF) (β : Nat) (σ : zS) (x0 x1 x2 x3 : Int) : Option zR := if zr (x2 + 1) then (rex tX_clausify_42 β σ [x0, x1, (x2 + 1)]) else none
def kW_clausify_119 (rec rex : zF) (β : Nat) (σ : zS) (x0 x1 x2 x3 x4 : Int) : Option zR := if zb x1 20100 then (if 1 ≤ β then (zbd (rec tM_mark (β - 1) σ [x4, x3, (σ.2.1 53 x1)]) (fun σ1 r1 => if zr (x1 + 1) then (rex tX_clausify_35 β σ1 [x0, (x1 + 1)]) else none)) else none) else none
def kW_clausify_146 (rec rex : zF) (β : Nat) (σ : zS) (x0 x1 : Int) : Option zR := if (σ.1 20) < x1 then (rex tX_clausify_195 β σ [x0, 0]) else (if zb x1 900 then (lt_ (zA σ 48 x1 (σ.2.1 15 x1)) (fun σ1 => if (σ1.2.1 16 x1) = 1 then (rex tX_clausify_186 β σ1 [x0, x1, 1, x1]) else (rex tX_clausify_186 β σ1 [x0, x1, 0, x1]))) else none)
def kW_clausify_186 (rec rex : zF) (β : Nat) (σ : zS) (x0 x1 x2 x3 : Int) : Option zR := if zb x3 900 then (if x2 = 0 ∨ x2 = 1 then (lt_ (zA σ 49 x3 x2) (fun σ1 => if zr (x1 + 1) then (rex tX_clausify_146 β σ1 [x0, (x1 + 1)]) else none)) else none) else none
def kW_clausify_195 (rec rex : zF) (β : Nat) (σ : zS) (x0 x1 : Int) : Option zR := if (σ.1 25) ≤ x1 then (rex tX_clausify_267 β σ [x0, 0, 0]) else (if zb x1 300 then (if (σ.2.1 24 x1) = 0 then (rex tX_clausify_257 β σ [x0, x1]) else (if zb (σ.1 19) 900 then (lt_ (zA σ 48 (σ.1 19) (σ.2.1 58 x1)) (fun σ1 => if zb (σ1.1 19) 900 then (lt_ (zA σ1 49 (σ1.1 19) 0) (fun σ2 => if zr ((σ2.1 19) + 1) then (lt_ (zI σ2 19 ((σ2.1 19) + 1)) (fun σ3 => lt_ (zA σ3 23 x1 (σ2.1 19)) (fun σ4 => rex tX_clausify_257 β σ4 [x0, x1]))) else none)) else none)) else none)) else none)
def kW_clausify_257 (rec rex : zF) (β : Nat) (σ : zS) (x0 x1 : Int) : Option zR := if zr (x1 + 1) then (rex tX_clausify_195 β σ [x0, (x1 + 1)]) else none
def kW_clausify_267 (rec rex : zF) (β : Nat) (σ : zS) (x0 x1 x2 : Int) : Option zR := if (σ.1 55) ≤ x2 then (lt_ (zI σ 3000 0) (fun u => some (u, 0))) else (if x2 = x0 then (if zb x2 20100 then (lt_ (zI σ 3003 3) (fun u1 => lt_ (zI u1 3004 (σ.2.1 50 x2)) (fun u2 => lt_ (zI u2 3000 1) (fun u3 => some (u3, 0))))) else none) else (if zb x2 20100 then (if (σ.2.1 57 x2) = 0 then (rex tX_clausify_317 β σ [x0, x1, x2, 1, (σ.2.1 51 x2), x1]) else (rex tX_clausify_317 β σ [x0, x1, x2, 0, (σ.2.1 51 x2), x1])) else none))
def kW_clausify_317 (rec rex : zF) (β : Nat) (σ : zS) (x0 x1 x2 x3 x4 x5 : Int) : Option zR := if 1 ≤ β then (zbd (rec tM_count2 (β - 1) σ [x4, x3]) (fun σ1 r1 => if zr (x5 + r1) then (if (x5 + r1) ≤ 200 then (if 1 ≤ β then (zbd (rex tX_sentenceClauses (β - 1) σ1 [x2]) (fun σ2 r2 => if (σ2.1 3000) = 0 then (if zr (x2 + 1) then (rex tX_clausify_267 β σ2 [x0, (x5 + r1), (x2 + 1)]) else none) else (some (σ2, 0)))) else none) else (if zb x2 20100 then (lt_ (zI σ1 3003 3) (fun u1 => lt_ (zI u1 3004 (σ1.2.1 50 x2)) (fun u2 => lt_ (zI u2 3000 1) (fun u3 => some (u3, 0))))) else none)) else none)) else none
def kW_sentenceClauses (rec rex : zF) (β : Nat) (σ : zS) (x0 : Int) : Option zR := lt_ (zI σ 47 205000) (fun σ1 => lt_ (zI σ1 62 0) (fun σ2 => rex tX_sentenceClauses_14 β σ2 [x0, 0]))
def kW_sentenceClauses_14 (rec rex : zF) (β : Nat) (σ : zS) (x0 x1 : Int) : Option zR := if zb x0 20100 then (if (σ.2.1 53 x0) ≤ x1 then (lt_ (zI σ 65 0) (fun σ1 => if (σ1.2.1 57 x0) = 0 then (rex tX_sentenceClauses_87 β σ1 [x0, x1, 1, (σ1.2.1 51 x0)]) else (rex tX_sentenceClauses_87 β σ1 [x0, x1, 0, (σ1.2.1 51 x0)]))) else (if zr ((σ.2.1 52 x0) + x1) then (if zb ((σ.2.1 52 x0) + x1) 300 then (if (σ.2.1 57 x0) = 0 then (rex tX_sentenceClauses_52 β σ [x0, x1, 1, (σ.2.1 54 ((σ.2.1 52 x0) + x1))]) else (rex tX_sentenceClauses_52 β σ [x0, x1, 0, (σ.2.1 54 ((σ.2.1 52 x0) + x1))])) else none) else none)) else none
def kW_sentenceClauses_52 (rec rex : zF) (β : Nat) (σ : zS) (x0 x1 x2 x3 : Int) : Option zR := if 1 ≤ β then (zbd (rec tM_bind2 (β - 1) σ [x3, x2]) (fun σ1 r1 => if zr (x1 + 1) then (rex tX_sentenceClauses_14 β σ1 [x0, (x1 + 1)]) else none)) else none
def kW_sentenceClauses_87 (rec rex : zF) (β : Nat) (σ : zS) (x0 x1 x2 x3 : Int) : Option zR := if 1 ≤ β then (zbd (rex tX_clauses (β - 1) σ [x3, x2]) (fun σ1 r1 => if (σ1.1 3000) = 0 then (rex tX_sentenceClauses_111 β σ1 [x0, 0]) else (if (σ1.1 3000) = 2 then (if zb x0 20100 then (lt_ (zI σ1 3003 3) (fun u1 => lt_ (zI u1 3004 (σ1.2.1 50 x0)) (fun u2 => lt_ (zI u2 3000 1) (fun u3 => some (u3, 0))))) else none) else (none)))) else none
def kW_sentenceClauses_111 (rec rex : zF) (β : Nat) (σ : zS) (x0 x1 : Int) : Option zR := if (σ.1 65) ≤ x1 then (lt_ (zI σ 122 (σ.1 47)) (fun σ1 => rex tX_sentenceClauses_167 β σ1 [x0, 0])) else (if zb x1 1200 then (if zr (24 * x1) then (if 1 ≤ β then (zbd (rec tM_fits (β - 1) σ [(24 * x1), (σ.2.1 64 x1)]) (fun σ2 r2 => if r2 = 0 then (if zb x0 20100 then (lt_ (zI σ2 3003 3) (fun u1 => lt_ (zI u1 3004 (σ2.2.1 50 x0)) (fun u2 => lt_ (zI u2 3000 1) (fun u3 => some (u3, 0))))) else none) else (if zr (x1 + 1) then (rex tX_sentenceClauses_111 β σ2 [x0, (x1 + 1)]) else none))) else none) else none) else none)
def kW_sentenceClauses_167 (rec rex : zF) (β : Nat) (σ : zS) (x0 x1 : Int) : Option zR := if (σ.1 65) ≤ x1 then (lt_ (zI σ 3000 0) (fun u => some (u, 0))) else (lt_ (zI σ 47 (σ.1 122)) (fun σ1 => lt_ (zI σ1 98 0) (fun σ2 => if zr (24 * x1) then (rex tX_sentenceClauses_196 β σ2 [x0, x1, (24 * x1), (24 * x1)]) else none)))
def kW_sentenceClauses_196 (rec rex : zF) (β : Nat) (σ : zS) (x0 x1 x2 x3 : Int) : Option zR := if zb x1 1200 then (if zr (x2 + (σ.2.1 64 x1)) then (if (x2 + (σ.2.1 64 x1)) ≤ x3 then (if 1 ≤ β then (zbd (rec tM_reduce (β - 1) σ []) (fun σ1 r1 => if 1 ≤ β then (zbd (rec tM_tautology (β - 1) σ1 []) (fun σ2 r2 => if r2 = 0 then (if 1 ≤ β then (zbd (rec tM_keep (β - 1) σ2 [0, (-1), (-1)]) (fun σ3 r3 => rex tX_sentenceClauses_280 β σ3 [x0, x1, x2, x3])) else none) else (rex tX_sentenceClauses_280 β σ2 [x0, x1, x2, x3]))) else none)) else none) else (if zb x3 28800 then (if 1 ≤ β then (zbd (rec tM_copy (β - 1) σ [(σ.2.1 63 x3)]) (fun σ4 r4 => if zr (x3 + 1) then (if zb (x3 + 1) 28800 then (if 1 ≤ β then (zbd (rec tM_copy (β - 1) σ4 [(σ4.2.1 63 (x3 + 1))]) (fun σ5 r5 => if zr (x3 + 2) then (if zb (x3 + 2) 28800 then (if (σ5.2.1 63 (x3 + 2)) = 1 then (rex tX_sentenceClauses_252 β σ5 [x0, x1, x2, x3, 1, r5, r4]) else (rex tX_sentenceClauses_252 β σ5 [x0, x1, x2, x3, 0, r5, r4])) else none) else none)) else none) else none) else none)) else none) else none)) else none) else none
def kW_sentenceClauses_252 (rec rex : zF) (β : Nat) (σ : zS) (x0 x1 x2 x3 x4 x5 x6 : Int) : Option zR := if 1 ≤ β then (zbd (rec tM_add (β - 1) σ [x6, x5, x4]) (fun σ1 r1 => if zr (x3 + 3) then (rex tX_sentenceClauses_196 β σ1 [x0, x1, x2, (x3 + 3)]) else none)) else none
def kW_sentenceClauses_280 (rec rex : zF) (β : Nat) (σ : zS) (x0 x1 x2 x3 : Int) : Option zR := if zr (x1 + 1) then (rex tX_sentenceClauses_167 β σ [x0, (x1 + 1)]) else none
def kW_clauses (rec rex : zF) (β : Nat) (σ : zS) (x0 x1 : Int) : Option zR := if zb x0 20100 then (if (σ.2.1 30 x0) < 0 ∨ 5 < (σ.2.1 30 x0) then (rex tX_clauses_241 β σ [x0, x1, (σ.1 62), 0]) else (if (σ.2.1 30 x0) = 0 then (if 1 ≤ β then (zbd (rex tX_atom2 (β - 1) σ [x0, x1]) (fun σ1 r1 => if (σ1.1 3000) = 0 then (rex tX_clauses_320 β σ1 [x0, x1]) else (some (σ1, 0)))) else none) else (if (σ.2.1 30 x0) = 1 then (if x1 = 0 then (rex tX_clauses_69 β σ [x0, x1, 1, (σ.2.1 31 x0)]) else (rex tX_clauses_69 β σ [x0, x1, 0, (σ.2.1 31 x0)])) else (if (σ.2.1 30 x0) = 2 then (if (σ.2.1 30 x0) = 2 then (rex tX_clauses_105 β σ [x0, x1, 1, x1, x1, (σ.2.1 32 x0), (σ.2.1 31 x0)]) else (rex tX_clauses_105 β σ [x0, x1, 0, x1, x1, (σ.2.1 32 x0), (σ.2.1 31 x0)])) else (if (σ.2.1 30 x0) = 3 then (if (σ.2.1 30 x0) = 2 then (rex tX_clauses_105 β σ [x0, x1, 1, x1, x1, (σ.2.1 32 x0), (σ.2.1 31 x0)]) else (rex tX_clauses_105 β σ [x0, x1, 0, x1, x1, (σ.2.1 32 x0), (σ.2.1 31 x0)])) else (if (σ.2.1 30 x0) = 4 then (if x1 = 0 then (rex tX_clauses_142 β σ [x0, x1, 1, (σ.2.1 32 x0), (σ.2.1 31 x0)]) else (rex tX_clauses_142 β σ [x0, x1, 0, (σ.2.1 32 x0), (σ.2.1 31 x0)])) else (if x1 = 0 then (rex tX_clauses_180 β σ [x0, x1, 1, (σ.2.1 32 x0), (σ.2.1 31 x0)]) else (rex tX_clauses_180 β σ [x0, x1, 0, (σ.2.1 32 x0), (σ.2.1 31 x0)])))))))) else none
def kW_clauses_69 (rec rex : zF) (β : Nat) (σ : zS) (x0 x1 x2 x3 : Int) : Option zR := if 1 ≤ β then (zbd (rex tX_clauses (β - 1) σ [x3, x2]) (fun σ1 r1 => if (σ1.1 3000) = 0 then (rex tX_clauses_320 β σ1 [x0, x1]) else (some (σ1, 0)))) else none
def kW_clauses_105 (rec rex : zF) (β : Nat) (σ : zS) (x0 x1 x2 x3 x4 x5 x6 : Int) : Option zR := if x2 = x1 then (rex tX_clauses_114 β σ [x0, x1, 1, x3, x4, x5, x6]) else (rex tX_clauses_114 β σ [x0, x1, 0, x3, x4, x5, x6])
def kW_clauses_114 (rec rex : zF) (β : Nat) (σ : zS) (x0 x1 x2 x3 x4 x5 x6 : Int) : Option zR := if 1 ≤ β then (zbd (rex tX_joined2 (β - 1) σ [x6, x5, x4, x3, x2]) (fun σ1 r1 => if (σ1.1 3000) = 0 then (rex tX_clauses_320 β σ1 [x0, x1]) else (some (σ1, 0)))) else none
def kW_clauses_142 (rec rex : zF) (β : Nat) (σ : zS) (x0 x1 x2 x3 x4 : Int) : Option zR := if x1 = 0 then (rex tX_clauses_152 β σ [x0, x1, 1, x1, x2, x3, x4]) else (rex tX_clauses_152 β σ [x0, x1, 0, x1, x2, x3, x4])
def kW_clauses_152 (rec rex : zF) (β : Nat) (σ : zS) (x0 x1 x2 x3 x4 x5 x6 : Int) : Option zR := if 1 ≤ β then (zbd (rex tX_joined2 (β - 1) σ [x6, x5, x4, x3, x2]) (fun σ1 r1 => if (σ1.1 3000) = 0 then (rex tX_clauses_320 β σ1 [x0, x1]) else (some (σ1, 0)))) else none
def kW_clauses_180 (rec rex : zF) (β : Nat) (σ : zS) (x0 x1 x2 x3 x4 : Int) : Option zR := if 1 ≤ β then (zbd (rex tX_joined2 (β - 1) σ [x4, x3, x2, 1, 0]) (fun σ1 r1 => if (σ1.1 3000) = 0 then (if x1 = 0 then (if zb x0 20100 then (if 1 ≤ β then (zbd (rex tX_joined2 (β - 1) σ1 [(σ1.2.1 31 x0), (σ1.2.1 32 x0), 0, 0, 0]) (fun σ2 r2 => if (σ2.1 3000) = 0 then (rex tX_clauses_320 β σ2 [x0, x1]) else (some (σ2, 0)))) else none) else none) else (if zb x0 20100 then (if 1 ≤ β then (zbd (rex tX_joined2 (β - 1) σ1 [(σ1.2.1 32 x0), (σ1.2.1 31 x0), 0, 1, 0]) (fun σ3 r3 => if (σ3.1 3000) = 0 then (rex tX_clauses_320 β σ3 [x0, x1]) else (some (σ3, 0)))) else none) else none)) else (some (σ1, 0)))) else none
def kW_clauses_241 (rec rex : zF) (β : Nat) (σ : zS) (x0 x1 x2 x3 : Int) : Option zR := if zb x0 20100 then (if (Int.tmod (σ.2.1 32 x0) 1000) ≤ x3 then (if 1 ≤ β then (zbd (rex tX_clauses (β - 1) σ [(σ.2.1 31 x0), x1]) (fun σ1 r1 => if (σ1.1 3000) = 0 then (lt_ (zI σ1 62 x2) (fun σ2 => rex tX_clauses_320 β σ2 [x0, x1])) else (some (σ1, 0)))) else none) else (if (σ.2.1 30 x0) = 6 then (if zr (Int.tdiv (σ.2.1 32 x0) 1000) then (if zr ((Int.tdiv (σ.2.1 32 x0) 1000) + x3) then (rex tX_clauses_286 β σ [x0, x1, x2, x3, 1, ((Int.tdiv (σ.2.1 32 x0) 1000) + x3)]) else none) else none) else (if zr (Int.tdiv (σ.2.1 32 x0) 1000) then (if zr ((Int.tdiv (σ.2.1 32 x0) 1000) + x3) then (rex tX_clauses_286 β σ [x0, x1, x2, x3, 0, ((Int.tdiv (σ.2.1 32 x0) 1000) + x3)]) else none) else none))) else none
def kW_clauses_286 (rec rex : zF) (β : Nat) (σ : zS) (x0 x1 x2 x3 x4 x5 : Int) : Option zR := if x4 = x1 then (rex tX_clauses_295 β σ [x0, x1, x2, x3, 1, x5]) else (rex tX_clauses_295 β σ [x0, x1, x2, x3, 0, x5])
def kW_clauses_295 (rec rex : zF) (β : Nat) (σ : zS) (x0 x1 x2 x3 x4 x5 : Int) : Option zR := if 1 ≤ β then (zbd (rec tM_bind2 (β - 1) σ [x5, x4]) (fun σ1 r1 => if zr (x3 + 1) then (rex tX_clauses_241 β σ1 [x0, x1, x2, (x3 + 1)]) else none)) else none
def kW_clauses_320 (rec rex : zF) (β : Nat) (σ : zS) (x0 x1 : Int) : Option zR := lt_ (zI σ 3000 0) (fun u => some (u, 0))
def kW_atom2 (rec rex : zF) (β : Nat) (σ : zS) (x0 x1 : Int) : Option zR := if zb x0 20100 then (if (σ.2.1 32 x0) < 0 then (if zb (σ.2.1 31 x0) 20100 then (rex tX_atom2_49 β σ [x0, x1, 1, (σ.2.1 42 (σ.2.1 31 x0))]) else none) else (if 1 ≤ β then (zbd (rec tM_weightOf (β - 1) σ [(σ.2.1 31 x0)]) (fun σ1 r1 => if 1 ≤ β then (zbd (rec tM_weightOf (β - 1) σ1 [(σ1.2.1 32 x0)]) (fun σ2 r2 => if zr (r1 + r2) then (rex tX_atom2_84 β σ2 [x0, x1, (r1 + r2)]) else none)) else none)) else none)) else none
def kW_atom2_49 (rec rex : zF) (β : Nat) (σ : zS) (x0 x1 x2 x3 : Int) : Option zR := if x3 < 0 then (if zr (x2 + 1) then (rex tX_atom2_84 β σ [x0, x1, (x2 + 1)]) else none) else (if 1 ≤ β then (zbd (rec tM_weightOf (β - 1) σ [x3]) (fun σ1 r1 => if zb x3 20100 then (if zr (x2 + r1) then (rex tX_atom2_49 β σ1 [x0, x1, (if (x2 + r1) < 1000 then (x2 + r1) else 1000), (σ1.2.1 36 x3)]) else none) else none)) else none)
def kW_atom2_84 (rec rex : zF) (β : Nat) (σ : zS) (x0 x1 x2 : Int) : Option zR := if x2 ≤ 100 then (if zb x0 20100 then (if (σ.2.1 32 x0) < 0 then (if zb (σ.2.1 31 x0) 20100 then (if 1 ≤ β then (zbd (rec tM_built2 (β - 1) σ [(σ.2.1 41 (σ.2.1 31 x0)), (σ.2.1 42 (σ.2.1 31 x0))]) (fun σ1 r1 => if zr (24 * (σ.1 65)) then (rex tX_atom2_161 β σ1 [x0, x1, x2, (24 * (σ.1 65)), r1, (24 * (σ.1 65))]) else none)) else none) else none) else (if 1 ≤ β then (zbd (rec tM_built1 (β - 1) σ [(σ.2.1 31 x0)]) (fun σ2 r2 => if zr (24 * (σ.1 65)) then (rex tX_atom2_161 β σ2 [x0, x1, x2, (24 * (σ.1 65)), r2, (24 * (σ.1 65))]) else none)) else none)) else none) else (lt_ (zI σ 3000 2) (fun u => some (u, 0)))
def kW_atom2_161 (rec rex : zF) (β : Nat) (σ : zS) (x0 x1 x2 x3 x4 x5 : Int) : Option zR := if zb x5 28800 then (lt_ (zA σ 63 x5 x4) (fun σ1 => if zb x0 20100 then (if (σ1.2.1 32 x0) < 0 then (if 1 ≤ β then (zbd (rec tM_fresh (β - 1) σ1 [0]) (fun σ2 r2 => if zr (x3 + 1) then (rex tX_atom2_197 β σ2 [x0, x1, x2, x3, r2, (x3 + 1)]) else none)) else none) else (if 1 ≤ β then (zbd (rec tM_built1 (β - 1) σ1 [(σ1.2.1 32 x0)]) (fun σ3 r3 => if zr (x3 + 1) then (rex tX_atom2_197 β σ3 [x0, x1, x2, x3, r3, (x3 + 1)]) else none)) else none)) else none)) else none
def kW_atom2_197 (rec rex : zF) (β : Nat) (σ : zS) (x0 x1 x2 x3 x4 x5 : Int) : Option zR := if zb x5 28800 then (lt_ (zA σ 63 x5 x4) (fun σ1 => if x1 = 0 then (if zr (x3 + 2) then (rex tX_atom2_215 β σ1 [x0, x1, x2, x3, 0, (x3 + 2)]) else none) else (if zr (x3 + 2) then (rex tX_atom2_215 β σ1 [x0, x1, x2, x3, 1, (x3 + 2)]) else none))) else none
def kW_atom2_215 (rec rex : zF) (β : Nat) (σ : zS) (x0 x1 x2 x3 x4 x5 : Int) : Option zR := if zb x5 28800 then (lt_ (zA σ 63 x5 x4) (fun σ1 => if zr ((σ1.1 65) + 1) then (lt_ (zI σ1 65 ((σ1.1 65) + 1)) (fun σ2 => if zb (σ1.1 65) 1200 then (lt_ (zA σ2 64 (σ1.1 65) 3) (fun σ3 => lt_ (zI σ3 3000 0) (fun u => some (u, 0)))) else none)) else none)) else none
def kW_joined2 (rec rex : zF) (β : Nat) (σ : zS) (x0 x1 x2 x3 x4 : Int) : Option zR := if 1 ≤ β then (zbd (rex tX_clauses (β - 1) σ [x0, x2]) (fun σ1 r1 => if (σ1.1 3000) = 0 then (if 1 ≤ β then (zbd (rex tX_clauses (β - 1) σ1 [x1, x3]) (fun σ2 r2 => if (σ2.1 3000) = 0 then (if x4 = 0 then (if 1 ≤ β then (zbd (rex tX_either (β - 1) σ2 [(σ.1 65), (σ1.1 65)]) (fun σ3 r3 => if (σ3.1 3000) = 0 then (rex tX_joined2_38 β σ3 [x0, x1, x2, x3, x4, (σ.1 65), (σ1.1 65)]) else (some (σ3, 0)))) else none) else (rex tX_joined2_38 β σ2 [x0, x1, x2, x3, x4, (σ.1 65), (σ1.1 65)])) else (some (σ2, 0)))) else none) else (some (σ1, 0)))) else none
def kW_joined2_38 (rec rex : zF) (β : Nat) (σ : zS) (x0 x1 x2 x3 x4 x5 x6 : Int) : Option zR := lt_ (zI σ 3000 0) (fun u => some (u, 0))
def kW_either (rec rex : zF) (β : Nat) (σ : zS) (x0 x1 : Int) : Option zR := rex tX_either_8 β σ [x0, x1, (σ.1 65), x0]
def kW_either_8 (rec rex : zF) (β : Nat) (σ : zS) (x0 x1 x2 x3 : Int) : Option zR := if x1 ≤ x3 then (if zr ((σ.1 65) - x2) then (rex tX_either_176 β σ [x0, x1, x2, ((σ.1 65) - x2), 0]) else none) else (rex tX_either_17 β σ [x0, x1, x2, x3, x1])
def kW_either_17 (rec rex : zF) (β : Nat) (σ : zS) (x0 x1 x2 x3 x4 : Int) : Option zR := if x2 ≤ x4 then (if zr (x3 + 1) then (rex tX_either_8 β σ [x0, x1, x2, (x3 + 1)]) else none) else (if zb x3 1200 then (if zb x4 1200 then (if zr ((σ.2.1 64 x3) + (σ.2.1 64 x4)) then (if ((σ.2.1 64 x3) + (σ.2.1 64 x4)) ≤ 24 then (if zr (24 * x3) then (if zr (24 * (σ.1 65)) then (if zcp (24 * x3) (24 * (σ.1 65)) (σ.2.1 64 x3) 28800 28800 then (lt_ (zCp σ 63 63 (24 * x3) (24 * (σ.1 65)) (σ.2.1 64 x3)) (fun σ1 => if zr (24 * x4) then (if zr (24 * (σ1.1 65)) then (if zr ((24 * (σ1.1 65)) + (σ1.2.1 64 x3)) then (if zcp (24 * x4) ((24 * (σ1.1 65)) + (σ1.2.1 64 x3)) (σ1.2.1 64 x4) 28800 28800 then (lt_ (zCp σ1 63 63 (24 * x4) ((24 * (σ1.1 65)) + (σ1.2.1 64 x3)) (σ1.2.1 64 x4)) (fun σ2 => if zb (σ2.1 65) 1200 then (if zr ((σ2.2.1 64 x3) + (σ2.2.1 64 x4)) then (lt_ (zA σ2 64 (σ2.1 65) ((σ2.2.1 64 x3) + (σ2.2.1 64 x4))) (fun σ3 => if zr ((σ3.1 65) + 1) then (lt_ (zI σ3 65 ((σ3.1 65) + 1)) (fun σ4 => if zr (x4 + 1) then (rex tX_either_17 β σ4 [x0, x1, x2, x3, (x4 + 1)]) else none)) else none)) else none) else none)) else none) else none) else none) else none)) else none) else none) else none) else (lt_ (zI σ 3000 2) (fun u => some (u, 0)))) else none) else none) else none)
def kW_either_176 (rec rex : zF) (β : Nat) (σ : zS) (x0 x1 x2 x3 x4 : Int) : Option zR := if x3 ≤ x4 then (if zr (x0 + x3) then (lt_ (zI σ 65 (x0 + x3)) (fun σ1 => lt_ (zI σ1 3000 0) (fun u => some (u, 0)))) else none) else (if zr (x2 + x4) then (if zb (x2 + x4) 1200 then (if zr (24 * (x2 + x4)) then (if zr (x0 + x4) then (if zr (24 * (x0 + x4)) then (if zcp (24 * (x2 + x4)) (24 * (x0 + x4)) (σ.2.1 64 (x2 + x4)) 28800 28800 then (lt_ (zCp σ 63 63 (24 * (x2 + x4)) (24 * (x0 + x4)) (σ.2.1 64 (x2 + x4))) (fun σ2 => if zb (x0 + x4) 1200 then (lt_ (zA σ2 64 (x0 + x4) (σ2.2.1 64 (x2 + x4))) (fun σ3 => if zr (x4 + 1) then (rex tX_either_176 β σ3 [x0, x1, x2, x3, (x4 + 1)]) else none)) else none)) else none) else none) else none) else none) else none) else none)
def kW_read (rec rex : zF) (β : Nat) (σ : zS) : Option zR := lt_ (zI σ 4 0) (fun σ1 => lt_ (zI σ1 18 0) (fun σ2 => lt_ (zI σ2 20 0) (fun σ3 => lt_ (zI σ3 19 1) (fun σ4 => lt_ (zI σ4 25 0) (fun σ5 => lt_ (zI σ5 37 0) (fun σ6 => lt_ (zI σ6 38 0) (fun σ7 => lt_ (zI σ7 40 0) (fun σ8 => lt_ (zI σ8 55 0) (fun σ9 => lt_ (zI σ9 56 0) (fun σ10 => lt_ (zI σ10 84 0) (fun σ11 => lt_ (zI σ11 72 0) (fun σ12 => lt_ (zI σ12 85 0) (fun σ13 => rex tX_read_65 β σ13 [])))))))))))))
def kW_read_65 (rec rex : zF) (β : Nat) (σ : zS) : Option zR := lt_ (zI σ 86 0) (fun σ1 => lt_ (zI σ1 87 0) (fun σ2 => lt_ (zI σ2 88 (-1)) (fun σ3 => lt_ (zI σ3 89 0) (fun σ4 => lt_ (zI σ4 90 0) (fun σ5 => lt_ (zI σ5 91 0) (fun σ6 => lt_ (zI σ6 92 0) (fun σ7 => lt_ (zI σ7 93 0) (fun σ8 => lt_ (zI σ8 94 0) (fun σ9 => lt_ (zI σ9 105 0) (fun σ10 => lt_ (zI σ10 5 0) (fun σ11 => lt_ (zI σ11 6 0) (fun σ12 => if zb 0 900 then (lt_ (zA σ12 49 0 1) (fun σ13 => lt_ (zA σ13 48 0 0) (fun σ14 => rex tX_read_139 β σ14 []))) else none))))))))))))
def kW_read_139 (rec rex : zF) (β : Nat) (σ : zS) : Option zR := if 1 ≤ β then (zbd (rex tX_parse (β - 1) σ []) (fun σ1 r1 => if (σ1.1 3000) = 0 then (if 1 ≤ β then (zbd (rex tX_clausify (β - 1) σ1 []) (fun σ2 r2 => if (σ2.1 3000) = 0 then (rex tX_read_187 β σ2 []) else (if (σ2.1 3000) = 1 then (lt_ (zI σ2 5 (σ2.1 3003)) (fun σ3 => lt_ (zI σ3 6 (σ2.1 3004)) (fun σ4 => lt_ (zI σ4 84 0) (fun σ5 => lt_ (zI σ5 72 0) (fun σ6 => lt_ (zI σ6 19 1) (fun σ7 => lt_ (zI σ7 20 0) (fun σ8 => rex tX_read_187 β σ8 []))))))) else (none)))) else none) else (if (σ1.1 3000) = 1 then (lt_ (zI σ1 5 (σ1.1 3003)) (fun σ9 => lt_ (zI σ9 6 (σ1.1 3004)) (fun σ10 => lt_ (zI σ10 84 0) (fun σ11 => lt_ (zI σ11 72 0) (fun σ12 => lt_ (zI σ12 19 1) (fun σ13 => lt_ (zI σ13 20 0) (fun σ14 => rex tX_read_187 β σ14 []))))))) else (none)))) else none
def kW_read_187 (rec rex : zF) (β : Nat) (σ : zS) : Option zR := lt_ (zI σ 2 0) (fun σ1 => lt_ (zI σ1 85 (σ1.1 84)) (fun σ2 => if (σ2.1 5) ≤ 0 then (lt_ (zI σ2 3000 0) (fun u => some (u, (σ2.1 84)))) else (lt_ (zI σ2 3000 0) (fun u => some (u, (-1))))))
theorem rW_parse (rz rzx : zF) (rm rmx : mF) (hR : Rc rz rm) (hX : Rc rzx rmx) (β : Nat) (σ : zS) (hσ : zOK σ) : Rf (kW_parse rz rzx β σ) (kX_parse rm rmx (cv σ)) β := by
  unfold kW_parse kX_parse
  refine Rf_I (by decide) (by decide) hσ (fun σ1 hσ1 => ?_)
  refine Rf_I (by decide) (by decide) hσ1 (fun σ2 hσ2 => ?_)
  refine Rf_I (by decide) (by decide) hσ2 (fun σ3 hσ3 => ?_)
  exact Rf_tail hX hσ3 zrs_nil rfl
theorem rW_parse_15 (rz rzx : zF) (rm rmx : mF) (hR : Rc rz rm) (hX : Rc rzx rmx) (β : Nat) (σ : zS) (hσ : zOK σ) : Rf (kW_parse_15 rz rzx β σ) (kX_parse_15 rm rmx (cv σ)) β := by
  unfold kW_parse_15 kX_parse_15
  refine Rf_bnd hR hσ zrs_nil rfl (fun σ1 r1 hσ1 hr1 => ?_)
  refine Rf_eq rfl (by decide) hr1 (by decide) (fun _ => ?_) (fun _ => ?_)
  · refine Rf_I (by decide) (by decide) hσ1 (fun u hu => ?_)
    exact Rf_some hu (by decide) (by decide)
  · refine Rf_rd rfl (hσ1.1 55) (fun hb1 => ?_)
    refine Rf_A rfl hb1 rfl (hσ1.1 9) hσ1 (fun σ2 hσ2 => ?_)
    refine Rf_I (by decide) (by decide) hσ2 (fun σ3 hσ3 => ?_)
    refine Rf_I (by decide) (by decide) hσ3 (fun σ4 hσ4 => ?_)
    refine Rf_eq rfl (by decide) (hσ4.1 8) (by decide) (fun _ => ?_) (fun _ => ?_)
    · refine Rf_g (fun hg2 => ?_)
      refine Rf_eq (e_sub rfl rfl) (by decide) hg2 (by decide) (fun _ => ?_) (fun _ => ?_)
      · refine Rf_bnd hR hσ4 (zrs_cons (hσ4.1 9) (zrs_cons (by decide) zrs_nil)) (e_cons rfl (e_cons (by decide) rfl)) (fun σ5 r5 hσ5 hr5 => ?_)
        refine Rf_eq rfl (by decide) hr5 (by decide) (fun _ => ?_) (fun _ => ?_)
        · exact Rf_tail hX hσ5 zrs_nil rfl
        · refine Rf_g (fun hg3 => ?_)
          refine Rf_bnd hR hσ5 (zrs_cons hg3 (zrs_cons (by decide) zrs_nil)) (e_cons (e_add rfl (by decide)) (e_cons (by decide) rfl)) (fun σ6 r6 hσ6 hr6 => ?_)
          refine Rf_eq rfl (by decide) hr6 (by decide) (fun _ => ?_) (fun _ => ?_)
          · exact Rf_tail hX hσ6 zrs_nil rfl
          · refine Rf_g (fun hg4 => ?_)
            refine Rf_bnd hR hσ6 (zrs_cons hg4 (zrs_cons (by decide) zrs_nil)) (e_cons (e_add rfl (by decide)) (e_cons (by decide) rfl)) (fun σ7 r7 hσ7 hr7 => ?_)
            refine Rf_eq rfl (by decide) hr7 (by decide) (fun _ => ?_) (fun _ => ?_)
            · exact Rf_tail hX hσ7 zrs_nil rfl
            · refine Rf_g (fun hg5 => ?_)
              refine Rf_bnd hR hσ7 (zrs_cons hg5 (zrs_cons (by decide) zrs_nil)) (e_cons (e_add rfl (by decide)) (e_cons (by decide) rfl)) (fun σ8 r8 hσ8 hr8 => ?_)
              refine Rf_eq rfl (by decide) hr8 (by decide) (fun _ => ?_) (fun _ => ?_)
              · exact Rf_tail hX hσ8 zrs_nil rfl
              · refine Rf_g (fun hg6 => ?_)
                refine Rf_bnd hR hσ8 (zrs_cons hg6 (zrs_cons (by decide) zrs_nil)) (e_cons (e_add rfl (by decide)) (e_cons (by decide) rfl)) (fun σ9 r9 hσ9 hr9 => ?_)
                refine Rf_eq rfl (by decide) hr9 (by decide) (fun _ => ?_) (fun _ => ?_)
                · exact Rf_tail hX hσ9 zrs_nil rfl
                · exact Rf_tail hX hσ9 (zrs_cons (by decide) zrs_nil) (e_cons (by decide) rfl)
      · exact Rf_tail hX hσ4 zrs_nil rfl
    · exact Rf_tail hX hσ4 zrs_nil rfl
theorem rW_parse_143 (rz rzx : zF) (rm rmx : mF) (hR : Rc rz rm) (hX : Rc rzx rmx) (β : Nat) (σ : zS) (hσ : zOK σ) : Rf (kW_parse_143 rz rzx β σ) (kX_parse_143 rm rmx (cv σ)) β := by
  unfold kW_parse_143 kX_parse_143
  exact Rf_tail hX hσ (zrs_cons (by decide) zrs_nil) (e_cons (by decide) rfl)
theorem rW_parse_144 (rz rzx : zF) (rm rmx : mF) (hR : Rc rz rm) (hX : Rc rzx rmx) (β : Nat) (σ : zS) (hσ : zOK σ) (x0 : Int) (hx0 : zr x0) : Rf (kW_parse_144 rz rzx β σ x0) (kX_parse_144 rm rmx (cv σ) (i32 x0)) β := by
  unfold kW_parse_144 kX_parse_144
  refine Rf_eq rfl (by decide) hx0 (by decide) (fun _ => ?_) (fun _ => ?_)
  · exact Rf_tail hX hσ (zrs_cons hx0 zrs_nil) (e_cons rfl rfl)
  · refine Rf_bnd hR hσ zrs_nil rfl (fun σ1 r1 hσ1 hr1 => ?_)
    exact Rf_tail hX hσ1 (zrs_cons hx0 zrs_nil) (e_cons rfl rfl)
theorem rW_parse_153 (rz rzx : zF) (rm rmx : mF) (hR : Rc rz rm) (hX : Rc rzx rmx) (β : Nat) (σ : zS) (hσ : zOK σ) (x0 : Int) (hx0 : zr x0) : Rf (kW_parse_153 rz rzx β σ x0) (kX_parse_153 rm rmx (cv σ) (i32 x0)) β := by
  unfold kW_parse_153 kX_parse_153
  refine Rf_rd rfl (hσ.1 55) (fun hb1 => ?_)
  refine Rf_g (fun hg2 => ?_)
  refine Rf_A rfl hb1 (e_bool rfl hg2) hx0 hσ (fun σ1 hσ1 => ?_)
  refine Rf_bnd hX hσ1 (zrs_cons (by decide) zrs_nil) (e_cons (by decide) rfl) (fun σ2 r2 hσ2 hr2 => ?_)
  refine Rf_eq rfl (by decide) (hσ2.1 3000) (by decide) (fun _ => ?_) (fun _ => ?_)
  · refine Rf_rd rfl (hσ1.1 55) (fun hb3 => ?_)
    refine Rf_A rfl hb3 rfl hr2 hσ2 (fun σ3 hσ3 => ?_)
    refine Rf_bnd hX hσ3 (zrs_cons (by decide) zrs_nil) (e_cons (by decide) rfl) (fun σ4 r4 hσ4 hr4 => ?_)
    refine Rf_eq rfl (by decide) (hσ4.1 3000) (by decide) (fun _ => ?_) (fun _ => ?_)
    · refine Rf_rd rfl (hσ4.1 55) (fun hb4 => ?_)
      refine Rf_A rfl hb4 rfl (hσ4.1 56) hσ4 (fun σ5 hσ5 => ?_)
      refine Rf_rd rfl (hσ5.1 55) (fun hb5 => ?_)
      refine Rf_A rfl hb5 rfl (hσ5.1 29) hσ5 (fun σ6 hσ6 => ?_)
      exact Rf_tail hX hσ6 (zrs_cons hx0 (zrs_cons (by decide) zrs_nil)) (e_cons rfl (e_cons (by decide) rfl))
    · exact Rf_some hσ4 (by decide) (by decide)
  · exact Rf_some hσ2 (by decide) (by decide)
theorem rW_parse_211 (rz rzx : zF) (rm rmx : mF) (hR : Rc rz rm) (hX : Rc rzx rmx) (β : Nat) (σ : zS) (hσ : zOK σ) (x0 x1 : Int) (hx0 : zr x0) (hx1 : zr x1) : Rf (kW_parse_211 rz rzx β σ x0 x1) (kX_parse_211 rm rmx (cv σ) (i32 x0) (i32 x1)) β := by
  unfold kW_parse_211 kX_parse_211
  refine Rf_le rfl rfl (hσ.1 29) hx1 (fun _ => ?_) (fun _ => ?_)
  · refine Rf_g (fun hg1 => ?_)
    refine Rf_I (e_add rfl (by decide)) hg1 hσ (fun σ1 hσ1 => ?_)
    exact Rf_tail hX hσ1 zrs_nil rfl
  · refine Rf_g (fun hg2 => ?_)
    refine Rf_I (e_add rfl (by decide)) hg2 hσ (fun σ2 hσ2 => ?_)
    refine Rf_rd rfl hx1 (fun hb3 => ?_)
    refine Rf_rd rfl (hσ.1 56) (fun hb4 => ?_)
    refine Rf_A rfl hb4 (e_rd rfl hb3) (hσ2.2.1 _ _) hσ2 (fun σ3 hσ3 => ?_)
    refine Rf_g (fun hg5 => ?_)
    exact Rf_tail hX hσ3 (zrs_cons hx0 (zrs_cons hg5 zrs_nil)) (e_cons rfl (e_cons (e_add rfl (by decide)) rfl))
theorem rW_formula (rz rzx : zF) (rm rmx : mF) (hR : Rc rz rm) (hX : Rc rzx rmx) (β : Nat) (σ : zS) (hσ : zOK σ) (x0 : Int) (hx0 : zr x0) : Rf (kW_formula rz rzx β σ x0) (kX_formula rm rmx (cv σ) (i32 x0)) β := by
  unfold kW_formula kX_formula
  refine Rf_bnd hX hσ (zrs_cons hx0 zrs_nil) (e_cons rfl rfl) (fun σ1 r1 hσ1 hr1 => ?_)
  refine Rf_eq rfl (by decide) (hσ1.1 3000) (by decide) (fun _ => ?_) (fun _ => ?_)
  · refine Rf_bnd hR hσ1 zrs_nil rfl (fun σ2 r2 hσ2 hr2 => ?_)
    refine Rf_eq rfl (by decide) hr2 (by decide) (fun _ => ?_) (fun _ => ?_)
    · refine Rf_bnd hR hσ2 zrs_nil rfl (fun σ3 r3 hσ3 hr3 => ?_)
      refine Rf_bnd hX hσ3 (zrs_cons hx0 zrs_nil) (e_cons rfl rfl) (fun σ4 r4 hσ4 hr4 => ?_)
      refine Rf_eq rfl (by decide) (hσ4.1 3000) (by decide) (fun _ => ?_) (fun _ => ?_)
      · refine Rf_bnd hR hσ4 (zrs_cons (by decide) (zrs_cons hr1 (zrs_cons hr4 zrs_nil))) (e_cons (by decide) (e_cons rfl (e_cons rfl rfl))) (fun σ5 r5 hσ5 hr5 => ?_)
        refine Rf_I (by decide) (by decide) hσ5 (fun u hu => ?_)
        exact Rf_some hu hr5 rfl
      · exact Rf_some hσ4 (by decide) (by decide)
    · refine Rf_I (by decide) (by decide) hσ2 (fun u hu => ?_)
      exact Rf_some hu hr1 rfl
  · exact Rf_some hσ1 (by decide) (by decide)
theorem rW_implication (rz rzx : zF) (rm rmx : mF) (hR : Rc rz rm) (hX : Rc rzx rmx) (β : Nat) (σ : zS) (hσ : zOK σ) (x0 : Int) (hx0 : zr x0) : Rf (kW_implication rz rzx β σ x0) (kX_implication rm rmx (cv σ) (i32 x0)) β := by
  unfold kW_implication kX_implication
  refine Rf_bnd hX hσ (zrs_cons hx0 zrs_nil) (e_cons rfl rfl) (fun σ1 r1 hσ1 hr1 => ?_)
  refine Rf_eq rfl (by decide) (hσ1.1 3000) (by decide) (fun _ => ?_) (fun _ => ?_)
  · refine Rf_bnd hR hσ1 zrs_nil rfl (fun σ2 r2 hσ2 hr2 => ?_)
    refine Rf_eq rfl (by decide) hr2 (by decide) (fun _ => ?_) (fun _ => ?_)
    · refine Rf_bnd hR hσ2 zrs_nil rfl (fun σ3 r3 hσ3 hr3 => ?_)
      refine Rf_bnd hX hσ3 (zrs_cons hx0 zrs_nil) (e_cons rfl rfl) (fun σ4 r4 hσ4 hr4 => ?_)
      refine Rf_eq rfl (by decide) (hσ4.1 3000) (by decide) (fun _ => ?_) (fun _ => ?_)
      · refine Rf_bnd hX hσ4 (zrs_cons hr4 zrs_nil) (e_cons rfl rfl) (fun σ5 r5 hσ5 hr5 => ?_)
        refine Rf_eq rfl (by decide) (hσ5.1 3000) (by decide) (fun _ => ?_) (fun _ => ?_)
        · refine Rf_bnd hR hσ5 (zrs_cons (by decide) (zrs_cons hr1 (zrs_cons hr5 zrs_nil))) (e_cons (by decide) (e_cons rfl (e_cons rfl rfl))) (fun σ6 r6 hσ6 hr6 => ?_)
          refine Rf_I (by decide) (by decide) hσ6 (fun u hu => ?_)
          exact Rf_some hu hr6 rfl
        · exact Rf_some hσ5 (by decide) (by decide)
      · exact Rf_some hσ4 (by decide) (by decide)
    · refine Rf_I (by decide) (by decide) hσ2 (fun u hu => ?_)
      exact Rf_some hu hr1 rfl
  · exact Rf_some hσ1 (by decide) (by decide)
theorem rW_choice (rz rzx : zF) (rm rmx : mF) (hR : Rc rz rm) (hX : Rc rzx rmx) (β : Nat) (σ : zS) (hσ : zOK σ) (x0 : Int) (hx0 : zr x0) : Rf (kW_choice rz rzx β σ x0) (kX_choice rm rmx (cv σ) (i32 x0)) β := by
  unfold kW_choice kX_choice
  refine Rf_bnd hX hσ (zrs_cons hx0 zrs_nil) (e_cons rfl rfl) (fun σ1 r1 hσ1 hr1 => ?_)
  refine Rf_eq rfl (by decide) (hσ1.1 3000) (by decide) (fun _ => ?_) (fun _ => ?_)
  · exact Rf_tail hX hσ1 (zrs_cons hx0 (zrs_cons hr1 zrs_nil)) (e_cons rfl (e_cons rfl rfl))
  · exact Rf_some hσ1 (by decide) (by decide)
theorem rW_choice_6 (rz rzx : zF) (rm rmx : mF) (hR : Rc rz rm) (hX : Rc rzx rmx) (β : Nat) (σ : zS) (hσ : zOK σ) (x0 x1 : Int) (hx0 : zr x0) (hx1 : zr x1) : Rf (kW_choice_6 rz rzx β σ x0 x1) (kX_choice_6 rm rmx (cv σ) (i32 x0) (i32 x1)) β := by
  unfold kW_choice_6 kX_choice_6
  refine Rf_bnd hR hσ zrs_nil rfl (fun σ1 r1 hσ1 hr1 => ?_)
  refine Rf_eq rfl (by decide) hr1 (by decide) (fun _ => ?_) (fun _ => ?_)
  · refine Rf_bnd hR hσ1 zrs_nil rfl (fun σ2 r2 hσ2 hr2 => ?_)
    refine Rf_bnd hX hσ2 (zrs_cons hx0 zrs_nil) (e_cons rfl rfl) (fun σ3 r3 hσ3 hr3 => ?_)
    refine Rf_eq rfl (by decide) (hσ3.1 3000) (by decide) (fun _ => ?_) (fun _ => ?_)
    · refine Rf_bnd hR hσ3 (zrs_cons (by decide) (zrs_cons hx1 (zrs_cons hr3 zrs_nil))) (e_cons (by decide) (e_cons rfl (e_cons rfl rfl))) (fun σ4 r4 hσ4 hr4 => ?_)
      exact Rf_tail hX hσ4 (zrs_cons hx0 (zrs_cons hr4 zrs_nil)) (e_cons rfl (e_cons rfl rfl))
    · exact Rf_some hσ3 (by decide) (by decide)
  · refine Rf_I (by decide) (by decide) hσ1 (fun u hu => ?_)
    exact Rf_some hu hx1 rfl
theorem rW_joint (rz rzx : zF) (rm rmx : mF) (hR : Rc rz rm) (hX : Rc rzx rmx) (β : Nat) (σ : zS) (hσ : zOK σ) (x0 : Int) (hx0 : zr x0) : Rf (kW_joint rz rzx β σ x0) (kX_joint rm rmx (cv σ) (i32 x0)) β := by
  unfold kW_joint kX_joint
  refine Rf_bnd hX hσ (zrs_cons hx0 zrs_nil) (e_cons rfl rfl) (fun σ1 r1 hσ1 hr1 => ?_)
  refine Rf_eq rfl (by decide) (hσ1.1 3000) (by decide) (fun _ => ?_) (fun _ => ?_)
  · exact Rf_tail hX hσ1 (zrs_cons hx0 (zrs_cons hr1 zrs_nil)) (e_cons rfl (e_cons rfl rfl))
  · exact Rf_some hσ1 (by decide) (by decide)
theorem rW_joint_6 (rz rzx : zF) (rm rmx : mF) (hR : Rc rz rm) (hX : Rc rzx rmx) (β : Nat) (σ : zS) (hσ : zOK σ) (x0 x1 : Int) (hx0 : zr x0) (hx1 : zr x1) : Rf (kW_joint_6 rz rzx β σ x0 x1) (kX_joint_6 rm rmx (cv σ) (i32 x0) (i32 x1)) β := by
  unfold kW_joint_6 kX_joint_6
  refine Rf_bnd hR hσ zrs_nil rfl (fun σ1 r1 hσ1 hr1 => ?_)
  refine Rf_eq rfl (by decide) hr1 (by decide) (fun _ => ?_) (fun _ => ?_)
  · refine Rf_bnd hR hσ1 zrs_nil rfl (fun σ2 r2 hσ2 hr2 => ?_)
    refine Rf_bnd hX hσ2 (zrs_cons hx0 zrs_nil) (e_cons rfl rfl) (fun σ3 r3 hσ3 hr3 => ?_)
    refine Rf_eq rfl (by decide) (hσ3.1 3000) (by decide) (fun _ => ?_) (fun _ => ?_)
    · refine Rf_bnd hR hσ3 (zrs_cons (by decide) (zrs_cons hx1 (zrs_cons hr3 zrs_nil))) (e_cons (by decide) (e_cons rfl (e_cons rfl rfl))) (fun σ4 r4 hσ4 hr4 => ?_)
      exact Rf_tail hX hσ4 (zrs_cons hx0 (zrs_cons hr4 zrs_nil)) (e_cons rfl (e_cons rfl rfl))
    · exact Rf_some hσ3 (by decide) (by decide)
  · refine Rf_I (by decide) (by decide) hσ1 (fun u hu => ?_)
    exact Rf_some hu hx1 rfl
theorem rW_unit (rz rzx : zF) (rm rmx : mF) (hR : Rc rz rm) (hX : Rc rzx rmx) (β : Nat) (σ : zS) (hσ : zOK σ) (x0 : Int) (hx0 : zr x0) : Rf (kW_unit rz rzx β σ x0) (kX_unit rm rmx (cv σ) (i32 x0)) β := by
  unfold kW_unit kX_unit
  refine Rf_bnd hR hσ zrs_nil rfl (fun σ1 r1 hσ1 hr1 => ?_)
  refine Rf_eq rfl (by decide) hr1 (by decide) (fun _ => ?_) (fun _ => ?_)
  · refine Rf_bnd hR hσ1 zrs_nil rfl (fun σ6 r6 hσ6 hr6 => ?_)
    refine Rf_bnd hX hσ6 (zrs_cons hx0 zrs_nil) (e_cons rfl rfl) (fun σ7 r7 hσ7 hr7 => ?_)
    refine Rf_eq rfl (by decide) (hσ7.1 3000) (by decide) (fun _ => ?_) (fun _ => ?_)
    · refine Rf_bnd hX hσ7 (zrs_cons hr7 zrs_nil) (e_cons rfl rfl) (fun σ8 r8 hσ8 hr8 => ?_)
      refine Rf_eq rfl (by decide) (hσ8.1 3000) (by decide) (fun _ => ?_) (fun _ => ?_)
      · refine Rf_rd rfl hr8 (fun hb1 => ?_)
        refine Rf_g (fun hg2 => ?_)
        refine Rf_bnd hR hσ8 (zrs_cons (by decide) (zrs_cons hr8 (zrs_cons (by decide) (zrs_cons hg2 zrs_nil)))) (e_cons (by decide) (e_cons rfl (e_cons (by decide) (e_cons (e_add (by decide) (e_rd rfl hb1)) rfl)))) (fun σ9 r9 hσ9 hr9 => ?_)
        refine Rf_I (by decide) (by decide) hσ9 (fun u hu => ?_)
        exact Rf_some hu hr9 rfl
      · exact Rf_some hσ8 (by decide) (by decide)
    · exact Rf_some hσ7 (by decide) (by decide)
  · refine Rf_eq rfl (by decide) hr1 (by decide) (fun _ => ?_) (fun _ => ?_)
    · exact Rf_tail hX hσ1 (zrs_cons hx0 (zrs_cons hr1 zrs_nil)) (e_cons rfl (e_cons rfl rfl))
    · refine Rf_eq rfl (by decide) hr1 (by decide) (fun _ => ?_) (fun _ => ?_)
      · exact Rf_tail hX hσ1 (zrs_cons hx0 (zrs_cons hr1 zrs_nil)) (e_cons rfl (e_cons rfl rfl))
      · refine Rf_eq rfl (by decide) hr1 (by decide) (fun _ => ?_) (fun _ => ?_)
        · refine Rf_bnd hR hσ1 zrs_nil rfl (fun σ2 r2 hσ2 hr2 => ?_)
          refine Rf_bnd hX hσ2 (zrs_cons hx0 zrs_nil) (e_cons rfl rfl) (fun σ3 r3 hσ3 hr3 => ?_)
          refine Rf_eq rfl (by decide) (hσ3.1 3000) (by decide) (fun _ => ?_) (fun _ => ?_)
          · refine Rf_bnd hX hσ3 (zrs_cons hr3 zrs_nil) (e_cons rfl rfl) (fun σ4 r4 hσ4 hr4 => ?_)
            refine Rf_eq rfl (by decide) (hσ4.1 3000) (by decide) (fun _ => ?_) (fun _ => ?_)
            · refine Rf_bnd hX hσ4 (zrs_cons (by decide) zrs_nil) (e_cons (by decide) rfl) (fun σ5 r5 hσ5 hr5 => ?_)
              refine Rf_eq rfl (by decide) (hσ5.1 3000) (by decide) (fun _ => ?_) (fun _ => ?_)
              · refine Rf_I (by decide) (by decide) hσ5 (fun u hu => ?_)
                exact Rf_some hu hr4 rfl
              · exact Rf_some hσ5 (by decide) (by decide)
            · exact Rf_some hσ4 (by decide) (by decide)
          · exact Rf_some hσ3 (by decide) (by decide)
        · refine Rf_eq rfl (by decide) hr1 (by decide) (fun _ => ?_) (fun _ => ?_)
          · exact Rf_tail hX hσ1 (zrs_cons hx0 (zrs_cons hr1 zrs_nil)) (e_cons rfl (e_cons rfl rfl))
          · refine Rf_eq rfl (by decide) hr1 (by decide) (fun _ => ?_) (fun _ => ?_)
            · exact Rf_tail hX hσ1 (zrs_cons hx0 (zrs_cons hr1 zrs_nil)) (e_cons rfl (e_cons rfl rfl))
            · refine Rf_eq rfl (by decide) (hσ1.1 8) (by decide) (fun _ => ?_) (fun _ => ?_)
              · refine Rf_I (by decide) (by decide) hσ1 (fun u1 hu1 => ?_)
                refine Rf_I rfl (hσ1.1 9) hu1 (fun u2 hu2 => ?_)
                refine Rf_I (by decide) (by decide) hu2 (fun u3 hu3 => ?_)
                exact Rf_some hu3 (by decide) (by decide)
              · refine Rf_I (by decide) (by decide) hσ1 (fun u1 hu1 => ?_)
                refine Rf_I rfl (hσ1.1 9) hu1 (fun u2 hu2 => ?_)
                refine Rf_I (by decide) (by decide) hu2 (fun u3 hu3 => ?_)
                exact Rf_some hu3 (by decide) (by decide)
theorem rW_unit_53 (rz rzx : zF) (rm rmx : mF) (hR : Rc rz rm) (hX : Rc rzx rmx) (β : Nat) (σ : zS) (hσ : zOK σ) (x0 x1 : Int) (hx0 : zr x0) (hx1 : zr x1) : Rf (kW_unit_53 rz rzx β σ x0 x1) (kX_unit_53 rm rmx (cv σ) (i32 x0) (i32 x1)) β := by
  unfold kW_unit_53 kX_unit_53
  refine Rf_eq rfl (by decide) hx1 (by decide) (fun _ => ?_) (fun _ => ?_)
  · exact Rf_tail hX hσ (zrs_cons hx0 (zrs_cons hx1 (zrs_cons (by decide) (zrs_cons hx0 zrs_nil)))) (e_cons rfl (e_cons rfl (e_cons (by decide) (e_cons rfl rfl))))
  · exact Rf_tail hX hσ (zrs_cons hx0 (zrs_cons hx1 (zrs_cons (by decide) (zrs_cons hx0 zrs_nil)))) (e_cons rfl (e_cons rfl (e_cons (by decide) (e_cons rfl rfl))))
theorem rW_unit_68 (rz rzx : zF) (rm rmx : mF) (hR : Rc rz rm) (hX : Rc rzx rmx) (β : Nat) (σ : zS) (hσ : zOK σ) (x0 x1 x2 x3 : Int) (hx0 : zr x0) (hx1 : zr x1) (hx2 : zr x2) (hx3 : zr x3) : Rf (kW_unit_68 rz rzx β σ x0 x1 x2 x3) (kX_unit_68 rm rmx (cv σ) (i32 x0) (i32 x1) (i32 x2) (i32 x3)) β := by
  unfold kW_unit_68 kX_unit_68
  refine Rf_bnd hX hσ (zrs_cons hx3 (zrs_cons hx2 zrs_nil)) (e_cons rfl (e_cons rfl rfl)) (fun σ1 r1 hσ1 hr1 => ?_)
  refine Rf_eq rfl (by decide) (hσ1.1 3000) (by decide) (fun _ => ?_) (fun _ => ?_)
  · refine Rf_I (by decide) (by decide) hσ1 (fun u hu => ?_)
    exact Rf_some hu hr1 rfl
  · exact Rf_some hσ1 (by decide) (by decide)
theorem rW_unit_115 (rz rzx : zF) (rm rmx : mF) (hR : Rc rz rm) (hX : Rc rzx rmx) (β : Nat) (σ : zS) (hσ : zOK σ) (x0 x1 : Int) (hx0 : zr x0) (hx1 : zr x1) : Rf (kW_unit_115 rz rzx β σ x0 x1) (kX_unit_115 rm rmx (cv σ) (i32 x0) (i32 x1)) β := by
  unfold kW_unit_115 kX_unit_115
  refine Rf_bnd hX hσ (zrs_cons hx0 zrs_nil) (e_cons rfl rfl) (fun σ1 r1 hσ1 hr1 => ?_)
  refine Rf_eq rfl (by decide) (hσ1.1 3000) (by decide) (fun _ => ?_) (fun _ => ?_)
  · refine Rf_I (by decide) (by decide) hσ1 (fun u hu => ?_)
    exact Rf_some hu hr1 rfl
  · exact Rf_some hσ1 (by decide) (by decide)
theorem rW_nest (rz rzx : zF) (rm rmx : mF) (hR : Rc rz rm) (hX : Rc rzx rmx) (β : Nat) (σ : zS) (hσ : zOK σ) (x0 : Int) (hx0 : zr x0) : Rf (kW_nest rz rzx β σ x0) (kX_nest rm rmx (cv σ) (i32 x0)) β := by
  unfold kW_nest kX_nest
  refine Rf_eq rfl (by decide) hx0 (by decide) (fun _ => ?_) (fun _ => ?_)
  · refine Rf_bnd hR hσ zrs_nil rfl (fun σ1 r1 hσ1 hr1 => ?_)
    refine Rf_I (by decide) (by decide) hσ1 (fun u1 hu1 => ?_)
    refine Rf_I rfl (hσ1.1 9) hu1 (fun u2 hu2 => ?_)
    refine Rf_I (by decide) (by decide) hu2 (fun u3 hu3 => ?_)
    exact Rf_some hu3 (by decide) (by decide)
  · refine Rf_I (by decide) (by decide) hσ (fun u hu => ?_)
    refine Rf_g (fun hg1 => ?_)
    exact Rf_some hu hg1 (e_add rfl (by decide))
theorem rW_bound2 (rz rzx : zF) (rm rmx : mF) (hR : Rc rz rm) (hX : Rc rzx rmx) (β : Nat) (σ : zS) (hσ : zOK σ) (x0 x1 : Int) (hx0 : zr x0) (hx1 : zr x1) : Rf (kW_bound2 rz rzx β σ x0 x1) (kX_bound2 rm rmx (cv σ) (i32 x0) (i32 x1)) β := by
  unfold kW_bound2 kX_bound2
  refine Rf_bnd hR hσ zrs_nil rfl (fun σ1 r1 hσ1 hr1 => ?_)
  refine Rf_bnd hR hσ1 zrs_nil rfl (fun σ2 r2 hσ2 hr2 => ?_)
  refine Rf_eq rfl (by decide) hr2 (by decide) (fun _ => ?_) (fun _ => ?_)
  · exact Rf_tail hX hσ2 (zrs_cons hx0 (zrs_cons hx1 (zrs_cons (hσ1.1 25) (zrs_cons (hσ1.1 28) zrs_nil)))) (e_cons rfl (e_cons rfl (e_cons rfl (e_cons rfl rfl))))
  · refine Rf_eq rfl (by decide) (hσ2.1 8) (by decide) (fun _ => ?_) (fun _ => ?_)
    · refine Rf_I (by decide) (by decide) hσ2 (fun u1 hu1 => ?_)
      refine Rf_I rfl (hσ2.1 9) hu1 (fun u2 hu2 => ?_)
      refine Rf_I (by decide) (by decide) hu2 (fun u3 hu3 => ?_)
      exact Rf_some hu3 (by decide) (by decide)
    · refine Rf_I (by decide) (by decide) hσ2 (fun u1 hu1 => ?_)
      refine Rf_I rfl (hσ2.1 9) hu1 (fun u2 hu2 => ?_)
      refine Rf_I (by decide) (by decide) hu2 (fun u3 hu3 => ?_)
      exact Rf_some hu3 (by decide) (by decide)
theorem rW_bound2_28 (rz rzx : zF) (rm rmx : mF) (hR : Rc rz rm) (hX : Rc rzx rmx) (β : Nat) (σ : zS) (hσ : zOK σ) (x0 x1 x2 x3 : Int) (hx0 : zr x0) (hx1 : zr x1) (hx2 : zr x2) (hx3 : zr x3) : Rf (kW_bound2_28 rz rzx β σ x0 x1 x2 x3) (kX_bound2_28 rm rmx (cv σ) (i32 x0) (i32 x1) (i32 x2) (i32 x3)) β := by
  unfold kW_bound2_28 kX_bound2_28
  refine Rf_bnd hR hσ zrs_nil rfl (fun σ1 r1 hσ1 hr1 => ?_)
  refine Rf_eq rfl (by decide) hr1 (by decide) (fun _ => ?_) (fun _ => ?_)
  · refine Rf_g (fun hg1 => ?_)
    refine Rf_I (e_add rfl (by decide)) hg1 hσ1 (fun σ7 hσ7 => ?_)
    refine Rf_bnd hX hσ7 zrs_nil rfl (fun σ8 r8 hσ8 hr8 => ?_)
    refine Rf_eq rfl (by decide) (hσ8.1 3000) (by decide) (fun _ => ?_) (fun _ => ?_)
    · refine Rf_rd rfl (hσ1.1 28) (fun hb2 => ?_)
      refine Rf_A rfl hb2 rfl hr8 hσ8 (fun σ9 hσ9 => ?_)
      refine Rf_bnd hR hσ9 zrs_nil rfl (fun σ10 r10 hσ10 hr10 => ?_)
      exact Rf_tail hX hσ10 (zrs_cons hx0 (zrs_cons hx1 (zrs_cons hx2 (zrs_cons hx3 zrs_nil)))) (e_cons rfl (e_cons rfl (e_cons rfl (e_cons rfl rfl))))
    · exact Rf_some hσ8 (by decide) (by decide)
  · refine Rf_bnd hX hσ1 (zrs_cons (by decide) zrs_nil) (e_cons (by decide) rfl) (fun σ2 r2 hσ2 hr2 => ?_)
    refine Rf_eq rfl (by decide) (hσ2.1 3000) (by decide) (fun _ => ?_) (fun _ => ?_)
    · refine Rf_bnd hX hσ2 (zrs_cons hx0 zrs_nil) (e_cons rfl rfl) (fun σ3 r3 hσ3 hr3 => ?_)
      refine Rf_eq rfl (by decide) (hσ3.1 3000) (by decide) (fun _ => ?_) (fun _ => ?_)
      · refine Rf_bnd hX hσ3 (zrs_cons hr3 zrs_nil) (e_cons rfl rfl) (fun σ4 r4 hσ4 hr4 => ?_)
        refine Rf_eq rfl (by decide) (hσ4.1 3000) (by decide) (fun _ => ?_) (fun _ => ?_)
        · refine Rf_I rfl hx3 hσ4 (fun σ5 hσ5 => ?_)
          refine Rf_rd rfl hr4 (fun hb3 => ?_)
          refine Rf_g (fun hg4 => ?_)
          refine Rf_g (fun hg5 => ?_)
          refine Rf_g (fun hg6 => ?_)
          refine Rf_g (fun hg7 => ?_)
          refine Rf_bnd hR hσ5 (zrs_cons hx1 (zrs_cons hr4 (zrs_cons hg6 (zrs_cons hg7 zrs_nil)))) (e_cons rfl (e_cons rfl (e_cons (e_add (e_mul rfl (by decide)) (e_sub rfl rfl)) (e_cons (e_add (e_sub rfl rfl) (e_rd rfl hb3)) rfl)))) (fun σ6 r6 hσ6 hr6 => ?_)
          refine Rf_I (by decide) (by decide) hσ6 (fun u hu => ?_)
          exact Rf_some hu hr6 rfl
        · exact Rf_some hσ4 (by decide) (by decide)
      · exact Rf_some hσ3 (by decide) (by decide)
    · exact Rf_some hσ2 (by decide) (by decide)
theorem rW_binder (rz rzx : zF) (rm rmx : mF) (hR : Rc rz rm) (hX : Rc rzx rmx) (β : Nat) (σ : zS) (hσ : zOK σ) : Rf (kW_binder rz rzx β σ) (kX_binder rm rmx (cv σ)) β := by
  unfold kW_binder kX_binder
  refine Rf_eq rfl (by decide) (hσ.1 25) (by decide) (fun _ => ?_) (fun _ => ?_)
  · refine Rf_I (by decide) (by decide) hσ (fun u1 hu1 => ?_)
    refine Rf_I rfl (hσ.1 9) hu1 (fun u2 hu2 => ?_)
    refine Rf_I (by decide) (by decide) hu2 (fun u3 hu3 => ?_)
    exact Rf_some hu3 (by decide) (by decide)
  · refine Rf_rd rfl (hσ.1 25) (fun hb1 => ?_)
    refine Rf_A rfl hb1 rfl (hσ.1 9) hσ (fun σ1 hσ1 => ?_)
    refine Rf_rd rfl (hσ1.1 25) (fun hb2 => ?_)
    refine Rf_g (fun hg3 => ?_)
    refine Rf_A rfl hb2 (e_sub rfl rfl) hg3 hσ1 (fun σ2 hσ2 => ?_)
    refine Rf_rd rfl (hσ2.1 25) (fun hb4 => ?_)
    have hg5 : (0 : Int) = 0 ∨ (0 : Int) = 1 := by decide
    refine Rf_A rfl hb4 (e_bool (by decide) hg5) (by decide) hσ2 (fun σ3 hσ3 => ?_)
    refine Rf_g (fun hg6 => ?_)
    refine Rf_I (e_add rfl (by decide)) hg6 hσ3 (fun σ4 hσ4 => ?_)
    refine Rf_I (by decide) (by decide) hσ4 (fun u hu => ?_)
    exact Rf_some hu (hσ3.1 25) rfl
theorem rW_must (rz rzx : zF) (rm rmx : mF) (hR : Rc rz rm) (hX : Rc rzx rmx) (β : Nat) (σ : zS) (hσ : zOK σ) (x0 : Int) (hx0 : zr x0) : Rf (kW_must rz rzx β σ x0) (kX_must rm rmx (cv σ) (i32 x0)) β := by
  unfold kW_must kX_must
  refine Rf_bnd hR hσ zrs_nil rfl (fun σ1 r1 hσ1 hr1 => ?_)
  refine Rf_eq rfl rfl hr1 hx0 (fun _ => ?_) (fun _ => ?_)
  · refine Rf_bnd hR hσ1 zrs_nil rfl (fun σ2 r2 hσ2 hr2 => ?_)
    refine Rf_I (by decide) (by decide) hσ2 (fun u hu => ?_)
    exact Rf_some hu (by decide) (by decide)
  · refine Rf_eq rfl (by decide) (hσ1.1 8) (by decide) (fun _ => ?_) (fun _ => ?_)
    · refine Rf_I (by decide) (by decide) hσ1 (fun u1 hu1 => ?_)
      refine Rf_I rfl (hσ1.1 9) hu1 (fun u2 hu2 => ?_)
      refine Rf_I (by decide) (by decide) hu2 (fun u3 hu3 => ?_)
      exact Rf_some hu3 (by decide) (by decide)
    · refine Rf_I (by decide) (by decide) hσ1 (fun u1 hu1 => ?_)
      refine Rf_I rfl (hσ1.1 9) hu1 (fun u2 hu2 => ?_)
      refine Rf_I (by decide) (by decide) hu2 (fun u3 hu3 => ?_)
      exact Rf_some hu3 (by decide) (by decide)
theorem rW_atom1 (rz rzx : zF) (rm rmx : mF) (hR : Rc rz rm) (hX : Rc rzx rmx) (β : Nat) (σ : zS) (hσ : zOK σ) (x0 : Int) (hx0 : zr x0) : Rf (kW_atom1 rz rzx β σ x0) (kX_atom1 rm rmx (cv σ) (i32 x0)) β := by
  unfold kW_atom1 kX_atom1
  refine Rf_bnd hR hσ zrs_nil rfl (fun σ1 r1 hσ1 hr1 => ?_)
  refine Rf_eq rfl (by decide) hr1 (by decide) (fun _ => ?_) (fun _ => ?_)
  · refine Rf_bnd hX hσ1 zrs_nil rfl (fun σ6 r6 hσ6 hr6 => ?_)
    refine Rf_eq rfl (by decide) (hσ6.1 3000) (by decide) (fun _ => ?_) (fun _ => ?_)
    · refine Rf_bnd hR hσ6 zrs_nil rfl (fun σ7 r7 hσ7 hr7 => ?_)
      refine Rf_g (fun hg1 => ?_)
      refine Rf_bnd hR hσ7 (zrs_cons hg1 (zrs_cons (by decide) zrs_nil)) (e_cons (e_sub (by decide) rfl) (e_cons (by decide) rfl)) (fun σ8 r8 hσ8 hr8 => ?_)
      refine Rf_bnd hR hσ8 zrs_nil rfl (fun σ9 r9 hσ9 hr9 => ?_)
      refine Rf_eq rfl (by decide) hr9 (by decide) (fun _ => ?_) (fun _ => ?_)
      · exact Rf_tail hX hσ9 (zrs_cons hx0 (zrs_cons hr6 (zrs_cons hr8 zrs_nil))) (e_cons rfl (e_cons rfl (e_cons rfl rfl)))
      · refine Rf_bnd hR hσ9 zrs_nil rfl (fun σ10 r10 hσ10 hr10 => ?_)
        refine Rf_eq rfl (by decide) hr10 (by decide) (fun _ => ?_) (fun _ => ?_)
        · exact Rf_tail hX hσ10 (zrs_cons hx0 (zrs_cons hr6 (zrs_cons hr8 zrs_nil))) (e_cons rfl (e_cons rfl (e_cons rfl rfl)))
        · refine Rf_eq rfl (by decide) (hσ10.1 8) (by decide) (fun _ => ?_) (fun _ => ?_)
          · refine Rf_I (by decide) (by decide) hσ10 (fun u1 hu1 => ?_)
            refine Rf_I rfl (hσ10.1 9) hu1 (fun u2 hu2 => ?_)
            refine Rf_I (by decide) (by decide) hu2 (fun u3 hu3 => ?_)
            exact Rf_some hu3 (by decide) (by decide)
          · refine Rf_I (by decide) (by decide) hσ10 (fun u1 hu1 => ?_)
            refine Rf_I rfl (hσ10.1 9) hu1 (fun u2 hu2 => ?_)
            refine Rf_I (by decide) (by decide) hu2 (fun u3 hu3 => ?_)
            exact Rf_some hu3 (by decide) (by decide)
    · exact Rf_some hσ6 (by decide) (by decide)
  · refine Rf_bnd hX hσ1 zrs_nil rfl (fun σ2 r2 hσ2 hr2 => ?_)
    refine Rf_eq rfl (by decide) (hσ2.1 3000) (by decide) (fun _ => ?_) (fun _ => ?_)
    · refine Rf_bnd hR hσ2 zrs_nil rfl (fun σ3 r3 hσ3 hr3 => ?_)
      refine Rf_bnd hR hσ3 zrs_nil rfl (fun σ4 r4 hσ4 hr4 => ?_)
      refine Rf_eq rfl (by decide) hr4 (by decide) (fun _ => ?_) (fun _ => ?_)
      · refine Rf_bnd hX hσ4 (zrs_cons hx0 zrs_nil) (e_cons rfl rfl) (fun σ5 r5 hσ5 hr5 => ?_)
        refine Rf_eq rfl (by decide) (hσ5.1 3000) (by decide) (fun _ => ?_) (fun _ => ?_)
        · exact Rf_tail hX hσ5 (zrs_cons hx0 (zrs_cons (hσ1.1 9) (zrs_cons hr2 (zrs_cons hr5 zrs_nil)))) (e_cons rfl (e_cons rfl (e_cons rfl (e_cons rfl rfl))))
        · exact Rf_some hσ5 (by decide) (by decide)
      · exact Rf_tail hX hσ4 (zrs_cons hx0 (zrs_cons (hσ1.1 9) (zrs_cons hr2 (zrs_cons (by decide) zrs_nil)))) (e_cons rfl (e_cons rfl (e_cons rfl (e_cons (by decide) rfl))))
    · exact Rf_some hσ2 (by decide) (by decide)
theorem rW_atom1_50 (rz rzx : zF) (rm rmx : mF) (hR : Rc rz rm) (hX : Rc rzx rmx) (β : Nat) (σ : zS) (hσ : zOK σ) (x0 x1 x2 : Int) (hx0 : zr x0) (hx1 : zr x1) (hx2 : zr x2) : Rf (kW_atom1_50 rz rzx β σ x0 x1 x2) (kX_atom1_50 rm rmx (cv σ) (i32 x0) (i32 x1) (i32 x2)) β := by
  unfold kW_atom1_50 kX_atom1_50
  refine Rf_bnd hX hσ (zrs_cons hx2 (zrs_cons hx0 zrs_nil)) (e_cons rfl (e_cons rfl rfl)) (fun σ1 r1 hσ1 hr1 => ?_)
  refine Rf_eq rfl (by decide) (hσ1.1 3000) (by decide) (fun _ => ?_) (fun _ => ?_)
  · refine Rf_I (by decide) (by decide) hσ1 (fun u hu => ?_)
    exact Rf_some hu hr1 rfl
  · exact Rf_some hσ1 (by decide) (by decide)
theorem rW_atom1_89 (rz rzx : zF) (rm rmx : mF) (hR : Rc rz rm) (hX : Rc rzx rmx) (β : Nat) (σ : zS) (hσ : zOK σ) (x0 x1 x2 x3 : Int) (hx0 : zr x0) (hx1 : zr x1) (hx2 : zr x2) (hx3 : zr x3) : Rf (kW_atom1_89 rz rzx β σ x0 x1 x2 x3) (kX_atom1_89 rm rmx (cv σ) (i32 x0) (i32 x1) (i32 x2) (i32 x3)) β := by
  unfold kW_atom1_89 kX_atom1_89
  refine Rf_bnd hR hσ (zrs_cons hx3 zrs_nil) (e_cons rfl rfl) (fun σ1 r1 hσ1 hr1 => ?_)
  refine Rf_bnd hR hσ1 zrs_nil rfl (fun σ2 r2 hσ2 hr2 => ?_)
  refine Rf_eq rfl (by decide) hr2 (by decide) (fun _ => ?_) (fun _ => ?_)
  · exact Rf_tail hX hσ2 (zrs_cons hx0 (zrs_cons hx1 (zrs_cons hx2 (zrs_cons hx3 (zrs_cons hr1 (zrs_cons hr2 (zrs_cons hx2 zrs_nil))))))) (e_cons rfl (e_cons rfl (e_cons rfl (e_cons rfl (e_cons rfl (e_cons rfl (e_cons rfl rfl)))))))
  · refine Rf_eq rfl (by decide) hr2 (by decide) (fun _ => ?_) (fun _ => ?_)
    · exact Rf_tail hX hσ2 (zrs_cons hx0 (zrs_cons hx1 (zrs_cons hx2 (zrs_cons hx3 (zrs_cons hr1 (zrs_cons hr2 (zrs_cons hx2 zrs_nil))))))) (e_cons rfl (e_cons rfl (e_cons rfl (e_cons rfl (e_cons rfl (e_cons rfl (e_cons rfl rfl)))))))
    · exact Rf_tail hX hσ2 (zrs_cons hx0 (zrs_cons hx1 (zrs_cons hx2 (zrs_cons hx3 (zrs_cons hr1 (zrs_cons hr2 (zrs_cons (by decide) (zrs_cons hx2 zrs_nil)))))))) (e_cons rfl (e_cons rfl (e_cons rfl (e_cons rfl (e_cons rfl (e_cons rfl (e_cons (by decide) (e_cons rfl rfl))))))))
theorem rW_atom1_122 (rz rzx : zF) (rm rmx : mF) (hR : Rc rz rm) (hX : Rc rzx rmx) (β : Nat) (σ : zS) (hσ : zOK σ) (x0 x1 x2 x3 x4 x5 x6 : Int) (hx0 : zr x0) (hx1 : zr x1) (hx2 : zr x2) (hx3 : zr x3) (hx4 : zr x4) (hx5 : zr x5) (hx6 : zr x6) : Rf (kW_atom1_122 rz rzx β σ x0 x1 x2 x3 x4 x5 x6) (kX_atom1_122 rm rmx (cv σ) (i32 x0) (i32 x1) (i32 x2) (i32 x3) (i32 x4) (i32 x5) (i32 x6)) β := by
  unfold kW_atom1_122 kX_atom1_122
  exact Rf_tail hX hσ (zrs_cons hx0 (zrs_cons hx1 (zrs_cons hx2 (zrs_cons hx3 (zrs_cons hx4 (zrs_cons hx5 (zrs_cons (by decide) (zrs_cons hx6 zrs_nil)))))))) (e_cons rfl (e_cons rfl (e_cons rfl (e_cons rfl (e_cons rfl (e_cons rfl (e_cons (by decide) (e_cons rfl rfl))))))))
theorem rW_atom1_127 (rz rzx : zF) (rm rmx : mF) (hR : Rc rz rm) (hX : Rc rzx rmx) (β : Nat) (σ : zS) (hσ : zOK σ) (x0 x1 x2 x3 x4 x5 x6 x7 : Int) (hx0 : zr x0) (hx1 : zr x1) (hx2 : zr x2) (hx3 : zr x3) (hx4 : zr x4) (hx5 : zr x5) (hx6 : zr x6) (hx7 : zr x7) : Rf (kW_atom1_127 rz rzx β σ x0 x1 x2 x3 x4 x5 x6 x7) (kX_atom1_127 rm rmx (cv σ) (i32 x0) (i32 x1) (i32 x2) (i32 x3) (i32 x4) (i32 x5) (i32 x6) (i32 x7)) β := by
  unfold kW_atom1_127 kX_atom1_127
  refine Rf_bnd hX hσ (zrs_cons hx7 (zrs_cons hx6 (zrs_cons hx4 (zrs_cons hx1 zrs_nil)))) (e_cons rfl (e_cons rfl (e_cons rfl (e_cons rfl rfl)))) (fun σ1 r1 hσ1 hr1 => ?_)
  refine Rf_eq rfl (by decide) (hσ1.1 3000) (by decide) (fun _ => ?_) (fun _ => ?_)
  · refine Rf_eq rfl (by decide) hx5 (by decide) (fun _ => ?_) (fun _ => ?_)
    · exact Rf_tail hX hσ1 (zrs_cons hx0 (zrs_cons hx1 (zrs_cons hx2 (zrs_cons hx3 (zrs_cons hx4 (zrs_cons hx5 zrs_nil)))))) (e_cons rfl (e_cons rfl (e_cons rfl (e_cons rfl (e_cons rfl (e_cons rfl rfl))))))
    · refine Rf_eq rfl (by decide) hx5 (by decide) (fun _ => ?_) (fun _ => ?_)
      · exact Rf_tail hX hσ1 (zrs_cons hx0 (zrs_cons hx1 (zrs_cons hx2 (zrs_cons hx3 (zrs_cons hx4 (zrs_cons hx5 zrs_nil)))))) (e_cons rfl (e_cons rfl (e_cons rfl (e_cons rfl (e_cons rfl (e_cons rfl rfl))))))
      · refine Rf_bnd hR hσ1 (zrs_cons hx2 (zrs_cons hx3 zrs_nil)) (e_cons rfl (e_cons rfl rfl)) (fun σ2 r2 hσ2 hr2 => ?_)
        refine Rf_bnd hR hσ2 (zrs_cons (by decide) (zrs_cons (hσ2.1 39) (zrs_cons (by decide) (zrs_cons (by decide) zrs_nil)))) (e_cons (by decide) (e_cons rfl (e_cons (by decide) (e_cons (by decide) rfl)))) (fun σ3 r3 hσ3 hr3 => ?_)
        refine Rf_I (by decide) (by decide) hσ3 (fun u hu => ?_)
        exact Rf_some hu hr3 rfl
  · exact Rf_some hσ1 (by decide) (by decide)
theorem rW_atom1_148 (rz rzx : zF) (rm rmx : mF) (hR : Rc rz rm) (hX : Rc rzx rmx) (β : Nat) (σ : zS) (hσ : zOK σ) (x0 x1 x2 x3 x4 x5 : Int) (hx0 : zr x0) (hx1 : zr x1) (hx2 : zr x2) (hx3 : zr x3) (hx4 : zr x4) (hx5 : zr x5) : Rf (kW_atom1_148 rz rzx β σ x0 x1 x2 x3 x4 x5) (kX_atom1_148 rm rmx (cv σ) (i32 x0) (i32 x1) (i32 x2) (i32 x3) (i32 x4) (i32 x5)) β := by
  unfold kW_atom1_148 kX_atom1_148
  refine Rf_bnd hR hσ (zrs_cons hx2 (zrs_cons hx3 zrs_nil)) (e_cons rfl (e_cons rfl rfl)) (fun σ1 r1 hσ1 hr1 => ?_)
  refine Rf_bnd hX hσ1 (zrs_cons hr1 (zrs_cons hx0 zrs_nil)) (e_cons rfl (e_cons rfl rfl)) (fun σ2 r2 hσ2 hr2 => ?_)
  refine Rf_eq rfl (by decide) (hσ2.1 3000) (by decide) (fun _ => ?_) (fun _ => ?_)
  · refine Rf_I (by decide) (by decide) hσ2 (fun u hu => ?_)
    exact Rf_some hu hr2 rfl
  · exact Rf_some hσ2 (by decide) (by decide)
theorem rW_variable (rz rzx : zF) (rm rmx : mF) (hR : Rc rz rm) (hX : Rc rzx rmx) (β : Nat) (σ : zS) (hσ : zOK σ) : Rf (kW_variable rz rzx β σ) (kX_variable rm rmx (cv σ)) β := by
  unfold kW_variable kX_variable
  refine Rf_g (fun hg1 => ?_)
  exact Rf_tail hX hσ (zrs_cons hg1 zrs_nil) (e_cons (e_sub rfl (by decide)) rfl)
theorem rW_variable_7 (rz rzx : zF) (rm rmx : mF) (hR : Rc rz rm) (hX : Rc rzx rmx) (β : Nat) (σ : zS) (hσ : zOK σ) (x0 : Int) (hx0 : zr x0) : Rf (kW_variable_7 rz rzx β σ x0) (kX_variable_7 rm rmx (cv σ) (i32 x0)) β := by
  unfold kW_variable_7 kX_variable_7
  refine Rf_lt rfl (by decide) hx0 (by decide) (fun _ => ?_) (fun _ => ?_)
  · exact Rf_tail hX hσ (zrs_cons (by decide) zrs_nil) (e_cons (by decide) rfl)
  · refine Rf_rd rfl hx0 (fun hb1 => ?_)
    refine Rf_bnd hR hσ (zrs_cons (hσ.2.1 _ _) zrs_nil) (e_cons (e_rd rfl hb1) rfl) (fun σ1 r1 hσ1 hr1 => ?_)
    refine Rf_eq rfl (by decide) hr1 (by decide) (fun _ => ?_) (fun _ => ?_)
    · refine Rf_g (fun hg2 => ?_)
      exact Rf_tail hX hσ1 (zrs_cons hg2 zrs_nil) (e_cons (e_add rfl (by decide)) rfl)
    · refine Rf_rd2 rfl hb1 ?_
      refine Rf_I (by decide) (by decide) hσ1 (fun u hu => ?_)
      exact Rf_some hu (hσ1.2.1 _ _) (e_rd rfl hb1)
theorem rW_variable_39 (rz rzx : zF) (rm rmx : mF) (hR : Rc rz rm) (hX : Rc rzx rmx) (β : Nat) (σ : zS) (hσ : zOK σ) (x0 : Int) (hx0 : zr x0) : Rf (kW_variable_39 rz rzx β σ x0) (kX_variable_39 rm rmx (cv σ) (i32 x0)) β := by
  unfold kW_variable_39 kX_variable_39
  refine Rf_le rfl rfl (hσ.1 29) hx0 (fun _ => ?_) (fun _ => ?_)
  · refine Rf_bnd hX hσ zrs_nil rfl (fun σ1 r1 hσ1 hr1 => ?_)
    refine Rf_eq rfl (by decide) (hσ1.1 3000) (by decide) (fun _ => ?_) (fun _ => ?_)
    · refine Rf_g (fun hg1 => ?_)
      refine Rf_I (e_add rfl (by decide)) hg1 hσ1 (fun σ2 hσ2 => ?_)
      refine Rf_rd rfl (hσ1.1 29) (fun hb2 => ?_)
      refine Rf_A rfl hb2 rfl hr1 hσ2 (fun σ3 hσ3 => ?_)
      refine Rf_I (by decide) (by decide) hσ3 (fun u hu => ?_)
      exact Rf_some hu hr1 rfl
    · exact Rf_some hσ1 (by decide) (by decide)
  · refine Rf_rd rfl hx0 (fun hb3 => ?_)
    refine Rf_bnd hR hσ (zrs_cons (hσ.2.1 _ _) zrs_nil) (e_cons (e_rd rfl hb3) rfl) (fun σ4 r4 hσ4 hr4 => ?_)
    refine Rf_eq rfl (by decide) hr4 (by decide) (fun _ => ?_) (fun _ => ?_)
    · refine Rf_g (fun hg4 => ?_)
      exact Rf_tail hX hσ4 (zrs_cons hg4 zrs_nil) (e_cons (e_add rfl (by decide)) rfl)
    · refine Rf_rd2 rfl hb3 ?_
      refine Rf_I (by decide) (by decide) hσ4 (fun u hu => ?_)
      exact Rf_some hu (hσ4.2.1 _ _) (e_rd rfl hb3)
theorem rW_equation (rz rzx : zF) (rm rmx : mF) (hR : Rc rz rm) (hX : Rc rzx rmx) (β : Nat) (σ : zS) (hσ : zOK σ) (x0 x1 : Int) (hx0 : zr x0) (hx1 : zr x1) : Rf (kW_equation rz rzx β σ x0 x1) (kX_equation rm rmx (cv σ) (i32 x0) (i32 x1)) β := by
  unfold kW_equation kX_equation
  refine Rf_bnd hR hσ zrs_nil rfl (fun σ1 r1 hσ1 hr1 => ?_)
  refine Rf_eq rfl (by decide) hr1 (by decide) (fun _ => ?_) (fun _ => ?_)
  · exact Rf_tail hX hσ1 (zrs_cons hx0 (zrs_cons hx1 (zrs_cons (by decide) zrs_nil))) (e_cons rfl (e_cons rfl (e_cons (by decide) rfl)))
  · exact Rf_tail hX hσ1 (zrs_cons hx0 (zrs_cons hx1 (zrs_cons (by decide) zrs_nil))) (e_cons rfl (e_cons rfl (e_cons (by decide) rfl)))
theorem rW_equation_15 (rz rzx : zF) (rm rmx : mF) (hR : Rc rz rm) (hX : Rc rzx rmx) (β : Nat) (σ : zS) (hσ : zOK σ) (x0 x1 x2 : Int) (hx0 : zr x0) (hx1 : zr x1) (hx2 : zr x2) : Rf (kW_equation_15 rz rzx β σ x0 x1 x2) (kX_equation_15 rm rmx (cv σ) (i32 x0) (i32 x1) (i32 x2)) β := by
  unfold kW_equation_15 kX_equation_15
  refine Rf_bnd hR hσ zrs_nil rfl (fun σ1 r1 hσ1 hr1 => ?_)
  refine Rf_bnd hX hσ1 (zrs_cons hx1 zrs_nil) (e_cons rfl rfl) (fun σ2 r2 hσ2 hr2 => ?_)
  refine Rf_eq rfl (by decide) (hσ2.1 3000) (by decide) (fun _ => ?_) (fun _ => ?_)
  · refine Rf_bnd hR hσ2 (zrs_cons (by decide) (zrs_cons hx0 (zrs_cons hr2 (zrs_cons (by decide) zrs_nil)))) (e_cons (by decide) (e_cons rfl (e_cons rfl (e_cons (by decide) rfl)))) (fun σ3 r3 hσ3 hr3 => ?_)
    refine Rf_eq rfl (by decide) hx2 (by decide) (fun _ => ?_) (fun _ => ?_)
    · exact Rf_tail hX hσ3 (zrs_cons hx0 (zrs_cons hx1 (zrs_cons hx2 (zrs_cons hr2 (zrs_cons hr3 (zrs_cons hr3 zrs_nil)))))) (e_cons rfl (e_cons rfl (e_cons rfl (e_cons rfl (e_cons rfl (e_cons rfl rfl))))))
    · refine Rf_bnd hR hσ3 (zrs_cons (by decide) (zrs_cons hr3 (zrs_cons (by decide) (zrs_cons (by decide) zrs_nil)))) (e_cons (by decide) (e_cons rfl (e_cons (by decide) (e_cons (by decide) rfl)))) (fun σ4 r4 hσ4 hr4 => ?_)
      exact Rf_tail hX hσ4 (zrs_cons hx0 (zrs_cons hx1 (zrs_cons hx2 (zrs_cons hr2 (zrs_cons hr3 (zrs_cons hr4 zrs_nil)))))) (e_cons rfl (e_cons rfl (e_cons rfl (e_cons rfl (e_cons rfl (e_cons rfl rfl))))))
  · exact Rf_some hσ2 (by decide) (by decide)
theorem rW_equation_56 (rz rzx : zF) (rm rmx : mF) (hR : Rc rz rm) (hX : Rc rzx rmx) (β : Nat) (σ : zS) (hσ : zOK σ) (x0 x1 x2 x3 x4 x5 : Int) (hx0 : zr x0) (hx1 : zr x1) (hx2 : zr x2) (hx3 : zr x3) (hx4 : zr x4) (hx5 : zr x5) : Rf (kW_equation_56 rz rzx β σ x0 x1 x2 x3 x4 x5) (kX_equation_56 rm rmx (cv σ) (i32 x0) (i32 x1) (i32 x2) (i32 x3) (i32 x4) (i32 x5)) β := by
  unfold kW_equation_56 kX_equation_56
  refine Rf_I (by decide) (by decide) hσ (fun u hu => ?_)
  exact Rf_some hu hx5 rfl
theorem rW_side1 (rz rzx : zF) (rm rmx : mF) (hR : Rc rz rm) (hX : Rc rzx rmx) (β : Nat) (σ : zS) (hσ : zOK σ) (x0 : Int) (hx0 : zr x0) : Rf (kW_side1 rz rzx β σ x0) (kX_side1 rm rmx (cv σ) (i32 x0)) β := by
  unfold kW_side1 kX_side1
  refine Rf_bnd hR hσ zrs_nil rfl (fun σ1 r1 hσ1 hr1 => ?_)
  refine Rf_eq rfl (by decide) hr1 (by decide) (fun _ => ?_) (fun _ => ?_)
  · refine Rf_bnd hX hσ1 zrs_nil rfl (fun σ6 r6 hσ6 hr6 => ?_)
    refine Rf_eq rfl (by decide) (hσ6.1 3000) (by decide) (fun _ => ?_) (fun _ => ?_)
    · refine Rf_bnd hR hσ6 zrs_nil rfl (fun σ7 r7 hσ7 hr7 => ?_)
      refine Rf_g (fun hg1 => ?_)
      refine Rf_bnd hR hσ7 (zrs_cons hg1 (zrs_cons (by decide) zrs_nil)) (e_cons (e_sub (by decide) rfl) (e_cons (by decide) rfl)) (fun σ8 r8 hσ8 hr8 => ?_)
      refine Rf_I (by decide) (by decide) hσ8 (fun u hu => ?_)
      exact Rf_some hu hr8 rfl
    · exact Rf_some hσ6 (by decide) (by decide)
  · refine Rf_eq rfl (by decide) hr1 (by decide) (fun _ => ?_) (fun _ => ?_)
    · refine Rf_bnd hX hσ1 zrs_nil rfl (fun σ2 r2 hσ2 hr2 => ?_)
      refine Rf_eq rfl (by decide) (hσ2.1 3000) (by decide) (fun _ => ?_) (fun _ => ?_)
      · refine Rf_bnd hR hσ2 zrs_nil rfl (fun σ3 r3 hσ3 hr3 => ?_)
        refine Rf_bnd hR hσ3 zrs_nil rfl (fun σ4 r4 hσ4 hr4 => ?_)
        refine Rf_eq rfl (by decide) hr4 (by decide) (fun _ => ?_) (fun _ => ?_)
        · refine Rf_bnd hX hσ4 (zrs_cons hx0 zrs_nil) (e_cons rfl rfl) (fun σ5 r5 hσ5 hr5 => ?_)
          refine Rf_eq rfl (by decide) (hσ5.1 3000) (by decide) (fun _ => ?_) (fun _ => ?_)
          · exact Rf_tail hX hσ5 (zrs_cons hx0 (zrs_cons hr1 (zrs_cons (hσ1.1 9) (zrs_cons hr2 (zrs_cons hr5 zrs_nil))))) (e_cons rfl (e_cons rfl (e_cons rfl (e_cons rfl (e_cons rfl rfl)))))
          · exact Rf_some hσ5 (by decide) (by decide)
        · exact Rf_tail hX hσ4 (zrs_cons hx0 (zrs_cons hr1 (zrs_cons (hσ1.1 9) (zrs_cons hr2 (zrs_cons (by decide) zrs_nil))))) (e_cons rfl (e_cons rfl (e_cons rfl (e_cons rfl (e_cons (by decide) rfl)))))
      · exact Rf_some hσ2 (by decide) (by decide)
    · refine Rf_eq rfl (by decide) (hσ1.1 8) (by decide) (fun _ => ?_) (fun _ => ?_)
      · refine Rf_I (by decide) (by decide) hσ1 (fun u1 hu1 => ?_)
        refine Rf_I rfl (hσ1.1 9) hu1 (fun u2 hu2 => ?_)
        refine Rf_I (by decide) (by decide) hu2 (fun u3 hu3 => ?_)
        exact Rf_some hu3 (by decide) (by decide)
      · refine Rf_I (by decide) (by decide) hσ1 (fun u1 hu1 => ?_)
        refine Rf_I rfl (hσ1.1 9) hu1 (fun u2 hu2 => ?_)
        refine Rf_I (by decide) (by decide) hu2 (fun u3 hu3 => ?_)
        exact Rf_some hu3 (by decide) (by decide)
theorem rW_side1_71 (rz rzx : zF) (rm rmx : mF) (hR : Rc rz rm) (hX : Rc rzx rmx) (β : Nat) (σ : zS) (hσ : zOK σ) (x0 x1 x2 x3 x4 : Int) (hx0 : zr x0) (hx1 : zr x1) (hx2 : zr x2) (hx3 : zr x3) (hx4 : zr x4) : Rf (kW_side1_71 rz rzx β σ x0 x1 x2 x3 x4) (kX_side1_71 rm rmx (cv σ) (i32 x0) (i32 x1) (i32 x2) (i32 x3) (i32 x4)) β := by
  unfold kW_side1_71 kX_side1_71
  refine Rf_bnd hR hσ (zrs_cons hx4 zrs_nil) (e_cons rfl rfl) (fun σ1 r1 hσ1 hr1 => ?_)
  refine Rf_bnd hX hσ1 (zrs_cons hx3 (zrs_cons (by decide) (zrs_cons hr1 (zrs_cons hx2 zrs_nil)))) (e_cons rfl (e_cons (by decide) (e_cons rfl (e_cons rfl rfl)))) (fun σ2 r2 hσ2 hr2 => ?_)
  refine Rf_eq rfl (by decide) (hσ2.1 3000) (by decide) (fun _ => ?_) (fun _ => ?_)
  · refine Rf_bnd hR hσ2 (zrs_cons hx3 (zrs_cons hx4 zrs_nil)) (e_cons rfl (e_cons rfl rfl)) (fun σ3 r3 hσ3 hr3 => ?_)
    refine Rf_I (by decide) (by decide) hσ3 (fun u hu => ?_)
    exact Rf_some hu hr3 rfl
  · exact Rf_some hσ2 (by decide) (by decide)
theorem rW_symbol1 (rz rzx : zF) (rm rmx : mF) (hR : Rc rz rm) (hX : Rc rzx rmx) (β : Nat) (σ : zS) (hσ : zOK σ) : Rf (kW_symbol1 rz rzx β σ) (kX_symbol1 rm rmx (cv σ)) β := by
  unfold kW_symbol1 kX_symbol1
  refine Rf_g (fun hg1 => ?_)
  exact Rf_tail hX hσ (zrs_cons hg1 (zrs_cons (by decide) zrs_nil)) (e_cons (e_sub rfl rfl) (e_cons (by decide) rfl))
theorem rW_symbol1_12 (rz rzx : zF) (rm rmx : mF) (hR : Rc rz rm) (hX : Rc rzx rmx) (β : Nat) (σ : zS) (hσ : zOK σ) (x0 x1 : Int) (hx0 : zr x0) (hx1 : zr x1) : Rf (kW_symbol1_12 rz rzx β σ x0 x1) (kX_symbol1_12 rm rmx (cv σ) (i32 x0) (i32 x1)) β := by
  unfold kW_symbol1_12 kX_symbol1_12
  refine Rf_lt rfl rfl (hσ.1 20) hx1 (fun _ => ?_) (fun _ => ?_)
  · refine Rf_eq rfl (by decide) (hσ.1 20) (by decide) (fun _ => ?_) (fun _ => ?_)
    · refine Rf_I (by decide) (by decide) hσ (fun u1 hu1 => ?_)
      refine Rf_I rfl (hσ.1 9) hu1 (fun u2 hu2 => ?_)
      refine Rf_I (by decide) (by decide) hu2 (fun u3 hu3 => ?_)
      exact Rf_some hu3 (by decide) (by decide)
    · refine Rf_g (fun hg1 => ?_)
      refine Rf_I (e_add rfl (by decide)) hg1 hσ (fun σ1 hσ1 => ?_)
      refine Rf_rd rfl (hσ1.1 20) (fun hb2 => ?_)
      refine Rf_A rfl hb2 rfl (hσ1.1 18) hσ1 (fun σ2 hσ2 => ?_)
      refine Rf_rd rfl (hσ2.1 20) (fun hb3 => ?_)
      refine Rf_A rfl hb3 rfl hx0 hσ2 (fun σ3 hσ3 => ?_)
      refine Rf_rd rfl (hσ3.1 20) (fun hb4 => ?_)
      refine Rf_A rfl hb4 (by decide) (by decide) hσ3 (fun σ4 hσ4 => ?_)
      exact Rf_tail hX hσ4 (zrs_cons hx0 (zrs_cons (by decide) zrs_nil)) (e_cons rfl (e_cons (by decide) rfl))
  · refine Rf_rd rfl hx1 (fun hb5 => ?_)
    refine Rf_eq (e_rd rfl hb5) rfl (hσ.2.1 _ _) hx0 (fun _ => ?_) (fun _ => ?_)
    · exact Rf_tail hX hσ (zrs_cons hx0 (zrs_cons hx1 (zrs_cons (by decide) zrs_nil))) (e_cons rfl (e_cons rfl (e_cons (by decide) rfl)))
    · exact Rf_tail hX hσ (zrs_cons hx0 (zrs_cons hx1 (zrs_cons (by decide) zrs_nil))) (e_cons rfl (e_cons rfl (e_cons (by decide) rfl)))
theorem rW_symbol1_35 (rz rzx : zF) (rm rmx : mF) (hR : Rc rz rm) (hX : Rc rzx rmx) (β : Nat) (σ : zS) (hσ : zOK σ) (x0 x1 x2 : Int) (hx0 : zr x0) (hx1 : zr x1) (hx2 : zr x2) : Rf (kW_symbol1_35 rz rzx β σ x0 x1 x2) (kX_symbol1_35 rm rmx (cv σ) (i32 x0) (i32 x1) (i32 x2)) β := by
  unfold kW_symbol1_35 kX_symbol1_35
  exact Rf_tail hX hσ (zrs_cons hx0 (zrs_cons hx1 (zrs_cons hx2 (zrs_cons (by decide) zrs_nil)))) (e_cons rfl (e_cons rfl (e_cons rfl (e_cons (by decide) rfl))))
theorem rW_symbol1_39 (rz rzx : zF) (rm rmx : mF) (hR : Rc rz rm) (hX : Rc rzx rmx) (β : Nat) (σ : zS) (hσ : zOK σ) (x0 x1 x2 x3 : Int) (hx0 : zr x0) (hx1 : zr x1) (hx2 : zr x2) (hx3 : zr x3) : Rf (kW_symbol1_39 rz rzx β σ x0 x1 x2 x3) (kX_symbol1_39 rm rmx (cv σ) (i32 x0) (i32 x1) (i32 x2) (i32 x3)) β := by
  unfold kW_symbol1_39 kX_symbol1_39
  refine Rf_eq rfl (by decide) hx2 (by decide) (fun _ => ?_) (fun _ => ?_)
  · exact Rf_tail hX hσ (zrs_cons hx0 (zrs_cons hx1 (zrs_cons hx2 (zrs_cons hx3 zrs_nil)))) (e_cons rfl (e_cons rfl (e_cons rfl (e_cons rfl rfl))))
  · refine Rf_le rfl rfl hx0 hx3 (fun _ => ?_) (fun _ => ?_)
    · exact Rf_tail hX hσ (zrs_cons hx0 (zrs_cons hx1 (zrs_cons hx2 (zrs_cons hx3 zrs_nil)))) (e_cons rfl (e_cons rfl (e_cons rfl (e_cons rfl rfl))))
    · refine Rf_rd rfl hx1 (fun hb1 => ?_)
      refine Rf_g (fun hg2 => ?_)
      refine Rf_rd (e_add (e_rd rfl hb1) rfl) hg2 (fun hb3 => ?_)
      refine Rf_g (fun hg4 => ?_)
      refine Rf_rd (e_add rfl rfl) hg4 (fun hb5 => ?_)
      refine Rf_eq (e_rd (e_add (e_rd rfl hb1) rfl) hb3) (e_rd (e_add rfl rfl) hb5) (hσ.2.1 _ _) (hσ.2.1 _ _) (fun _ => ?_) (fun _ => ?_)
      · exact Rf_tail hX hσ (zrs_cons hx0 (zrs_cons hx1 (zrs_cons hx2 (zrs_cons hx3 (zrs_cons (by decide) zrs_nil))))) (e_cons rfl (e_cons rfl (e_cons rfl (e_cons rfl (e_cons (by decide) rfl)))))
      · exact Rf_tail hX hσ (zrs_cons hx0 (zrs_cons hx1 (zrs_cons hx2 (zrs_cons hx3 (zrs_cons (by decide) zrs_nil))))) (e_cons rfl (e_cons rfl (e_cons rfl (e_cons rfl (e_cons (by decide) rfl)))))
theorem rW_symbol1_83 (rz rzx : zF) (rm rmx : mF) (hR : Rc rz rm) (hX : Rc rzx rmx) (β : Nat) (σ : zS) (hσ : zOK σ) (x0 x1 x2 x3 x4 : Int) (hx0 : zr x0) (hx1 : zr x1) (hx2 : zr x2) (hx3 : zr x3) (hx4 : zr x4) : Rf (kW_symbol1_83 rz rzx β σ x0 x1 x2 x3 x4) (kX_symbol1_83 rm rmx (cv σ) (i32 x0) (i32 x1) (i32 x2) (i32 x3) (i32 x4)) β := by
  unfold kW_symbol1_83 kX_symbol1_83
  refine Rf_g (fun hg1 => ?_)
  exact Rf_tail hX hσ (zrs_cons hx0 (zrs_cons hx1 (zrs_cons hx4 (zrs_cons hg1 zrs_nil)))) (e_cons rfl (e_cons rfl (e_cons rfl (e_cons (e_add rfl (by decide)) rfl))))
theorem rW_symbol1_90 (rz rzx : zF) (rm rmx : mF) (hR : Rc rz rm) (hX : Rc rzx rmx) (β : Nat) (σ : zS) (hσ : zOK σ) (x0 x1 x2 x3 : Int) (hx0 : zr x0) (hx1 : zr x1) (hx2 : zr x2) (hx3 : zr x3) : Rf (kW_symbol1_90 rz rzx β σ x0 x1 x2 x3) (kX_symbol1_90 rm rmx (cv σ) (i32 x0) (i32 x1) (i32 x2) (i32 x3)) β := by
  unfold kW_symbol1_90 kX_symbol1_90
  refine Rf_eq rfl (by decide) hx2 (by decide) (fun _ => ?_) (fun _ => ?_)
  · refine Rf_g (fun hg1 => ?_)
    exact Rf_tail hX hσ (zrs_cons hx0 (zrs_cons hg1 zrs_nil)) (e_cons rfl (e_cons (e_add rfl (by decide)) rfl))
  · refine Rf_I (by decide) (by decide) hσ (fun u hu => ?_)
    exact Rf_some hu hx1 rfl
theorem rW_symbol1_170 (rz rzx : zF) (rm rmx : mF) (hR : Rc rz rm) (hX : Rc rzx rmx) (β : Nat) (σ : zS) (hσ : zOK σ) (x0 x1 : Int) (hx0 : zr x0) (hx1 : zr x1) : Rf (kW_symbol1_170 rz rzx β σ x0 x1) (kX_symbol1_170 rm rmx (cv σ) (i32 x0) (i32 x1)) β := by
  unfold kW_symbol1_170 kX_symbol1_170
  refine Rf_le rfl rfl hx0 hx1 (fun _ => ?_) (fun _ => ?_)
  · refine Rf_I (by decide) (by decide) hσ (fun u hu => ?_)
    exact Rf_some hu (hσ.1 20) rfl
  · refine Rf_g (fun hg1 => ?_)
    refine Rf_I (e_add rfl (by decide)) hg1 hσ (fun σ1 hσ1 => ?_)
    refine Rf_g (fun hg2 => ?_)
    refine Rf_rd (e_add rfl rfl) hg2 (fun hb3 => ?_)
    refine Rf_rd rfl (hσ.1 18) (fun hb4 => ?_)
    refine Rf_A rfl hb4 (e_nb (e_rd (e_add rfl rfl) hb3)) (zr_to _) hσ1 (fun σ2 hσ2 => ?_)
    refine Rf_g (fun hg5 => ?_)
    exact Rf_tail hX hσ2 (zrs_cons hx0 (zrs_cons hg5 zrs_nil)) (e_cons rfl (e_cons (e_add rfl (by decide)) rfl))
theorem rW_arguments (rz rzx : zF) (rm rmx : mF) (hR : Rc rz rm) (hX : Rc rzx rmx) (β : Nat) (σ : zS) (hσ : zOK σ) (x0 : Int) (hx0 : zr x0) : Rf (kW_arguments rz rzx β σ x0) (kX_arguments rm rmx (cv σ) (i32 x0)) β := by
  unfold kW_arguments kX_arguments
  refine Rf_bnd hR hσ zrs_nil rfl (fun σ1 r1 hσ1 hr1 => ?_)
  refine Rf_bnd hX hσ1 (zrs_cons hx0 zrs_nil) (e_cons rfl rfl) (fun σ2 r2 hσ2 hr2 => ?_)
  refine Rf_eq rfl (by decide) (hσ2.1 3000) (by decide) (fun _ => ?_) (fun _ => ?_)
  · refine Rf_bnd hX hσ2 (zrs_cons hr2 zrs_nil) (e_cons rfl rfl) (fun σ3 r3 hσ3 hr3 => ?_)
    refine Rf_eq rfl (by decide) (hσ3.1 3000) (by decide) (fun _ => ?_) (fun _ => ?_)
    · exact Rf_tail hX hσ3 (zrs_cons hx0 (zrs_cons hr2 (zrs_cons hr3 (zrs_cons hr3 zrs_nil)))) (e_cons rfl (e_cons rfl (e_cons rfl (e_cons rfl rfl))))
    · exact Rf_some hσ3 (by decide) (by decide)
  · exact Rf_some hσ2 (by decide) (by decide)
theorem rW_arguments_19 (rz rzx : zF) (rm rmx : mF) (hR : Rc rz rm) (hX : Rc rzx rmx) (β : Nat) (σ : zS) (hσ : zOK σ) (x0 x1 x2 x3 : Int) (hx0 : zr x0) (hx1 : zr x1) (hx2 : zr x2) (hx3 : zr x3) : Rf (kW_arguments_19 rz rzx β σ x0 x1 x2 x3) (kX_arguments_19 rm rmx (cv σ) (i32 x0) (i32 x1) (i32 x2) (i32 x3)) β := by
  unfold kW_arguments_19 kX_arguments_19
  refine Rf_bnd hR hσ zrs_nil rfl (fun σ1 r1 hσ1 hr1 => ?_)
  refine Rf_eq rfl (by decide) hr1 (by decide) (fun _ => ?_) (fun _ => ?_)
  · refine Rf_bnd hR hσ1 zrs_nil rfl (fun σ3 r3 hσ3 hr3 => ?_)
    refine Rf_bnd hX hσ3 (zrs_cons hx1 zrs_nil) (e_cons rfl rfl) (fun σ4 r4 hσ4 hr4 => ?_)
    refine Rf_eq rfl (by decide) (hσ4.1 3000) (by decide) (fun _ => ?_) (fun _ => ?_)
    · refine Rf_rd rfl hx3 (fun hb1 => ?_)
      refine Rf_A rfl hb1 rfl hr4 hσ4 (fun σ5 hσ5 => ?_)
      refine Rf_rd2 rfl hb1 ?_
      exact Rf_tail hX hσ5 (zrs_cons hx0 (zrs_cons hx1 (zrs_cons hx2 (zrs_cons (hσ5.2.1 _ _) zrs_nil)))) (e_cons rfl (e_cons rfl (e_cons rfl (e_cons (e_rd rfl hb1) rfl))))
    · exact Rf_some hσ4 (by decide) (by decide)
  · refine Rf_bnd hX hσ1 (zrs_cons (by decide) zrs_nil) (e_cons (by decide) rfl) (fun σ2 r2 hσ2 hr2 => ?_)
    refine Rf_eq rfl (by decide) (hσ2.1 3000) (by decide) (fun _ => ?_) (fun _ => ?_)
    · refine Rf_I (by decide) (by decide) hσ2 (fun u hu => ?_)
      exact Rf_some hu hx2 rfl
    · exact Rf_some hσ2 (by decide) (by decide)
theorem rW_check (rz rzx : zF) (rm rmx : mF) (hR : Rc rz rm) (hX : Rc rzx rmx) (β : Nat) (σ : zS) (hσ : zOK σ) (x0 x1 x2 x3 : Int) (hx0 : zr x0) (hx1 : zr x1) (hx2 : zr x2) (hx3 : zr x3) : Rf (kW_check rz rzx β σ x0 x1 x2 x3) (kX_check rm rmx (cv σ) (i32 x0) (i32 x1) (i32 x2) (i32 x3)) β := by
  unfold kW_check kX_check
  refine Rf_rd rfl hx0 (fun hb1 => ?_)
  refine Rf_eq (e_rd rfl hb1) (by decide) (hσ.2.1 _ _) (by decide) (fun _ => ?_) (fun _ => ?_)
  · refine Rf_rd2 rfl hb1 ?_
    refine Rf_A rfl hb1 rfl hx1 hσ (fun σ1 hσ1 => ?_)
    refine Rf_rd2 rfl hb1 ?_
    refine Rf_A rfl hb1 rfl hx2 hσ1 (fun σ2 hσ2 => ?_)
    exact Rf_tail hX hσ2 (zrs_cons hx0 (zrs_cons hx1 (zrs_cons hx2 (zrs_cons hx3 zrs_nil)))) (e_cons rfl (e_cons rfl (e_cons rfl (e_cons rfl rfl))))
  · refine Rf_rd2 rfl hb1 ?_
    refine Rf_eq (e_rd rfl hb1) rfl (hσ.2.1 _ _) hx1 (fun _ => ?_) (fun _ => ?_)
    · refine Rf_rd2 rfl hb1 ?_
      refine Rf_eq (e_rd rfl hb1) rfl (hσ.2.1 _ _) hx2 (fun _ => ?_) (fun _ => ?_)
      · exact Rf_tail hX hσ (zrs_cons hx0 (zrs_cons hx1 (zrs_cons hx2 (zrs_cons hx3 zrs_nil)))) (e_cons rfl (e_cons rfl (e_cons rfl (e_cons rfl rfl))))
      · exact Rf_tail hX hσ (zrs_cons hx0 (zrs_cons hx1 (zrs_cons hx2 (zrs_cons hx3 zrs_nil)))) (e_cons rfl (e_cons rfl (e_cons rfl (e_cons rfl rfl))))
    · exact Rf_tail hX hσ (zrs_cons hx0 (zrs_cons hx1 (zrs_cons hx2 (zrs_cons hx3 zrs_nil)))) (e_cons rfl (e_cons rfl (e_cons rfl (e_cons rfl rfl))))
theorem rW_check_46 (rz rzx : zF) (rm rmx : mF) (hR : Rc rz rm) (hX : Rc rzx rmx) (β : Nat) (σ : zS) (hσ : zOK σ) (x0 x1 x2 x3 : Int) (hx0 : zr x0) (hx1 : zr x1) (hx2 : zr x2) (hx3 : zr x3) : Rf (kW_check_46 rz rzx β σ x0 x1 x2 x3) (kX_check_46 rm rmx (cv σ) (i32 x0) (i32 x1) (i32 x2) (i32 x3)) β := by
  unfold kW_check_46 kX_check_46
  refine Rf_I (by decide) (by decide) hσ (fun u1 hu1 => ?_)
  refine Rf_I rfl hx3 hu1 (fun u2 hu2 => ?_)
  refine Rf_I (by decide) (by decide) hu2 (fun u3 hu3 => ?_)
  exact Rf_some hu3 (by decide) (by decide)
theorem rW_check_57 (rz rzx : zF) (rm rmx : mF) (hR : Rc rz rm) (hX : Rc rzx rmx) (β : Nat) (σ : zS) (hσ : zOK σ) (x0 x1 x2 x3 : Int) (hx0 : zr x0) (hx1 : zr x1) (hx2 : zr x2) (hx3 : zr x3) : Rf (kW_check_57 rz rzx β σ x0 x1 x2 x3) (kX_check_57 rm rmx (cv σ) (i32 x0) (i32 x1) (i32 x2) (i32 x3)) β := by
  unfold kW_check_57 kX_check_57
  refine Rf_I (by decide) (by decide) hσ (fun u hu => ?_)
  exact Rf_some hu (by decide) (by decide)
theorem rW_clausify (rz rzx : zF) (rm rmx : mF) (hR : Rc rz rm) (hX : Rc rzx rmx) (β : Nat) (σ : zS) (hσ : zOK σ) : Rf (kW_clausify rz rzx β σ) (kX_clausify rm rmx (cv σ)) β := by
  unfold kW_clausify kX_clausify
  exact Rf_tail hX hσ (zrs_cons (by decide) zrs_nil) (e_cons (by decide) rfl)
theorem rW_clausify_2 (rz rzx : zF) (rm rmx : mF) (hR : Rc rz rm) (hX : Rc rzx rmx) (β : Nat) (σ : zS) (hσ : zOK σ) (x0 : Int) (hx0 : zr x0) : Rf (kW_clausify_2 rz rzx β σ x0) (kX_clausify_2 rm rmx (cv σ) (i32 x0)) β := by
  unfold kW_clausify_2 kX_clausify_2
  refine Rf_le rfl rfl (hσ.1 55) hx0 (fun _ => ?_) (fun _ => ?_)
  · exact Rf_tail hX hσ (zrs_cons hx0 zrs_nil) (e_cons rfl rfl)
  · refine Rf_rd rfl hx0 (fun hb1 => ?_)
    refine Rf_rd (e_rd rfl hb1) (hσ.2.1 _ _) (fun hb2 => ?_)
    refine Rf_lt (by decide) (e_rd (e_rd rfl hb1) hb2) (by decide) (hσ.2.1 _ _) (fun _ => ?_) (fun _ => ?_)
    · exact Rf_tail hX hσ (zrs_cons hx0 zrs_nil) (e_cons rfl rfl)
    · refine Rf_g (fun hg3 => ?_)
      exact Rf_tail hX hσ (zrs_cons hg3 zrs_nil) (e_cons (e_add rfl (by decide)) rfl)
theorem rW_clausify_33 (rz rzx : zF) (rm rmx : mF) (hR : Rc rz rm) (hX : Rc rzx rmx) (β : Nat) (σ : zS) (hσ : zOK σ) (x0 : Int) (hx0 : zr x0) : Rf (kW_clausify_33 rz rzx β σ x0) (kX_clausify_33 rm rmx (cv σ) (i32 x0)) β := by
  unfold kW_clausify_33 kX_clausify_33
  exact Rf_tail hX hσ (zrs_cons hx0 (zrs_cons (by decide) zrs_nil)) (e_cons rfl (e_cons (by decide) rfl))
theorem rW_clausify_35 (rz rzx : zF) (rm rmx : mF) (hR : Rc rz rm) (hX : Rc rzx rmx) (β : Nat) (σ : zS) (hσ : zOK σ) (x0 x1 : Int) (hx0 : zr x0) (hx1 : zr x1) : Rf (kW_clausify_35 rz rzx β σ x0 x1) (kX_clausify_35 rm rmx (cv σ) (i32 x0) (i32 x1)) β := by
  unfold kW_clausify_35 kX_clausify_35
  refine Rf_le rfl rfl hx0 hx1 (fun _ => ?_) (fun _ => ?_)
  · refine Rf_g (fun hg1 => ?_)
    refine Rf_I (e_add (by decide) rfl) hg1 hσ (fun σ1 hσ1 => ?_)
    exact Rf_tail hX hσ1 (zrs_cons hx0 (zrs_cons (by decide) zrs_nil)) (e_cons rfl (e_cons (by decide) rfl))
  · exact Rf_tail hX hσ (zrs_cons hx0 (zrs_cons hx1 (zrs_cons (by decide) zrs_nil))) (e_cons rfl (e_cons rfl (e_cons (by decide) rfl)))
theorem rW_clausify_42 (rz rzx : zF) (rm rmx : mF) (hR : Rc rz rm) (hX : Rc rzx rmx) (β : Nat) (σ : zS) (hσ : zOK σ) (x0 x1 x2 : Int) (hx0 : zr x0) (hx1 : zr x1) (hx2 : zr x2) : Rf (kW_clausify_42 rz rzx β σ x0 x1 x2) (kX_clausify_42 rm rmx (cv σ) (i32 x0) (i32 x1) (i32 x2)) β := by
  unfold kW_clausify_42 kX_clausify_42
  refine Rf_rd rfl hx1 (fun hb1 => ?_)
  refine Rf_le (e_rd rfl hb1) rfl (hσ.2.1 _ _) hx2 (fun _ => ?_) (fun _ => ?_)
  · refine Rf_rd2 rfl hb1 ?_
    refine Rf_rd2 rfl hb1 ?_
    refine Rf_eq (e_rd rfl hb1) (by decide) (hσ.2.1 _ _) (by decide) (fun _ => ?_) (fun _ => ?_)
    · exact Rf_tail hX hσ (zrs_cons hx0 (zrs_cons hx1 (zrs_cons hx2 (zrs_cons (by decide) (zrs_cons (hσ.2.1 _ _) zrs_nil))))) (e_cons rfl (e_cons rfl (e_cons rfl (e_cons (by decide) (e_cons (e_rd rfl hb1) rfl)))))
    · exact Rf_tail hX hσ (zrs_cons hx0 (zrs_cons hx1 (zrs_cons hx2 (zrs_cons (by decide) (zrs_cons (hσ.2.1 _ _) zrs_nil))))) (e_cons rfl (e_cons rfl (e_cons rfl (e_cons (by decide) (e_cons (e_rd rfl hb1) rfl)))))
  · refine Rf_rd2 rfl hb1 ?_
    refine Rf_g (fun hg2 => ?_)
    refine Rf_rd (e_add (e_rd rfl hb1) rfl) hg2 (fun hb3 => ?_)
    refine Rf_rd (e_rd (e_add (e_rd rfl hb1) rfl) hb3) (hσ.2.1 _ _) (fun hb4 => ?_)
    refine Rf_A (e_rd (e_add (e_rd rfl hb1) rfl) hb3) hb4 rfl hx2 hσ (fun σ1 hσ1 => ?_)
    refine Rf_rd2 rfl hb1 ?_
    refine Rf_eq (e_rd rfl hb1) (by decide) (hσ1.2.1 _ _) (by decide) (fun _ => ?_) (fun _ => ?_)
    · exact Rf_tail hX hσ1 (zrs_cons hx0 (zrs_cons hx1 (zrs_cons hx2 (zrs_cons (hσ.2.1 _ _) zrs_nil)))) (e_cons rfl (e_cons rfl (e_cons rfl (e_cons (e_rd (e_add (e_rd rfl hb1) rfl) hb3) rfl))))
    · refine Rf_rd2 (e_rd (e_add (e_rd rfl hb1) rfl) hb3) hb4 ?_
      have hg5 : (1 : Int) = 0 ∨ (1 : Int) = 1 := by decide
      refine Rf_A (e_rd (e_add (e_rd rfl hb1) rfl) hb3) hb4 (e_bool (by decide) hg5) (by decide) hσ1 (fun σ2 hσ2 => ?_)
      exact Rf_tail hX hσ2 (zrs_cons hx0 (zrs_cons hx1 (zrs_cons hx2 (zrs_cons (hσ.2.1 _ _) zrs_nil)))) (e_cons rfl (e_cons rfl (e_cons rfl (e_cons (e_rd (e_add (e_rd rfl hb1) rfl) hb3) rfl))))
theorem rW_clausify_92 (rz rzx : zF) (rm rmx : mF) (hR : Rc rz rm) (hX : Rc rzx rmx) (β : Nat) (σ : zS) (hσ : zOK σ) (x0 x1 x2 x3 : Int) (hx0 : zr x0) (hx1 : zr x1) (hx2 : zr x2) (hx3 : zr x3) : Rf (kW_clausify_92 rz rzx β σ x0 x1 x2 x3) (kX_clausify_92 rm rmx (cv σ) (i32 x0) (i32 x1) (i32 x2) (i32 x3)) β := by
  unfold kW_clausify_92 kX_clausify_92
  refine Rf_g (fun hg1 => ?_)
  exact Rf_tail hX hσ (zrs_cons hx0 (zrs_cons hx1 (zrs_cons hg1 zrs_nil))) (e_cons rfl (e_cons rfl (e_cons (e_add rfl (by decide)) rfl)))
theorem rW_clausify_119 (rz rzx : zF) (rm rmx : mF) (hR : Rc rz rm) (hX : Rc rzx rmx) (β : Nat) (σ : zS) (hσ : zOK σ) (x0 x1 x2 x3 x4 : Int) (hx0 : zr x0) (hx1 : zr x1) (hx2 : zr x2) (hx3 : zr x3) (hx4 : zr x4) : Rf (kW_clausify_119 rz rzx β σ x0 x1 x2 x3 x4) (kX_clausify_119 rm rmx (cv σ) (i32 x0) (i32 x1) (i32 x2) (i32 x3) (i32 x4)) β := by
  unfold kW_clausify_119 kX_clausify_119
  refine Rf_rd rfl hx1 (fun hb1 => ?_)
  refine Rf_bnd hR hσ (zrs_cons hx4 (zrs_cons hx3 (zrs_cons (hσ.2.1 _ _) zrs_nil))) (e_cons rfl (e_cons rfl (e_cons (e_rd rfl hb1) rfl))) (fun σ1 r1 hσ1 hr1 => ?_)
  refine Rf_g (fun hg2 => ?_)
  exact Rf_tail hX hσ1 (zrs_cons hx0 (zrs_cons hg2 zrs_nil)) (e_cons rfl (e_cons (e_add rfl (by decide)) rfl))
theorem rW_clausify_146 (rz rzx : zF) (rm rmx : mF) (hR : Rc rz rm) (hX : Rc rzx rmx) (β : Nat) (σ : zS) (hσ : zOK σ) (x0 x1 : Int) (hx0 : zr x0) (hx1 : zr x1) : Rf (kW_clausify_146 rz rzx β σ x0 x1) (kX_clausify_146 rm rmx (cv σ) (i32 x0) (i32 x1)) β := by
  unfold kW_clausify_146 kX_clausify_146
  refine Rf_lt rfl rfl (hσ.1 20) hx1 (fun _ => ?_) (fun _ => ?_)
  · exact Rf_tail hX hσ (zrs_cons hx0 (zrs_cons (by decide) zrs_nil)) (e_cons rfl (e_cons (by decide) rfl))
  · refine Rf_rd rfl hx1 (fun hb1 => ?_)
    refine Rf_rd2 rfl hb1 ?_
    refine Rf_A rfl hb1 (e_rd rfl hb1) (hσ.2.1 _ _) hσ (fun σ1 hσ1 => ?_)
    refine Rf_rd2 rfl hb1 ?_
    refine Rf_eq (e_rd rfl hb1) (by decide) (hσ1.2.1 _ _) (by decide) (fun _ => ?_) (fun _ => ?_)
    · exact Rf_tail hX hσ1 (zrs_cons hx0 (zrs_cons hx1 (zrs_cons (by decide) (zrs_cons hx1 zrs_nil)))) (e_cons rfl (e_cons rfl (e_cons (by decide) (e_cons rfl rfl))))
    · exact Rf_tail hX hσ1 (zrs_cons hx0 (zrs_cons hx1 (zrs_cons (by decide) (zrs_cons hx1 zrs_nil)))) (e_cons rfl (e_cons rfl (e_cons (by decide) (e_cons rfl rfl))))
theorem rW_clausify_186 (rz rzx : zF) (rm rmx : mF) (hR : Rc rz rm) (hX : Rc rzx rmx) (β : Nat) (σ : zS) (hσ : zOK σ) (x0 x1 x2 x3 : Int) (hx0 : zr x0) (hx1 : zr x1) (hx2 : zr x2) (hx3 : zr x3) : Rf (kW_clausify_186 rz rzx β σ x0 x1 x2 x3) (kX_clausify_186 rm rmx (cv σ) (i32 x0) (i32 x1) (i32 x2) (i32 x3)) β := by
  unfold kW_clausify_186 kX_clausify_186
  refine Rf_rd rfl hx3 (fun hb1 => ?_)
  refine Rf_g (fun hg2 => ?_)
  refine Rf_A rfl hb1 (e_bool rfl hg2) hx2 hσ (fun σ1 hσ1 => ?_)
  refine Rf_g (fun hg3 => ?_)
  exact Rf_tail hX hσ1 (zrs_cons hx0 (zrs_cons hg3 zrs_nil)) (e_cons rfl (e_cons (e_add rfl (by decide)) rfl))
theorem rW_clausify_195 (rz rzx : zF) (rm rmx : mF) (hR : Rc rz rm) (hX : Rc rzx rmx) (β : Nat) (σ : zS) (hσ : zOK σ) (x0 x1 : Int) (hx0 : zr x0) (hx1 : zr x1) : Rf (kW_clausify_195 rz rzx β σ x0 x1) (kX_clausify_195 rm rmx (cv σ) (i32 x0) (i32 x1)) β := by
  unfold kW_clausify_195 kX_clausify_195
  refine Rf_le rfl rfl (hσ.1 25) hx1 (fun _ => ?_) (fun _ => ?_)
  · exact Rf_tail hX hσ (zrs_cons hx0 (zrs_cons (by decide) (zrs_cons (by decide) zrs_nil))) (e_cons rfl (e_cons (by decide) (e_cons (by decide) rfl)))
  · refine Rf_rd rfl hx1 (fun hb1 => ?_)
    refine Rf_eq (e_rd rfl hb1) (by decide) (hσ.2.1 _ _) (by decide) (fun _ => ?_) (fun _ => ?_)
    · exact Rf_tail hX hσ (zrs_cons hx0 (zrs_cons hx1 zrs_nil)) (e_cons rfl (e_cons rfl rfl))
    · refine Rf_rd2 rfl hb1 ?_
      refine Rf_rd rfl (hσ.1 19) (fun hb2 => ?_)
      refine Rf_A rfl hb2 (e_rd rfl hb1) (hσ.2.1 _ _) hσ (fun σ1 hσ1 => ?_)
      refine Rf_rd rfl (hσ1.1 19) (fun hb3 => ?_)
      have hg4 : (0 : Int) = 0 ∨ (0 : Int) = 1 := by decide
      refine Rf_A rfl hb3 (e_bool (by decide) hg4) (by decide) hσ1 (fun σ2 hσ2 => ?_)
      refine Rf_g (fun hg5 => ?_)
      refine Rf_I (e_add rfl (by decide)) hg5 hσ2 (fun σ3 hσ3 => ?_)
      refine Rf_rd2 rfl hb1 ?_
      refine Rf_A rfl hb1 rfl (hσ2.1 19) hσ3 (fun σ4 hσ4 => ?_)
      exact Rf_tail hX hσ4 (zrs_cons hx0 (zrs_cons hx1 zrs_nil)) (e_cons rfl (e_cons rfl rfl))
theorem rW_clausify_257 (rz rzx : zF) (rm rmx : mF) (hR : Rc rz rm) (hX : Rc rzx rmx) (β : Nat) (σ : zS) (hσ : zOK σ) (x0 x1 : Int) (hx0 : zr x0) (hx1 : zr x1) : Rf (kW_clausify_257 rz rzx β σ x0 x1) (kX_clausify_257 rm rmx (cv σ) (i32 x0) (i32 x1)) β := by
  unfold kW_clausify_257 kX_clausify_257
  refine Rf_g (fun hg1 => ?_)
  exact Rf_tail hX hσ (zrs_cons hx0 (zrs_cons hg1 zrs_nil)) (e_cons rfl (e_cons (e_add rfl (by decide)) rfl))
theorem rW_clausify_267 (rz rzx : zF) (rm rmx : mF) (hR : Rc rz rm) (hX : Rc rzx rmx) (β : Nat) (σ : zS) (hσ : zOK σ) (x0 x1 x2 : Int) (hx0 : zr x0) (hx1 : zr x1) (hx2 : zr x2) : Rf (kW_clausify_267 rz rzx β σ x0 x1 x2) (kX_clausify_267 rm rmx (cv σ) (i32 x0) (i32 x1) (i32 x2)) β := by
  unfold kW_clausify_267 kX_clausify_267
  refine Rf_le rfl rfl (hσ.1 55) hx2 (fun _ => ?_) (fun _ => ?_)
  · refine Rf_I (by decide) (by decide) hσ (fun u hu => ?_)
    exact Rf_some hu (by decide) (by decide)
  · refine Rf_eq rfl rfl hx2 hx0 (fun _ => ?_) (fun _ => ?_)
    · refine Rf_rd rfl hx2 (fun hb1 => ?_)
      refine Rf_I (by decide) (by decide) hσ (fun u1 hu1 => ?_)
      refine Rf_I (e_rd rfl hb1) (hσ.2.1 _ _) hu1 (fun u2 hu2 => ?_)
      refine Rf_I (by decide) (by decide) hu2 (fun u3 hu3 => ?_)
      exact Rf_some hu3 (by decide) (by decide)
    · refine Rf_rd rfl hx2 (fun hb2 => ?_)
      refine Rf_rd2 rfl hb2 ?_
      refine Rf_eq (e_rd rfl hb2) (by decide) (hσ.2.1 _ _) (by decide) (fun _ => ?_) (fun _ => ?_)
      · exact Rf_tail hX hσ (zrs_cons hx0 (zrs_cons hx1 (zrs_cons hx2 (zrs_cons (by decide) (zrs_cons (hσ.2.1 _ _) (zrs_cons hx1 zrs_nil)))))) (e_cons rfl (e_cons rfl (e_cons rfl (e_cons (by decide) (e_cons (e_rd rfl hb2) (e_cons rfl rfl))))))
      · exact Rf_tail hX hσ (zrs_cons hx0 (zrs_cons hx1 (zrs_cons hx2 (zrs_cons (by decide) (zrs_cons (hσ.2.1 _ _) (zrs_cons hx1 zrs_nil)))))) (e_cons rfl (e_cons rfl (e_cons rfl (e_cons (by decide) (e_cons (e_rd rfl hb2) (e_cons rfl rfl))))))
theorem rW_clausify_317 (rz rzx : zF) (rm rmx : mF) (hR : Rc rz rm) (hX : Rc rzx rmx) (β : Nat) (σ : zS) (hσ : zOK σ) (x0 x1 x2 x3 x4 x5 : Int) (hx0 : zr x0) (hx1 : zr x1) (hx2 : zr x2) (hx3 : zr x3) (hx4 : zr x4) (hx5 : zr x5) : Rf (kW_clausify_317 rz rzx β σ x0 x1 x2 x3 x4 x5) (kX_clausify_317 rm rmx (cv σ) (i32 x0) (i32 x1) (i32 x2) (i32 x3) (i32 x4) (i32 x5)) β := by
  unfold kW_clausify_317 kX_clausify_317
  refine Rf_bnd hR hσ (zrs_cons hx4 (zrs_cons hx3 zrs_nil)) (e_cons rfl (e_cons rfl rfl)) (fun σ1 r1 hσ1 hr1 => ?_)
  refine Rf_g (fun hg1 => ?_)
  refine Rf_le (e_add rfl rfl) (by decide) hg1 (by decide) (fun _ => ?_) (fun _ => ?_)
  · refine Rf_bnd hX hσ1 (zrs_cons hx2 zrs_nil) (e_cons rfl rfl) (fun σ2 r2 hσ2 hr2 => ?_)
    refine Rf_eq rfl (by decide) (hσ2.1 3000) (by decide) (fun _ => ?_) (fun _ => ?_)
    · refine Rf_g (fun hg2 => ?_)
      exact Rf_tail hX hσ2 (zrs_cons hx0 (zrs_cons hg1 (zrs_cons hg2 zrs_nil))) (e_cons rfl (e_cons (e_add rfl rfl) (e_cons (e_add rfl (by decide)) rfl)))
    · exact Rf_some hσ2 (by decide) (by decide)
  · refine Rf_rd rfl hx2 (fun hb3 => ?_)
    refine Rf_I (by decide) (by decide) hσ1 (fun u1 hu1 => ?_)
    refine Rf_I (e_rd rfl hb3) (hσ1.2.1 _ _) hu1 (fun u2 hu2 => ?_)
    refine Rf_I (by decide) (by decide) hu2 (fun u3 hu3 => ?_)
    exact Rf_some hu3 (by decide) (by decide)
theorem rW_sentenceClauses (rz rzx : zF) (rm rmx : mF) (hR : Rc rz rm) (hX : Rc rzx rmx) (β : Nat) (σ : zS) (hσ : zOK σ) (x0 : Int) (hx0 : zr x0) : Rf (kW_sentenceClauses rz rzx β σ x0) (kX_sentenceClauses rm rmx (cv σ) (i32 x0)) β := by
  unfold kW_sentenceClauses kX_sentenceClauses
  refine Rf_I (by decide) (by decide) hσ (fun σ1 hσ1 => ?_)
  refine Rf_I (by decide) (by decide) hσ1 (fun σ2 hσ2 => ?_)
  exact Rf_tail hX hσ2 (zrs_cons hx0 (zrs_cons (by decide) zrs_nil)) (e_cons rfl (e_cons (by decide) rfl))
theorem rW_sentenceClauses_14 (rz rzx : zF) (rm rmx : mF) (hR : Rc rz rm) (hX : Rc rzx rmx) (β : Nat) (σ : zS) (hσ : zOK σ) (x0 x1 : Int) (hx0 : zr x0) (hx1 : zr x1) : Rf (kW_sentenceClauses_14 rz rzx β σ x0 x1) (kX_sentenceClauses_14 rm rmx (cv σ) (i32 x0) (i32 x1)) β := by
  unfold kW_sentenceClauses_14 kX_sentenceClauses_14
  refine Rf_rd rfl hx0 (fun hb1 => ?_)
  refine Rf_le (e_rd rfl hb1) rfl (hσ.2.1 _ _) hx1 (fun _ => ?_) (fun _ => ?_)
  · refine Rf_I (by decide) (by decide) hσ (fun σ1 hσ1 => ?_)
    refine Rf_rd2 rfl hb1 ?_
    refine Rf_rd2 rfl hb1 ?_
    refine Rf_eq (e_rd rfl hb1) (by decide) (hσ1.2.1 _ _) (by decide) (fun _ => ?_) (fun _ => ?_)
    · exact Rf_tail hX hσ1 (zrs_cons hx0 (zrs_cons hx1 (zrs_cons (by decide) (zrs_cons (hσ1.2.1 _ _) zrs_nil)))) (e_cons rfl (e_cons rfl (e_cons (by decide) (e_cons (e_rd rfl hb1) rfl))))
    · exact Rf_tail hX hσ1 (zrs_cons hx0 (zrs_cons hx1 (zrs_cons (by decide) (zrs_cons (hσ1.2.1 _ _) zrs_nil)))) (e_cons rfl (e_cons rfl (e_cons (by decide) (e_cons (e_rd rfl hb1) rfl))))
  · refine Rf_rd2 rfl hb1 ?_
    refine Rf_g (fun hg2 => ?_)
    refine Rf_rd (e_add (e_rd rfl hb1) rfl) hg2 (fun hb3 => ?_)
    refine Rf_rd2 rfl hb1 ?_
    refine Rf_eq (e_rd rfl hb1) (by decide) (hσ.2.1 _ _) (by decide) (fun _ => ?_) (fun _ => ?_)
    · exact Rf_tail hX hσ (zrs_cons hx0 (zrs_cons hx1 (zrs_cons (by decide) (zrs_cons (hσ.2.1 _ _) zrs_nil)))) (e_cons rfl (e_cons rfl (e_cons (by decide) (e_cons (e_rd (e_add (e_rd rfl hb1) rfl) hb3) rfl))))
    · exact Rf_tail hX hσ (zrs_cons hx0 (zrs_cons hx1 (zrs_cons (by decide) (zrs_cons (hσ.2.1 _ _) zrs_nil)))) (e_cons rfl (e_cons rfl (e_cons (by decide) (e_cons (e_rd (e_add (e_rd rfl hb1) rfl) hb3) rfl))))
theorem rW_sentenceClauses_52 (rz rzx : zF) (rm rmx : mF) (hR : Rc rz rm) (hX : Rc rzx rmx) (β : Nat) (σ : zS) (hσ : zOK σ) (x0 x1 x2 x3 : Int) (hx0 : zr x0) (hx1 : zr x1) (hx2 : zr x2) (hx3 : zr x3) : Rf (kW_sentenceClauses_52 rz rzx β σ x0 x1 x2 x3) (kX_sentenceClauses_52 rm rmx (cv σ) (i32 x0) (i32 x1) (i32 x2) (i32 x3)) β := by
  unfold kW_sentenceClauses_52 kX_sentenceClauses_52
  refine Rf_bnd hR hσ (zrs_cons hx3 (zrs_cons hx2 zrs_nil)) (e_cons rfl (e_cons rfl rfl)) (fun σ1 r1 hσ1 hr1 => ?_)
  refine Rf_g (fun hg1 => ?_)
  exact Rf_tail hX hσ1 (zrs_cons hx0 (zrs_cons hg1 zrs_nil)) (e_cons rfl (e_cons (e_add rfl (by decide)) rfl))
theorem rW_sentenceClauses_87 (rz rzx : zF) (rm rmx : mF) (hR : Rc rz rm) (hX : Rc rzx rmx) (β : Nat) (σ : zS) (hσ : zOK σ) (x0 x1 x2 x3 : Int) (hx0 : zr x0) (hx1 : zr x1) (hx2 : zr x2) (hx3 : zr x3) : Rf (kW_sentenceClauses_87 rz rzx β σ x0 x1 x2 x3) (kX_sentenceClauses_87 rm rmx (cv σ) (i32 x0) (i32 x1) (i32 x2) (i32 x3)) β := by
  unfold kW_sentenceClauses_87 kX_sentenceClauses_87
  refine Rf_bnd hX hσ (zrs_cons hx3 (zrs_cons hx2 zrs_nil)) (e_cons rfl (e_cons rfl rfl)) (fun σ1 r1 hσ1 hr1 => ?_)
  refine Rf_eq rfl (by decide) (hσ1.1 3000) (by decide) (fun _ => ?_) (fun _ => ?_)
  · exact Rf_tail hX hσ1 (zrs_cons hx0 (zrs_cons (by decide) zrs_nil)) (e_cons rfl (e_cons (by decide) rfl))
  · refine Rf_eq rfl (by decide) (hσ1.1 3000) (by decide) (fun _ => ?_) (fun _ => ?_)
    · refine Rf_rd rfl hx0 (fun hb1 => ?_)
      refine Rf_I (by decide) (by decide) hσ1 (fun u1 hu1 => ?_)
      refine Rf_I (e_rd rfl hb1) (hσ1.2.1 _ _) hu1 (fun u2 hu2 => ?_)
      refine Rf_I (by decide) (by decide) hu2 (fun u3 hu3 => ?_)
      exact Rf_some hu3 (by decide) (by decide)
    · exact Rf_none
theorem rW_sentenceClauses_111 (rz rzx : zF) (rm rmx : mF) (hR : Rc rz rm) (hX : Rc rzx rmx) (β : Nat) (σ : zS) (hσ : zOK σ) (x0 x1 : Int) (hx0 : zr x0) (hx1 : zr x1) : Rf (kW_sentenceClauses_111 rz rzx β σ x0 x1) (kX_sentenceClauses_111 rm rmx (cv σ) (i32 x0) (i32 x1)) β := by
  unfold kW_sentenceClauses_111 kX_sentenceClauses_111
  refine Rf_le rfl rfl (hσ.1 65) hx1 (fun _ => ?_) (fun _ => ?_)
  · refine Rf_I rfl (hσ.1 47) hσ (fun σ1 hσ1 => ?_)
    exact Rf_tail hX hσ1 (zrs_cons hx0 (zrs_cons (by decide) zrs_nil)) (e_cons rfl (e_cons (by decide) rfl))
  · refine Rf_rd rfl hx1 (fun hb1 => ?_)
    refine Rf_g (fun hg2 => ?_)
    refine Rf_bnd hR hσ (zrs_cons hg2 (zrs_cons (hσ.2.1 _ _) zrs_nil)) (e_cons (e_mul (by decide) rfl) (e_cons (e_rd rfl hb1) rfl)) (fun σ2 r2 hσ2 hr2 => ?_)
    refine Rf_eq rfl (by decide) hr2 (by decide) (fun _ => ?_) (fun _ => ?_)
    · refine Rf_rd rfl hx0 (fun hb3 => ?_)
      refine Rf_I (by decide) (by decide) hσ2 (fun u1 hu1 => ?_)
      refine Rf_I (e_rd rfl hb3) (hσ2.2.1 _ _) hu1 (fun u2 hu2 => ?_)
      refine Rf_I (by decide) (by decide) hu2 (fun u3 hu3 => ?_)
      exact Rf_some hu3 (by decide) (by decide)
    · refine Rf_g (fun hg4 => ?_)
      exact Rf_tail hX hσ2 (zrs_cons hx0 (zrs_cons hg4 zrs_nil)) (e_cons rfl (e_cons (e_add rfl (by decide)) rfl))
theorem rW_sentenceClauses_167 (rz rzx : zF) (rm rmx : mF) (hR : Rc rz rm) (hX : Rc rzx rmx) (β : Nat) (σ : zS) (hσ : zOK σ) (x0 x1 : Int) (hx0 : zr x0) (hx1 : zr x1) : Rf (kW_sentenceClauses_167 rz rzx β σ x0 x1) (kX_sentenceClauses_167 rm rmx (cv σ) (i32 x0) (i32 x1)) β := by
  unfold kW_sentenceClauses_167 kX_sentenceClauses_167
  refine Rf_le rfl rfl (hσ.1 65) hx1 (fun _ => ?_) (fun _ => ?_)
  · refine Rf_I (by decide) (by decide) hσ (fun u hu => ?_)
    exact Rf_some hu (by decide) (by decide)
  · refine Rf_I rfl (hσ.1 122) hσ (fun σ1 hσ1 => ?_)
    refine Rf_I (by decide) (by decide) hσ1 (fun σ2 hσ2 => ?_)
    refine Rf_g (fun hg1 => ?_)
    exact Rf_tail hX hσ2 (zrs_cons hx0 (zrs_cons hx1 (zrs_cons hg1 (zrs_cons hg1 zrs_nil)))) (e_cons rfl (e_cons rfl (e_cons (e_mul (by decide) rfl) (e_cons (e_mul (by decide) rfl) rfl))))
theorem rW_sentenceClauses_196 (rz rzx : zF) (rm rmx : mF) (hR : Rc rz rm) (hX : Rc rzx rmx) (β : Nat) (σ : zS) (hσ : zOK σ) (x0 x1 x2 x3 : Int) (hx0 : zr x0) (hx1 : zr x1) (hx2 : zr x2) (hx3 : zr x3) : Rf (kW_sentenceClauses_196 rz rzx β σ x0 x1 x2 x3) (kX_sentenceClauses_196 rm rmx (cv σ) (i32 x0) (i32 x1) (i32 x2) (i32 x3)) β := by
  unfold kW_sentenceClauses_196 kX_sentenceClauses_196
  refine Rf_rd rfl hx1 (fun hb1 => ?_)
  refine Rf_g (fun hg2 => ?_)
  refine Rf_le (e_add rfl (e_rd rfl hb1)) rfl hg2 hx3 (fun _ => ?_) (fun _ => ?_)
  · refine Rf_bnd hR hσ zrs_nil rfl (fun σ1 r1 hσ1 hr1 => ?_)
    refine Rf_bnd hR hσ1 zrs_nil rfl (fun σ2 r2 hσ2 hr2 => ?_)
    refine Rf_eq rfl (by decide) hr2 (by decide) (fun _ => ?_) (fun _ => ?_)
    · refine Rf_bnd hR hσ2 (zrs_cons (by decide) (zrs_cons (by decide) (zrs_cons (by decide) zrs_nil))) (e_cons (by decide) (e_cons (by decide) (e_cons (by decide) rfl))) (fun σ3 r3 hσ3 hr3 => ?_)
      exact Rf_tail hX hσ3 (zrs_cons hx0 (zrs_cons hx1 (zrs_cons hx2 (zrs_cons hx3 zrs_nil)))) (e_cons rfl (e_cons rfl (e_cons rfl (e_cons rfl rfl))))
    · exact Rf_tail hX hσ2 (zrs_cons hx0 (zrs_cons hx1 (zrs_cons hx2 (zrs_cons hx3 zrs_nil)))) (e_cons rfl (e_cons rfl (e_cons rfl (e_cons rfl rfl))))
  · refine Rf_rd rfl hx3 (fun hb3 => ?_)
    refine Rf_bnd hR hσ (zrs_cons (hσ.2.1 _ _) zrs_nil) (e_cons (e_rd rfl hb3) rfl) (fun σ4 r4 hσ4 hr4 => ?_)
    refine Rf_g (fun hg4 => ?_)
    refine Rf_rd (e_add rfl (by decide)) hg4 (fun hb5 => ?_)
    refine Rf_bnd hR hσ4 (zrs_cons (hσ4.2.1 _ _) zrs_nil) (e_cons (e_rd (e_add rfl (by decide)) hb5) rfl) (fun σ5 r5 hσ5 hr5 => ?_)
    refine Rf_g (fun hg6 => ?_)
    refine Rf_rd (e_add rfl (by decide)) hg6 (fun hb7 => ?_)
    refine Rf_eq (e_rd (e_add rfl (by decide)) hb7) (by decide) (hσ5.2.1 _ _) (by decide) (fun _ => ?_) (fun _ => ?_)
    · exact Rf_tail hX hσ5 (zrs_cons hx0 (zrs_cons hx1 (zrs_cons hx2 (zrs_cons hx3 (zrs_cons (by decide) (zrs_cons hr5 (zrs_cons hr4 zrs_nil))))))) (e_cons rfl (e_cons rfl (e_cons rfl (e_cons rfl (e_cons (by decide) (e_cons rfl (e_cons rfl rfl)))))))
    · exact Rf_tail hX hσ5 (zrs_cons hx0 (zrs_cons hx1 (zrs_cons hx2 (zrs_cons hx3 (zrs_cons (by decide) (zrs_cons hr5 (zrs_cons hr4 zrs_nil))))))) (e_cons rfl (e_cons rfl (e_cons rfl (e_cons rfl (e_cons (by decide) (e_cons rfl (e_cons rfl rfl)))))))
theorem rW_sentenceClauses_252 (rz rzx : zF) (rm rmx : mF) (hR : Rc rz rm) (hX : Rc rzx rmx) (β : Nat) (σ : zS) (hσ : zOK σ) (x0 x1 x2 x3 x4 x5 x6 : Int) (hx0 : zr x0) (hx1 : zr x1) (hx2 : zr x2) (hx3 : zr x3) (hx4 : zr x4) (hx5 : zr x5) (hx6 : zr x6) : Rf (kW_sentenceClauses_252 rz rzx β σ x0 x1 x2 x3 x4 x5 x6) (kX_sentenceClauses_252 rm rmx (cv σ) (i32 x0) (i32 x1) (i32 x2) (i32 x3) (i32 x4) (i32 x5) (i32 x6)) β := by
  unfold kW_sentenceClauses_252 kX_sentenceClauses_252
  refine Rf_bnd hR hσ (zrs_cons hx6 (zrs_cons hx5 (zrs_cons hx4 zrs_nil))) (e_cons rfl (e_cons rfl (e_cons rfl rfl))) (fun σ1 r1 hσ1 hr1 => ?_)
  refine Rf_g (fun hg1 => ?_)
  exact Rf_tail hX hσ1 (zrs_cons hx0 (zrs_cons hx1 (zrs_cons hx2 (zrs_cons hg1 zrs_nil)))) (e_cons rfl (e_cons rfl (e_cons rfl (e_cons (e_add rfl (by decide)) rfl))))
theorem rW_sentenceClauses_280 (rz rzx : zF) (rm rmx : mF) (hR : Rc rz rm) (hX : Rc rzx rmx) (β : Nat) (σ : zS) (hσ : zOK σ) (x0 x1 x2 x3 : Int) (hx0 : zr x0) (hx1 : zr x1) (hx2 : zr x2) (hx3 : zr x3) : Rf (kW_sentenceClauses_280 rz rzx β σ x0 x1 x2 x3) (kX_sentenceClauses_280 rm rmx (cv σ) (i32 x0) (i32 x1) (i32 x2) (i32 x3)) β := by
  unfold kW_sentenceClauses_280 kX_sentenceClauses_280
  refine Rf_g (fun hg1 => ?_)
  exact Rf_tail hX hσ (zrs_cons hx0 (zrs_cons hg1 zrs_nil)) (e_cons rfl (e_cons (e_add rfl (by decide)) rfl))
theorem rW_clauses (rz rzx : zF) (rm rmx : mF) (hR : Rc rz rm) (hX : Rc rzx rmx) (β : Nat) (σ : zS) (hσ : zOK σ) (x0 x1 : Int) (hx0 : zr x0) (hx1 : zr x1) : Rf (kW_clauses rz rzx β σ x0 x1) (kX_clauses rm rmx (cv σ) (i32 x0) (i32 x1)) β := by
  unfold kW_clauses kX_clauses
  refine Rf_rd rfl hx0 (fun hb1 => ?_)
  refine Rf_out (e_rd rfl hb1) (hσ.2.1 _ _) (fun _ => ?_) (fun _ => ?_)
  · exact Rf_tail hX hσ (zrs_cons hx0 (zrs_cons hx1 (zrs_cons (hσ.1 62) (zrs_cons (by decide) zrs_nil)))) (e_cons rfl (e_cons rfl (e_cons rfl (e_cons (by decide) rfl))))
  · refine Rf_eq (e_rd rfl hb1) (by decide) (hσ.2.1 _ _) (by decide) (fun _ => ?_) (fun _ => ?_)
    · refine Rf_bnd hX hσ (zrs_cons hx0 (zrs_cons hx1 zrs_nil)) (e_cons rfl (e_cons rfl rfl)) (fun σ1 r1 hσ1 hr1 => ?_)
      refine Rf_eq rfl (by decide) (hσ1.1 3000) (by decide) (fun _ => ?_) (fun _ => ?_)
      · exact Rf_tail hX hσ1 (zrs_cons hx0 (zrs_cons hx1 zrs_nil)) (e_cons rfl (e_cons rfl rfl))
      · exact Rf_some hσ1 (by decide) (by decide)
    · refine Rf_eq (e_rd rfl hb1) (by decide) (hσ.2.1 _ _) (by decide) (fun _ => ?_) (fun _ => ?_)
      · refine Rf_rd2 rfl hb1 ?_
        refine Rf_eq rfl (by decide) hx1 (by decide) (fun _ => ?_) (fun _ => ?_)
        · exact Rf_tail hX hσ (zrs_cons hx0 (zrs_cons hx1 (zrs_cons (by decide) (zrs_cons (hσ.2.1 _ _) zrs_nil)))) (e_cons rfl (e_cons rfl (e_cons (by decide) (e_cons (e_rd rfl hb1) rfl))))
        · exact Rf_tail hX hσ (zrs_cons hx0 (zrs_cons hx1 (zrs_cons (by decide) (zrs_cons (hσ.2.1 _ _) zrs_nil)))) (e_cons rfl (e_cons rfl (e_cons (by decide) (e_cons (e_rd rfl hb1) rfl))))
      · refine Rf_eq (e_rd rfl hb1) (by decide) (hσ.2.1 _ _) (by decide) (fun _ => ?_) (fun _ => ?_)
        · refine Rf_rd2 rfl hb1 ?_
          refine Rf_rd2 rfl hb1 ?_
          refine Rf_rd2 rfl hb1 ?_
          refine Rf_eq (e_rd rfl hb1) (by decide) (hσ.2.1 _ _) (by decide) (fun _ => ?_) (fun _ => ?_)
          · exact Rf_tail hX hσ (zrs_cons hx0 (zrs_cons hx1 (zrs_cons (by decide) (zrs_cons hx1 (zrs_cons hx1 (zrs_cons (hσ.2.1 _ _) (zrs_cons (hσ.2.1 _ _) zrs_nil))))))) (e_cons rfl (e_cons rfl (e_cons (by decide) (e_cons rfl (e_cons rfl (e_cons (e_rd rfl hb1) (e_cons (e_rd rfl hb1) rfl)))))))
          · exact Rf_tail hX hσ (zrs_cons hx0 (zrs_cons hx1 (zrs_cons (by decide) (zrs_cons hx1 (zrs_cons hx1 (zrs_cons (hσ.2.1 _ _) (zrs_cons (hσ.2.1 _ _) zrs_nil))))))) (e_cons rfl (e_cons rfl (e_cons (by decide) (e_cons rfl (e_cons rfl (e_cons (e_rd rfl hb1) (e_cons (e_rd rfl hb1) rfl)))))))
        · refine Rf_eq (e_rd rfl hb1) (by decide) (hσ.2.1 _ _) (by decide) (fun _ => ?_) (fun _ => ?_)
          · refine Rf_rd2 rfl hb1 ?_
            refine Rf_rd2 rfl hb1 ?_
            refine Rf_rd2 rfl hb1 ?_
            refine Rf_eq (e_rd rfl hb1) (by decide) (hσ.2.1 _ _) (by decide) (fun _ => ?_) (fun _ => ?_)
            · exact Rf_tail hX hσ (zrs_cons hx0 (zrs_cons hx1 (zrs_cons (by decide) (zrs_cons hx1 (zrs_cons hx1 (zrs_cons (hσ.2.1 _ _) (zrs_cons (hσ.2.1 _ _) zrs_nil))))))) (e_cons rfl (e_cons rfl (e_cons (by decide) (e_cons rfl (e_cons rfl (e_cons (e_rd rfl hb1) (e_cons (e_rd rfl hb1) rfl)))))))
            · exact Rf_tail hX hσ (zrs_cons hx0 (zrs_cons hx1 (zrs_cons (by decide) (zrs_cons hx1 (zrs_cons hx1 (zrs_cons (hσ.2.1 _ _) (zrs_cons (hσ.2.1 _ _) zrs_nil))))))) (e_cons rfl (e_cons rfl (e_cons (by decide) (e_cons rfl (e_cons rfl (e_cons (e_rd rfl hb1) (e_cons (e_rd rfl hb1) rfl)))))))
          · refine Rf_eq (e_rd rfl hb1) (by decide) (hσ.2.1 _ _) (by decide) (fun _ => ?_) (fun _ => ?_)
            · refine Rf_rd2 rfl hb1 ?_
              refine Rf_rd2 rfl hb1 ?_
              refine Rf_eq rfl (by decide) hx1 (by decide) (fun _ => ?_) (fun _ => ?_)
              · exact Rf_tail hX hσ (zrs_cons hx0 (zrs_cons hx1 (zrs_cons (by decide) (zrs_cons (hσ.2.1 _ _) (zrs_cons (hσ.2.1 _ _) zrs_nil))))) (e_cons rfl (e_cons rfl (e_cons (by decide) (e_cons (e_rd rfl hb1) (e_cons (e_rd rfl hb1) rfl)))))
              · exact Rf_tail hX hσ (zrs_cons hx0 (zrs_cons hx1 (zrs_cons (by decide) (zrs_cons (hσ.2.1 _ _) (zrs_cons (hσ.2.1 _ _) zrs_nil))))) (e_cons rfl (e_cons rfl (e_cons (by decide) (e_cons (e_rd rfl hb1) (e_cons (e_rd rfl hb1) rfl)))))
            · refine Rf_rd2 rfl hb1 ?_
              refine Rf_rd2 rfl hb1 ?_
              refine Rf_eq rfl (by decide) hx1 (by decide) (fun _ => ?_) (fun _ => ?_)
              · exact Rf_tail hX hσ (zrs_cons hx0 (zrs_cons hx1 (zrs_cons (by decide) (zrs_cons (hσ.2.1 _ _) (zrs_cons (hσ.2.1 _ _) zrs_nil))))) (e_cons rfl (e_cons rfl (e_cons (by decide) (e_cons (e_rd rfl hb1) (e_cons (e_rd rfl hb1) rfl)))))
              · exact Rf_tail hX hσ (zrs_cons hx0 (zrs_cons hx1 (zrs_cons (by decide) (zrs_cons (hσ.2.1 _ _) (zrs_cons (hσ.2.1 _ _) zrs_nil))))) (e_cons rfl (e_cons rfl (e_cons (by decide) (e_cons (e_rd rfl hb1) (e_cons (e_rd rfl hb1) rfl)))))
theorem rW_clauses_69 (rz rzx : zF) (rm rmx : mF) (hR : Rc rz rm) (hX : Rc rzx rmx) (β : Nat) (σ : zS) (hσ : zOK σ) (x0 x1 x2 x3 : Int) (hx0 : zr x0) (hx1 : zr x1) (hx2 : zr x2) (hx3 : zr x3) : Rf (kW_clauses_69 rz rzx β σ x0 x1 x2 x3) (kX_clauses_69 rm rmx (cv σ) (i32 x0) (i32 x1) (i32 x2) (i32 x3)) β := by
  unfold kW_clauses_69 kX_clauses_69
  refine Rf_bnd hX hσ (zrs_cons hx3 (zrs_cons hx2 zrs_nil)) (e_cons rfl (e_cons rfl rfl)) (fun σ1 r1 hσ1 hr1 => ?_)
  refine Rf_eq rfl (by decide) (hσ1.1 3000) (by decide) (fun _ => ?_) (fun _ => ?_)
  · exact Rf_tail hX hσ1 (zrs_cons hx0 (zrs_cons hx1 zrs_nil)) (e_cons rfl (e_cons rfl rfl))
  · exact Rf_some hσ1 (by decide) (by decide)
theorem rW_clauses_105 (rz rzx : zF) (rm rmx : mF) (hR : Rc rz rm) (hX : Rc rzx rmx) (β : Nat) (σ : zS) (hσ : zOK σ) (x0 x1 x2 x3 x4 x5 x6 : Int) (hx0 : zr x0) (hx1 : zr x1) (hx2 : zr x2) (hx3 : zr x3) (hx4 : zr x4) (hx5 : zr x5) (hx6 : zr x6) : Rf (kW_clauses_105 rz rzx β σ x0 x1 x2 x3 x4 x5 x6) (kX_clauses_105 rm rmx (cv σ) (i32 x0) (i32 x1) (i32 x2) (i32 x3) (i32 x4) (i32 x5) (i32 x6)) β := by
  unfold kW_clauses_105 kX_clauses_105
  refine Rf_eq rfl rfl hx2 hx1 (fun _ => ?_) (fun _ => ?_)
  · exact Rf_tail hX hσ (zrs_cons hx0 (zrs_cons hx1 (zrs_cons (by decide) (zrs_cons hx3 (zrs_cons hx4 (zrs_cons hx5 (zrs_cons hx6 zrs_nil))))))) (e_cons rfl (e_cons rfl (e_cons (by decide) (e_cons rfl (e_cons rfl (e_cons rfl (e_cons rfl rfl)))))))
  · exact Rf_tail hX hσ (zrs_cons hx0 (zrs_cons hx1 (zrs_cons (by decide) (zrs_cons hx3 (zrs_cons hx4 (zrs_cons hx5 (zrs_cons hx6 zrs_nil))))))) (e_cons rfl (e_cons rfl (e_cons (by decide) (e_cons rfl (e_cons rfl (e_cons rfl (e_cons rfl rfl)))))))
theorem rW_clauses_114 (rz rzx : zF) (rm rmx : mF) (hR : Rc rz rm) (hX : Rc rzx rmx) (β : Nat) (σ : zS) (hσ : zOK σ) (x0 x1 x2 x3 x4 x5 x6 : Int) (hx0 : zr x0) (hx1 : zr x1) (hx2 : zr x2) (hx3 : zr x3) (hx4 : zr x4) (hx5 : zr x5) (hx6 : zr x6) : Rf (kW_clauses_114 rz rzx β σ x0 x1 x2 x3 x4 x5 x6) (kX_clauses_114 rm rmx (cv σ) (i32 x0) (i32 x1) (i32 x2) (i32 x3) (i32 x4) (i32 x5) (i32 x6)) β := by
  unfold kW_clauses_114 kX_clauses_114
  refine Rf_bnd hX hσ (zrs_cons hx6 (zrs_cons hx5 (zrs_cons hx4 (zrs_cons hx3 (zrs_cons hx2 zrs_nil))))) (e_cons rfl (e_cons rfl (e_cons rfl (e_cons rfl (e_cons rfl rfl))))) (fun σ1 r1 hσ1 hr1 => ?_)
  refine Rf_eq rfl (by decide) (hσ1.1 3000) (by decide) (fun _ => ?_) (fun _ => ?_)
  · exact Rf_tail hX hσ1 (zrs_cons hx0 (zrs_cons hx1 zrs_nil)) (e_cons rfl (e_cons rfl rfl))
  · exact Rf_some hσ1 (by decide) (by decide)
theorem rW_clauses_142 (rz rzx : zF) (rm rmx : mF) (hR : Rc rz rm) (hX : Rc rzx rmx) (β : Nat) (σ : zS) (hσ : zOK σ) (x0 x1 x2 x3 x4 : Int) (hx0 : zr x0) (hx1 : zr x1) (hx2 : zr x2) (hx3 : zr x3) (hx4 : zr x4) : Rf (kW_clauses_142 rz rzx β σ x0 x1 x2 x3 x4) (kX_clauses_142 rm rmx (cv σ) (i32 x0) (i32 x1) (i32 x2) (i32 x3) (i32 x4)) β := by
  unfold kW_clauses_142 kX_clauses_142
  refine Rf_eq rfl (by decide) hx1 (by decide) (fun _ => ?_) (fun _ => ?_)
  · exact Rf_tail hX hσ (zrs_cons hx0 (zrs_cons hx1 (zrs_cons (by decide) (zrs_cons hx1 (zrs_cons hx2 (zrs_cons hx3 (zrs_cons hx4 zrs_nil))))))) (e_cons rfl (e_cons rfl (e_cons (by decide) (e_cons rfl (e_cons rfl (e_cons rfl (e_cons rfl rfl)))))))
  · exact Rf_tail hX hσ (zrs_cons hx0 (zrs_cons hx1 (zrs_cons (by decide) (zrs_cons hx1 (zrs_cons hx2 (zrs_cons hx3 (zrs_cons hx4 zrs_nil))))))) (e_cons rfl (e_cons rfl (e_cons (by decide) (e_cons rfl (e_cons rfl (e_cons rfl (e_cons rfl rfl)))))))
theorem rW_clauses_152 (rz rzx : zF) (rm rmx : mF) (hR : Rc rz rm) (hX : Rc rzx rmx) (β : Nat) (σ : zS) (hσ : zOK σ) (x0 x1 x2 x3 x4 x5 x6 : Int) (hx0 : zr x0) (hx1 : zr x1) (hx2 : zr x2) (hx3 : zr x3) (hx4 : zr x4) (hx5 : zr x5) (hx6 : zr x6) : Rf (kW_clauses_152 rz rzx β σ x0 x1 x2 x3 x4 x5 x6) (kX_clauses_152 rm rmx (cv σ) (i32 x0) (i32 x1) (i32 x2) (i32 x3) (i32 x4) (i32 x5) (i32 x6)) β := by
  unfold kW_clauses_152 kX_clauses_152
  refine Rf_bnd hX hσ (zrs_cons hx6 (zrs_cons hx5 (zrs_cons hx4 (zrs_cons hx3 (zrs_cons hx2 zrs_nil))))) (e_cons rfl (e_cons rfl (e_cons rfl (e_cons rfl (e_cons rfl rfl))))) (fun σ1 r1 hσ1 hr1 => ?_)
  refine Rf_eq rfl (by decide) (hσ1.1 3000) (by decide) (fun _ => ?_) (fun _ => ?_)
  · exact Rf_tail hX hσ1 (zrs_cons hx0 (zrs_cons hx1 zrs_nil)) (e_cons rfl (e_cons rfl rfl))
  · exact Rf_some hσ1 (by decide) (by decide)
theorem rW_clauses_180 (rz rzx : zF) (rm rmx : mF) (hR : Rc rz rm) (hX : Rc rzx rmx) (β : Nat) (σ : zS) (hσ : zOK σ) (x0 x1 x2 x3 x4 : Int) (hx0 : zr x0) (hx1 : zr x1) (hx2 : zr x2) (hx3 : zr x3) (hx4 : zr x4) : Rf (kW_clauses_180 rz rzx β σ x0 x1 x2 x3 x4) (kX_clauses_180 rm rmx (cv σ) (i32 x0) (i32 x1) (i32 x2) (i32 x3) (i32 x4)) β := by
  unfold kW_clauses_180 kX_clauses_180
  refine Rf_bnd hX hσ (zrs_cons hx4 (zrs_cons hx3 (zrs_cons hx2 (zrs_cons (by decide) (zrs_cons (by decide) zrs_nil))))) (e_cons rfl (e_cons rfl (e_cons rfl (e_cons (by decide) (e_cons (by decide) rfl))))) (fun σ1 r1 hσ1 hr1 => ?_)
  refine Rf_eq rfl (by decide) (hσ1.1 3000) (by decide) (fun _ => ?_) (fun _ => ?_)
  · refine Rf_eq rfl (by decide) hx1 (by decide) (fun _ => ?_) (fun _ => ?_)
    · refine Rf_rd rfl hx0 (fun hb1 => ?_)
      refine Rf_rd2 rfl hb1 ?_
      refine Rf_bnd hX hσ1 (zrs_cons (hσ1.2.1 _ _) (zrs_cons (hσ1.2.1 _ _) (zrs_cons (by decide) (zrs_cons (by decide) (zrs_cons (by decide) zrs_nil))))) (e_cons (e_rd rfl hb1) (e_cons (e_rd rfl hb1) (e_cons (by decide) (e_cons (by decide) (e_cons (by decide) rfl))))) (fun σ2 r2 hσ2 hr2 => ?_)
      refine Rf_eq rfl (by decide) (hσ2.1 3000) (by decide) (fun _ => ?_) (fun _ => ?_)
      · exact Rf_tail hX hσ2 (zrs_cons hx0 (zrs_cons hx1 zrs_nil)) (e_cons rfl (e_cons rfl rfl))
      · exact Rf_some hσ2 (by decide) (by decide)
    · refine Rf_rd rfl hx0 (fun hb2 => ?_)
      refine Rf_rd2 rfl hb2 ?_
      refine Rf_bnd hX hσ1 (zrs_cons (hσ1.2.1 _ _) (zrs_cons (hσ1.2.1 _ _) (zrs_cons (by decide) (zrs_cons (by decide) (zrs_cons (by decide) zrs_nil))))) (e_cons (e_rd rfl hb2) (e_cons (e_rd rfl hb2) (e_cons (by decide) (e_cons (by decide) (e_cons (by decide) rfl))))) (fun σ3 r3 hσ3 hr3 => ?_)
      refine Rf_eq rfl (by decide) (hσ3.1 3000) (by decide) (fun _ => ?_) (fun _ => ?_)
      · exact Rf_tail hX hσ3 (zrs_cons hx0 (zrs_cons hx1 zrs_nil)) (e_cons rfl (e_cons rfl rfl))
      · exact Rf_some hσ3 (by decide) (by decide)
  · exact Rf_some hσ1 (by decide) (by decide)
theorem rW_clauses_241 (rz rzx : zF) (rm rmx : mF) (hR : Rc rz rm) (hX : Rc rzx rmx) (β : Nat) (σ : zS) (hσ : zOK σ) (x0 x1 x2 x3 : Int) (hx0 : zr x0) (hx1 : zr x1) (hx2 : zr x2) (hx3 : zr x3) : Rf (kW_clauses_241 rz rzx β σ x0 x1 x2 x3) (kX_clauses_241 rm rmx (cv σ) (i32 x0) (i32 x1) (i32 x2) (i32 x3)) β := by
  unfold kW_clauses_241 kX_clauses_241
  refine Rf_rd rfl hx0 (fun hb1 => ?_)
  refine Rf_nz (by decide) ?_
  refine Rf_le (e_mod (e_rd rfl hb1) (by decide) (hσ.2.1 _ _) (by decide)) rfl (zr_tmod (hσ.2.1 _ _) _) hx3 (fun _ => ?_) (fun _ => ?_)
  · refine Rf_rd2 rfl hb1 ?_
    refine Rf_bnd hX hσ (zrs_cons (hσ.2.1 _ _) (zrs_cons hx1 zrs_nil)) (e_cons (e_rd rfl hb1) (e_cons rfl rfl)) (fun σ1 r1 hσ1 hr1 => ?_)
    refine Rf_eq rfl (by decide) (hσ1.1 3000) (by decide) (fun _ => ?_) (fun _ => ?_)
    · refine Rf_I rfl hx2 hσ1 (fun σ2 hσ2 => ?_)
      exact Rf_tail hX hσ2 (zrs_cons hx0 (zrs_cons hx1 zrs_nil)) (e_cons rfl (e_cons rfl rfl))
    · exact Rf_some hσ1 (by decide) (by decide)
  · refine Rf_rd2 rfl hb1 ?_
    refine Rf_nz (by decide) ?_
    refine Rf_rd2 rfl hb1 ?_
    refine Rf_eq (e_rd rfl hb1) (by decide) (hσ.2.1 _ _) (by decide) (fun _ => ?_) (fun _ => ?_)
    · refine Rf_g (fun hg2 => ?_)
      refine Rf_g (fun hg3 => ?_)
      exact Rf_tail hX hσ (zrs_cons hx0 (zrs_cons hx1 (zrs_cons hx2 (zrs_cons hx3 (zrs_cons (by decide) (zrs_cons hg3 zrs_nil)))))) (e_cons rfl (e_cons rfl (e_cons rfl (e_cons rfl (e_cons (by decide) (e_cons (e_add (e_div (e_rd rfl hb1) (by decide) (hσ.2.1 _ _) (by decide)) rfl) rfl))))))
    · refine Rf_g (fun hg4 => ?_)
      refine Rf_g (fun hg5 => ?_)
      exact Rf_tail hX hσ (zrs_cons hx0 (zrs_cons hx1 (zrs_cons hx2 (zrs_cons hx3 (zrs_cons (by decide) (zrs_cons hg5 zrs_nil)))))) (e_cons rfl (e_cons rfl (e_cons rfl (e_cons rfl (e_cons (by decide) (e_cons (e_add (e_div (e_rd rfl hb1) (by decide) (hσ.2.1 _ _) (by decide)) rfl) rfl))))))
theorem rW_clauses_286 (rz rzx : zF) (rm rmx : mF) (hR : Rc rz rm) (hX : Rc rzx rmx) (β : Nat) (σ : zS) (hσ : zOK σ) (x0 x1 x2 x3 x4 x5 : Int) (hx0 : zr x0) (hx1 : zr x1) (hx2 : zr x2) (hx3 : zr x3) (hx4 : zr x4) (hx5 : zr x5) : Rf (kW_clauses_286 rz rzx β σ x0 x1 x2 x3 x4 x5) (kX_clauses_286 rm rmx (cv σ) (i32 x0) (i32 x1) (i32 x2) (i32 x3) (i32 x4) (i32 x5)) β := by
  unfold kW_clauses_286 kX_clauses_286
  refine Rf_eq rfl rfl hx4 hx1 (fun _ => ?_) (fun _ => ?_)
  · exact Rf_tail hX hσ (zrs_cons hx0 (zrs_cons hx1 (zrs_cons hx2 (zrs_cons hx3 (zrs_cons (by decide) (zrs_cons hx5 zrs_nil)))))) (e_cons rfl (e_cons rfl (e_cons rfl (e_cons rfl (e_cons (by decide) (e_cons rfl rfl))))))
  · exact Rf_tail hX hσ (zrs_cons hx0 (zrs_cons hx1 (zrs_cons hx2 (zrs_cons hx3 (zrs_cons (by decide) (zrs_cons hx5 zrs_nil)))))) (e_cons rfl (e_cons rfl (e_cons rfl (e_cons rfl (e_cons (by decide) (e_cons rfl rfl))))))
theorem rW_clauses_295 (rz rzx : zF) (rm rmx : mF) (hR : Rc rz rm) (hX : Rc rzx rmx) (β : Nat) (σ : zS) (hσ : zOK σ) (x0 x1 x2 x3 x4 x5 : Int) (hx0 : zr x0) (hx1 : zr x1) (hx2 : zr x2) (hx3 : zr x3) (hx4 : zr x4) (hx5 : zr x5) : Rf (kW_clauses_295 rz rzx β σ x0 x1 x2 x3 x4 x5) (kX_clauses_295 rm rmx (cv σ) (i32 x0) (i32 x1) (i32 x2) (i32 x3) (i32 x4) (i32 x5)) β := by
  unfold kW_clauses_295 kX_clauses_295
  refine Rf_bnd hR hσ (zrs_cons hx5 (zrs_cons hx4 zrs_nil)) (e_cons rfl (e_cons rfl rfl)) (fun σ1 r1 hσ1 hr1 => ?_)
  refine Rf_g (fun hg1 => ?_)
  exact Rf_tail hX hσ1 (zrs_cons hx0 (zrs_cons hx1 (zrs_cons hx2 (zrs_cons hg1 zrs_nil)))) (e_cons rfl (e_cons rfl (e_cons rfl (e_cons (e_add rfl (by decide)) rfl))))
theorem rW_clauses_320 (rz rzx : zF) (rm rmx : mF) (hR : Rc rz rm) (hX : Rc rzx rmx) (β : Nat) (σ : zS) (hσ : zOK σ) (x0 x1 : Int) (hx0 : zr x0) (hx1 : zr x1) : Rf (kW_clauses_320 rz rzx β σ x0 x1) (kX_clauses_320 rm rmx (cv σ) (i32 x0) (i32 x1)) β := by
  unfold kW_clauses_320 kX_clauses_320
  refine Rf_I (by decide) (by decide) hσ (fun u hu => ?_)
  exact Rf_some hu (by decide) (by decide)
theorem rW_atom2 (rz rzx : zF) (rm rmx : mF) (hR : Rc rz rm) (hX : Rc rzx rmx) (β : Nat) (σ : zS) (hσ : zOK σ) (x0 x1 : Int) (hx0 : zr x0) (hx1 : zr x1) : Rf (kW_atom2 rz rzx β σ x0 x1) (kX_atom2 rm rmx (cv σ) (i32 x0) (i32 x1)) β := by
  unfold kW_atom2 kX_atom2
  refine Rf_rd rfl hx0 (fun hb1 => ?_)
  refine Rf_lt (e_rd rfl hb1) (by decide) (hσ.2.1 _ _) (by decide) (fun _ => ?_) (fun _ => ?_)
  · refine Rf_rd2 rfl hb1 ?_
    refine Rf_rd (e_rd rfl hb1) (hσ.2.1 _ _) (fun hb2 => ?_)
    exact Rf_tail hX hσ (zrs_cons hx0 (zrs_cons hx1 (zrs_cons (by decide) (zrs_cons (hσ.2.1 _ _) zrs_nil)))) (e_cons rfl (e_cons rfl (e_cons (by decide) (e_cons (e_rd (e_rd rfl hb1) hb2) rfl))))
  · refine Rf_rd2 rfl hb1 ?_
    refine Rf_bnd hR hσ (zrs_cons (hσ.2.1 _ _) zrs_nil) (e_cons (e_rd rfl hb1) rfl) (fun σ1 r1 hσ1 hr1 => ?_)
    refine Rf_rd2 rfl hb1 ?_
    refine Rf_bnd hR hσ1 (zrs_cons (hσ1.2.1 _ _) zrs_nil) (e_cons (e_rd rfl hb1) rfl) (fun σ2 r2 hσ2 hr2 => ?_)
    refine Rf_g (fun hg3 => ?_)
    exact Rf_tail hX hσ2 (zrs_cons hx0 (zrs_cons hx1 (zrs_cons hg3 zrs_nil))) (e_cons rfl (e_cons rfl (e_cons (e_add rfl rfl) rfl)))
theorem rW_atom2_49 (rz rzx : zF) (rm rmx : mF) (hR : Rc rz rm) (hX : Rc rzx rmx) (β : Nat) (σ : zS) (hσ : zOK σ) (x0 x1 x2 x3 : Int) (hx0 : zr x0) (hx1 : zr x1) (hx2 : zr x2) (hx3 : zr x3) : Rf (kW_atom2_49 rz rzx β σ x0 x1 x2 x3) (kX_atom2_49 rm rmx (cv σ) (i32 x0) (i32 x1) (i32 x2) (i32 x3)) β := by
  unfold kW_atom2_49 kX_atom2_49
  refine Rf_lt rfl (by decide) hx3 (by decide) (fun _ => ?_) (fun _ => ?_)
  · refine Rf_g (fun hg1 => ?_)
    exact Rf_tail hX hσ (zrs_cons hx0 (zrs_cons hx1 (zrs_cons hg1 zrs_nil))) (e_cons rfl (e_cons rfl (e_cons (e_add rfl (by decide)) rfl)))
  · refine Rf_bnd hR hσ (zrs_cons hx3 zrs_nil) (e_cons rfl rfl) (fun σ1 r1 hσ1 hr1 => ?_)
    refine Rf_rd rfl hx3 (fun hb2 => ?_)
    refine Rf_g (fun hg3 => ?_)
    exact Rf_tail hX hσ1 (zrs_cons hx0 (zrs_cons hx1 (zrs_cons (zr_ite hg3 (by decide)) (zrs_cons (hσ1.2.1 _ _) zrs_nil)))) (e_cons rfl (e_cons rfl (e_cons (e_ite (e_add rfl rfl) (by decide) hg3 (by decide) (e_add rfl rfl) (by decide)) (e_cons (e_rd rfl hb2) rfl))))
theorem rW_atom2_84 (rz rzx : zF) (rm rmx : mF) (hR : Rc rz rm) (hX : Rc rzx rmx) (β : Nat) (σ : zS) (hσ : zOK σ) (x0 x1 x2 : Int) (hx0 : zr x0) (hx1 : zr x1) (hx2 : zr x2) : Rf (kW_atom2_84 rz rzx β σ x0 x1 x2) (kX_atom2_84 rm rmx (cv σ) (i32 x0) (i32 x1) (i32 x2)) β := by
  unfold kW_atom2_84 kX_atom2_84
  refine Rf_le rfl (by decide) hx2 (by decide) (fun _ => ?_) (fun _ => ?_)
  · refine Rf_rd rfl hx0 (fun hb1 => ?_)
    refine Rf_lt (e_rd rfl hb1) (by decide) (hσ.2.1 _ _) (by decide) (fun _ => ?_) (fun _ => ?_)
    · refine Rf_rd2 rfl hb1 ?_
      refine Rf_rd (e_rd rfl hb1) (hσ.2.1 _ _) (fun hb2 => ?_)
      refine Rf_rd2 rfl hb1 ?_
      refine Rf_rd2 (e_rd rfl hb1) hb2 ?_
      refine Rf_bnd hR hσ (zrs_cons (hσ.2.1 _ _) (zrs_cons (hσ.2.1 _ _) zrs_nil)) (e_cons (e_rd (e_rd rfl hb1) hb2) (e_cons (e_rd (e_rd rfl hb1) hb2) rfl)) (fun σ1 r1 hσ1 hr1 => ?_)
      refine Rf_g (fun hg3 => ?_)
      exact Rf_tail hX hσ1 (zrs_cons hx0 (zrs_cons hx1 (zrs_cons hx2 (zrs_cons hg3 (zrs_cons hr1 (zrs_cons hg3 zrs_nil)))))) (e_cons rfl (e_cons rfl (e_cons rfl (e_cons (e_mul (by decide) rfl) (e_cons rfl (e_cons (e_mul (by decide) rfl) rfl))))))
    · refine Rf_rd2 rfl hb1 ?_
      refine Rf_bnd hR hσ (zrs_cons (hσ.2.1 _ _) zrs_nil) (e_cons (e_rd rfl hb1) rfl) (fun σ2 r2 hσ2 hr2 => ?_)
      refine Rf_g (fun hg4 => ?_)
      exact Rf_tail hX hσ2 (zrs_cons hx0 (zrs_cons hx1 (zrs_cons hx2 (zrs_cons hg4 (zrs_cons hr2 (zrs_cons hg4 zrs_nil)))))) (e_cons rfl (e_cons rfl (e_cons rfl (e_cons (e_mul (by decide) rfl) (e_cons rfl (e_cons (e_mul (by decide) rfl) rfl))))))
  · refine Rf_I (by decide) (by decide) hσ (fun u hu => ?_)
    exact Rf_some hu (by decide) (by decide)
theorem rW_atom2_161 (rz rzx : zF) (rm rmx : mF) (hR : Rc rz rm) (hX : Rc rzx rmx) (β : Nat) (σ : zS) (hσ : zOK σ) (x0 x1 x2 x3 x4 x5 : Int) (hx0 : zr x0) (hx1 : zr x1) (hx2 : zr x2) (hx3 : zr x3) (hx4 : zr x4) (hx5 : zr x5) : Rf (kW_atom2_161 rz rzx β σ x0 x1 x2 x3 x4 x5) (kX_atom2_161 rm rmx (cv σ) (i32 x0) (i32 x1) (i32 x2) (i32 x3) (i32 x4) (i32 x5)) β := by
  unfold kW_atom2_161 kX_atom2_161
  refine Rf_rd rfl hx5 (fun hb1 => ?_)
  refine Rf_A rfl hb1 rfl hx4 hσ (fun σ1 hσ1 => ?_)
  refine Rf_rd rfl hx0 (fun hb2 => ?_)
  refine Rf_lt (e_rd rfl hb2) (by decide) (hσ1.2.1 _ _) (by decide) (fun _ => ?_) (fun _ => ?_)
  · refine Rf_bnd hR hσ1 (zrs_cons (by decide) zrs_nil) (e_cons (by decide) rfl) (fun σ2 r2 hσ2 hr2 => ?_)
    refine Rf_g (fun hg3 => ?_)
    exact Rf_tail hX hσ2 (zrs_cons hx0 (zrs_cons hx1 (zrs_cons hx2 (zrs_cons hx3 (zrs_cons hr2 (zrs_cons hg3 zrs_nil)))))) (e_cons rfl (e_cons rfl (e_cons rfl (e_cons rfl (e_cons rfl (e_cons (e_add rfl (by decide)) rfl))))))
  · refine Rf_rd2 rfl hb2 ?_
    refine Rf_bnd hR hσ1 (zrs_cons (hσ1.2.1 _ _) zrs_nil) (e_cons (e_rd rfl hb2) rfl) (fun σ3 r3 hσ3 hr3 => ?_)
    refine Rf_g (fun hg4 => ?_)
    exact Rf_tail hX hσ3 (zrs_cons hx0 (zrs_cons hx1 (zrs_cons hx2 (zrs_cons hx3 (zrs_cons hr3 (zrs_cons hg4 zrs_nil)))))) (e_cons rfl (e_cons rfl (e_cons rfl (e_cons rfl (e_cons rfl (e_cons (e_add rfl (by decide)) rfl))))))
theorem rW_atom2_197 (rz rzx : zF) (rm rmx : mF) (hR : Rc rz rm) (hX : Rc rzx rmx) (β : Nat) (σ : zS) (hσ : zOK σ) (x0 x1 x2 x3 x4 x5 : Int) (hx0 : zr x0) (hx1 : zr x1) (hx2 : zr x2) (hx3 : zr x3) (hx4 : zr x4) (hx5 : zr x5) : Rf (kW_atom2_197 rz rzx β σ x0 x1 x2 x3 x4 x5) (kX_atom2_197 rm rmx (cv σ) (i32 x0) (i32 x1) (i32 x2) (i32 x3) (i32 x4) (i32 x5)) β := by
  unfold kW_atom2_197 kX_atom2_197
  refine Rf_rd rfl hx5 (fun hb1 => ?_)
  refine Rf_A rfl hb1 rfl hx4 hσ (fun σ1 hσ1 => ?_)
  refine Rf_eq rfl (by decide) hx1 (by decide) (fun _ => ?_) (fun _ => ?_)
  · refine Rf_g (fun hg2 => ?_)
    exact Rf_tail hX hσ1 (zrs_cons hx0 (zrs_cons hx1 (zrs_cons hx2 (zrs_cons hx3 (zrs_cons (by decide) (zrs_cons hg2 zrs_nil)))))) (e_cons rfl (e_cons rfl (e_cons rfl (e_cons rfl (e_cons (by decide) (e_cons (e_add rfl (by decide)) rfl))))))
  · refine Rf_g (fun hg3 => ?_)
    exact Rf_tail hX hσ1 (zrs_cons hx0 (zrs_cons hx1 (zrs_cons hx2 (zrs_cons hx3 (zrs_cons (by decide) (zrs_cons hg3 zrs_nil)))))) (e_cons rfl (e_cons rfl (e_cons rfl (e_cons rfl (e_cons (by decide) (e_cons (e_add rfl (by decide)) rfl))))))
theorem rW_atom2_215 (rz rzx : zF) (rm rmx : mF) (hR : Rc rz rm) (hX : Rc rzx rmx) (β : Nat) (σ : zS) (hσ : zOK σ) (x0 x1 x2 x3 x4 x5 : Int) (hx0 : zr x0) (hx1 : zr x1) (hx2 : zr x2) (hx3 : zr x3) (hx4 : zr x4) (hx5 : zr x5) : Rf (kW_atom2_215 rz rzx β σ x0 x1 x2 x3 x4 x5) (kX_atom2_215 rm rmx (cv σ) (i32 x0) (i32 x1) (i32 x2) (i32 x3) (i32 x4) (i32 x5)) β := by
  unfold kW_atom2_215 kX_atom2_215
  refine Rf_rd rfl hx5 (fun hb1 => ?_)
  refine Rf_A rfl hb1 rfl hx4 hσ (fun σ1 hσ1 => ?_)
  refine Rf_g (fun hg2 => ?_)
  refine Rf_I (e_add rfl (by decide)) hg2 hσ1 (fun σ2 hσ2 => ?_)
  refine Rf_rd rfl (hσ1.1 65) (fun hb3 => ?_)
  refine Rf_A rfl hb3 (by decide) (by decide) hσ2 (fun σ3 hσ3 => ?_)
  refine Rf_I (by decide) (by decide) hσ3 (fun u hu => ?_)
  exact Rf_some hu (by decide) (by decide)
theorem rW_joined2 (rz rzx : zF) (rm rmx : mF) (hR : Rc rz rm) (hX : Rc rzx rmx) (β : Nat) (σ : zS) (hσ : zOK σ) (x0 x1 x2 x3 x4 : Int) (hx0 : zr x0) (hx1 : zr x1) (hx2 : zr x2) (hx3 : zr x3) (hx4 : zr x4) : Rf (kW_joined2 rz rzx β σ x0 x1 x2 x3 x4) (kX_joined2 rm rmx (cv σ) (i32 x0) (i32 x1) (i32 x2) (i32 x3) (i32 x4)) β := by
  unfold kW_joined2 kX_joined2
  refine Rf_bnd hX hσ (zrs_cons hx0 (zrs_cons hx2 zrs_nil)) (e_cons rfl (e_cons rfl rfl)) (fun σ1 r1 hσ1 hr1 => ?_)
  refine Rf_eq rfl (by decide) (hσ1.1 3000) (by decide) (fun _ => ?_) (fun _ => ?_)
  · refine Rf_bnd hX hσ1 (zrs_cons hx1 (zrs_cons hx3 zrs_nil)) (e_cons rfl (e_cons rfl rfl)) (fun σ2 r2 hσ2 hr2 => ?_)
    refine Rf_eq rfl (by decide) (hσ2.1 3000) (by decide) (fun _ => ?_) (fun _ => ?_)
    · refine Rf_eq rfl (by decide) hx4 (by decide) (fun _ => ?_) (fun _ => ?_)
      · refine Rf_bnd hX hσ2 (zrs_cons (hσ.1 65) (zrs_cons (hσ1.1 65) zrs_nil)) (e_cons rfl (e_cons rfl rfl)) (fun σ3 r3 hσ3 hr3 => ?_)
        refine Rf_eq rfl (by decide) (hσ3.1 3000) (by decide) (fun _ => ?_) (fun _ => ?_)
        · exact Rf_tail hX hσ3 (zrs_cons hx0 (zrs_cons hx1 (zrs_cons hx2 (zrs_cons hx3 (zrs_cons hx4 (zrs_cons (hσ.1 65) (zrs_cons (hσ1.1 65) zrs_nil))))))) (e_cons rfl (e_cons rfl (e_cons rfl (e_cons rfl (e_cons rfl (e_cons rfl (e_cons rfl rfl)))))))
        · exact Rf_some hσ3 (by decide) (by decide)
      · exact Rf_tail hX hσ2 (zrs_cons hx0 (zrs_cons hx1 (zrs_cons hx2 (zrs_cons hx3 (zrs_cons hx4 (zrs_cons (hσ.1 65) (zrs_cons (hσ1.1 65) zrs_nil))))))) (e_cons rfl (e_cons rfl (e_cons rfl (e_cons rfl (e_cons rfl (e_cons rfl (e_cons rfl rfl)))))))
    · exact Rf_some hσ2 (by decide) (by decide)
  · exact Rf_some hσ1 (by decide) (by decide)
theorem rW_joined2_38 (rz rzx : zF) (rm rmx : mF) (hR : Rc rz rm) (hX : Rc rzx rmx) (β : Nat) (σ : zS) (hσ : zOK σ) (x0 x1 x2 x3 x4 x5 x6 : Int) (hx0 : zr x0) (hx1 : zr x1) (hx2 : zr x2) (hx3 : zr x3) (hx4 : zr x4) (hx5 : zr x5) (hx6 : zr x6) : Rf (kW_joined2_38 rz rzx β σ x0 x1 x2 x3 x4 x5 x6) (kX_joined2_38 rm rmx (cv σ) (i32 x0) (i32 x1) (i32 x2) (i32 x3) (i32 x4) (i32 x5) (i32 x6)) β := by
  unfold kW_joined2_38 kX_joined2_38
  refine Rf_I (by decide) (by decide) hσ (fun u hu => ?_)
  exact Rf_some hu (by decide) (by decide)
theorem rW_either (rz rzx : zF) (rm rmx : mF) (hR : Rc rz rm) (hX : Rc rzx rmx) (β : Nat) (σ : zS) (hσ : zOK σ) (x0 x1 : Int) (hx0 : zr x0) (hx1 : zr x1) : Rf (kW_either rz rzx β σ x0 x1) (kX_either rm rmx (cv σ) (i32 x0) (i32 x1)) β := by
  unfold kW_either kX_either
  exact Rf_tail hX hσ (zrs_cons hx0 (zrs_cons hx1 (zrs_cons (hσ.1 65) (zrs_cons hx0 zrs_nil)))) (e_cons rfl (e_cons rfl (e_cons rfl (e_cons rfl rfl))))
theorem rW_either_8 (rz rzx : zF) (rm rmx : mF) (hR : Rc rz rm) (hX : Rc rzx rmx) (β : Nat) (σ : zS) (hσ : zOK σ) (x0 x1 x2 x3 : Int) (hx0 : zr x0) (hx1 : zr x1) (hx2 : zr x2) (hx3 : zr x3) : Rf (kW_either_8 rz rzx β σ x0 x1 x2 x3) (kX_either_8 rm rmx (cv σ) (i32 x0) (i32 x1) (i32 x2) (i32 x3)) β := by
  unfold kW_either_8 kX_either_8
  refine Rf_le rfl rfl hx1 hx3 (fun _ => ?_) (fun _ => ?_)
  · refine Rf_g (fun hg1 => ?_)
    exact Rf_tail hX hσ (zrs_cons hx0 (zrs_cons hx1 (zrs_cons hx2 (zrs_cons hg1 (zrs_cons (by decide) zrs_nil))))) (e_cons rfl (e_cons rfl (e_cons rfl (e_cons (e_sub rfl rfl) (e_cons (by decide) rfl)))))
  · exact Rf_tail hX hσ (zrs_cons hx0 (zrs_cons hx1 (zrs_cons hx2 (zrs_cons hx3 (zrs_cons hx1 zrs_nil))))) (e_cons rfl (e_cons rfl (e_cons rfl (e_cons rfl (e_cons rfl rfl)))))
theorem rW_either_17 (rz rzx : zF) (rm rmx : mF) (hR : Rc rz rm) (hX : Rc rzx rmx) (β : Nat) (σ : zS) (hσ : zOK σ) (x0 x1 x2 x3 x4 : Int) (hx0 : zr x0) (hx1 : zr x1) (hx2 : zr x2) (hx3 : zr x3) (hx4 : zr x4) : Rf (kW_either_17 rz rzx β σ x0 x1 x2 x3 x4) (kX_either_17 rm rmx (cv σ) (i32 x0) (i32 x1) (i32 x2) (i32 x3) (i32 x4)) β := by
  unfold kW_either_17 kX_either_17
  refine Rf_le rfl rfl hx2 hx4 (fun _ => ?_) (fun _ => ?_)
  · refine Rf_g (fun hg1 => ?_)
    exact Rf_tail hX hσ (zrs_cons hx0 (zrs_cons hx1 (zrs_cons hx2 (zrs_cons hg1 zrs_nil)))) (e_cons rfl (e_cons rfl (e_cons rfl (e_cons (e_add rfl (by decide)) rfl))))
  · refine Rf_rd rfl hx3 (fun hb2 => ?_)
    refine Rf_rd rfl hx4 (fun hb3 => ?_)
    refine Rf_g (fun hg4 => ?_)
    refine Rf_le (e_add (e_rd rfl hb2) (e_rd rfl hb3)) (by decide) hg4 (by decide) (fun _ => ?_) (fun _ => ?_)
    · refine Rf_rd2 rfl hb2 ?_
      refine Rf_g (fun hg5 => ?_)
      refine Rf_g (fun hg6 => ?_)
      refine Rf_cp (e_mul (by decide) rfl) (e_mul (by decide) rfl) (e_rd rfl hb2) hg5 hg6 (hσ.2.1 _ _) (fun hb7 => ?_)
      refine Rf_Cp rfl rfl (e_mul (by decide) rfl) (e_mul (by decide) rfl) (e_rd rfl hb2) hb7 hσ (fun σ1 hσ1 => ?_)
      refine Rf_rd2 rfl hb2 ?_
      refine Rf_rd2 rfl hb3 ?_
      refine Rf_g (fun hg8 => ?_)
      refine Rf_g (fun hg9 => ?_)
      refine Rf_g (fun hg10 => ?_)
      refine Rf_cp (e_mul (by decide) rfl) (e_add (e_mul (by decide) rfl) (e_rd rfl hb2)) (e_rd rfl hb3) hg8 hg10 (hσ1.2.1 _ _) (fun hb11 => ?_)
      refine Rf_Cp rfl rfl (e_mul (by decide) rfl) (e_add (e_mul (by decide) rfl) (e_rd rfl hb2)) (e_rd rfl hb3) hb11 hσ1 (fun σ2 hσ2 => ?_)
      refine Rf_rd2 rfl hb2 ?_
      refine Rf_rd2 rfl hb3 ?_
      refine Rf_rd rfl (hσ2.1 65) (fun hb12 => ?_)
      refine Rf_g (fun hg13 => ?_)
      refine Rf_A rfl hb12 (e_add (e_rd rfl hb2) (e_rd rfl hb3)) hg13 hσ2 (fun σ3 hσ3 => ?_)
      refine Rf_g (fun hg14 => ?_)
      refine Rf_I (e_add rfl (by decide)) hg14 hσ3 (fun σ4 hσ4 => ?_)
      refine Rf_g (fun hg15 => ?_)
      exact Rf_tail hX hσ4 (zrs_cons hx0 (zrs_cons hx1 (zrs_cons hx2 (zrs_cons hx3 (zrs_cons hg15 zrs_nil))))) (e_cons rfl (e_cons rfl (e_cons rfl (e_cons rfl (e_cons (e_add rfl (by decide)) rfl)))))
    · refine Rf_I (by decide) (by decide) hσ (fun u hu => ?_)
      exact Rf_some hu (by decide) (by decide)
theorem rW_either_176 (rz rzx : zF) (rm rmx : mF) (hR : Rc rz rm) (hX : Rc rzx rmx) (β : Nat) (σ : zS) (hσ : zOK σ) (x0 x1 x2 x3 x4 : Int) (hx0 : zr x0) (hx1 : zr x1) (hx2 : zr x2) (hx3 : zr x3) (hx4 : zr x4) : Rf (kW_either_176 rz rzx β σ x0 x1 x2 x3 x4) (kX_either_176 rm rmx (cv σ) (i32 x0) (i32 x1) (i32 x2) (i32 x3) (i32 x4)) β := by
  unfold kW_either_176 kX_either_176
  refine Rf_le rfl rfl hx3 hx4 (fun _ => ?_) (fun _ => ?_)
  · refine Rf_g (fun hg1 => ?_)
    refine Rf_I (e_add rfl rfl) hg1 hσ (fun σ1 hσ1 => ?_)
    refine Rf_I (by decide) (by decide) hσ1 (fun u hu => ?_)
    exact Rf_some hu (by decide) (by decide)
  · refine Rf_g (fun hg2 => ?_)
    refine Rf_rd (e_add rfl rfl) hg2 (fun hb3 => ?_)
    refine Rf_g (fun hg4 => ?_)
    refine Rf_g (fun hg5 => ?_)
    refine Rf_g (fun hg6 => ?_)
    refine Rf_cp (e_mul (by decide) (e_add rfl rfl)) (e_mul (by decide) (e_add rfl rfl)) (e_rd (e_add rfl rfl) hb3) hg4 hg6 (hσ.2.1 _ _) (fun hb7 => ?_)
    refine Rf_Cp rfl rfl (e_mul (by decide) (e_add rfl rfl)) (e_mul (by decide) (e_add rfl rfl)) (e_rd (e_add rfl rfl) hb3) hb7 hσ (fun σ2 hσ2 => ?_)
    refine Rf_rd2 (e_add rfl rfl) hb3 ?_
    refine Rf_rd (e_add rfl rfl) hg5 (fun hb8 => ?_)
    refine Rf_A (e_add rfl rfl) hb8 (e_rd (e_add rfl rfl) hb3) (hσ2.2.1 _ _) hσ2 (fun σ3 hσ3 => ?_)
    refine Rf_g (fun hg9 => ?_)
    exact Rf_tail hX hσ3 (zrs_cons hx0 (zrs_cons hx1 (zrs_cons hx2 (zrs_cons hx3 (zrs_cons hg9 zrs_nil))))) (e_cons rfl (e_cons rfl (e_cons rfl (e_cons rfl (e_cons (e_add rfl (by decide)) rfl)))))
theorem rW_read (rz rzx : zF) (rm rmx : mF) (hR : Rc rz rm) (hX : Rc rzx rmx) (β : Nat) (σ : zS) (hσ : zOK σ) : Rf (kW_read rz rzx β σ) (kX_read rm rmx (cv σ)) β := by
  unfold kW_read kX_read
  refine Rf_I (by decide) (by decide) hσ (fun σ1 hσ1 => ?_)
  refine Rf_I (by decide) (by decide) hσ1 (fun σ2 hσ2 => ?_)
  refine Rf_I (by decide) (by decide) hσ2 (fun σ3 hσ3 => ?_)
  refine Rf_I (by decide) (by decide) hσ3 (fun σ4 hσ4 => ?_)
  refine Rf_I (by decide) (by decide) hσ4 (fun σ5 hσ5 => ?_)
  refine Rf_I (by decide) (by decide) hσ5 (fun σ6 hσ6 => ?_)
  refine Rf_I (by decide) (by decide) hσ6 (fun σ7 hσ7 => ?_)
  refine Rf_I (by decide) (by decide) hσ7 (fun σ8 hσ8 => ?_)
  refine Rf_I (by decide) (by decide) hσ8 (fun σ9 hσ9 => ?_)
  refine Rf_I (by decide) (by decide) hσ9 (fun σ10 hσ10 => ?_)
  refine Rf_I (by decide) (by decide) hσ10 (fun σ11 hσ11 => ?_)
  refine Rf_I (by decide) (by decide) hσ11 (fun σ12 hσ12 => ?_)
  refine Rf_I (by decide) (by decide) hσ12 (fun σ13 hσ13 => ?_)
  exact Rf_tail hX hσ13 zrs_nil rfl
theorem rW_read_65 (rz rzx : zF) (rm rmx : mF) (hR : Rc rz rm) (hX : Rc rzx rmx) (β : Nat) (σ : zS) (hσ : zOK σ) : Rf (kW_read_65 rz rzx β σ) (kX_read_65 rm rmx (cv σ)) β := by
  unfold kW_read_65 kX_read_65
  refine Rf_I (by decide) (by decide) hσ (fun σ1 hσ1 => ?_)
  refine Rf_I (by decide) (by decide) hσ1 (fun σ2 hσ2 => ?_)
  refine Rf_I (by decide) (by decide) hσ2 (fun σ3 hσ3 => ?_)
  refine Rf_I (by decide) (by decide) hσ3 (fun σ4 hσ4 => ?_)
  refine Rf_I (by decide) (by decide) hσ4 (fun σ5 hσ5 => ?_)
  refine Rf_I (by decide) (by decide) hσ5 (fun σ6 hσ6 => ?_)
  refine Rf_I (by decide) (by decide) hσ6 (fun σ7 hσ7 => ?_)
  refine Rf_I (by decide) (by decide) hσ7 (fun σ8 hσ8 => ?_)
  refine Rf_I (by decide) (by decide) hσ8 (fun σ9 hσ9 => ?_)
  refine Rf_I (by decide) (by decide) hσ9 (fun σ10 hσ10 => ?_)
  refine Rf_I (by decide) (by decide) hσ10 (fun σ11 hσ11 => ?_)
  refine Rf_I (by decide) (by decide) hσ11 (fun σ12 hσ12 => ?_)
  refine Rf_rd (by decide) (by decide) (fun hb1 => ?_)
  have hg2 : (1 : Int) = 0 ∨ (1 : Int) = 1 := by decide
  refine Rf_A (by decide) hb1 (e_bool (by decide) hg2) (by decide) hσ12 (fun σ13 hσ13 => ?_)
  refine Rf_rd2 (by decide) hb1 ?_
  refine Rf_A (by decide) hb1 (by decide) (by decide) hσ13 (fun σ14 hσ14 => ?_)
  exact Rf_tail hX hσ14 zrs_nil rfl
theorem rW_read_139 (rz rzx : zF) (rm rmx : mF) (hR : Rc rz rm) (hX : Rc rzx rmx) (β : Nat) (σ : zS) (hσ : zOK σ) : Rf (kW_read_139 rz rzx β σ) (kX_read_139 rm rmx (cv σ)) β := by
  unfold kW_read_139 kX_read_139
  refine Rf_bnd hX hσ zrs_nil rfl (fun σ1 r1 hσ1 hr1 => ?_)
  refine Rf_eq rfl (by decide) (hσ1.1 3000) (by decide) (fun _ => ?_) (fun _ => ?_)
  · refine Rf_bnd hX hσ1 zrs_nil rfl (fun σ2 r2 hσ2 hr2 => ?_)
    refine Rf_eq rfl (by decide) (hσ2.1 3000) (by decide) (fun _ => ?_) (fun _ => ?_)
    · exact Rf_tail hX hσ2 zrs_nil rfl
    · refine Rf_eq rfl (by decide) (hσ2.1 3000) (by decide) (fun _ => ?_) (fun _ => ?_)
      · refine Rf_I rfl (hσ2.1 3003) hσ2 (fun σ3 hσ3 => ?_)
        refine Rf_I rfl (hσ2.1 3004) hσ3 (fun σ4 hσ4 => ?_)
        refine Rf_I (by decide) (by decide) hσ4 (fun σ5 hσ5 => ?_)
        refine Rf_I (by decide) (by decide) hσ5 (fun σ6 hσ6 => ?_)
        refine Rf_I (by decide) (by decide) hσ6 (fun σ7 hσ7 => ?_)
        refine Rf_I (by decide) (by decide) hσ7 (fun σ8 hσ8 => ?_)
        exact Rf_tail hX hσ8 zrs_nil rfl
      · exact Rf_none
  · refine Rf_eq rfl (by decide) (hσ1.1 3000) (by decide) (fun _ => ?_) (fun _ => ?_)
    · refine Rf_I rfl (hσ1.1 3003) hσ1 (fun σ9 hσ9 => ?_)
      refine Rf_I rfl (hσ1.1 3004) hσ9 (fun σ10 hσ10 => ?_)
      refine Rf_I (by decide) (by decide) hσ10 (fun σ11 hσ11 => ?_)
      refine Rf_I (by decide) (by decide) hσ11 (fun σ12 hσ12 => ?_)
      refine Rf_I (by decide) (by decide) hσ12 (fun σ13 hσ13 => ?_)
      refine Rf_I (by decide) (by decide) hσ13 (fun σ14 hσ14 => ?_)
      exact Rf_tail hX hσ14 zrs_nil rfl
    · exact Rf_none
theorem rW_read_187 (rz rzx : zF) (rm rmx : mF) (hR : Rc rz rm) (hX : Rc rzx rmx) (β : Nat) (σ : zS) (hσ : zOK σ) : Rf (kW_read_187 rz rzx β σ) (kX_read_187 rm rmx (cv σ)) β := by
  unfold kW_read_187 kX_read_187
  refine Rf_I (by decide) (by decide) hσ (fun σ1 hσ1 => ?_)
  refine Rf_I rfl (hσ1.1 84) hσ1 (fun σ2 hσ2 => ?_)
  refine Rf_le rfl (by decide) (hσ2.1 5) (by decide) (fun _ => ?_) (fun _ => ?_)
  · refine Rf_I (by decide) (by decide) hσ2 (fun u hu => ?_)
    exact Rf_some hu (hσ2.1 84) rfl
  · refine Rf_I (by decide) (by decide) hσ2 (fun u hu => ?_)
    exact Rf_some hu (by decide) (by decide)
