def kY_CP_count (rec : zF) (β : Nat) (σ : zS) (x0 : Int) : Option zR := if x0 < 0 ∨ 13 < x0 then (some (σ, (-1))) else (if x0 = 0 then (some (σ, (σ.1 5402))) else (if x0 = 1 then (some (σ, (σ.1 5403))) else (if x0 = 2 then (if 1 ≤ β then (zbd (rec tC_Sto_howMany (β - 1) σ [0]) (fun σ1 r1 => some (σ1, r1))) else none) else (if x0 = 3 then (if 1 ≤ β then (zbd (rec tC_Sto_howMany (β - 1) σ [1]) (fun σ2 r2 => some (σ2, r2))) else none) else (if x0 = 4 then (some (σ, (σ.1 5301))) else (if x0 = 5 then (some (σ, (σ.1 5302))) else (if x0 = 6 then (some (σ, (σ.1 5303))) else (if x0 = 7 then (some (σ, (σ.1 5304))) else (if x0 = 8 then (some (σ, (σ.1 5305))) else (if x0 = 9 then (some (σ, (σ.1 5306))) else (if x0 = 10 then (some (σ, (σ.1 5300))) else (if x0 = 11 then (some (σ, (σ.1 605))) else (if x0 = 12 then (some (σ, (σ.1 101))) else (some (σ, (σ.1 301))))))))))))))))
def kY_CP_fault (rec : zF) (β : Nat) (σ : zS) (x0 : Int) : Option zR := if x0 = 0 then (some (σ, (σ.1 10))) else (if x0 = 1 then (rec tC_CP_fault_p22 β σ [x0, (σ.1 11)]) else (rec tC_CP_fault_p22 β σ [x0, (-1)]))
def kY_CP_fault_p22 (rec : zF) (β : Nat) (σ : zS) (x0 x1 : Int) : Option zR := some (σ, x1)
def kY_CP_proof (rec : zF) (β : Nat) (σ : zS) : Option zR := some (σ, (σ.1 5501))
def kY_Dra_cellOf (rec : zF) (β : Nat) (σ : zS) (x0 : Int) : Option zR := if zb x0 300 then (if (σ.2.1 46 x0) = (-1) then (if (σ.1 3911) = 6 then (lt_ (zI σ 3907 1) (fun σ1 => rec tC_Dra_cellOf_p64 β σ1 [x0])) else (rec tC_Dra_cellOf_p27 β σ [x0])) else (rec tC_Dra_cellOf_p27 β σ [x0])) else none
def kY_Dra_cellOf_p27 (rec : zF) (β : Nat) (σ : zS) (x0 : Int) : Option zR := if zb x0 300 then (if (σ.2.1 46 x0) = (-1) then (if zb (σ.1 3911) 6 then (lt_ (zA σ 44 (σ.1 3911) x0) (fun σ1 => if zr ((σ1.1 3911) + 1) then (lt_ (zI σ1 3911 ((σ1.1 3911) + 1)) (fun σ2 => lt_ (zA σ2 46 x0 (σ1.1 3911)) (fun σ3 => rec tC_Dra_cellOf_p64 β σ3 [x0]))) else none)) else none) else (rec tC_Dra_cellOf_p64 β σ [x0])) else none
def kY_Dra_cellOf_p64 (rec : zF) (β : Nat) (σ : zS) (x0 : Int) : Option zR := if zb x0 300 then (some (σ, (-1 - (if (σ.2.1 46 x0) < 0 then 0 else (σ.2.1 46 x0))))) else none
def kY_Dra_clear (rec : zF) (β : Nat) (σ : zS) : Option zR := rec tC_Dra_clear_p2 β σ [0]
def kY_Dra_clear_p2 (rec : zF) (β : Nat) (σ : zS) (x0 : Int) : Option zR := if (σ.1 3911) ≤ x0 then (lt_ (zI σ 3911 0) (fun σ1 => lt_ (zI σ1 3904 0) (fun σ2 => lt_ (zI σ2 3905 0) (fun σ3 => lt_ (zI σ3 3907 0) (fun σ4 => some (σ4, 0)))))) else (if zb x0 6 then (if zb (σ.2.1 44 x0) 300 then (lt_ (zA σ 46 (σ.2.1 44 x0) (-1)) (fun σ5 => if zr (x0 + 1) then (rec tC_Dra_clear_p2 β σ5 [(x0 + 1)]) else none)) else none) else none)
def kY_Dra_closeLiteral (rec : zF) (β : Nat) (σ : zS) : Option zR := if (σ.1 3907) = 0 then (if zr ((σ.1 3905) + 1) then (lt_ (zI σ 3905 ((σ.1 3905) + 1)) (fun σ1 => if zb (σ1.1 3905) 9 then (lt_ (zA σ1 41 (σ1.1 3905) (σ1.1 3904)) (fun σ2 => rec tC_Dra_closeLiteral_p30 β σ2 [])) else none)) else none) else (rec tC_Dra_closeLiteral_p30 β σ [])
def kY_Dra_closeLiteral_p30 (rec : zF) (β : Nat) (σ : zS) : Option zR := some (σ, 0)
def kY_Dra_hasSameSides (rec : zF) (β : Nat) (σ : zS) (x0 x1 : Int) : Option zR := if zb x0 8 then (if zb x0 9 then (if zr (x0 + 1) then (if zb (x0 + 1) 9 then (if zb x1 8 then (if zb x1 9 then (if zr (x1 + 1) then (if zb (x1 + 1) 9 then (if zr ((σ.2.1 42 x0) - (σ.2.1 41 x0)) then (if zr ((σ.2.1 42 x1) - (σ.2.1 41 x1)) then (if 1 ≤ β then (zbd (rec tC_Dra_isSame (β - 1) σ [(σ.2.1 41 x0), ((σ.2.1 42 x0) - (σ.2.1 41 x0)), (σ.2.1 41 x1), ((σ.2.1 42 x1) - (σ.2.1 41 x1))]) (fun σ1 r1 => if r1 = 0 then (if zr ((σ.2.1 41 (x0 + 1)) - (σ.2.1 42 x0)) then (if zr ((σ.2.1 41 (x1 + 1)) - (σ.2.1 42 x1)) then (rec tC_Dra_hasSameSides_p108 β σ1 [x0, x1, ((σ.2.1 42 x0) - (σ.2.1 41 x0)), ((σ.2.1 41 (x0 + 1)) - (σ.2.1 42 x0)), ((σ.2.1 42 x1) - (σ.2.1 41 x1)), ((σ.2.1 41 (x1 + 1)) - (σ.2.1 42 x1))]) else none) else none) else (if zr ((σ.2.1 41 (x0 + 1)) - (σ.2.1 42 x0)) then (if zr ((σ.2.1 41 (x1 + 1)) - (σ.2.1 42 x1)) then (if 1 ≤ β then (zbd (rec tC_Dra_isSame (β - 1) σ1 [(σ1.2.1 42 x0), ((σ.2.1 41 (x0 + 1)) - (σ.2.1 42 x0)), (σ1.2.1 42 x1), ((σ.2.1 41 (x1 + 1)) - (σ.2.1 42 x1))]) (fun σ2 r2 => if r2 = 0 then (rec tC_Dra_hasSameSides_p108 β σ2 [x0, x1, ((σ.2.1 42 x0) - (σ.2.1 41 x0)), ((σ.2.1 41 (x0 + 1)) - (σ.2.1 42 x0)), ((σ.2.1 42 x1) - (σ.2.1 41 x1)), ((σ.2.1 41 (x1 + 1)) - (σ.2.1 42 x1))]) else (rec tC_Dra_hasSameSides_p153 β σ2 [x0, x1, ((σ.2.1 42 x0) - (σ.2.1 41 x0)), ((σ.2.1 41 (x0 + 1)) - (σ.2.1 42 x0)), ((σ.2.1 42 x1) - (σ.2.1 41 x1)), ((σ.2.1 41 (x1 + 1)) - (σ.2.1 42 x1))]))) else none) else none) else none))) else none) else none) else none) else none) else none) else none) else none) else none) else none) else none) else none
def kY_Dra_hasSameSides_p108 (rec : zF) (β : Nat) (σ : zS) (x0 x1 x2 x3 x4 x5 : Int) : Option zR := if zb x0 9 then (if zb x1 8 then (if 1 ≤ β then (zbd (rec tC_Dra_isSame (β - 1) σ [(σ.2.1 41 x0), x2, (σ.2.1 42 x1), x5]) (fun σ1 r1 => if r1 = 0 then (rec tC_Dra_hasSameSides_p157 β σ1 [x0, x1, x2, x3, x4, x5]) else (if zb x0 8 then (if zb x1 9 then (if 1 ≤ β then (zbd (rec tC_Dra_isSame (β - 1) σ1 [(σ1.2.1 42 x0), x3, (σ1.2.1 41 x1), x4]) (fun σ2 r2 => if r2 = 0 then (rec tC_Dra_hasSameSides_p157 β σ2 [x0, x1, x2, x3, x4, x5]) else (rec tC_Dra_hasSameSides_p153 β σ2 [x0, x1, x2, x3, x4, x5]))) else none) else none) else none))) else none) else none) else none
def kY_Dra_hasSameSides_p153 (rec : zF) (β : Nat) (σ : zS) (x0 x1 x2 x3 x4 x5 : Int) : Option zR := rec tC_Dra_hasSameSides_p158 β σ [x0, x1, x2, x3, x4, x5, 1]
def kY_Dra_hasSameSides_p157 (rec : zF) (β : Nat) (σ : zS) (x0 x1 x2 x3 x4 x5 : Int) : Option zR := rec tC_Dra_hasSameSides_p158 β σ [x0, x1, x2, x3, x4, x5, 0]
def kY_Dra_hasSameSides_p158 (rec : zF) (β : Nat) (σ : zS) (x0 x1 x2 x3 x4 x5 x6 : Int) : Option zR := if x6 = 0 ∨ x6 = 1 then (some (σ, x6)) else none
def kY_Dra_isSame (rec : zF) (β : Nat) (σ : zS) (x0 x1 x2 x3 : Int) : Option zR := if x1 = x3 then (rec tC_Dra_isSame_p11 β σ [x0, x1, x2, x3, 1]) else (rec tC_Dra_isSame_p11 β σ [x0, x1, x2, x3, 0])
def kY_Dra_isSame_p11 (rec : zF) (β : Nat) (σ : zS) (x0 x1 x2 x3 x4 : Int) : Option zR := rec tC_Dra_isSame_p16 β σ [x0, x1, x2, x3, x4, 0]
def kY_Dra_isSame_p16 (rec : zF) (β : Nat) (σ : zS) (x0 x1 x2 x3 x4 x5 : Int) : Option zR := if x1 ≤ x5 then (rec tC_Dra_isSame_p61 β σ [x0, x1, x2, x3, x4, x5]) else (if x4 = 0 then (rec tC_Dra_isSame_p61 β σ [x0, x1, x2, x3, x4, x5]) else (if zr (x0 + x5) then (if zb (x0 + x5) 100 then (if zr (x2 + x5) then (if zb (x2 + x5) 100 then (if (σ.2.1 40 (x0 + x5)) = (σ.2.1 40 (x2 + x5)) then (rec tC_Dra_isSame_p53 β σ [x0, x1, x2, x3, x4, x5, 1]) else (rec tC_Dra_isSame_p53 β σ [x0, x1, x2, x3, x4, x5, 0])) else none) else none) else none) else none))
def kY_Dra_isSame_p53 (rec : zF) (β : Nat) (σ : zS) (x0 x1 x2 x3 x4 x5 x6 : Int) : Option zR := if zr (x5 + 1) then (rec tC_Dra_isSame_p16 β σ [x0, x1, x2, x3, x6, (x5 + 1)]) else none
def kY_Dra_isSame_p61 (rec : zF) (β : Nat) (σ : zS) (x0 x1 x2 x3 x4 x5 : Int) : Option zR := if x4 = 0 ∨ x4 = 1 then (some (σ, x4)) else none
def kY_Dra_isTautology (rec : zF) (β : Nat) (σ : zS) : Option zR := rec tC_Dra_isTautology_p2 β σ [0]
def kY_Dra_isTautology_p2 (rec : zF) (β : Nat) (σ : zS) (x0 : Int) : Option zR := if (σ.1 3905) ≤ x0 then (some (σ, 0)) else (if zb x0 8 then (if zb x0 9 then (if (σ.2.1 43 x0) = 0 then (if zr ((σ.2.1 42 x0) - (σ.2.1 41 x0)) then (rec tC_Dra_isTautology_p70 β σ [x0, ((σ.2.1 42 x0) - (σ.2.1 41 x0))]) else none) else (if zr (x0 + 1) then (if zb (x0 + 1) 9 then (if zr ((σ.2.1 42 x0) - (σ.2.1 41 x0)) then (if zr ((σ.2.1 41 (x0 + 1)) - (σ.2.1 42 x0)) then (if 1 ≤ β then (zbd (rec tC_Dra_isSame (β - 1) σ [(σ.2.1 41 x0), ((σ.2.1 42 x0) - (σ.2.1 41 x0)), (σ.2.1 42 x0), ((σ.2.1 41 (x0 + 1)) - (σ.2.1 42 x0))]) (fun σ1 r1 => if r1 = 0 then (rec tC_Dra_isTautology_p70 β σ1 [x0, ((σ.2.1 42 x0) - (σ.2.1 41 x0))]) else (some (σ1, 1)))) else none) else none) else none) else none) else none)) else none) else none)
def kY_Dra_isTautology_p70 (rec : zF) (β : Nat) (σ : zS) (x0 x1 : Int) : Option zR := rec tC_Dra_isTautology_p72 β σ [x0, x1, 0]
def kY_Dra_isTautology_p72 (rec : zF) (β : Nat) (σ : zS) (x0 x1 x2 : Int) : Option zR := if x0 ≤ x2 then (if zr (x0 + 1) then (rec tC_Dra_isTautology_p2 β σ [(x0 + 1)]) else none) else (if zb x0 8 then (if zb x2 8 then (if (σ.2.1 43 x0) = (σ.2.1 43 x2) then (rec tC_Dra_isTautology_p103 β σ [x0, x1, x2]) else (if 1 ≤ β then (zbd (rec tC_Dra_hasSameSides (β - 1) σ [x0, x2]) (fun σ1 r1 => if r1 = 0 then (rec tC_Dra_isTautology_p103 β σ1 [x0, x1, x2]) else (some (σ1, 1)))) else none)) else none) else none)
def kY_Dra_isTautology_p103 (rec : zF) (β : Nat) (σ : zS) (x0 x1 x2 : Int) : Option zR := if zr (x2 + 1) then (rec tC_Dra_isTautology_p72 β σ [x0, x1, (x2 + 1)]) else none
def kY_Dra_load (rec : zF) (β : Nat) (σ : zS) (x0 : Int) : Option zR := if 1 ≤ β then (zbd (rec tC_Dra_clear (β - 1) σ []) (fun σ1 r1 => if 1 ≤ β then (zbd (rec tC_Sto_fact (β - 1) σ1 [x0, 8]) (fun σ2 r2 => rec tC_Dra_load_p24 β σ2 [x0, r2, 0])) else none)) else none
def kY_Dra_load_p24 (rec : zF) (β : Nat) (σ : zS) (x0 x1 x2 : Int) : Option zR := if 1 ≤ β then (zbd (rec tC_Sto_fact (β - 1) σ [x0, 3]) (fun σ1 r1 => if r1 ≤ x2 then (some (σ1, 0)) else (if zr (x1 + 0) then (if zb (x1 + 0) (σ1.2.2 48) then (if (σ1.2.1 48 (x1 + 0)) = 1 then (rec tC_Dra_load_p51 β σ1 [x0, x1, x2, 1]) else (rec tC_Dra_load_p51 β σ1 [x0, x1, x2, 0])) else none) else none))) else none
def kY_Dra_load_p51 (rec : zF) (β : Nat) (σ : zS) (x0 x1 x2 x3 : Int) : Option zR := if 1 ≤ β then (zbd (rec tC_Dra_openLiteral (β - 1) σ [x3]) (fun σ1 r1 => if 1 ≤ β then (zbd (rec tC_Sto_sideAt (β - 1) σ1 [x1, 0]) (fun σ2 r2 => rec tC_Dra_load_p63 β σ2 [x0, x1, x2, r2])) else none)) else none
def kY_Dra_load_p63 (rec : zF) (β : Nat) (σ : zS) (x0 x1 x2 x3 : Int) : Option zR := if 1 ≤ β then (zbd (rec tC_Sto_behind (β - 1) σ [x1]) (fun σ1 r1 => if r1 ≤ x3 then (if 1 ≤ β then (zbd (rec tC_Dra_closeLiteral (β - 1) σ1 []) (fun σ2 r2 => if 1 ≤ β then (zbd (rec tC_Sto_behind (β - 1) σ2 [x1]) (fun σ3 r3 => if zr (x2 + 1) then (rec tC_Dra_load_p24 β σ3 [x0, r3, (x2 + 1)]) else none)) else none)) else none) else (if 1 ≤ β then (zbd (rec tC_Sto_sideAt (β - 1) σ1 [x1, 1]) (fun σ4 r4 => if x3 = r4 then (if 1 ≤ β then (zbd (rec tC_Dra_openRight (β - 1) σ4 []) (fun σ5 r5 => rec tC_Dra_load_p90 β σ5 [x0, x1, x2, x3])) else none) else (rec tC_Dra_load_p90 β σ4 [x0, x1, x2, x3]))) else none))) else none
def kY_Dra_load_p90 (rec : zF) (β : Nat) (σ : zS) (x0 x1 x2 x3 : Int) : Option zR := if zb x3 (σ.2.2 48) then (if 1 ≤ β then (zbd (rec tC_Dra_put (β - 1) σ [(σ.2.1 48 x3)]) (fun σ1 r1 => if zr (x3 + 1) then (rec tC_Dra_load_p63 β σ1 [x0, x1, x2, (x3 + 1)]) else none)) else none) else none
def kY_Dra_openLiteral (rec : zF) (β : Nat) (σ : zS) (x0 : Int) : Option zR := if (σ.1 3905) = 8 then (lt_ (zI σ 3907 1) (fun σ3 => some (σ3, 0))) else (if zb (σ.1 3905) 8 then (if x0 = 0 ∨ x0 = 1 then (lt_ (zA σ 43 (σ.1 3905) x0) (fun σ1 => if zb (σ1.1 3905) 9 then (lt_ (zA σ1 41 (σ1.1 3905) (σ1.1 3904)) (fun σ2 => some (σ2, 0))) else none)) else none) else none)
def kY_Dra_openRight (rec : zF) (β : Nat) (σ : zS) : Option zR := if (σ.1 3907) = 0 then (if zb (σ.1 3905) 8 then (lt_ (zA σ 42 (σ.1 3905) (σ.1 3904)) (fun σ1 => rec tC_Dra_openRight_p20 β σ1 [])) else none) else (rec tC_Dra_openRight_p20 β σ [])
def kY_Dra_openRight_p20 (rec : zF) (β : Nat) (σ : zS) : Option zR := some (σ, 0)
def kY_Dra_put (rec : zF) (β : Nat) (σ : zS) (x0 : Int) : Option zR := if (σ.1 3904) = 100 then (lt_ (zI σ 3907 1) (fun σ1 => rec tC_Dra_put_p14 β σ1 [x0])) else (rec tC_Dra_put_p14 β σ [x0])
def kY_Dra_put_p14 (rec : zF) (β : Nat) (σ : zS) (x0 : Int) : Option zR := if (σ.1 3907) = 0 then (if zr ((σ.1 3904) + 1) then (lt_ (zI σ 3904 ((σ.1 3904) + 1)) (fun σ1 => if zb (σ.1 3904) 100 then (lt_ (zA σ1 40 (σ.1 3904) x0) (fun σ2 => rec tC_Dra_put_p38 β σ2 [x0])) else none)) else none) else (rec tC_Dra_put_p38 β σ [x0])
def kY_Dra_put_p38 (rec : zF) (β : Nat) (σ : zS) (x0 : Int) : Option zR := some (σ, 0)
def kY_Dra_reduce (rec : zF) (β : Nat) (σ : zS) : Option zR := rec tC_Dra_reduce_p6 β σ [0, 0, 0]
def kY_Dra_reduce_p6 (rec : zF) (β : Nat) (σ : zS) (x0 x1 x2 : Int) : Option zR := if (σ.1 3905) ≤ x2 then (lt_ (zI σ 3905 x0) (fun σ1 => lt_ (zI σ1 3904 x1) (fun σ2 => if 1 ≤ β then (zbd (rec tC_Dra_renumber (β - 1) σ2 []) (fun σ3 r3 => some (σ3, 0))) else none))) else (if zb x2 9 then (if zr (x2 + 1) then (if zb (x2 + 1) 9 then (if zb x2 8 then (if (σ.2.1 43 x2) = 0 then (if zr ((σ.2.1 42 x2) - (σ.2.1 41 x2)) then (if zr ((σ.2.1 41 (x2 + 1)) - (σ.2.1 41 x2)) then (if zr (((σ.2.1 41 (x2 + 1)) - (σ.2.1 41 x2)) - ((σ.2.1 42 x2) - (σ.2.1 41 x2))) then (if 1 ≤ β then (zbd (rec tC_Dra_isSame (β - 1) σ [(σ.2.1 41 x2), ((σ.2.1 42 x2) - (σ.2.1 41 x2)), (σ.2.1 42 x2), (((σ.2.1 41 (x2 + 1)) - (σ.2.1 41 x2)) - ((σ.2.1 42 x2) - (σ.2.1 41 x2)))]) (fun σ4 r4 => if r4 = 0 then (rec tC_Dra_reduce_p81 β σ4 [x0, x1, x2, (σ.2.1 41 x2), ((σ.2.1 41 (x2 + 1)) - (σ.2.1 41 x2)), ((σ.2.1 42 x2) - (σ.2.1 41 x2))]) else (rec tC_Dra_reduce_p82 β σ4 [x0, x1, x2, (σ.2.1 41 x2), ((σ.2.1 41 (x2 + 1)) - (σ.2.1 41 x2)), ((σ.2.1 42 x2) - (σ.2.1 41 x2)), 1]))) else none) else none) else none) else none) else (if zr ((σ.2.1 41 (x2 + 1)) - (σ.2.1 41 x2)) then (if zr ((σ.2.1 42 x2) - (σ.2.1 41 x2)) then (rec tC_Dra_reduce_p81 β σ [x0, x1, x2, (σ.2.1 41 x2), ((σ.2.1 41 (x2 + 1)) - (σ.2.1 41 x2)), ((σ.2.1 42 x2) - (σ.2.1 41 x2))]) else none) else none)) else none) else none) else none) else none)
def kY_Dra_reduce_p81 (rec : zF) (β : Nat) (σ : zS) (x0 x1 x2 x3 x4 x5 : Int) : Option zR := rec tC_Dra_reduce_p82 β σ [x0, x1, x2, x3, x4, x5, 0]
def kY_Dra_reduce_p82 (rec : zF) (β : Nat) (σ : zS) (x0 x1 x2 x3 x4 x5 x6 : Int) : Option zR := rec tC_Dra_reduce_p87 β σ [x0, x1, x2, x3, x4, x5, x6, 0]
def kY_Dra_reduce_p87 (rec : zF) (β : Nat) (σ : zS) (x0 x1 x2 x3 x4 x5 x6 x7 : Int) : Option zR := if x0 ≤ x7 then (rec tC_Dra_reduce_p137 β σ [x0, x1, x2, x3, x4, x5, x6, x7]) else (if x6 = 0 then (if zb x7 8 then (if zb x2 8 then (if (σ.2.1 43 x7) = (σ.2.1 43 x2) then (if 1 ≤ β then (zbd (rec tC_Dra_hasSameSides (β - 1) σ [x2, x7]) (fun σ1 r1 => if r1 = 0 then (rec tC_Dra_reduce_p128 β σ1 [x0, x1, x2, x3, x4, x5, x6, x7]) else (rec tC_Dra_reduce_p129 β σ1 [x0, x1, x2, x3, x4, x5, x6, x7, 1]))) else none) else (rec tC_Dra_reduce_p128 β σ [x0, x1, x2, x3, x4, x5, x6, x7])) else none) else none) else (rec tC_Dra_reduce_p137 β σ [x0, x1, x2, x3, x4, x5, x6, x7]))
def kY_Dra_reduce_p128 (rec : zF) (β : Nat) (σ : zS) (x0 x1 x2 x3 x4 x5 x6 x7 : Int) : Option zR := rec tC_Dra_reduce_p129 β σ [x0, x1, x2, x3, x4, x5, x6, x7, 0]
def kY_Dra_reduce_p129 (rec : zF) (β : Nat) (σ : zS) (x0 x1 x2 x3 x4 x5 x6 x7 x8 : Int) : Option zR := if zr (x7 + 1) then (rec tC_Dra_reduce_p87 β σ [x0, x1, x2, x3, x4, x5, x8, (x7 + 1)]) else none
def kY_Dra_reduce_p137 (rec : zF) (β : Nat) (σ : zS) (x0 x1 x2 x3 x4 x5 x6 x7 : Int) : Option zR := if x6 = 0 then (if zcp x3 x1 x4 100 100 then (lt_ (zCp σ 40 40 x3 x1 x4) (fun σ1 => if zb x2 8 then (if zb x0 8 then (if (σ1.2.1 43 x2) = 0 ∨ (σ1.2.1 43 x2) = 1 then (lt_ (zA σ1 43 x0 (σ1.2.1 43 x2)) (fun σ2 => if zb x0 9 then (lt_ (zA σ2 41 x0 x1) (fun σ3 => if zr (x1 + x5) then (lt_ (zA σ3 42 x0 (x1 + x5)) (fun σ4 => if zr (x0 + 1) then (if zb (x0 + 1) 9 then (if zr (x1 + x4) then (lt_ (zA σ4 41 (x0 + 1) (x1 + x4)) (fun σ5 => rec tC_Dra_reduce_p202 β σ5 [(x0 + 1), (x1 + x4), x2, x3, x4, x5, x6, x7])) else none) else none) else none)) else none)) else none)) else none) else none) else none)) else none) else (rec tC_Dra_reduce_p202 β σ [x0, x1, x2, x3, x4, x5, x6, x7])
def kY_Dra_reduce_p202 (rec : zF) (β : Nat) (σ : zS) (x0 x1 x2 x3 x4 x5 x6 x7 : Int) : Option zR := if zr (x2 + 1) then (rec tC_Dra_reduce_p6 β σ [x0, x1, (x2 + 1)]) else none
def kY_Dra_renumber (rec : zF) (β : Nat) (σ : zS) : Option zR := lt_ (zFl σ 45 (-1) 6) (fun σ1 => lt_ (zI σ1 3906 0) (fun σ2 => rec tC_Dra_renumber_p15 β σ2 [0]))
def kY_Dra_renumber_p15 (rec : zF) (β : Nat) (σ : zS) (x0 : Int) : Option zR := if (σ.1 3904) ≤ x0 then (some (σ, 0)) else (if zb x0 100 then (if 0 ≤ (σ.2.1 40 x0) then (rec tC_Dra_renumber_p82 β σ [x0]) else (if zb (-1 - (σ.2.1 40 x0)) 6 then (if (σ.2.1 45 (-1 - (σ.2.1 40 x0))) = (-1) then (if zr ((σ.1 3906) + 1) then (lt_ (zI σ 3906 ((σ.1 3906) + 1)) (fun σ1 => lt_ (zA σ1 45 (-1 - (σ.2.1 40 x0)) (σ.1 3906)) (fun σ2 => rec tC_Dra_renumber_p68 β σ2 [x0, (-1 - (σ.2.1 40 x0))]))) else none) else (rec tC_Dra_renumber_p68 β σ [x0, (-1 - (σ.2.1 40 x0))])) else none)) else none)
def kY_Dra_renumber_p68 (rec : zF) (β : Nat) (σ : zS) (x0 x1 : Int) : Option zR := if zb x1 6 then (if zb x0 100 then (lt_ (zA σ 40 x0 (-1 - (σ.2.1 45 x1))) (fun σ1 => rec tC_Dra_renumber_p82 β σ1 [x0])) else none) else none
def kY_Dra_renumber_p82 (rec : zF) (β : Nat) (σ : zS) (x0 : Int) : Option zR := if zr (x0 + 1) then (rec tC_Dra_renumber_p15 β σ [(x0 + 1)]) else none
def kY_Dra_replace_68 (rec : zF) (β : Nat) (σ : zS) (x0 x1 : Int) : Option zR := if 1 ≤ β then (zbd (rec tC_Sym_after_40 (β - 1) σ [x0]) (fun σ1 r1 => if zcp 0 x0 x1 100 100 then (lt_ (zCp σ1 68 40 0 x0 x1) (fun σ2 => if zr (x0 + x1) then (if zr ((σ2.1 3904) - r1) then (if zcp r1 (x0 + x1) ((σ2.1 3904) - r1) 100 100 then (lt_ (zCp σ2 40 40 r1 (x0 + x1) ((σ2.1 3904) - r1)) (fun σ3 => if zr (r1 - x0) then (if zr ((r1 - x0) - x1) then (if zr ((σ3.1 3904) - ((r1 - x0) - x1)) then (lt_ (zI σ3 3904 ((σ3.1 3904) - ((r1 - x0) - x1))) (fun σ4 => rec tC_Dra_replace_68_p70 β σ4 [x0, x1, r1, ((r1 - x0) - x1), 0])) else none) else none) else none)) else none) else none) else none)) else none)) else none
def kY_Dra_replace_68_p70 (rec : zF) (β : Nat) (σ : zS) (x0 x1 x2 x3 x4 : Int) : Option zR := if (σ.1 3905) ≤ x4 then (some (σ, 0)) else (if zb x4 8 then (if (σ.2.1 42 x4) ≤ x0 then (rec tC_Dra_replace_68_p104 β σ [x0, x1, x2, x3, x4, 0, (σ.2.1 42 x4), x4]) else (rec tC_Dra_replace_68_p104 β σ [x0, x1, x2, x3, x4, x3, (σ.2.1 42 x4), x4])) else none)
def kY_Dra_replace_68_p104 (rec : zF) (β : Nat) (σ : zS) (x0 x1 x2 x3 x4 x5 x6 x7 : Int) : Option zR := if zb x7 8 then (if zr (x6 - x5) then (lt_ (zA σ 42 x7 (x6 - x5)) (fun σ1 => if zr (x4 + 1) then (if zb (x4 + 1) 9 then (if (σ1.2.1 41 (x4 + 1)) ≤ x0 then (rec tC_Dra_replace_68_p135 β σ1 [x0, x1, x2, x3, x4, 0, (σ1.2.1 41 (x4 + 1)), (x4 + 1)]) else (rec tC_Dra_replace_68_p135 β σ1 [x0, x1, x2, x3, x4, x3, (σ1.2.1 41 (x4 + 1)), (x4 + 1)])) else none) else none)) else none) else none
def kY_Dra_replace_68_p135 (rec : zF) (β : Nat) (σ : zS) (x0 x1 x2 x3 x4 x5 x6 x7 : Int) : Option zR := if zb x7 9 then (if zr (x6 - x5) then (lt_ (zA σ 41 x7 (x6 - x5)) (fun σ1 => if zr (x4 + 1) then (rec tC_Dra_replace_68_p70 β σ1 [x0, x1, x2, x3, (x4 + 1)]) else none)) else none) else none
def kY_For_addVariable (rec : zF) (β : Nat) (σ : zS) : Option zR := if (σ.1 1402) = 300 then (some (σ, (-1))) else (if zb (σ.1 1402) 300 then (lt_ (zA σ 22 (σ.1 1402) (σ.1 3203)) (fun σ1 => if zb (σ1.1 1402) 300 then (lt_ (zA σ1 23 (σ1.1 1402) (σ1.1 3204)) (fun σ2 => if zb (σ2.1 1402) 300 then (if zr ((σ2.1 2001) - 5) then (lt_ (zA σ2 25 (σ2.1 1402) ((σ2.1 2001) - 5)) (fun σ3 => if zr ((σ3.1 1402) + 1) then (lt_ (zI σ3 1402 ((σ3.1 1402) + 1)) (fun σ4 => some (σ4, (σ3.1 1402)))) else none)) else none) else none)) else none)) else none)
def kY_For_around (rec : zF) (β : Nat) (σ : zS) (x0 : Int) : Option zR := if zb x0 300 then (if (σ.2.1 17 x0) = (-2) then (rec tC_For_around_p57 β σ [x0, (σ.2.1 25 x0), (σ.2.1 24 x0)]) else (if zr ((σ.2.1 25 x0) + 4) then (if zb ((σ.2.1 25 x0) + 4) (σ.2.2 21) then (if zr ((σ.2.1 25 x0) + 3) then (if zb ((σ.2.1 25 x0) + 3) (σ.2.2 21) then (if zr ((σ.2.1 24 x0) + (σ.2.1 21 ((σ.2.1 25 x0) + 4))) then (if zr (((σ.2.1 24 x0) + (σ.2.1 21 ((σ.2.1 25 x0) + 4))) - (σ.2.1 21 ((σ.2.1 25 x0) + 3))) then (rec tC_For_around_p57 β σ [x0, (σ.2.1 25 x0), (((σ.2.1 24 x0) + (σ.2.1 21 ((σ.2.1 25 x0) + 4))) - (σ.2.1 21 ((σ.2.1 25 x0) + 3)))]) else none) else none) else none) else none) else none) else none)) else none
def kY_For_around_p57 (rec : zF) (β : Nat) (σ : zS) (x0 x1 x2 : Int) : Option zR := some (σ, x2)
def kY_For_aroundAt (rec : zF) (β : Nat) (σ : zS) (x0 x1 : Int) : Option zR := if zb x0 300 then (if zr ((σ.2.1 25 x0) + 3) then (if zb ((σ.2.1 25 x0) + 3) (σ.2.2 21) then (if zr ((σ.2.1 25 x0) + 4) then (if zb ((σ.2.1 25 x0) + 4) (σ.2.2 21) then (if zr ((σ.2.1 21 ((σ.2.1 25 x0) + 4)) - (σ.2.1 21 ((σ.2.1 25 x0) + 3))) then (if ((σ.2.1 21 ((σ.2.1 25 x0) + 4)) - (σ.2.1 21 ((σ.2.1 25 x0) + 3))) ≤ x1 then (if zr (x1 - ((σ.2.1 21 ((σ.2.1 25 x0) + 4)) - (σ.2.1 21 ((σ.2.1 25 x0) + 3)))) then (if zr ((σ.2.1 24 x0) - (x1 - ((σ.2.1 21 ((σ.2.1 25 x0) + 4)) - (σ.2.1 21 ((σ.2.1 25 x0) + 3))))) then (rec tC_For_aroundAt_p68 β σ [x0, x1, (σ.2.1 25 x0), (σ.2.1 21 ((σ.2.1 25 x0) + 3)), ((σ.2.1 21 ((σ.2.1 25 x0) + 4)) - (σ.2.1 21 ((σ.2.1 25 x0) + 3))), x0, ((σ.2.1 24 x0) - (x1 - ((σ.2.1 21 ((σ.2.1 25 x0) + 4)) - (σ.2.1 21 ((σ.2.1 25 x0) + 3)))))]) else none) else none) else (if zr ((σ.2.1 21 ((σ.2.1 25 x0) + 3)) + x1) then (if zb ((σ.2.1 21 ((σ.2.1 25 x0) + 3)) + x1) 300 then (some (σ, (σ.2.1 28 ((σ.2.1 21 ((σ.2.1 25 x0) + 3)) + x1)))) else none) else none)) else none) else none) else none) else none) else none) else none
def kY_For_aroundAt_p68 (rec : zF) (β : Nat) (σ : zS) (x0 x1 x2 x3 x4 x5 x6 : Int) : Option zR := if x6 ≤ 0 then (some (σ, x5)) else (if zb x5 300 then (if zr (x6 + (-1)) then (rec tC_For_aroundAt_p68 β σ [x0, x1, x2, x3, x4, (σ.2.1 17 x5), (x6 + (-1))]) else none) else none)
def kY_For_bind (rec : zF) (β : Nat) (σ : zS) : Option zR := if 1 ≤ β then (zbd (rec tC_For_addVariable (β - 1) σ []) (fun σ1 r1 => if r1 = (-1) then (rec tC_For_bind_p55 β σ1 [r1]) else (if zb r1 300 then (lt_ (zA σ1 17 r1 (σ1.1 1403)) (fun σ2 => if (σ2.1 1403) = (-1) then (rec tC_For_bind_p49 β σ2 [r1, 0, r1]) else (if zb (σ2.1 1403) 300 then (if zr ((σ2.2.1 24 (σ2.1 1403)) + 1) then (rec tC_For_bind_p49 β σ2 [r1, ((σ2.2.1 24 (σ2.1 1403)) + 1), r1]) else none) else none))) else none))) else none
def kY_For_bind_p49 (rec : zF) (β : Nat) (σ : zS) (x0 x1 x2 : Int) : Option zR := if zb x2 300 then (lt_ (zA σ 24 x2 x1) (fun σ1 => lt_ (zI σ1 1403 x0) (fun σ2 => rec tC_For_bind_p55 β σ2 [x0]))) else none
def kY_For_bind_p55 (rec : zF) (β : Nat) (σ : zS) (x0 : Int) : Option zR := some (σ, x0)
def kY_For_clausesOf (rec : zF) (β : Nat) (σ : zS) (x0 x1 : Int) : Option zR := if x1 = 0 then (rec tC_For_clausesOf_p11 β σ [x0, x1, 4, x0]) else (rec tC_For_clausesOf_p11 β σ [x0, x1, 5, x0])
def kY_For_clausesOf_p11 (rec : zF) (β : Nat) (σ : zS) (x0 x1 x2 x3 : Int) : Option zR := if 1 ≤ β then (zbd (rec tC_For_get (β - 1) σ [x3, x2]) (fun σ1 r1 => some (σ1, r1))) else none
def kY_For_clear (rec : zF) (β : Nat) (σ : zS) : Option zR := lt_ (zI σ 1501 0) (fun σ1 => lt_ (zI σ1 1801 0) (fun σ2 => lt_ (zI σ2 2001 0) (fun σ3 => lt_ (zI σ3 1402 0) (fun σ4 => lt_ (zI σ4 1414 0) (fun σ5 => lt_ (zI σ5 1403 (-1)) (fun σ6 => some (σ6, 0)))))))
def kY_For_closeSentence (rec : zF) (β : Nat) (σ : zS) (x0 : Int) : Option zR := if zr ((σ.1 2001) - 5) then (if zr (((σ.1 2001) - 5) + 2) then (if zb (((σ.1 2001) - 5) + 2) (σ.2.2 21) then (lt_ (zA σ 21 (((σ.1 2001) - 5) + 2) x0) (fun σ1 => some (σ1, 0))) else none) else none) else none
def kY_For_get (rec : zF) (β : Nat) (σ : zS) (x0 x1 : Int) : Option zR := if zr (x0 * 7) then (if zr ((x0 * 7) + x1) then (if zb ((x0 * 7) + x1) (σ.2.2 19) then (some (σ, (σ.2.1 19 ((x0 * 7) + x1)))) else none) else none) else none
def kY_For_isWord (rec : zF) (β : Nat) (σ : zS) (x0 : Int) : Option zR := if zb x0 300 then (if (σ.2.1 23 x0) = (σ.1 3204) then (rec tC_For_isWord_p17 β σ [x0, 0]) else (some (σ, 0))) else none
def kY_For_isWord_p17 (rec : zF) (β : Nat) (σ : zS) (x0 x1 : Int) : Option zR := if (σ.1 3204) ≤ x1 then (some (σ, 1)) else (if zb x0 300 then (if zr ((σ.2.1 22 x0) + x1) then (if zb ((σ.2.1 22 x0) + x1) (σ.2.2 2) then (if zr ((σ.1 3203) + x1) then (if zb ((σ.1 3203) + x1) (σ.2.2 2) then (if (σ.2.1 2 ((σ.2.1 22 x0) + x1)) = (σ.2.1 2 ((σ.1 3203) + x1)) then (if zr (x1 + 1) then (rec tC_For_isWord_p17 β σ [x0, (x1 + 1)]) else none) else (some (σ, 0))) else none) else none) else none) else none) else none)
def kY_For_makeWitnesses (rec : zF) (β : Nat) (σ : zS) : Option zR := rec tC_For_makeWitnesses_p2 β σ [0]
def kY_For_makeWitnesses_p2 (rec : zF) (β : Nat) (σ : zS) (x0 : Int) : Option zR := if (σ.1 2001) ≤ x0 then (if zr (Int.tdiv (σ.1 1801) 7) then (if zr ((Int.tdiv (σ.1 1801) 7) - 1) then (rec tC_For_makeWitnesses_p83 β σ [((Int.tdiv (σ.1 1801) 7) - 1)]) else none) else none) else (if zr (x0 + 1) then (if zb (x0 + 1) (σ.2.2 21) then (if (σ.2.1 21 (x0 + 1)) = 1 then (rec tC_For_makeWitnesses_p33 β σ [x0, 1]) else (rec tC_For_makeWitnesses_p33 β σ [x0, 0])) else none) else none)
def kY_For_makeWitnesses_p33 (rec : zF) (β : Nat) (σ : zS) (x0 x1 : Int) : Option zR := if zr (x0 + 2) then (if zb (x0 + 2) (σ.2.2 21) then (if x1 = 0 then (rec tC_For_makeWitnesses_p55 β σ [x0, x1, 2, (σ.2.1 21 (x0 + 2))]) else (rec tC_For_makeWitnesses_p55 β σ [x0, x1, 1, (σ.2.1 21 (x0 + 2))])) else none) else none
def kY_For_makeWitnesses_p55 (rec : zF) (β : Nat) (σ : zS) (x0 x1 x2 x3 : Int) : Option zR := if 1 ≤ β then (zbd (rec tC_For_reach (β - 1) σ [x3, x2]) (fun σ1 r1 => if 1 ≤ β then (zbd (rec tC_For_replaceFree (β - 1) σ1 [x0, x1]) (fun σ2 r2 => if zr (x0 + 5) then (rec tC_For_makeWitnesses_p2 β σ2 [(x0 + 5)]) else none)) else none)) else none
def kY_For_makeWitnesses_p83 (rec : zF) (β : Nat) (σ : zS) (x0 : Int) : Option zR := if x0 < 0 then (rec tC_For_makeWitnesses_p107 β σ [0]) else (if 1 ≤ β then (zbd (rec tC_For_get (β - 1) σ [x0, 6]) (fun σ1 r1 => if 1 ≤ β then (zbd (rec tC_For_reachParts (β - 1) σ1 [x0, r1]) (fun σ2 r2 => if zr (x0 + (-1)) then (rec tC_For_makeWitnesses_p83 β σ2 [(x0 + (-1))]) else none)) else none)) else none)
def kY_For_makeWitnesses_p107 (rec : zF) (β : Nat) (σ : zS) (x0 : Int) : Option zR := if (σ.1 1402) ≤ x0 then (some (σ, 0)) else (if zb x0 300 then (if (σ.2.1 27 x0) = 0 then (rec tC_For_makeWitnesses_p145 β σ [x0, (-1), x0]) else (if 1 ≤ β then (zbd (rec tC_For_around (β - 1) σ [x0]) (fun σ1 r1 => if 1 ≤ β then (zbd (rec tC_Sym_addWitness (β - 1) σ1 [r1]) (fun σ2 r2 => rec tC_For_makeWitnesses_p145 β σ2 [x0, r2, x0])) else none)) else none)) else none)
def kY_For_makeWitnesses_p145 (rec : zF) (β : Nat) (σ : zS) (x0 x1 x2 : Int) : Option zR := if zb x2 300 then (lt_ (zA σ 26 x2 x1) (fun σ1 => if zr (x0 + 1) then (rec tC_For_makeWitnesses_p107 β σ1 [(x0 + 1)]) else none)) else none
def kY_For_reach (rec : zF) (β : Nat) (σ : zS) (x0 x1 : Int) : Option zR := if zr (x0 * 7) then (if zr ((x0 * 7) + 6) then (if zb ((x0 * 7) + 6) (σ.2.2 19) then (lt_ (zA σ 19 ((x0 * 7) + 6) (zor (σ.2.1 19 ((x0 * 7) + 6)) x1)) (fun σ1 => some (σ1, 0))) else none) else none) else none
def kY_For_reachParts (rec : zF) (β : Nat) (σ : zS) (x0 x1 : Int) : Option zR := if 1 ≤ β then (zbd (rec tC_For_get (β - 1) σ [x0, 1]) (fun σ1 r1 => if 1 ≤ β then (zbd (rec tC_For_get (β - 1) σ1 [x0, 2]) (fun σ2 r2 => if 1 ≤ β then (zbd (rec tC_For_get (β - 1) σ2 [x0, 0]) (fun σ3 r3 => if r3 < 11 ∨ 17 < r3 then (rec tC_For_reachParts_p180 β σ3 [x0, x1, (zor (zshr x1 1) (zshl (zand x1 1) 1)), r1, r2]) else (if r3 = 11 then (if 1 ≤ β then (zbd (rec tC_For_reach (β - 1) σ3 [r1, (zor (zshr x1 1) (zshl (zand x1 1) 1))]) (fun σ4 r4 => rec tC_For_reachParts_p180 β σ4 [x0, x1, (zor (zshr x1 1) (zshl (zand x1 1) 1)), r1, r2])) else none) else (if r3 = 12 then (if 1 ≤ β then (zbd (rec tC_For_reach (β - 1) σ3 [r1, x1]) (fun σ5 r5 => if 1 ≤ β then (zbd (rec tC_For_get (β - 1) σ5 [x0, 0]) (fun σ6 r6 => if r6 = 13 then (rec tC_For_reachParts_p116 β σ6 [x0, x1, (zor (zshr x1 1) (zshl (zand x1 1) 1)), r1, r2, 2, x1, r2]) else (rec tC_For_reachParts_p116 β σ6 [x0, x1, (zor (zshr x1 1) (zshl (zand x1 1) 1)), r1, r2, 1, x1, r2]))) else none)) else none) else (if r3 = 13 then (if 1 ≤ β then (zbd (rec tC_For_reach (β - 1) σ3 [r1, x1]) (fun σ7 r7 => if 1 ≤ β then (zbd (rec tC_For_get (β - 1) σ7 [x0, 0]) (fun σ8 r8 => if r8 = 13 then (rec tC_For_reachParts_p116 β σ8 [x0, x1, (zor (zshr x1 1) (zshl (zand x1 1) 1)), r1, r2, 2, x1, r2]) else (rec tC_For_reachParts_p116 β σ8 [x0, x1, (zor (zshr x1 1) (zshl (zand x1 1) 1)), r1, r2, 1, x1, r2]))) else none)) else none) else (if r3 = 14 then (if 1 ≤ β then (zbd (rec tC_For_reach (β - 1) σ3 [r1, x1]) (fun σ9 r9 => if 1 ≤ β then (zbd (rec tC_For_reach (β - 1) σ9 [r2, x1]) (fun σ10 r10 => rec tC_For_reachParts_p180 β σ10 [x0, x1, (zor (zshr x1 1) (zshl (zand x1 1) 1)), r1, r2])) else none)) else none) else (if r3 = 15 then (if 1 ≤ β then (zbd (rec tC_For_reach (β - 1) σ3 [r1, x1]) (fun σ11 r11 => if 1 ≤ β then (zbd (rec tC_For_reach (β - 1) σ11 [r2, x1]) (fun σ12 r12 => rec tC_For_reachParts_p180 β σ12 [x0, x1, (zor (zshr x1 1) (zshl (zand x1 1) 1)), r1, r2])) else none)) else none) else (if r3 = 16 then (if 1 ≤ β then (zbd (rec tC_For_reach (β - 1) σ3 [r1, (zor (zshr x1 1) (zshl (zand x1 1) 1))]) (fun σ13 r13 => if 1 ≤ β then (zbd (rec tC_For_reach (β - 1) σ13 [r2, x1]) (fun σ14 r14 => rec tC_For_reachParts_p180 β σ14 [x0, x1, (zor (zshr x1 1) (zshl (zand x1 1) 1)), r1, r2])) else none)) else none) else (if 1 ≤ β then (zbd (rec tC_For_reach (β - 1) σ3 [r1, 3]) (fun σ15 r15 => if 1 ≤ β then (zbd (rec tC_For_reach (β - 1) σ15 [r2, 3]) (fun σ16 r16 => rec tC_For_reachParts_p180 β σ16 [x0, x1, (zor (zshr x1 1) (zshl (zand x1 1) 1)), r1, r2])) else none)) else none))))))))) else none)) else none)) else none
def kY_For_reachParts_p116 (rec : zF) (β : Nat) (σ : zS) (x0 x1 x2 x3 x4 x5 x6 x7 : Int) : Option zR := if (zand x6 x5) = 0 then (rec tC_For_reachParts_p125 β σ [x0, x1, x2, x3, x4, 0, x7]) else (rec tC_For_reachParts_p125 β σ [x0, x1, x2, x3, x4, 1, x7])
def kY_For_reachParts_p125 (rec : zF) (β : Nat) (σ : zS) (x0 x1 x2 x3 x4 x5 x6 : Int) : Option zR := if zb x6 300 then (if x5 = 0 ∨ x5 = 1 then (lt_ (zA σ 27 x6 x5) (fun σ1 => rec tC_For_reachParts_p180 β σ1 [x0, x1, x2, x3, x4])) else none) else none
def kY_For_reachParts_p180 (rec : zF) (β : Nat) (σ : zS) (x0 x1 x2 x3 x4 : Int) : Option zR := some (σ, 0)
def kY_For_replaceFree (rec : zF) (β : Nat) (σ : zS) (x0 x1 : Int) : Option zR := if zr (x0 + 3) then (if zb (x0 + 3) (σ.2.2 21) then (rec tC_For_replaceFree_p12 β σ [x0, x1, (σ.2.1 21 (x0 + 3))]) else none) else none
def kY_For_replaceFree_p12 (rec : zF) (β : Nat) (σ : zS) (x0 x1 x2 : Int) : Option zR := if zr (x0 + 4) then (if zb (x0 + 4) (σ.2.2 21) then (if (σ.2.1 21 (x0 + 4)) ≤ x2 then (some (σ, 0)) else (if zb x2 300 then (if zb (σ.2.1 28 x2) 300 then (if x1 = 0 ∨ x1 = 1 then (lt_ (zA σ 27 (σ.2.1 28 x2) x1) (fun σ1 => if zr (x2 + 1) then (rec tC_For_replaceFree_p12 β σ1 [x0, x1, (x2 + 1)]) else none)) else none) else none) else none)) else none) else none
def kY_For_variableOf (rec : zF) (β : Nat) (σ : zS) : Option zR := rec tC_For_variableOf_p7 β σ [(σ.1 1403), 0]
def kY_For_variableOf_p7 (rec : zF) (β : Nat) (σ : zS) (x0 x1 : Int) : Option zR := if 300 ≤ x1 then (rec tC_For_variableOf_p43 β σ [x0, x1]) else (if x0 = (-1) then (rec tC_For_variableOf_p43 β σ [x0, x1]) else (if 1 ≤ β then (zbd (rec tC_For_isWord (β - 1) σ [x0]) (fun σ1 r1 => if r1 = 0 then (if zb x0 300 then (if zr (x1 + 1) then (rec tC_For_variableOf_p7 β σ1 [(σ1.2.1 17 x0), (x1 + 1)]) else none) else none) else (some (σ1, x0)))) else none))
def kY_For_variableOf_p43 (rec : zF) (β : Nat) (σ : zS) (x0 x1 : Int) : Option zR := if zr ((σ.1 2001) - 5) then (if zr (((σ.1 2001) - 5) + 3) then (if zb (((σ.1 2001) - 5) + 3) (σ.2.2 21) then (rec tC_For_variableOf_p66 β σ [x0, ((σ.1 2001) - 5), (σ.2.1 21 (((σ.1 2001) - 5) + 3))]) else none) else none) else none
def kY_For_variableOf_p66 (rec : zF) (β : Nat) (σ : zS) (x0 x1 x2 : Int) : Option zR := if (σ.1 1414) ≤ x2 then (if 1 ≤ β then (zbd (rec tC_For_addVariable (β - 1) σ []) (fun σ1 r1 => if r1 = (-1) then (rec tC_For_variableOf_p177 β σ1 [r1, x1, x2]) else (if zb r1 300 then (lt_ (zA σ1 17 r1 (-2)) (fun σ2 => if zr (x1 + 3) then (if zb (x1 + 3) (σ2.2.2 21) then (if zr ((σ2.1 1414) - (σ2.2.1 21 (x1 + 3))) then (lt_ (zA σ2 24 r1 ((σ2.1 1414) - (σ2.2.1 21 (x1 + 3)))) (fun σ3 => if zr ((σ3.1 1414) + 1) then (lt_ (zI σ3 1414 ((σ3.1 1414) + 1)) (fun σ4 => if zb (σ3.1 1414) 300 then (lt_ (zA σ4 28 (σ3.1 1414) r1) (fun σ5 => if zr (x1 + 4) then (if zb (x1 + 4) (σ5.2.2 21) then (lt_ (zA σ5 21 (x1 + 4) (σ5.1 1414)) (fun σ6 => rec tC_For_variableOf_p177 β σ6 [r1, x1, x2])) else none) else none)) else none)) else none)) else none) else none) else none)) else none))) else none) else (if zb x2 300 then (if 1 ≤ β then (zbd (rec tC_For_isWord (β - 1) σ [(σ.2.1 28 x2)]) (fun σ7 r7 => if r7 = 0 then (if zr (x2 + 1) then (rec tC_For_variableOf_p66 β σ7 [x0, x1, (x2 + 1)]) else none) else (some (σ7, (σ7.2.1 28 x2))))) else none) else none)
def kY_For_variableOf_p177 (rec : zF) (β : Nat) (σ : zS) (x0 x1 x2 : Int) : Option zR := some (σ, x0)
def kY_For_writeLiteral (rec : zF) (β : Nat) (σ : zS) (x0 x1 x2 : Int) : Option zR := if 1 ≤ β then (zbd (rec tC_Dra_openLiteral (β - 1) σ [x0]) (fun σ1 r1 => if 1 ≤ β then (zbd (rec tC_For_writeTerm (β - 1) σ1 [x1]) (fun σ2 r2 => if 1 ≤ β then (zbd (rec tC_Dra_openRight (β - 1) σ2 []) (fun σ3 r3 => if x2 = (-1) then (if 1 ≤ β then (zbd (rec tC_Dra_put (β - 1) σ3 [0]) (fun σ5 r5 => rec tC_For_writeLiteral_p36 β σ5 [x0, x1, x2])) else none) else (if 1 ≤ β then (zbd (rec tC_For_writeTerm (β - 1) σ3 [x2]) (fun σ4 r4 => rec tC_For_writeLiteral_p36 β σ4 [x0, x1, x2])) else none))) else none)) else none)) else none
def kY_For_writeLiteral_p36 (rec : zF) (β : Nat) (σ : zS) (x0 x1 x2 : Int) : Option zR := if 1 ≤ β then (zbd (rec tC_Dra_closeLiteral (β - 1) σ []) (fun σ1 r1 => some (σ1, 0))) else none
def kY_For_writeTerm (rec : zF) (β : Nat) (σ : zS) (x0 : Int) : Option zR := if 1 ≤ β then (zbd (rec tC_Sym_after_16 (β - 1) σ [x0]) (fun σ1 r1 => rec tC_For_writeTerm_p19 β σ1 [x0, r1, x0])) else none
def kY_For_writeTerm_p19 (rec : zF) (β : Nat) (σ : zS) (x0 x1 x2 : Int) : Option zR := if x1 ≤ x2 then (rec tC_For_writeTerm_p86 β σ [x0, x1, x2]) else (if (σ.1 3907) = 0 then (if zb x2 (σ.2.2 16) then (if 0 ≤ (σ.2.1 16 x2) then (if 1 ≤ β then (zbd (rec tC_Dra_put (β - 1) σ [(σ.2.1 16 x2)]) (fun σ1 r1 => rec tC_For_writeTerm_p80 β σ1 [x0, x1, x2])) else none) else (if 1 ≤ β then (zbd (rec tC_For_writeVariable (β - 1) σ [(-1 - (σ.2.1 16 x2)), 0]) (fun σ2 r2 => rec tC_For_writeTerm_p80 β σ2 [x0, x1, x2])) else none)) else none) else (rec tC_For_writeTerm_p86 β σ [x0, x1, x2]))
def kY_For_writeTerm_p80 (rec : zF) (β : Nat) (σ : zS) (x0 x1 x2 : Int) : Option zR := if zr (x2 + 1) then (rec tC_For_writeTerm_p19 β σ [x0, x1, (x2 + 1)]) else none
def kY_For_writeTerm_p86 (rec : zF) (β : Nat) (σ : zS) (x0 x1 x2 : Int) : Option zR := some (σ, 0)
def kY_For_writeVariable (rec : zF) (β : Nat) (σ : zS) (x0 x1 : Int) : Option zR := if zb x0 300 then (if (σ.2.1 27 x0) = 0 then (if 1 ≤ β then (zbd (rec tC_Dra_cellOf (β - 1) σ [x0]) (fun σ4 r4 => if 1 ≤ β then (zbd (rec tC_Dra_put (β - 1) σ4 [r4]) (fun σ5 r5 => some (σ5, 0))) else none)) else none) else (if 1 ≤ β then (zbd (rec tC_Dra_put (β - 1) σ [(σ.2.1 26 x0)]) (fun σ1 r1 => if 1 ≤ β then (zbd (rec tC_For_around (β - 1) σ1 [x0]) (fun σ2 r2 => if x1 ≤ 60 then (rec tC_For_writeVariable_p47 β σ2 [x0, x1, r2]) else (lt_ (zI σ2 3907 1) (fun σ3 => rec tC_For_writeVariable_p47 β σ3 [x0, x1, r2])))) else none)) else none)) else none
def kY_For_writeVariable_p47 (rec : zF) (β : Nat) (σ : zS) (x0 x1 x2 : Int) : Option zR := rec tC_For_writeVariable_p50 β σ [x0, x1, x2, 0]
def kY_For_writeVariable_p50 (rec : zF) (β : Nat) (σ : zS) (x0 x1 x2 x3 : Int) : Option zR := if x2 ≤ x3 then (rec tC_For_writeVariable_p85 β σ [x0, x1, x2, x3]) else (if (σ.1 3907) = 0 then (if 1 ≤ β then (zbd (rec tC_For_aroundAt (β - 1) σ [x0, x3]) (fun σ1 r1 => if zr (x1 + 1) then (if 1 ≤ β then (zbd (rec tC_For_writeVariable (β - 1) σ1 [r1, (x1 + 1)]) (fun σ2 r2 => if zr (x3 + 1) then (rec tC_For_writeVariable_p50 β σ2 [x0, x1, x2, (x3 + 1)]) else none)) else none) else none)) else none) else (rec tC_For_writeVariable_p85 β σ [x0, x1, x2, x3]))
def kY_For_writeVariable_p85 (rec : zF) (β : Nat) (σ : zS) (x0 x1 x2 x3 : Int) : Option zR := some (σ, 0)
def kY_Mat_coversAll (rec : zF) (β : Nat) (σ : zS) (x0 x1 x2 : Int) : Option zR := if 0 < x1 then (if 1 ≤ β then (zbd (rec tC_Sto_fact (β - 1) σ [x2, 8]) (fun σ1 r1 => rec tC_Mat_coversAll_p27 β σ1 [x0, x1, x2, (σ.1 6603), r1, 0])) else none) else (some (σ, 1))
def kY_Mat_coversAll_p27 (rec : zF) (β : Nat) (σ : zS) (x0 x1 x2 x3 x4 x5 : Int) : Option zR := if 1 ≤ β then (zbd (rec tC_Sto_fact (β - 1) σ [x2, 3]) (fun σ1 r1 => if r1 ≤ x5 then (some (σ1, 0)) else (rec tC_Mat_coversAll_p44 β σ1 [x0, x1, x2, x3, x4, x5, 0]))) else none
def kY_Mat_coversAll_p44 (rec : zF) (β : Nat) (σ : zS) (x0 x1 x2 x3 x4 x5 x6 : Int) : Option zR := if 2 ≤ x6 then (rec tC_Mat_coversAll_p205 β σ [x0, x1, x2, x3, x4, x5, x6]) else (if 1 ≤ β then (zbd (rec tC_Sto_isPositive (β - 1) σ [x0]) (fun σ1 r1 => if 1 ≤ β then (zbd (rec tC_Sto_isPositive (β - 1) σ1 [x4]) (fun σ2 r2 => if r1 = r2 then (lt_ (zI σ2 6603 x3) (fun σ3 => if 1 ≤ β then (zbd (rec tC_Sto_sideAt (β - 1) σ3 [x4, x6]) (fun σ4 r4 => if zr (1 - x6) then (if 1 ≤ β then (zbd (rec tC_Sto_sideAt (β - 1) σ4 [x4, (1 - x6)]) (fun σ5 r5 => if 1 ≤ β then (zbd (rec tC_Sto_sideAt (β - 1) σ5 [x0, 0]) (fun σ6 r6 => if 1 ≤ β then (zbd (rec tC_Sto_sideSize (β - 1) σ6 [x0, 0]) (fun σ7 r7 => if 1 ≤ β then (zbd (rec tC_Mat_matches_48 (β - 1) σ7 [r6, r7, r4]) (fun σ8 r8 => if r8 = 0 then (rec tC_Mat_coversAll_p199 β σ8 [x0, x1, x2, x3, x4, x5, x6, r4, r5]) else (if 1 ≤ β then (zbd (rec tC_Sto_sideAt (β - 1) σ8 [x0, 1]) (fun σ9 r9 => if 1 ≤ β then (zbd (rec tC_Sto_sideSize (β - 1) σ9 [x0, 1]) (fun σ10 r10 => if 1 ≤ β then (zbd (rec tC_Mat_matches_48 (β - 1) σ10 [r9, r10, r5]) (fun σ11 r11 => if r11 = 0 then (rec tC_Mat_coversAll_p199 β σ11 [x0, x1, x2, x3, x4, x5, x6, r4, r5]) else (if 1 ≤ β then (zbd (rec tC_Sto_behind (β - 1) σ11 [x0]) (fun σ12 r12 => if zr (x1 - 1) then (if 1 ≤ β then (zbd (rec tC_Mat_coversAll (β - 1) σ12 [r12, (x1 - 1), x2]) (fun σ13 r13 => if r13 = 0 then (rec tC_Mat_coversAll_p199 β σ13 [x0, x1, x2, x3, x4, x5, x6, r4, r5]) else (some (σ13, 1)))) else none) else none)) else none))) else none)) else none)) else none))) else none)) else none)) else none)) else none) else none)) else none)) else (rec tC_Mat_coversAll_p205 β σ2 [x0, x1, x2, x3, x4, x5, x6]))) else none)) else none)
def kY_Mat_coversAll_p199 (rec : zF) (β : Nat) (σ : zS) (x0 x1 x2 x3 x4 x5 x6 x7 x8 : Int) : Option zR := if zr (x6 + 1) then (rec tC_Mat_coversAll_p44 β σ [x0, x1, x2, x3, x4, x5, (x6 + 1)]) else none
def kY_Mat_coversAll_p205 (rec : zF) (β : Nat) (σ : zS) (x0 x1 x2 x3 x4 x5 x6 : Int) : Option zR := if 1 ≤ β then (zbd (rec tC_Sto_behind (β - 1) σ [x4]) (fun σ1 r1 => if zr (x5 + 1) then (rec tC_Mat_coversAll_p27 β σ1 [x0, x1, x2, x3, r1, (x5 + 1)]) else none)) else none
def kY_Mat_makeImage_40 (rec : zF) (β : Nat) (σ : zS) (x0 x1 x2 : Int) : Option zR := lt_ (zI σ 6605 0) (fun σ1 => rec tC_Mat_makeImage_40_p8 β σ1 [x0, x1, x2, x0])
def kY_Mat_makeImage_40_p8 (rec : zF) (β : Nat) (σ : zS) (x0 x1 x2 x3 : Int) : Option zR := if zr (x0 + x1) then (if (x0 + x1) ≤ x3 then (some (σ, 1)) else (if zb x3 (σ.2.2 48) then (if 0 ≤ (σ.2.1 48 x3) then (rec tC_Mat_makeImage_40_p52 β σ [x0, x1, x2, x3, (σ.2.1 48 x3)]) else (if (zand (zshr (σ.1 6603) (-1 - (σ.2.1 48 x3))) 1) = 0 then (some (σ, 0)) else (rec tC_Mat_makeImage_40_p52 β σ [x0, x1, x2, x3, (σ.2.1 48 x3)]))) else none)) else none
def kY_Mat_makeImage_40_p52 (rec : zF) (β : Nat) (σ : zS) (x0 x1 x2 x3 x4 : Int) : Option zR := if 0 ≤ x4 then (rec tC_Mat_makeImage_40_p70 β σ [x0, x1, x2, x3, x4, 0]) else (if zb (-1 - x4) 6 then (rec tC_Mat_makeImage_40_p70 β σ [x0, x1, x2, x3, x4, (σ.2.1 67 (-1 - x4))]) else none)
def kY_Mat_makeImage_40_p70 (rec : zF) (β : Nat) (σ : zS) (x0 x1 x2 x3 x4 x5 : Int) : Option zR := if 0 ≤ x4 then (rec tC_Mat_makeImage_40_p94 β σ [x0, x1, x2, x3, x4, x5, 1]) else (if 1 ≤ β then (zbd (rec tC_Sym_after_40 (β - 1) σ [x5]) (fun σ1 r1 => if zr (r1 - x5) then (rec tC_Mat_makeImage_40_p94 β σ1 [x0, x1, x2, x3, x4, x5, (r1 - x5)]) else none)) else none)
def kY_Mat_makeImage_40_p94 (rec : zF) (β : Nat) (σ : zS) (x0 x1 x2 x3 x4 x5 x6 : Int) : Option zR := if zr ((σ.1 6605) + x6) then (if x2 < ((σ.1 6605) + x6) then (rec tC_Mat_makeImage_40_p123 β σ [x0, x1, x2, x3, x4, x5, x6]) else (if ((σ.1 6605) + x6) ≤ 100 then (if 0 ≤ x4 then (if zb (σ.1 6605) 100 then (lt_ (zA σ 68 (σ.1 6605) x4) (fun σ1 => rec tC_Mat_makeImage_40_p160 β σ1 [x0, x1, x2, x3, x4, x5, x6])) else none) else (if zcp x5 (σ.1 6605) x6 100 100 then (lt_ (zCp σ 40 68 x5 (σ.1 6605) x6) (fun σ2 => rec tC_Mat_makeImage_40_p160 β σ2 [x0, x1, x2, x3, x4, x5, x6])) else none)) else (rec tC_Mat_makeImage_40_p123 β σ [x0, x1, x2, x3, x4, x5, x6]))) else none
def kY_Mat_makeImage_40_p123 (rec : zF) (β : Nat) (σ : zS) (x0 x1 x2 x3 x4 x5 x6 : Int) : Option zR := some (σ, 0)
def kY_Mat_makeImage_40_p160 (rec : zF) (β : Nat) (σ : zS) (x0 x1 x2 x3 x4 x5 x6 : Int) : Option zR := if zr ((σ.1 6605) + x6) then (lt_ (zI σ 6605 ((σ.1 6605) + x6)) (fun σ1 => if zr (x3 + 1) then (rec tC_Mat_makeImage_40_p8 β σ1 [x0, x1, x2, (x3 + 1)]) else none)) else none
def kY_Mat_makeImage_48 (rec : zF) (β : Nat) (σ : zS) (x0 x1 x2 : Int) : Option zR := lt_ (zI σ 6605 0) (fun σ1 => rec tC_Mat_makeImage_48_p8 β σ1 [x0, x1, x2, x0])
def kY_Mat_makeImage_48_p8 (rec : zF) (β : Nat) (σ : zS) (x0 x1 x2 x3 : Int) : Option zR := if zr (x0 + x1) then (if (x0 + x1) ≤ x3 then (some (σ, 1)) else (if zb x3 (σ.2.2 48) then (if 0 ≤ (σ.2.1 48 x3) then (rec tC_Mat_makeImage_48_p52 β σ [x0, x1, x2, x3, (σ.2.1 48 x3)]) else (if (zand (zshr (σ.1 6603) (-1 - (σ.2.1 48 x3))) 1) = 0 then (some (σ, 0)) else (rec tC_Mat_makeImage_48_p52 β σ [x0, x1, x2, x3, (σ.2.1 48 x3)]))) else none)) else none
def kY_Mat_makeImage_48_p52 (rec : zF) (β : Nat) (σ : zS) (x0 x1 x2 x3 x4 : Int) : Option zR := if 0 ≤ x4 then (rec tC_Mat_makeImage_48_p70 β σ [x0, x1, x2, x3, x4, 0]) else (if zb (-1 - x4) 6 then (rec tC_Mat_makeImage_48_p70 β σ [x0, x1, x2, x3, x4, (σ.2.1 67 (-1 - x4))]) else none)
def kY_Mat_makeImage_48_p70 (rec : zF) (β : Nat) (σ : zS) (x0 x1 x2 x3 x4 x5 : Int) : Option zR := if 0 ≤ x4 then (rec tC_Mat_makeImage_48_p94 β σ [x0, x1, x2, x3, x4, x5, 1]) else (if 1 ≤ β then (zbd (rec tC_Sym_after_48 (β - 1) σ [x5]) (fun σ1 r1 => if zr (r1 - x5) then (rec tC_Mat_makeImage_48_p94 β σ1 [x0, x1, x2, x3, x4, x5, (r1 - x5)]) else none)) else none)
def kY_Mat_makeImage_48_p94 (rec : zF) (β : Nat) (σ : zS) (x0 x1 x2 x3 x4 x5 x6 : Int) : Option zR := if zr ((σ.1 6605) + x6) then (if x2 < ((σ.1 6605) + x6) then (rec tC_Mat_makeImage_48_p123 β σ [x0, x1, x2, x3, x4, x5, x6]) else (if ((σ.1 6605) + x6) ≤ 100 then (if 0 ≤ x4 then (if zb (σ.1 6605) 100 then (lt_ (zA σ 68 (σ.1 6605) x4) (fun σ1 => rec tC_Mat_makeImage_48_p160 β σ1 [x0, x1, x2, x3, x4, x5, x6])) else none) else (if zcp x5 (σ.1 6605) x6 (σ.2.2 48) 100 then (lt_ (zCp σ 48 68 x5 (σ.1 6605) x6) (fun σ2 => rec tC_Mat_makeImage_48_p160 β σ2 [x0, x1, x2, x3, x4, x5, x6])) else none)) else (rec tC_Mat_makeImage_48_p123 β σ [x0, x1, x2, x3, x4, x5, x6]))) else none
def kY_Mat_makeImage_48_p123 (rec : zF) (β : Nat) (σ : zS) (x0 x1 x2 x3 x4 x5 x6 : Int) : Option zR := some (σ, 0)
def kY_Mat_makeImage_48_p160 (rec : zF) (β : Nat) (σ : zS) (x0 x1 x2 x3 x4 x5 x6 : Int) : Option zR := if zr ((σ.1 6605) + x6) then (lt_ (zI σ 6605 ((σ.1 6605) + x6)) (fun σ1 => if zr (x3 + 1) then (rec tC_Mat_makeImage_48_p8 β σ1 [x0, x1, x2, (x3 + 1)]) else none)) else none
def kY_Mat_matches_40 (rec : zF) (β : Nat) (σ : zS) (x0 x1 x2 : Int) : Option zR := rec tC_Mat_matches_40_p19 β σ [x0, x1, x2, x2, x0]
def kY_Mat_matches_40_p19 (rec : zF) (β : Nat) (σ : zS) (x0 x1 x2 x3 x4 : Int) : Option zR := if zr (x0 + x1) then (if (x0 + x1) ≤ x4 then (some (σ, 1)) else (if zb x4 (σ.2.2 48) then (if (σ.2.1 48 x4) < 0 then (if (zand (zshr (σ.1 6603) (-1 - (σ.2.1 48 x4))) 1) = 0 then (if zb x3 100 then (if (σ.2.1 40 x3) < 0 then (rec tC_Mat_matches_40_p99 β σ [x0, x1, x2, x3, x4, (-1 - (σ.2.1 48 x4))]) else (if 1 ≤ β then (zbd (rec tC_Sym_isPredicate (β - 1) σ [(σ.2.1 40 x3)]) (fun σ2 r2 => if r2 = 0 then (rec tC_Mat_matches_40_p99 β σ2 [x0, x1, x2, x3, x4, (-1 - (σ.2.1 48 x4))]) else (some (σ2, 0)))) else none)) else none) else (if zb (-1 - (σ.2.1 48 x4)) 6 then (if 1 ≤ β then (zbd (rec tC_Sym_same_40_40 (β - 1) σ [(σ.2.1 67 (-1 - (σ.2.1 48 x4))), x3]) (fun σ1 r1 => if r1 = 0 then (some (σ1, 0)) else (rec tC_Mat_matches_40_p147 β σ1 [x0, x1, x2, x3, x4, (-1 - (σ.2.1 48 x4))]))) else none) else none)) else (if zb x3 100 then (if (σ.2.1 48 x4) = (σ.2.1 40 x3) then (if zr (x3 + 1) then (rec tC_Mat_matches_40_p159 β σ [x0, x1, x2, (x3 + 1), x4]) else none) else (some (σ, 0))) else none)) else none)) else none
def kY_Mat_matches_40_p99 (rec : zF) (β : Nat) (σ : zS) (x0 x1 x2 x3 x4 x5 : Int) : Option zR := if zb x5 6 then (lt_ (zA σ 67 x5 x3) (fun σ1 => lt_ (zI σ1 6603 (zor (σ1.1 6603) (zshl 1 x5))) (fun σ2 => rec tC_Mat_matches_40_p147 β σ2 [x0, x1, x2, x3, x4, x5]))) else none
def kY_Mat_matches_40_p147 (rec : zF) (β : Nat) (σ : zS) (x0 x1 x2 x3 x4 x5 : Int) : Option zR := if 1 ≤ β then (zbd (rec tC_Sym_after_40 (β - 1) σ [x3]) (fun σ1 r1 => rec tC_Mat_matches_40_p159 β σ1 [x0, x1, x2, r1, x4])) else none
def kY_Mat_matches_40_p159 (rec : zF) (β : Nat) (σ : zS) (x0 x1 x2 x3 x4 : Int) : Option zR := if zr (x4 + 1) then (rec tC_Mat_matches_40_p19 β σ [x0, x1, x2, x3, (x4 + 1)]) else none
def kY_Mat_matches_48 (rec : zF) (β : Nat) (σ : zS) (x0 x1 x2 : Int) : Option zR := rec tC_Mat_matches_48_p19 β σ [x0, x1, x2, x2, x0]
def kY_Mat_matches_48_p19 (rec : zF) (β : Nat) (σ : zS) (x0 x1 x2 x3 x4 : Int) : Option zR := if zr (x0 + x1) then (if (x0 + x1) ≤ x4 then (some (σ, 1)) else (if zb x4 (σ.2.2 48) then (if (σ.2.1 48 x4) < 0 then (if (zand (zshr (σ.1 6603) (-1 - (σ.2.1 48 x4))) 1) = 0 then (if zb x3 (σ.2.2 48) then (if (σ.2.1 48 x3) < 0 then (rec tC_Mat_matches_48_p99 β σ [x0, x1, x2, x3, x4, (-1 - (σ.2.1 48 x4))]) else (if 1 ≤ β then (zbd (rec tC_Sym_isPredicate (β - 1) σ [(σ.2.1 48 x3)]) (fun σ2 r2 => if r2 = 0 then (rec tC_Mat_matches_48_p99 β σ2 [x0, x1, x2, x3, x4, (-1 - (σ.2.1 48 x4))]) else (some (σ2, 0)))) else none)) else none) else (if zb (-1 - (σ.2.1 48 x4)) 6 then (if 1 ≤ β then (zbd (rec tC_Sym_same_48_48 (β - 1) σ [(σ.2.1 67 (-1 - (σ.2.1 48 x4))), x3]) (fun σ1 r1 => if r1 = 0 then (some (σ1, 0)) else (rec tC_Mat_matches_48_p147 β σ1 [x0, x1, x2, x3, x4, (-1 - (σ.2.1 48 x4))]))) else none) else none)) else (if zb x3 (σ.2.2 48) then (if (σ.2.1 48 x4) = (σ.2.1 48 x3) then (if zr (x3 + 1) then (rec tC_Mat_matches_48_p159 β σ [x0, x1, x2, (x3 + 1), x4]) else none) else (some (σ, 0))) else none)) else none)) else none
def kY_Mat_matches_48_p99 (rec : zF) (β : Nat) (σ : zS) (x0 x1 x2 x3 x4 x5 : Int) : Option zR := if zb x5 6 then (lt_ (zA σ 67 x5 x3) (fun σ1 => lt_ (zI σ1 6603 (zor (σ1.1 6603) (zshl 1 x5))) (fun σ2 => rec tC_Mat_matches_48_p147 β σ2 [x0, x1, x2, x3, x4, x5]))) else none
def kY_Mat_matches_48_p147 (rec : zF) (β : Nat) (σ : zS) (x0 x1 x2 x3 x4 x5 : Int) : Option zR := if 1 ≤ β then (zbd (rec tC_Sym_after_48 (β - 1) σ [x3]) (fun σ1 r1 => rec tC_Mat_matches_48_p159 β σ1 [x0, x1, x2, r1, x4])) else none
def kY_Mat_matches_48_p159 (rec : zF) (β : Nat) (σ : zS) (x0 x1 x2 x3 x4 : Int) : Option zR := if zr (x4 + 1) then (rec tC_Mat_matches_48_p19 β σ [x0, x1, x2, x3, (x4 + 1)]) else none
def kY_Mat_rewriteFirst_r57 (rec : zF) (β : Nat) (σ : zS) : Option zR := rec tC_Mat_rewriteFirst_r57_p2 β σ [0]
def kY_Mat_rewriteFirst_r57_p2 (rec : zF) (β : Nat) (σ : zS) (x0 : Int) : Option zR := if (σ.1 3904) ≤ x0 then (some (σ, (-1))) else (rec tC_Mat_rewriteFirst_r57_p13 β σ [x0, 0])
def kY_Mat_rewriteFirst_r57_p13 (rec : zF) (β : Nat) (σ : zS) (x0 x1 : Int) : Option zR := if zb x0 100 then (if (σ.2.1 40 x0) < 0 then (rec tC_Mat_rewriteFirst_r57_p92 β σ [x0, x1]) else (if (σ.1 5701) ≤ x1 then (rec tC_Mat_rewriteFirst_r57_p92 β σ [x0, x1]) else (if zb x1 (σ.2.2 58) then (if 1 ≤ β then (zbd (rec tC_Mat_rewrites_40 (β - 1) σ [(σ.2.1 58 x1), 0, x0]) (fun σ1 r1 => if r1 = 0 then (if 1 ≤ β then (zbd (rec tC_Mat_rewrites_40 (β - 1) σ1 [(σ.2.1 58 x1), 1, x0]) (fun σ2 r2 => if r2 = 0 then (if zr (x1 + 1) then (rec tC_Mat_rewriteFirst_r57_p13 β σ2 [x0, (x1 + 1)]) else none) else (rec tC_Mat_rewriteFirst_r57_p70 β σ2 [x0, x1, (σ.2.1 58 x1)]))) else none) else (rec tC_Mat_rewriteFirst_r57_p70 β σ1 [x0, x1, (σ.2.1 58 x1)]))) else none) else none))) else none
def kY_Mat_rewriteFirst_r57_p70 (rec : zF) (β : Nat) (σ : zS) (x0 x1 x2 : Int) : Option zR := if 1 ≤ β then (zbd (rec tC_Dra_replace_68 (β - 1) σ [x0, (σ.1 6605)]) (fun σ1 r1 => some (σ1, x2))) else none
def kY_Mat_rewriteFirst_r57_p92 (rec : zF) (β : Nat) (σ : zS) (x0 x1 : Int) : Option zR := if zr (x0 + 1) then (rec tC_Mat_rewriteFirst_r57_p2 β σ [(x0 + 1)]) else none
def kY_Mat_rewrites_40 (rec : zF) (β : Nat) (σ : zS) (x0 x1 x2 : Int) : Option zR := if 1 ≤ β then (zbd (rec tC_Sto_fact (β - 1) σ [x0, 8]) (fun σ1 r1 => if 1 ≤ β then (zbd (rec tC_Sto_sideAt (β - 1) σ1 [r1, x1]) (fun σ2 r2 => if zb r2 (σ2.2.2 48) then (if (σ2.2.1 48 r2) < 0 then (rec tC_Mat_rewrites_40_p55 β σ2 [x0, x1, x2, r1, r2, (σ2.2.1 48 r2)]) else (if zb x2 100 then (if (σ2.2.1 48 r2) = (σ2.2.1 40 x2) then (rec tC_Mat_rewrites_40_p55 β σ2 [x0, x1, x2, r1, r2, (σ2.2.1 48 r2)]) else (some (σ2, 0))) else none)) else none)) else none)) else none
def kY_Mat_rewrites_40_p55 (rec : zF) (β : Nat) (σ : zS) (x0 x1 x2 x3 x4 x5 : Int) : Option zR := lt_ (zI σ 6603 0) (fun σ1 => if 1 ≤ β then (zbd (rec tC_Sto_sideSize (β - 1) σ1 [x3, x1]) (fun σ2 r2 => if 1 ≤ β then (zbd (rec tC_Mat_matches_40 (β - 1) σ2 [x4, r2, x2]) (fun σ3 r3 => if r3 = 0 then (some (σ3, 0)) else (if zr (1 - x1) then (if 1 ≤ β then (zbd (rec tC_Sto_sideAt (β - 1) σ3 [x3, (1 - x1)]) (fun σ4 r4 => if 1 ≤ β then (zbd (rec tC_Sym_after_40 (β - 1) σ4 [x2]) (fun σ5 r5 => if 1 ≤ β then (zbd (rec tC_Sto_sideSize (β - 1) σ5 [x3, (1 - x1)]) (fun σ6 r6 => if zr (r5 - x2) then (if 1 ≤ β then (zbd (rec tC_Mat_makeImage_40 (β - 1) σ6 [r4, r6, (r5 - x2)]) (fun σ7 r7 => if r7 = 0 then (rec tC_Mat_rewrites_40_p159 β σ7 [x0, x1, x2, x3, x4, x5, r4, (r5 - x2)]) else (if 1 ≤ β then (zbd (rec tC_Sym_greater_40_68 (β - 1) σ7 [x2, 0]) (fun σ8 r8 => if r8 = 0 then (rec tC_Mat_rewrites_40_p159 β σ8 [x0, x1, x2, x3, x4, x5, r4, (r5 - x2)]) else (rec tC_Mat_rewrites_40_p160 β σ8 [x0, x1, x2, x3, x4, x5, r4, (r5 - x2), 1]))) else none))) else none) else none)) else none)) else none)) else none) else none))) else none)) else none)
def kY_Mat_rewrites_40_p159 (rec : zF) (β : Nat) (σ : zS) (x0 x1 x2 x3 x4 x5 x6 x7 : Int) : Option zR := rec tC_Mat_rewrites_40_p160 β σ [x0, x1, x2, x3, x4, x5, x6, x7, 0]
def kY_Mat_rewrites_40_p160 (rec : zF) (β : Nat) (σ : zS) (x0 x1 x2 x3 x4 x5 x6 x7 x8 : Int) : Option zR := if x8 = 0 ∨ x8 = 1 then (some (σ, x8)) else none
def kY_Mat_rewrites_48 (rec : zF) (β : Nat) (σ : zS) (x0 x1 x2 : Int) : Option zR := if 1 ≤ β then (zbd (rec tC_Sto_fact (β - 1) σ [x0, 8]) (fun σ1 r1 => if 1 ≤ β then (zbd (rec tC_Sto_sideAt (β - 1) σ1 [r1, x1]) (fun σ2 r2 => if zb r2 (σ2.2.2 48) then (if (σ2.2.1 48 r2) < 0 then (rec tC_Mat_rewrites_48_p55 β σ2 [x0, x1, x2, r1, r2, (σ2.2.1 48 r2)]) else (if zb x2 (σ2.2.2 48) then (if (σ2.2.1 48 r2) = (σ2.2.1 48 x2) then (rec tC_Mat_rewrites_48_p55 β σ2 [x0, x1, x2, r1, r2, (σ2.2.1 48 r2)]) else (some (σ2, 0))) else none)) else none)) else none)) else none
def kY_Mat_rewrites_48_p55 (rec : zF) (β : Nat) (σ : zS) (x0 x1 x2 x3 x4 x5 : Int) : Option zR := lt_ (zI σ 6603 0) (fun σ1 => if 1 ≤ β then (zbd (rec tC_Sto_sideSize (β - 1) σ1 [x3, x1]) (fun σ2 r2 => if 1 ≤ β then (zbd (rec tC_Mat_matches_48 (β - 1) σ2 [x4, r2, x2]) (fun σ3 r3 => if r3 = 0 then (some (σ3, 0)) else (if zr (1 - x1) then (if 1 ≤ β then (zbd (rec tC_Sto_sideAt (β - 1) σ3 [x3, (1 - x1)]) (fun σ4 r4 => if 1 ≤ β then (zbd (rec tC_Sym_after_48 (β - 1) σ4 [x2]) (fun σ5 r5 => if 1 ≤ β then (zbd (rec tC_Sto_sideSize (β - 1) σ5 [x3, (1 - x1)]) (fun σ6 r6 => if zr (r5 - x2) then (if 1 ≤ β then (zbd (rec tC_Mat_makeImage_48 (β - 1) σ6 [r4, r6, (r5 - x2)]) (fun σ7 r7 => if r7 = 0 then (rec tC_Mat_rewrites_48_p159 β σ7 [x0, x1, x2, x3, x4, x5, r4, (r5 - x2)]) else (if 1 ≤ β then (zbd (rec tC_Sym_greater_48_68 (β - 1) σ7 [x2, 0]) (fun σ8 r8 => if r8 = 0 then (rec tC_Mat_rewrites_48_p159 β σ8 [x0, x1, x2, x3, x4, x5, r4, (r5 - x2)]) else (rec tC_Mat_rewrites_48_p160 β σ8 [x0, x1, x2, x3, x4, x5, r4, (r5 - x2), 1]))) else none))) else none) else none)) else none)) else none)) else none) else none))) else none)) else none)
def kY_Mat_rewrites_48_p159 (rec : zF) (β : Nat) (σ : zS) (x0 x1 x2 x3 x4 x5 x6 x7 : Int) : Option zR := rec tC_Mat_rewrites_48_p160 β σ [x0, x1, x2, x3, x4, x5, x6, x7, 0]
def kY_Mat_rewrites_48_p160 (rec : zF) (β : Nat) (σ : zS) (x0 x1 x2 x3 x4 x5 x6 x7 x8 : Int) : Option zR := if x8 = 0 ∨ x8 = 1 then (some (σ, x8)) else none
def kY_Mat_rewritesIn (rec : zF) (β : Nat) (σ : zS) (x0 x1 : Int) : Option zR := if 1 ≤ β then (zbd (rec tC_Sto_fact (β - 1) σ [x1, 8]) (fun σ1 r1 => rec tC_Mat_rewritesIn_p26 β σ1 [x0, x1, r1, 0])) else none
def kY_Mat_rewritesIn_p26 (rec : zF) (β : Nat) (σ : zS) (x0 x1 x2 x3 : Int) : Option zR := if 1 ≤ β then (zbd (rec tC_Sto_fact (β - 1) σ [x1, 3]) (fun σ1 r1 => if r1 ≤ x3 then (some (σ1, 0)) else (if 1 ≤ β then (zbd (rec tC_Sto_behind (β - 1) σ1 [x2]) (fun σ2 r2 => if 1 ≤ β then (zbd (rec tC_Sto_sideAt (β - 1) σ2 [x2, 0]) (fun σ3 r3 => rec tC_Mat_rewritesIn_p61 β σ3 [x0, x1, x2, x3, r2, r3])) else none)) else none))) else none
def kY_Mat_rewritesIn_p61 (rec : zF) (β : Nat) (σ : zS) (x0 x1 x2 x3 x4 x5 : Int) : Option zR := if x4 ≤ x5 then (if zr (x3 + 1) then (rec tC_Mat_rewritesIn_p26 β σ [x0, x1, x4, (x3 + 1)]) else none) else (if zb x5 (σ.2.2 48) then (if (σ.2.1 48 x5) < 0 then (rec tC_Mat_rewritesIn_p104 β σ [x0, x1, x2, x3, x4, x5]) else (if 1 ≤ β then (zbd (rec tC_Mat_rewrites_48 (β - 1) σ [x0, 0, x5]) (fun σ1 r1 => if r1 = 0 then (if 1 ≤ β then (zbd (rec tC_Mat_rewrites_48 (β - 1) σ1 [x0, 1, x5]) (fun σ2 r2 => if r2 = 0 then (rec tC_Mat_rewritesIn_p104 β σ2 [x0, x1, x2, x3, x4, x5]) else (rec tC_Mat_rewritesIn_p102 β σ2 [x0, x1, x2, x3, x4, x5]))) else none) else (rec tC_Mat_rewritesIn_p102 β σ1 [x0, x1, x2, x3, x4, x5]))) else none)) else none)
def kY_Mat_rewritesIn_p102 (rec : zF) (β : Nat) (σ : zS) (x0 x1 x2 x3 x4 x5 : Int) : Option zR := some (σ, 1)
def kY_Mat_rewritesIn_p104 (rec : zF) (β : Nat) (σ : zS) (x0 x1 x2 x3 x4 x5 : Int) : Option zR := if zr (x5 + 1) then (rec tC_Mat_rewritesIn_p61 β σ [x0, x1, x2, x3, x4, (x5 + 1)]) else none
def kY_Mat_subsumes (rec : zF) (β : Nat) (σ : zS) (x0 x1 : Int) : Option zR := if 1 ≤ β then (zbd (rec tC_Sto_fact (β - 1) σ [x0, 3]) (fun σ1 r1 => if 1 ≤ β then (zbd (rec tC_Sto_fact (β - 1) σ1 [x1, 3]) (fun σ2 r2 => if r2 < r1 then (rec tC_Mat_subsumes_p28 β σ2 [x0, x1, r1, 0]) else (rec tC_Mat_subsumes_p28 β σ2 [x0, x1, r1, 1]))) else none)) else none
def kY_Mat_subsumes_p28 (rec : zF) (β : Nat) (σ : zS) (x0 x1 x2 x3 : Int) : Option zR := if 1 ≤ β then (zbd (rec tC_Sto_fact (β - 1) σ [x0, 8]) (fun σ1 r1 => rec tC_Mat_subsumes_p45 β σ1 [x0, x1, x2, x3, r1, 0])) else none
def kY_Mat_subsumes_p45 (rec : zF) (β : Nat) (σ : zS) (x0 x1 x2 x3 x4 x5 : Int) : Option zR := if x2 ≤ x5 then (rec tC_Mat_subsumes_p88 β σ [x0, x1, x2, x3, x4, x5]) else (if x3 = 0 then (rec tC_Mat_subsumes_p88 β σ [x0, x1, x2, x3, x4, x5]) else (lt_ (zI σ 6603 0) (fun σ1 => if 1 ≤ β then (zbd (rec tC_Mat_coversAll (β - 1) σ1 [x4, 1, x1]) (fun σ2 r2 => if 1 ≤ β then (zbd (rec tC_Sto_behind (β - 1) σ2 [x4]) (fun σ3 r3 => if zr (x5 + 1) then (rec tC_Mat_subsumes_p45 β σ3 [x0, x1, x2, r2, r3, (x5 + 1)]) else none)) else none)) else none)))
def kY_Mat_subsumes_p88 (rec : zF) (β : Nat) (σ : zS) (x0 x1 x2 x3 x4 x5 : Int) : Option zR := lt_ (zI σ 6603 0) (fun σ1 => if x3 = 0 then (rec tC_Mat_subsumes_p126 β σ1 [x0, x1, x2, x3, x4, x5]) else (if x2 = 1 then (rec tC_Mat_subsumes_p122 β σ1 [x0, x1, x2, x3, x4, x5]) else (if 1 ≤ β then (zbd (rec tC_Sto_fact (β - 1) σ1 [x0, 8]) (fun σ2 r2 => if 1 ≤ β then (zbd (rec tC_Mat_coversAll (β - 1) σ2 [r2, x2, x1]) (fun σ3 r3 => if r3 = 0 then (rec tC_Mat_subsumes_p126 β σ3 [x0, x1, x2, x3, x4, x5]) else (rec tC_Mat_subsumes_p122 β σ3 [x0, x1, x2, x3, x4, x5]))) else none)) else none)))
def kY_Mat_subsumes_p122 (rec : zF) (β : Nat) (σ : zS) (x0 x1 x2 x3 x4 x5 : Int) : Option zR := rec tC_Mat_subsumes_p127 β σ [x0, x1, x2, x3, x4, x5, 1]
def kY_Mat_subsumes_p126 (rec : zF) (β : Nat) (σ : zS) (x0 x1 x2 x3 x4 x5 : Int) : Option zR := rec tC_Mat_subsumes_p127 β σ [x0, x1, x2, x3, x4, x5, 0]
def kY_Mat_subsumes_p127 (rec : zF) (β : Nat) (σ : zS) (x0 x1 x2 x3 x4 x5 x6 : Int) : Option zR := if x6 = 0 ∨ x6 = 1 then (some (σ, x6)) else none
def kY_Mod_apply (rec : zF) (β : Nat) (σ : zS) (x0 x1 : Int) : Option zR := if 1 ≤ β then (zbd (rec tC_Mod_mix (β - 1) σ [(σ.1 6904), x0]) (fun σ1 r1 => if zb x0 551 then (if zr (x1 + (σ1.2.1 7 x0)) then (if zr ((x1 + (σ1.2.1 7 x0)) - 1) then (rec tC_Mod_apply_p24 β σ1 [x0, x1, r1, ((x1 + (σ1.2.1 7 x0)) - 1)]) else none) else none) else none)) else none
def kY_Mod_apply_p24 (rec : zF) (β : Nat) (σ : zS) (x0 x1 x2 x3 : Int) : Option zR := if x3 < x1 then (if 1 ≤ β then (zbd (rec tC_Sym_isPredicate (β - 1) σ [x0]) (fun σ1 r1 => if r1 = 0 then (if (σ1.1 6905) = 0 then none else (rec tC_Mod_apply_p91 β σ1 [x0, x1, (zxor (zwm (zxor x2 (zushr x2 15)) 739982445) (zushr (zwm (zxor x2 (zushr x2 15)) 739982445) 12)), x3, (Int.tmod (zand (zxor (zwm (zxor x2 (zushr x2 15)) 739982445) (zushr (zwm (zxor x2 (zushr x2 15)) 739982445) 12)) 2147483647) (σ1.1 6905))])) else (rec tC_Mod_apply_p91 β σ1 [x0, x1, (zxor (zwm (zxor x2 (zushr x2 15)) 739982445) (zushr (zwm (zxor x2 (zushr x2 15)) 739982445) 12)), x3, (zand (zxor (zwm (zxor x2 (zushr x2 15)) 739982445) (zushr (zwm (zxor x2 (zushr x2 15)) 739982445) 12)) 1)]))) else none) else (if zb x3 101 then (if 1 ≤ β then (zbd (rec tC_Mod_mix (β - 1) σ [x2, (σ.2.1 71 x3)]) (fun σ2 r2 => if zr (x3 + (-1)) then (rec tC_Mod_apply_p24 β σ2 [x0, x1, r2, (x3 + (-1))]) else none)) else none) else none)
def kY_Mod_apply_p91 (rec : zF) (β : Nat) (σ : zS) (x0 x1 x2 x3 x4 : Int) : Option zR := some (σ, x4)
def kY_Mod_holds (rec : zF) (β : Nat) (σ : zS) (x0 : Int) : Option zR := if 1 ≤ β then (zbd (rec tC_Sto_fact (β - 1) σ [x0, 8]) (fun σ1 r1 => rec tC_Mod_holds_p13 β σ1 [x0, r1, 0])) else none
def kY_Mod_holds_p13 (rec : zF) (β : Nat) (σ : zS) (x0 x1 x2 : Int) : Option zR := if 1 ≤ β then (zbd (rec tC_Sto_fact (β - 1) σ [x0, 3]) (fun σ1 r1 => if r1 ≤ x2 then (some (σ1, 0)) else (if 1 ≤ β then (zbd (rec tC_Sto_sideAt (β - 1) σ1 [x1, 0]) (fun σ2 r2 => if 1 ≤ β then (zbd (rec tC_Sto_sideAt (β - 1) σ2 [x1, 1]) (fun σ3 r3 => if 1 ≤ β then (zbd (rec tC_Sto_behind (β - 1) σ3 [x1]) (fun σ4 r4 => if 1 ≤ β then (zbd (rec tC_Mod_valueOf (β - 1) σ4 [r2, r3]) (fun σ5 r5 => if 1 ≤ β then (zbd (rec tC_Mod_valueOf (β - 1) σ5 [r3, r4]) (fun σ6 r6 => if r5 = r6 then (rec tC_Mod_holds_p82 β σ6 [x0, x1, x2, r2, r3, r4, 1]) else (rec tC_Mod_holds_p82 β σ6 [x0, x1, x2, r2, r3, r4, 0]))) else none)) else none)) else none)) else none)) else none))) else none
def kY_Mod_holds_p82 (rec : zF) (β : Nat) (σ : zS) (x0 x1 x2 x3 x4 x5 x6 : Int) : Option zR := if 1 ≤ β then (zbd (rec tC_Sto_isPositive (β - 1) σ [x1]) (fun σ1 r1 => if x6 = r1 then (some (σ1, 1)) else (if zr (x2 + 1) then (rec tC_Mod_holds_p13 β σ1 [x0, x5, (x2 + 1)]) else none))) else none
def kY_Mod_makesTrue (rec : zF) (β : Nat) (σ : zS) (x0 : Int) : Option zR := if 1 ≤ β then (zbd (rec tC_Sto_fact (β - 1) σ [x0, 5]) (fun σ1 r1 => rec tC_Mod_makesTrue_p15 β σ1 [x0, r1, 1, 0])) else none
def kY_Mod_makesTrue_p15 (rec : zF) (β : Nat) (σ : zS) (x0 x1 x2 x3 : Int) : Option zR := if x1 ≤ x3 then (rec tC_Mod_makesTrue_p45 β σ [x0, x1, x2, 0]) else (if zb x3 6 then (lt_ (zA σ 70 x3 0) (fun σ1 => if zr (x2 * (σ1.1 6905)) then (if zr (x3 + 1) then (rec tC_Mod_makesTrue_p15 β σ1 [x0, x1, (x2 * (σ1.1 6905)), (x3 + 1)]) else none) else none)) else none)
def kY_Mod_makesTrue_p45 (rec : zF) (β : Nat) (σ : zS) (x0 x1 x2 x3 : Int) : Option zR := if x2 ≤ x3 then (some (σ, 1)) else (if 1 ≤ β then (zbd (rec tC_Mod_holds (β - 1) σ [x0]) (fun σ1 r1 => if r1 = 0 then (some (σ1, 0)) else (if 1 ≤ β then (zbd (rec tC_Mod_nextElements (β - 1) σ1 [x1]) (fun σ2 r2 => if zr (x3 + 1) then (rec tC_Mod_makesTrue_p45 β σ2 [x0, x1, x2, (x3 + 1)]) else none)) else none))) else none)
def kY_Mod_mix (rec : zF) (β : Nat) (σ : zS) (x0 x1 : Int) : Option zR := some (σ, (zwa (zwa (zwm 31 (zxor x0 (zushr x0 7))) x1) 1))
def kY_Mod_nextElements (rec : zF) (β : Nat) (σ : zS) (x0 : Int) : Option zR := rec tC_Mod_nextElements_p2 β σ [x0, 0]
def kY_Mod_nextElements_p2 (rec : zF) (β : Nat) (σ : zS) (x0 x1 : Int) : Option zR := if x0 ≤ x1 then (some (σ, 0)) else (if zb x1 6 then (if zr ((σ.2.1 70 x1) + 1) then (lt_ (zA σ 70 x1 ((σ.2.1 70 x1) + 1)) (fun σ1 => if (σ1.1 6905) ≤ (σ1.2.1 70 x1) then (lt_ (zA σ1 70 x1 0) (fun σ2 => if zr (x1 + 1) then (rec tC_Mod_nextElements_p2 β σ2 [x0, (x1 + 1)]) else none)) else (some (σ1, 0)))) else none) else none)
def kY_Mod_suitsText (rec : zF) (β : Nat) (σ : zS) (x0 x1 : Int) : Option zR := lt_ (zI σ 6904 x0) (fun σ1 => lt_ (zI σ1 6905 x1) (fun σ2 => rec tC_Mod_suitsText_p12 β σ2 [x0, x1, 0]))
def kY_Mod_suitsText_p12 (rec : zF) (β : Nat) (σ : zS) (x0 x1 x2 : Int) : Option zR := if (σ.1 5403) ≤ x2 then (some (σ, 1)) else (if 1 ≤ β then (zbd (rec tC_Mod_makesTrue (β - 1) σ [x2]) (fun σ1 r1 => if r1 = 0 then (some (σ1, 0)) else (if zr (x2 + 1) then (rec tC_Mod_suitsText_p12 β σ1 [x0, x1, (x2 + 1)]) else none))) else none)
def kY_Mod_valueOf (rec : zF) (β : Nat) (σ : zS) (x0 x1 : Int) : Option zR := if zr (x1 - 1) then (rec tC_Mod_valueOf_p7 β σ [x0, x1, 0, (x1 - 1)]) else none
def kY_Mod_valueOf_p7 (rec : zF) (β : Nat) (σ : zS) (x0 x1 x2 x3 : Int) : Option zR := if x3 < x0 then (if zb 0 101 then (some (σ, (σ.2.1 71 0))) else none) else (if zb x3 (σ.2.2 48) then (if 0 ≤ (σ.2.1 48 x3) then (if (σ.2.1 48 x3) = 0 then (if zb x2 101 then (lt_ (zA σ 71 x2 1) (fun σ3 => if zr (x2 + 1) then (rec tC_Mod_valueOf_p101 β σ3 [x0, x1, (x2 + 1), x3, (σ.2.1 48 x3)]) else none)) else none) else (if zb (σ.2.1 48 x3) 551 then (if zr (x2 - (σ.2.1 7 (σ.2.1 48 x3))) then (if 1 ≤ β then (zbd (rec tC_Mod_apply (β - 1) σ [(σ.2.1 48 x3), (x2 - (σ.2.1 7 (σ.2.1 48 x3)))]) (fun σ1 r1 => if zb (x2 - (σ.2.1 7 (σ.2.1 48 x3))) 101 then (lt_ (zA σ1 71 (x2 - (σ.2.1 7 (σ.2.1 48 x3))) r1) (fun σ2 => if zr ((x2 - (σ.2.1 7 (σ.2.1 48 x3))) + 1) then (rec tC_Mod_valueOf_p101 β σ2 [x0, x1, ((x2 - (σ.2.1 7 (σ.2.1 48 x3))) + 1), x3, (σ.2.1 48 x3)]) else none)) else none)) else none) else none) else none)) else (if zb (-1 - (σ.2.1 48 x3)) 6 then (if zb x2 101 then (lt_ (zA σ 71 x2 (σ.2.1 70 (-1 - (σ.2.1 48 x3)))) (fun σ4 => if zr (x2 + 1) then (rec tC_Mod_valueOf_p101 β σ4 [x0, x1, (x2 + 1), x3, (σ.2.1 48 x3)]) else none)) else none) else none)) else none)
def kY_Mod_valueOf_p101 (rec : zF) (β : Nat) (σ : zS) (x0 x1 x2 x3 x4 : Int) : Option zR := if zr (x3 + (-1)) then (rec tC_Mod_valueOf_p7 β σ [x0, x1, x2, (x3 + (-1))]) else none
def kY_Par_fail (rec : zF) (β : Nat) (σ : zS) (x0 x1 : Int) : Option zR := lt_ (zI σ 3100 x0) (fun σ1 => lt_ (zI σ1 3101 x1) (fun σ2 => some (σ2, 0)))
def kY_Par_isNest (rec : zF) (β : Nat) (σ : zS) (x0 : Int) : Option zR := if x0 = 11 then (rec tC_Par_isNest_p29 β σ [x0]) else (if x0 = 5 then (rec tC_Par_isNest_p29 β σ [x0]) else (if x0 = 12 then (rec tC_Par_isNest_p29 β σ [x0]) else (if x0 = 13 then (rec tC_Par_isNest_p29 β σ [x0]) else (if x0 = 16 then (rec tC_Par_isNest_p29 β σ [x0]) else (rec tC_Par_isNest_p34 β σ [x0, 0])))))
def kY_Par_isNest_p29 (rec : zF) (β : Nat) (σ : zS) (x0 : Int) : Option zR := rec tC_Par_isNest_p34 β σ [x0, 1]
def kY_Par_isNest_p34 (rec : zF) (β : Nat) (σ : zS) (x0 x1 : Int) : Option zR := if x1 = 0 ∨ x1 = 1 then (some (σ, x1)) else none
def kY_Par_pop (rec : zF) (β : Nat) (σ : zS) : Option zR := if 1 ≤ β then (zbd (rec tC_Par_top (β - 1) σ []) (fun σ1 r1 => if 1 ≤ β then (zbd (rec tC_Par_isNest (β - 1) σ1 [r1]) (fun σ2 r2 => if r2 = 0 then (rec tC_Par_pop_p20 β σ2 [0, (σ.1 3108)]) else (rec tC_Par_pop_p20 β σ2 [1, (σ.1 3108)]))) else none)) else none
def kY_Par_pop_p20 (rec : zF) (β : Nat) (σ : zS) (x0 x1 : Int) : Option zR := if zr (x1 - x0) then (lt_ (zI σ 3108 (x1 - x0)) (fun σ1 => if zr ((σ1.1 3301) - 1) then (lt_ (zI σ1 3301 ((σ1.1 3301) - 1)) (fun σ2 => if zr ((σ2.1 3501) - 1) then (lt_ (zI σ2 3501 ((σ2.1 3501) - 1)) (fun σ3 => some (σ3, 0))) else none)) else none)) else none
def kY_Par_refuse (rec : zF) (β : Nat) (σ : zS) : Option zR := if (σ.1 3205) = 0 then (rec tC_Par_refuse_p16 β σ [1]) else (rec tC_Par_refuse_p16 β σ [3])
def kY_Par_refuse_p16 (rec : zF) (β : Nat) (σ : zS) (x0 : Int) : Option zR := if 1 ≤ β then (zbd (rec tC_Par_fail (β - 1) σ [x0, (σ.1 3203)]) (fun σ1 r1 => some (σ1, 0))) else none
def kY_Par_settle (rec : zF) (β : Nat) (σ : zS) (x0 x1 x2 x3 : Int) : Option zR := if (σ.1 3100) = 0 then (if 1 ≤ β then (zbd (rec tC_Sym_settles (β - 1) σ [x0, x1, x2]) (fun σ1 r1 => if r1 = 0 then (if 1 ≤ β then (zbd (rec tC_Par_fail (β - 1) σ1 [2, x3]) (fun σ2 r2 => rec tC_Par_settle_p27 β σ2 [x0, x1, x2, x3])) else none) else (rec tC_Par_settle_p27 β σ1 [x0, x1, x2, x3]))) else none) else (rec tC_Par_settle_p27 β σ [x0, x1, x2, x3])
def kY_Par_settle_p27 (rec : zF) (β : Nat) (σ : zS) (x0 x1 x2 x3 : Int) : Option zR := some (σ, 0)
def kY_Par_strength (rec : zF) (β : Nat) (σ : zS) (x0 : Int) : Option zR := if x0 < 11 ∨ 17 < x0 then (some (σ, 0)) else (if x0 = 11 then (some (σ, 6)) else (if x0 = 12 then (some (σ, 1)) else (if x0 = 13 then (some (σ, 1)) else (if x0 = 14 then (some (σ, 5)) else (if x0 = 15 then (some (σ, 4)) else (if x0 = 16 then (some (σ, 3)) else (some (σ, 2))))))))
def kY_Par_top (rec : zF) (β : Nat) (σ : zS) : Option zR := if (σ.1 3301) = 0 then (rec tC_Par_top_p31 β σ [0]) else (if zr ((σ.1 3301) - 1) then (if zb ((σ.1 3301) - 1) (σ.2.2 34) then (rec tC_Par_top_p31 β σ [(σ.2.1 34 ((σ.1 3301) - 1))]) else none) else none)
def kY_Par_top_p31 (rec : zF) (β : Nat) (σ : zS) (x0 : Int) : Option zR := some (σ, x0)
def kY_Sat_choose (rec : zF) (β : Nat) (σ : zS) : Option zR := if (Int.tmod (zwa (σ.1 5301) 1) 5) = 0 then (rec tC_Sat_choose_p16 β σ [1]) else (rec tC_Sat_choose_p16 β σ [0])
def kY_Sat_choose_p16 (rec : zF) (β : Nat) (σ : zS) (x0 : Int) : Option zR := rec tC_Sat_choose_p21 β σ [x0, (-1), 0]
def kY_Sat_choose_p21 (rec : zF) (β : Nat) (σ : zS) (x0 x1 x2 : Int) : Option zR := if (σ.1 5402) ≤ x2 then (some (σ, x1)) else (if 1 ≤ β then (zbd (rec tC_Sto_fact (β - 1) σ [x2, 6]) (fun σ1 r1 => if r1 = 0 then (if x0 = 0 then (if x1 = (-1) then (rec tC_Sat_choose_p77 β σ1 [x0, x1, x2]) else (if 1 ≤ β then (zbd (rec tC_Sto_fact (β - 1) σ1 [x2, 4]) (fun σ2 r2 => if 1 ≤ β then (zbd (rec tC_Sto_fact (β - 1) σ2 [x1, 4]) (fun σ3 r3 => if r3 ≤ r2 then (rec tC_Sat_choose_p79 β σ3 [x0, x1, x2]) else (rec tC_Sat_choose_p77 β σ3 [x0, x1, x2]))) else none)) else none)) else (some (σ1, x2))) else (rec tC_Sat_choose_p79 β σ1 [x0, x1, x2]))) else none)
def kY_Sat_choose_p77 (rec : zF) (β : Nat) (σ : zS) (x0 x1 x2 : Int) : Option zR := rec tC_Sat_choose_p79 β σ [x0, x2, x2]
def kY_Sat_choose_p79 (rec : zF) (β : Nat) (σ : zS) (x0 x1 x2 : Int) : Option zR := if zr (x2 + 1) then (rec tC_Sat_choose_p21 β σ [x0, x1, (x2 + 1)]) else none
def kY_Sat_clear (rec : zF) (β : Nat) (σ : zS) : Option zR := lt_ (zI σ 5300 0) (fun σ1 => lt_ (zI σ1 5301 0) (fun σ2 => lt_ (zI σ2 5302 0) (fun σ3 => lt_ (zI σ3 5303 0) (fun σ4 => lt_ (zI σ4 5304 0) (fun σ5 => lt_ (zI σ5 5305 0) (fun σ6 => lt_ (zI σ6 5306 0) (fun σ7 => lt_ (zI σ7 5501 0) (fun σ8 => some (σ8, 0)))))))))
def kY_Sat_clearAway (rec : zF) (β : Nat) (σ : zS) (x0 : Int) : Option zR := if 1 ≤ β then (zbd (rec tC_Sat_isSingle (β - 1) σ [x0]) (fun σ1 r1 => rec tC_Sat_clearAway_p8 β σ1 [x0, r1, 0])) else none
def kY_Sat_clearAway_p8 (rec : zF) (β : Nat) (σ : zS) (x0 x1 x2 : Int) : Option zR := if (σ.1 5402) ≤ x2 then (some (σ, 0)) else (if 1 ≤ β then (zbd (rec tC_Sat_isProcessed (β - 1) σ [x2]) (fun σ1 r1 => if r1 = 0 then (rec tC_Sat_clearAway_p90 β σ1 [x0, x1, x2]) else (if 1 ≤ β then (zbd (rec tC_Mat_subsumes (β - 1) σ1 [x0, x2]) (fun σ2 r2 => if r2 = 0 then (if x1 = 0 then (rec tC_Sat_clearAway_p90 β σ2 [x0, x1, x2]) else (if 1 ≤ β then (zbd (rec tC_Mat_rewritesIn (β - 1) σ2 [x0, x2]) (fun σ3 r3 => if r3 = 0 then (rec tC_Sat_clearAway_p90 β σ3 [x0, x1, x2]) else (if 1 ≤ β then (zbd (rec tC_Sto_setFact (β - 1) σ3 [x2, 6, 0]) (fun σ4 r4 => rec tC_Sat_clearAway_p90 β σ4 [x0, x1, x2])) else none))) else none)) else (if 1 ≤ β then (zbd (rec tC_Sto_setFact (β - 1) σ2 [x2, 6, 2]) (fun σ5 r5 => lt_ (zI σ5 5304 (zwa (σ5.1 5304) 1)) (fun σ6 => rec tC_Sat_clearAway_p90 β σ6 [x0, x1, x2]))) else none))) else none))) else none)
def kY_Sat_clearAway_p90 (rec : zF) (β : Nat) (σ : zS) (x0 x1 x2 : Int) : Option zR := if zr (x2 + 1) then (rec tC_Sat_clearAway_p8 β σ [x0, x1, (x2 + 1)]) else none
def kY_Sat_isProcessed (rec : zF) (β : Nat) (σ : zS) (x0 : Int) : Option zR := if 1 ≤ β then (zbd (rec tC_Sto_fact (β - 1) σ [x0, 6]) (fun σ1 r1 => if r1 = 1 then (rec tC_Sat_isProcessed_p19 β σ1 [x0, 1]) else (rec tC_Sat_isProcessed_p19 β σ1 [x0, 0]))) else none
def kY_Sat_isProcessed_p19 (rec : zF) (β : Nat) (σ : zS) (x0 x1 : Int) : Option zR := if x1 = 0 ∨ x1 = 1 then (some (σ, x1)) else none
def kY_Sat_isSingle (rec : zF) (β : Nat) (σ : zS) (x0 : Int) : Option zR := if 1 ≤ β then (zbd (rec tC_Sto_fact (β - 1) σ [x0, 3]) (fun σ1 r1 => if r1 = 1 then (if 1 ≤ β then (zbd (rec tC_Sto_fact (β - 1) σ1 [x0, 8]) (fun σ2 r2 => if 1 ≤ β then (zbd (rec tC_Sto_isPositive (β - 1) σ2 [r2]) (fun σ3 r3 => if r3 = 0 then (rec tC_Sat_isSingle_p37 β σ3 [x0]) else (rec tC_Sat_isSingle_p38 β σ3 [x0, 1]))) else none)) else none) else (rec tC_Sat_isSingle_p37 β σ1 [x0]))) else none
def kY_Sat_isSingle_p37 (rec : zF) (β : Nat) (σ : zS) (x0 : Int) : Option zR := rec tC_Sat_isSingle_p38 β σ [x0, 0]
def kY_Sat_isSingle_p38 (rec : zF) (β : Nat) (σ : zS) (x0 x1 : Int) : Option zR := if x1 = 0 ∨ x1 = 1 then (some (σ, x1)) else none
def kY_Sat_isSubsumed (rec : zF) (β : Nat) (σ : zS) (x0 : Int) : Option zR := rec tC_Sat_isSubsumed_p2 β σ [x0, 0]
def kY_Sat_isSubsumed_p2 (rec : zF) (β : Nat) (σ : zS) (x0 x1 : Int) : Option zR := if (σ.1 5402) ≤ x1 then (some (σ, 0)) else (if 1 ≤ β then (zbd (rec tC_Sat_isProcessed (β - 1) σ [x1]) (fun σ1 r1 => if r1 = 0 then (rec tC_Sat_isSubsumed_p35 β σ1 [x0, x1]) else (if 1 ≤ β then (zbd (rec tC_Mat_subsumes (β - 1) σ1 [x1, x0]) (fun σ2 r2 => if r2 = 0 then (rec tC_Sat_isSubsumed_p35 β σ2 [x0, x1]) else (some (σ2, 1)))) else none))) else none)
def kY_Sat_isSubsumed_p35 (rec : zF) (β : Nat) (σ : zS) (x0 x1 : Int) : Option zR := if zr (x1 + 1) then (rec tC_Sat_isSubsumed_p2 β σ [x0, (x1 + 1)]) else none
def kY_Sat_markProof (rec : zF) (β : Nat) (σ : zS) (x0 : Int) : Option zR := if 1 ≤ β then (zbd (rec tC_Sto_has (β - 1) σ [x0]) (fun σ1 r1 => if r1 = 0 then (rec tC_Sat_markProof_p22 β σ1 [x0]) else (if 1 ≤ β then (zbd (rec tC_Sto_setFact (β - 1) σ1 [x0, 10, 1]) (fun σ2 r2 => rec tC_Sat_markProof_p22 β σ2 [x0])) else none))) else none
def kY_Sat_markProof_p22 (rec : zF) (β : Nat) (σ : zS) (x0 : Int) : Option zR := some (σ, 0)
def kY_Sat_writeOthers (rec : zF) (β : Nat) (σ : zS) (x0 x1 x2 x3 : Int) : Option zR := if 1 ≤ β then (zbd (rec tC_Sto_fact (β - 1) σ [x0, 8]) (fun σ1 r1 => rec tC_Sat_writeOthers_p15 β σ1 [x0, x1, x2, x3, r1, 0])) else none
def kY_Sat_writeOthers_p15 (rec : zF) (β : Nat) (σ : zS) (x0 x1 x2 x3 x4 x5 : Int) : Option zR := if 1 ≤ β then (zbd (rec tC_Sto_fact (β - 1) σ [x0, 3]) (fun σ1 r1 => if r1 ≤ x5 then (some (σ1, 0)) else (if x4 = x1 then (rec tC_Sat_writeOthers_p134 β σ1 [x0, x1, x2, x3, x4, x5]) else (if x4 = x2 then (rec tC_Sat_writeOthers_p134 β σ1 [x0, x1, x2, x3, x4, x5]) else (if 1 ≤ β then (zbd (rec tC_Sto_sideAt (β - 1) σ1 [x4, 1]) (fun σ2 r2 => if 1 ≤ β then (zbd (rec tC_Sto_isPositive (β - 1) σ2 [x4]) (fun σ3 r3 => if 1 ≤ β then (zbd (rec tC_Dra_openLiteral (β - 1) σ3 [r3]) (fun σ4 r4 => if 1 ≤ β then (zbd (rec tC_Sto_sideAt (β - 1) σ4 [x4, 0]) (fun σ5 r5 => if 1 ≤ β then (zbd (rec tC_Uni_write (β - 1) σ5 [r5, r2, x3, 0]) (fun σ6 r6 => if 1 ≤ β then (zbd (rec tC_Dra_openRight (β - 1) σ6 []) (fun σ7 r7 => if 1 ≤ β then (zbd (rec tC_Sto_behind (β - 1) σ7 [x4]) (fun σ8 r8 => if 1 ≤ β then (zbd (rec tC_Uni_write (β - 1) σ8 [r2, r8, x3, 0]) (fun σ9 r9 => if 1 ≤ β then (zbd (rec tC_Dra_closeLiteral (β - 1) σ9 []) (fun σ10 r10 => rec tC_Sat_writeOthers_p134 β σ10 [x0, x1, x2, x3, x4, x5])) else none)) else none)) else none)) else none)) else none)) else none)) else none)) else none)) else none))))) else none
def kY_Sat_writeOthers_p134 (rec : zF) (β : Nat) (σ : zS) (x0 x1 x2 x3 x4 x5 : Int) : Option zR := if 1 ≤ β then (zbd (rec tC_Sto_behind (β - 1) σ [x4]) (fun σ1 r1 => if zr (x5 + 1) then (rec tC_Sat_writeOthers_p15 β σ1 [x0, x1, x2, x3, r1, (x5 + 1)]) else none)) else none
def kY_Sat_writePair (rec : zF) (β : Nat) (σ : zS) (x0 x1 x2 x3 x4 : Int) : Option zR := if 1 ≤ β then (zbd (rec tC_Sto_sideAt (β - 1) σ [x1, x2]) (fun σ1 r1 => if 1 ≤ β then (zbd (rec tC_Sto_sideAt (β - 1) σ1 [x3, x4]) (fun σ2 r2 => if 1 ≤ β then (zbd (rec tC_Dra_openLiteral (β - 1) σ2 [x0]) (fun σ3 r3 => if 1 ≤ β then (zbd (rec tC_Sto_sideSize (β - 1) σ3 [x1, x2]) (fun σ4 r4 => if zr (r1 + r4) then (if 1 ≤ β then (zbd (rec tC_Uni_write (β - 1) σ4 [r1, (r1 + r4), 0, 0]) (fun σ5 r5 => if 1 ≤ β then (zbd (rec tC_Dra_openRight (β - 1) σ5 []) (fun σ6 r6 => if 1 ≤ β then (zbd (rec tC_Sto_sideSize (β - 1) σ6 [x3, x4]) (fun σ7 r7 => if zr (r2 + r7) then (if 1 ≤ β then (zbd (rec tC_Uni_write (β - 1) σ7 [r2, (r2 + r7), 0, 0]) (fun σ8 r8 => if 1 ≤ β then (zbd (rec tC_Dra_closeLiteral (β - 1) σ8 []) (fun σ9 r9 => some (σ9, 0))) else none)) else none) else none)) else none)) else none)) else none) else none)) else none)) else none)) else none)) else none
def kY_Sat_writeRange (rec : zF) (β : Nat) (σ : zS) (x0 x1 x2 x3 x4 : Int) : Option zR := if x2 < x0 then (rec tC_Sat_writeRange_p10 β σ [x0, x1, x2, x3, x4]) else (if x2 < x1 then (if 1 ≤ β then (zbd (rec tC_Sto_sideAt (β - 1) σ [x3, x4]) (fun σ1 r1 => if 1 ≤ β then (zbd (rec tC_Uni_write (β - 1) σ1 [x0, x2, 6, 0]) (fun σ2 r2 => if 1 ≤ β then (zbd (rec tC_Sto_sideSize (β - 1) σ2 [x3, x4]) (fun σ3 r3 => if zr (r1 + r3) then (if 1 ≤ β then (zbd (rec tC_Uni_write (β - 1) σ3 [r1, (r1 + r3), 0, 0]) (fun σ4 r4 => if 1 ≤ β then (zbd (rec tC_Sym_after_48 (β - 1) σ4 [x2]) (fun σ5 r5 => if 1 ≤ β then (zbd (rec tC_Uni_write (β - 1) σ5 [r5, x1, 6, 0]) (fun σ6 r6 => some (σ6, 0))) else none)) else none)) else none) else none)) else none)) else none)) else none) else (rec tC_Sat_writeRange_p10 β σ [x0, x1, x2, x3, x4]))
def kY_Sat_writeRange_p10 (rec : zF) (β : Nat) (σ : zS) (x0 x1 x2 x3 x4 : Int) : Option zR := if 1 ≤ β then (zbd (rec tC_Uni_write (β - 1) σ [x0, x1, 6, 0]) (fun σ1 r1 => some (σ1, 0))) else none
def kY_Sat_writeReplaced (rec : zF) (β : Nat) (σ : zS) (x0 x1 x2 x3 : Int) : Option zR := if 1 ≤ β then (zbd (rec tC_Sto_fact (β - 1) σ [x0, 8]) (fun σ1 r1 => rec tC_Sat_writeReplaced_p15 β σ1 [x0, x1, x2, x3, r1, 0])) else none
def kY_Sat_writeReplaced_p15 (rec : zF) (β : Nat) (σ : zS) (x0 x1 x2 x3 x4 x5 : Int) : Option zR := if 1 ≤ β then (zbd (rec tC_Sto_fact (β - 1) σ [x0, 3]) (fun σ1 r1 => if r1 ≤ x5 then (some (σ1, 0)) else (if 1 ≤ β then (zbd (rec tC_Sto_sideAt (β - 1) σ1 [x4, 1]) (fun σ2 r2 => if 1 ≤ β then (zbd (rec tC_Sto_isPositive (β - 1) σ2 [x4]) (fun σ3 r3 => if 1 ≤ β then (zbd (rec tC_Dra_openLiteral (β - 1) σ3 [r3]) (fun σ4 r4 => if 1 ≤ β then (zbd (rec tC_Sto_sideAt (β - 1) σ4 [x4, 0]) (fun σ5 r5 => if 1 ≤ β then (zbd (rec tC_Sat_writeRange (β - 1) σ5 [r5, r2, x1, x2, x3]) (fun σ6 r6 => if 1 ≤ β then (zbd (rec tC_Dra_openRight (β - 1) σ6 []) (fun σ7 r7 => if 1 ≤ β then (zbd (rec tC_Sto_behind (β - 1) σ7 [x4]) (fun σ8 r8 => if 1 ≤ β then (zbd (rec tC_Sat_writeRange (β - 1) σ8 [r2, r8, x1, x2, x3]) (fun σ9 r9 => if 1 ≤ β then (zbd (rec tC_Dra_closeLiteral (β - 1) σ9 []) (fun σ10 r10 => if 1 ≤ β then (zbd (rec tC_Sto_behind (β - 1) σ10 [x4]) (fun σ11 r11 => if zr (x5 + 1) then (rec tC_Sat_writeReplaced_p15 β σ11 [x0, x1, x2, x3, r11, (x5 + 1)]) else none)) else none)) else none)) else none)) else none)) else none)) else none)) else none)) else none)) else none)) else none))) else none
def kY_Sto_behind (rec : zF) (β : Nat) (σ : zS) (x0 : Int) : Option zR := if zr (x0 + 3) then (if zb (x0 + 3) (σ.2.2 48) then (if zr (x0 + 4) then (if zb (x0 + 4) (σ.2.2 48) then (if zr (x0 + 5) then (if zr ((x0 + 5) + (σ.2.1 48 (x0 + 3))) then (if zr (((x0 + 5) + (σ.2.1 48 (x0 + 3))) + (σ.2.1 48 (x0 + 4))) then (some (σ, (((x0 + 5) + (σ.2.1 48 (x0 + 3))) + (σ.2.1 48 (x0 + 4))))) else none) else none) else none) else none) else none) else none) else none
def kY_Sto_clear (rec : zF) (β : Nat) (σ : zS) : Option zR := lt_ (zI σ 4701 0) (fun σ1 => lt_ (zI σ1 4901 0) (fun σ2 => lt_ (zI σ2 5101 0) (fun σ3 => lt_ (zI σ3 5402 0) (fun σ4 => lt_ (zI σ4 5403 0) (fun σ5 => some (σ5, 0))))))
def kY_Sto_fact (rec : zF) (β : Nat) (σ : zS) (x0 x1 : Int) : Option zR := if zr (x0 * 11) then (if zr ((x0 * 11) + x1) then (if zb ((x0 * 11) + x1) (σ.2.2 52) then (some (σ, (σ.2.1 52 ((x0 * 11) + x1)))) else none) else none) else none
def kY_Sto_has (rec : zF) (β : Nat) (σ : zS) (x0 : Int) : Option zR := if x0 < 0 then (rec tC_Sto_has_p16 β σ [x0]) else (if (σ.1 5402) ≤ x0 then (rec tC_Sto_has_p16 β σ [x0]) else (rec tC_Sto_has_p17 β σ [x0, 1]))
def kY_Sto_has_p16 (rec : zF) (β : Nat) (σ : zS) (x0 : Int) : Option zR := rec tC_Sto_has_p17 β σ [x0, 0]
def kY_Sto_has_p17 (rec : zF) (β : Nat) (σ : zS) (x0 x1 : Int) : Option zR := if x1 = 0 ∨ x1 = 1 then (some (σ, x1)) else none
def kY_Sto_headOf (rec : zF) (β : Nat) (σ : zS) (x0 x1 : Int) : Option zR := if 1 ≤ β then (zbd (rec tC_Sto_fact (β - 1) σ [x0, 8]) (fun σ1 r1 => rec tC_Sto_headOf_p11 β σ1 [x0, x1, r1, 0])) else none
def kY_Sto_headOf_p11 (rec : zF) (β : Nat) (σ : zS) (x0 x1 x2 x3 : Int) : Option zR := if x1 ≤ x3 then (some (σ, x2)) else (if 1 ≤ β then (zbd (rec tC_Sto_behind (β - 1) σ [x2]) (fun σ1 r1 => if zr (x3 + 1) then (rec tC_Sto_headOf_p11 β σ1 [x0, x1, r1, (x3 + 1)]) else none)) else none)
def kY_Sto_howMany (rec : zF) (β : Nat) (σ : zS) (x0 : Int) : Option zR := rec tC_Sto_howMany_p4 β σ [x0, 0, 0]
def kY_Sto_howMany_p4 (rec : zF) (β : Nat) (σ : zS) (x0 x1 x2 : Int) : Option zR := if (σ.1 5402) ≤ x2 then (some (σ, x1)) else (if 1 ≤ β then (zbd (rec tC_Sto_fact (β - 1) σ [x2, 6]) (fun σ1 r1 => if r1 = x0 then (rec tC_Sto_howMany_p29 β σ1 [x0, x1, x2, 1, x1]) else (rec tC_Sto_howMany_p29 β σ1 [x0, x1, x2, 0, x1]))) else none)
def kY_Sto_howMany_p29 (rec : zF) (β : Nat) (σ : zS) (x0 x1 x2 x3 x4 : Int) : Option zR := if zr (x4 + x3) then (if zr (x2 + 1) then (rec tC_Sto_howMany_p4 β σ [x0, (x4 + x3), (x2 + 1)]) else none) else none
def kY_Sto_isEligible (rec : zF) (β : Nat) (σ : zS) (x0 : Int) : Option zR := if zr (x0 + 2) then (if zb (x0 + 2) (σ.2.2 48) then (if (σ.2.1 48 (x0 + 2)) = 1 then (rec tC_Sto_isEligible_p20 β σ [x0, 1]) else (rec tC_Sto_isEligible_p20 β σ [x0, 0])) else none) else none
def kY_Sto_isEligible_p20 (rec : zF) (β : Nat) (σ : zS) (x0 x1 : Int) : Option zR := if x1 = 0 ∨ x1 = 1 then (some (σ, x1)) else none
def kY_Sto_isGreater (rec : zF) (β : Nat) (σ : zS) (x0 x1 : Int) : Option zR := rec tC_Sto_isGreater_p8 β σ [x0, x1, 3, 3, 0]
def kY_Sto_isGreater_p8 (rec : zF) (β : Nat) (σ : zS) (x0 x1 x2 x3 x4 : Int) : Option zR := if 2 ≤ x4 then (rec tC_Sto_isGreater_p129 β σ [x0, x1, x2, x3, 0]) else (rec tC_Sto_isGreater_p17 β σ [x0, x1, x2, x3, x4, 0])
def kY_Sto_isGreater_p17 (rec : zF) (β : Nat) (σ : zS) (x0 x1 x2 x3 x4 x5 : Int) : Option zR := if 2 ≤ x5 then (if zr (x4 + 1) then (rec tC_Sto_isGreater_p8 β σ [x0, x1, x2, x3, (x4 + 1)]) else none) else (if (zand (zshr x2 x4) 1) = 1 then (if (zand (zshr x3 x5) 1) = 1 then (rec tC_Sto_isGreater_p49 β σ [x0, x1, x2, x3, x4, x5, 1]) else (rec tC_Sto_isGreater_p48 β σ [x0, x1, x2, x3, x4, x5])) else (rec tC_Sto_isGreater_p48 β σ [x0, x1, x2, x3, x4, x5]))
def kY_Sto_isGreater_p48 (rec : zF) (β : Nat) (σ : zS) (x0 x1 x2 x3 x4 x5 : Int) : Option zR := rec tC_Sto_isGreater_p49 β σ [x0, x1, x2, x3, x4, x5, 0]
def kY_Sto_isGreater_p49 (rec : zF) (β : Nat) (σ : zS) (x0 x1 x2 x3 x4 x5 x6 : Int) : Option zR := if x6 = 0 then (rec tC_Sto_isGreater_p114 β σ [x0, x1, x2, x3, x4, x5, x6]) else (if 1 ≤ β then (zbd (rec tC_Sto_sideAt (β - 1) σ [x0, x4]) (fun σ1 r1 => if 1 ≤ β then (zbd (rec tC_Sto_sideAt (β - 1) σ1 [x1, x5]) (fun σ2 r2 => if 1 ≤ β then (zbd (rec tC_Sym_same_48_48 (β - 1) σ2 [r1, r2]) (fun σ3 r3 => if r3 = 0 then (rec tC_Sto_isGreater_p114 β σ3 [x0, x1, x2, x3, x4, x5, x6]) else (rec tC_Sto_isGreater_p114 β σ3 [x0, x1, (zand x2 (-1 - (zshl 1 x4))), (zand x3 (-1 - (zshl 1 x5))), x4, x5, x6]))) else none)) else none)) else none)
def kY_Sto_isGreater_p114 (rec : zF) (β : Nat) (σ : zS) (x0 x1 x2 x3 x4 x5 x6 : Int) : Option zR := if zr (x5 + 1) then (rec tC_Sto_isGreater_p17 β σ [x0, x1, x2, x3, x4, (x5 + 1)]) else none
def kY_Sto_isGreater_p129 (rec : zF) (β : Nat) (σ : zS) (x0 x1 x2 x3 x4 : Int) : Option zR := if 2 ≤ x4 then (if x2 = 0 then (rec tC_Sto_isGreater_p249 β σ [x0, x1, x2, x3, x4, 0]) else (rec tC_Sto_isGreater_p249 β σ [x0, x1, x2, x3, x4, 1])) else (if (zand (zshr x3 x4) 1) = 0 then (rec tC_Sto_isGreater_p150 β σ [x0, x1, x2, x3, x4, 1]) else (rec tC_Sto_isGreater_p150 β σ [x0, x1, x2, x3, x4, 0]))
def kY_Sto_isGreater_p150 (rec : zF) (β : Nat) (σ : zS) (x0 x1 x2 x3 x4 x5 : Int) : Option zR := rec tC_Sto_isGreater_p155 β σ [x0, x1, x2, x3, x4, x5, 0]
def kY_Sto_isGreater_p155 (rec : zF) (β : Nat) (σ : zS) (x0 x1 x2 x3 x4 x5 x6 : Int) : Option zR := if 2 ≤ x6 then (rec tC_Sto_isGreater_p227 β σ [x0, x1, x2, x3, x4, x5, x6]) else (if x5 = 0 then (if (zand (zshr x2 x6) 1) = 1 then (if 1 ≤ β then (zbd (rec tC_Sto_sideAt (β - 1) σ [x0, x6]) (fun σ1 r1 => if 1 ≤ β then (zbd (rec tC_Sto_sideAt (β - 1) σ1 [x1, x4]) (fun σ2 r2 => if 1 ≤ β then (zbd (rec tC_Sym_greater_48_48 (β - 1) σ2 [r1, r2]) (fun σ3 r3 => if r3 = 0 then (rec tC_Sto_isGreater_p218 β σ3 [x0, x1, x2, x3, x4, x5, x6]) else (rec tC_Sto_isGreater_p219 β σ3 [x0, x1, x2, x3, x4, x5, x6, 1]))) else none)) else none)) else none) else (rec tC_Sto_isGreater_p218 β σ [x0, x1, x2, x3, x4, x5, x6])) else (rec tC_Sto_isGreater_p227 β σ [x0, x1, x2, x3, x4, x5, x6]))
def kY_Sto_isGreater_p218 (rec : zF) (β : Nat) (σ : zS) (x0 x1 x2 x3 x4 x5 x6 : Int) : Option zR := rec tC_Sto_isGreater_p219 β σ [x0, x1, x2, x3, x4, x5, x6, 0]
def kY_Sto_isGreater_p219 (rec : zF) (β : Nat) (σ : zS) (x0 x1 x2 x3 x4 x5 x6 x7 : Int) : Option zR := if zr (x6 + 1) then (rec tC_Sto_isGreater_p155 β σ [x0, x1, x2, x3, x4, x7, (x6 + 1)]) else none
def kY_Sto_isGreater_p227 (rec : zF) (β : Nat) (σ : zS) (x0 x1 x2 x3 x4 x5 x6 : Int) : Option zR := if x5 = 0 then (some (σ, 0)) else (if zr (x4 + 1) then (rec tC_Sto_isGreater_p129 β σ [x0, x1, x2, x3, (x4 + 1)]) else none)
def kY_Sto_isGreater_p249 (rec : zF) (β : Nat) (σ : zS) (x0 x1 x2 x3 x4 x5 : Int) : Option zR := if x5 = 0 ∨ x5 = 1 then (some (σ, x5)) else none
def kY_Sto_isPositive (rec : zF) (β : Nat) (σ : zS) (x0 : Int) : Option zR := if zr (x0 + 0) then (if zb (x0 + 0) (σ.2.2 48) then (if (σ.2.1 48 (x0 + 0)) = 1 then (rec tC_Sto_isPositive_p20 β σ [x0, 1]) else (rec tC_Sto_isPositive_p20 β σ [x0, 0])) else none) else none
def kY_Sto_isPositive_p20 (rec : zF) (β : Nat) (σ : zS) (x0 x1 : Int) : Option zR := if x1 = 0 ∨ x1 = 1 then (some (σ, x1)) else none
def kY_Sto_isTopmost (rec : zF) (β : Nat) (σ : zS) (x0 x1 : Int) : Option zR := if 1 ≤ β then (zbd (rec tC_Sto_fact (β - 1) σ [x0, 8]) (fun σ1 r1 => rec tC_Sto_isTopmost_p11 β σ1 [x0, x1, r1, 0])) else none
def kY_Sto_isTopmost_p11 (rec : zF) (β : Nat) (σ : zS) (x0 x1 x2 x3 : Int) : Option zR := if 1 ≤ β then (zbd (rec tC_Sto_fact (β - 1) σ [x0, 3]) (fun σ1 r1 => if r1 ≤ x3 then (some (σ1, 1)) else (if x2 = x1 then (rec tC_Sto_isTopmost_p38 β σ1 [x0, x1, x2, x3]) else (if 1 ≤ β then (zbd (rec tC_Sto_isGreater (β - 1) σ1 [x2, x1]) (fun σ2 r2 => if r2 = 0 then (rec tC_Sto_isTopmost_p38 β σ2 [x0, x1, x2, x3]) else (some (σ2, 0)))) else none)))) else none
def kY_Sto_isTopmost_p38 (rec : zF) (β : Nat) (σ : zS) (x0 x1 x2 x3 : Int) : Option zR := if 1 ≤ β then (zbd (rec tC_Sto_behind (β - 1) σ [x2]) (fun σ1 r1 => if zr (x3 + 1) then (rec tC_Sto_isTopmost_p11 β σ1 [x0, x1, r1, (x3 + 1)]) else none)) else none
def kY_Sto_isUsable (rec : zF) (β : Nat) (σ : zS) (x0 x1 : Int) : Option zR := if zr (x0 + 1) then (if zb (x0 + 1) (σ.2.2 48) then (if (σ.2.1 48 (x0 + 1)) = 0 then (rec tC_Sto_isUsable_p23 β σ [x0, x1, (σ.2.1 48 (x0 + 1))]) else (if zr (x1 + 1) then (if (σ.2.1 48 (x0 + 1)) = (x1 + 1) then (rec tC_Sto_isUsable_p23 β σ [x0, x1, (σ.2.1 48 (x0 + 1))]) else (rec tC_Sto_isUsable_p28 β σ [x0, x1, (σ.2.1 48 (x0 + 1)), 0])) else none)) else none) else none
def kY_Sto_isUsable_p23 (rec : zF) (β : Nat) (σ : zS) (x0 x1 x2 : Int) : Option zR := rec tC_Sto_isUsable_p28 β σ [x0, x1, x2, 1]
def kY_Sto_isUsable_p28 (rec : zF) (β : Nat) (σ : zS) (x0 x1 x2 x3 : Int) : Option zR := if x3 = 0 ∨ x3 = 1 then (some (σ, x3)) else none
def kY_Sto_judge (rec : zF) (β : Nat) (σ : zS) (x0 : Int) : Option zR := if 1 ≤ β then (zbd (rec tC_Sto_selectedOf (β - 1) σ [x0]) (fun σ1 r1 => if 1 ≤ β then (zbd (rec tC_Sto_fact (β - 1) σ1 [x0, 8]) (fun σ2 r2 => rec tC_Sto_judge_p17 β σ2 [x0, r1, r2, 0])) else none)) else none
def kY_Sto_judge_p17 (rec : zF) (β : Nat) (σ : zS) (x0 x1 x2 x3 : Int) : Option zR := if 1 ≤ β then (zbd (rec tC_Sto_fact (β - 1) σ [x0, 3]) (fun σ1 r1 => if r1 ≤ x3 then (some (σ1, 0)) else (if 1 ≤ β then (zbd (rec tC_Sto_sideAt (β - 1) σ1 [x2, 0]) (fun σ2 r2 => if 1 ≤ β then (zbd (rec tC_Sto_sideAt (β - 1) σ2 [x2, 1]) (fun σ3 r3 => if x1 = (-1) then (if 1 ≤ β then (zbd (rec tC_Sto_isTopmost (β - 1) σ3 [x0, x2]) (fun σ4 r4 => rec tC_Sto_judge_p68 β σ4 [x0, x1, x2, x3, r2, r3, r4])) else none) else (if x1 = x2 then (rec tC_Sto_judge_p68 β σ3 [x0, x1, x2, x3, r2, r3, 1]) else (rec tC_Sto_judge_p68 β σ3 [x0, x1, x2, x3, r2, r3, 0])))) else none)) else none))) else none
def kY_Sto_judge_p68 (rec : zF) (β : Nat) (σ : zS) (x0 x1 x2 x3 x4 x5 x6 : Int) : Option zR := if 1 ≤ β then (zbd (rec tC_Sym_greater_48_48 (β - 1) σ [x4, x5]) (fun σ1 r1 => if r1 = 0 then (if 1 ≤ β then (zbd (rec tC_Sym_greater_48_48 (β - 1) σ1 [x5, x4]) (fun σ2 r2 => if r2 = 0 then (if zr (x2 + 1) then (rec tC_Sto_judge_p145 β σ2 [x0, x1, x2, x3, x4, x5, x6, 0, (x2 + 1)]) else none) else (if zr (x2 + 1) then (rec tC_Sto_judge_p145 β σ2 [x0, x1, x2, x3, x4, x5, x6, 2, (x2 + 1)]) else none))) else none) else (if zr (x2 + 1) then (rec tC_Sto_judge_p145 β σ1 [x0, x1, x2, x3, x4, x5, x6, 1, (x2 + 1)]) else none))) else none
def kY_Sto_judge_p145 (rec : zF) (β : Nat) (σ : zS) (x0 x1 x2 x3 x4 x5 x6 x7 x8 : Int) : Option zR := if zb x8 (σ.2.2 48) then (lt_ (zA σ 48 x8 x7) (fun σ1 => if x6 = 0 then (if zr (x2 + 2) then (rec tC_Sto_judge_p166 β σ1 [x0, x1, x2, x3, x4, x5, x6, 0, (x2 + 2)]) else none) else (if zr (x2 + 2) then (rec tC_Sto_judge_p166 β σ1 [x0, x1, x2, x3, x4, x5, x6, 1, (x2 + 2)]) else none))) else none
def kY_Sto_judge_p166 (rec : zF) (β : Nat) (σ : zS) (x0 x1 x2 x3 x4 x5 x6 x7 x8 : Int) : Option zR := if zb x8 (σ.2.2 48) then (lt_ (zA σ 48 x8 x7) (fun σ1 => if 1 ≤ β then (zbd (rec tC_Sto_behind (β - 1) σ1 [x2]) (fun σ2 r2 => if zr (x3 + 1) then (rec tC_Sto_judge_p17 β σ2 [x0, x1, r2, (x3 + 1)]) else none)) else none)) else none
def kY_Sto_selectedOf (rec : zF) (β : Nat) (σ : zS) (x0 : Int) : Option zR := if 1 ≤ β then (zbd (rec tC_Sto_fact (β - 1) σ [x0, 8]) (fun σ1 r1 => rec tC_Sto_selectedOf_p16 β σ1 [x0, (-1), 0, r1, 0])) else none
def kY_Sto_selectedOf_p16 (rec : zF) (β : Nat) (σ : zS) (x0 x1 x2 x3 x4 : Int) : Option zR := if 1 ≤ β then (zbd (rec tC_Sto_fact (β - 1) σ [x0, 3]) (fun σ1 r1 => if r1 ≤ x4 then (some (σ1, x1)) else (if zr (x3 + 3) then (if zb (x3 + 3) (σ1.2.2 48) then (if zr (x3 + 4) then (if zb (x3 + 4) (σ1.2.2 48) then (if 1 ≤ β then (zbd (rec tC_Sto_isPositive (β - 1) σ1 [x3]) (fun σ2 r2 => if r2 = 0 then (if zr ((σ1.2.1 48 (x3 + 3)) + (σ1.2.1 48 (x3 + 4))) then (if ((σ1.2.1 48 (x3 + 3)) + (σ1.2.1 48 (x3 + 4))) ≤ x2 then (rec tC_Sto_selectedOf_p75 β σ2 [x0, x1, x2, x3, x4, ((σ1.2.1 48 (x3 + 3)) + (σ1.2.1 48 (x3 + 4)))]) else (rec tC_Sto_selectedOf_p75 β σ2 [x0, x3, ((σ1.2.1 48 (x3 + 3)) + (σ1.2.1 48 (x3 + 4))), x3, x4, ((σ1.2.1 48 (x3 + 3)) + (σ1.2.1 48 (x3 + 4)))])) else none) else (if zr ((σ1.2.1 48 (x3 + 3)) + (σ1.2.1 48 (x3 + 4))) then (rec tC_Sto_selectedOf_p75 β σ2 [x0, x1, x2, x3, x4, ((σ1.2.1 48 (x3 + 3)) + (σ1.2.1 48 (x3 + 4)))]) else none))) else none) else none) else none) else none) else none))) else none
def kY_Sto_selectedOf_p75 (rec : zF) (β : Nat) (σ : zS) (x0 x1 x2 x3 x4 x5 : Int) : Option zR := if 1 ≤ β then (zbd (rec tC_Sto_behind (β - 1) σ [x3]) (fun σ1 r1 => if zr (x4 + 1) then (rec tC_Sto_selectedOf_p16 β σ1 [x0, x1, x2, r1, (x4 + 1)]) else none)) else none
def kY_Sto_setFact (rec : zF) (β : Nat) (σ : zS) (x0 x1 x2 : Int) : Option zR := if zr (x0 * 11) then (if zr ((x0 * 11) + x1) then (if zb ((x0 * 11) + x1) (σ.2.2 52) then (lt_ (zA σ 52 ((x0 * 11) + x1) x2) (fun σ1 => some (σ1, 0))) else none) else none) else none
def kY_Sto_sideAt (rec : zF) (β : Nat) (σ : zS) (x0 x1 : Int) : Option zR := if x1 = 0 then (if zr (x0 + 5) then (rec tC_Sto_sideAt_p22 β σ [x0, x1, 0, (x0 + 5)]) else none) else (if zr (x0 + 3) then (if zb (x0 + 3) (σ.2.2 48) then (if zr (x0 + 5) then (rec tC_Sto_sideAt_p22 β σ [x0, x1, (σ.2.1 48 (x0 + 3)), (x0 + 5)]) else none) else none) else none)
def kY_Sto_sideAt_p22 (rec : zF) (β : Nat) (σ : zS) (x0 x1 x2 x3 : Int) : Option zR := if zr (x3 + x2) then (some (σ, (x3 + x2))) else none
def kY_Sto_sideSize (rec : zF) (β : Nat) (σ : zS) (x0 x1 : Int) : Option zR := if x1 = 0 then (rec tC_Sto_sideSize_p17 β σ [x0, x1, 3, x0]) else (rec tC_Sto_sideSize_p17 β σ [x0, x1, 4, x0])
def kY_Sto_sideSize_p17 (rec : zF) (β : Nat) (σ : zS) (x0 x1 x2 x3 : Int) : Option zR := if zr (x3 + x2) then (if zb (x3 + x2) (σ.2.2 48) then (some (σ, (σ.2.1 48 (x3 + x2)))) else none) else none
def kY_Sym_addWitness (rec : zF) (β : Nat) (σ : zS) (x0 : Int) : Option zR := if (σ.1 605) = 551 then (some (σ, (-1))) else (if zb (σ.1 605) 551 then (lt_ (zA σ 12 (σ.1 605) 2) (fun σ1 => if zb (σ1.1 605) 551 then (lt_ (zA σ1 7 (σ1.1 605) x0) (fun σ2 => if zr ((σ2.1 605) + 1) then (lt_ (zI σ2 605 ((σ2.1 605) + 1)) (fun σ3 => some (σ3, (σ2.1 605)))) else none)) else none)) else none)
def kY_Sym_after_16 (rec : zF) (β : Nat) (σ : zS) (x0 : Int) : Option zR := rec tC_Sym_after_16_p5 β σ [x0, 1, x0]
def kY_Sym_after_16_p5 (rec : zF) (β : Nat) (σ : zS) (x0 x1 x2 : Int) : Option zR := if ((σ.2.2 16 : Nat) : Int) ≤ x2 then (rec tC_Sym_after_16_p47 β σ [x0, x1, x2]) else (if x1 ≤ 0 then (rec tC_Sym_after_16_p47 β σ [x0, x1, x2]) else (if zb x2 (σ.2.2 16) then (if 0 ≤ (σ.2.1 16 x2) then (if zb (σ.2.1 16 x2) 551 then (if zr ((σ.2.1 7 (σ.2.1 16 x2)) - 1) then (rec tC_Sym_after_16_p39 β σ [x0, x1, x2, ((σ.2.1 7 (σ.2.1 16 x2)) - 1), x1]) else none) else none) else (rec tC_Sym_after_16_p39 β σ [x0, x1, x2, (-1), x1])) else none))
def kY_Sym_after_16_p39 (rec : zF) (β : Nat) (σ : zS) (x0 x1 x2 x3 x4 : Int) : Option zR := if zr (x4 + x3) then (if zr (x2 + 1) then (rec tC_Sym_after_16_p5 β σ [x0, (x4 + x3), (x2 + 1)]) else none) else none
def kY_Sym_after_16_p47 (rec : zF) (β : Nat) (σ : zS) (x0 x1 x2 : Int) : Option zR := some (σ, x2)
def kY_Sym_after_40 (rec : zF) (β : Nat) (σ : zS) (x0 : Int) : Option zR := rec tC_Sym_after_40_p5 β σ [x0, 1, x0]
def kY_Sym_after_40_p5 (rec : zF) (β : Nat) (σ : zS) (x0 x1 x2 : Int) : Option zR := if 100 ≤ x2 then (rec tC_Sym_after_40_p47 β σ [x0, x1, x2]) else (if x1 ≤ 0 then (rec tC_Sym_after_40_p47 β σ [x0, x1, x2]) else (if zb x2 100 then (if 0 ≤ (σ.2.1 40 x2) then (if zb (σ.2.1 40 x2) 551 then (if zr ((σ.2.1 7 (σ.2.1 40 x2)) - 1) then (rec tC_Sym_after_40_p39 β σ [x0, x1, x2, ((σ.2.1 7 (σ.2.1 40 x2)) - 1), x1]) else none) else none) else (rec tC_Sym_after_40_p39 β σ [x0, x1, x2, (-1), x1])) else none))
def kY_Sym_after_40_p39 (rec : zF) (β : Nat) (σ : zS) (x0 x1 x2 x3 x4 : Int) : Option zR := if zr (x4 + x3) then (if zr (x2 + 1) then (rec tC_Sym_after_40_p5 β σ [x0, (x4 + x3), (x2 + 1)]) else none) else none
def kY_Sym_after_40_p47 (rec : zF) (β : Nat) (σ : zS) (x0 x1 x2 : Int) : Option zR := some (σ, x2)
def kY_Sym_after_48 (rec : zF) (β : Nat) (σ : zS) (x0 : Int) : Option zR := rec tC_Sym_after_48_p5 β σ [x0, 1, x0]
def kY_Sym_after_48_p5 (rec : zF) (β : Nat) (σ : zS) (x0 x1 x2 : Int) : Option zR := if ((σ.2.2 48 : Nat) : Int) ≤ x2 then (rec tC_Sym_after_48_p47 β σ [x0, x1, x2]) else (if x1 ≤ 0 then (rec tC_Sym_after_48_p47 β σ [x0, x1, x2]) else (if zb x2 (σ.2.2 48) then (if 0 ≤ (σ.2.1 48 x2) then (if zb (σ.2.1 48 x2) 551 then (if zr ((σ.2.1 7 (σ.2.1 48 x2)) - 1) then (rec tC_Sym_after_48_p39 β σ [x0, x1, x2, ((σ.2.1 7 (σ.2.1 48 x2)) - 1), x1]) else none) else none) else (rec tC_Sym_after_48_p39 β σ [x0, x1, x2, (-1), x1])) else none))
def kY_Sym_after_48_p39 (rec : zF) (β : Nat) (σ : zS) (x0 x1 x2 x3 x4 : Int) : Option zR := if zr (x4 + x3) then (if zr (x2 + 1) then (rec tC_Sym_after_48_p5 β σ [x0, (x4 + x3), (x2 + 1)]) else none) else none
def kY_Sym_after_48_p47 (rec : zF) (β : Nat) (σ : zS) (x0 x1 x2 : Int) : Option zR := some (σ, x2)
def kY_Sym_after_68 (rec : zF) (β : Nat) (σ : zS) (x0 : Int) : Option zR := rec tC_Sym_after_68_p5 β σ [x0, 1, x0]
def kY_Sym_after_68_p5 (rec : zF) (β : Nat) (σ : zS) (x0 x1 x2 : Int) : Option zR := if 100 ≤ x2 then (rec tC_Sym_after_68_p47 β σ [x0, x1, x2]) else (if x1 ≤ 0 then (rec tC_Sym_after_68_p47 β σ [x0, x1, x2]) else (if zb x2 100 then (if 0 ≤ (σ.2.1 68 x2) then (if zb (σ.2.1 68 x2) 551 then (if zr ((σ.2.1 7 (σ.2.1 68 x2)) - 1) then (rec tC_Sym_after_68_p39 β σ [x0, x1, x2, ((σ.2.1 7 (σ.2.1 68 x2)) - 1), x1]) else none) else none) else (rec tC_Sym_after_68_p39 β σ [x0, x1, x2, (-1), x1])) else none))
def kY_Sym_after_68_p39 (rec : zF) (β : Nat) (σ : zS) (x0 x1 x2 x3 x4 : Int) : Option zR := if zr (x4 + x3) then (if zr (x2 + 1) then (rec tC_Sym_after_68_p5 β σ [x0, (x4 + x3), (x2 + 1)]) else none) else none
def kY_Sym_after_68_p47 (rec : zF) (β : Nat) (σ : zS) (x0 x1 x2 : Int) : Option zR := some (σ, x2)
def kY_Sym_clear (rec : zF) (β : Nat) (σ : zS) : Option zR := lt_ (zI σ 604 0) (fun σ1 => lt_ (zI σ1 605 1) (fun σ2 => lt_ (zI σ2 1001 0) (fun σ3 => some (σ3, 0))))
def kY_Sym_greater_40_68 (rec : zF) (β : Nat) (σ : zS) (x0 x1 : Int) : Option zR := rec tC_Sym_greater_40_68_p10 β σ [x0, x1, x0, x1, 0]
def kY_Sym_greater_40_68_p10 (rec : zF) (β : Nat) (σ : zS) (x0 x1 x2 x3 x4 : Int) : Option zR := if 100 < x4 then (some (σ, 0)) else (if 1 ≤ β then (zbd (rec tC_Sym_after_40 (β - 1) σ [x2]) (fun σ1 r1 => if 1 ≤ β then (zbd (rec tC_Sym_after_68 (β - 1) σ1 [x3]) (fun σ2 r2 => if zb x2 100 then (if (σ2.2.1 40 x2) < 0 then (if zr (r1 - x2) then (if zr (r2 - x3) then (rec tC_Sym_greater_40_68_p72 β σ2 [x0, x1, x2, x3, x4, (r1 - x2), (r2 - x3)]) else none) else none) else (if zr (r1 - x2) then (if zr (r2 - x3) then (if (r1 - x2) < (r2 - x3) then (rec tC_Sym_greater_40_68_p72 β σ2 [x0, x1, x2, x3, x4, (r1 - x2), (r2 - x3)]) else (if 1 ≤ β then (zbd (rec tC_Sym_hasAllVariables_40_68 (β - 1) σ2 [x2, (r1 - x2), x3, (r2 - x3)]) (fun σ3 r3 => if r3 = 0 then (rec tC_Sym_greater_40_68_p72 β σ3 [x0, x1, x2, x3, x4, (r1 - x2), (r2 - x3)]) else (if (r1 - x2) ≤ (r2 - x3) then (if zb x3 100 then (if (σ3.2.1 40 x2) = (σ3.2.1 68 x3) then (if 1 ≤ β then (zbd (rec tC_Sym_toDifference_40_68 (β - 1) σ3 [x2, x3, (r1 - x2)]) (fun σ4 r4 => if r4 = 0 then (some (σ4, 0)) else (if zr (x2 + r4) then (if zr (x3 + r4) then (if zr (x4 + 1) then (rec tC_Sym_greater_40_68_p10 β σ4 [x0, x1, (x2 + r4), (x3 + r4), (x4 + 1)]) else none) else none) else none))) else none) else (if (σ3.2.1 40 x2) ≤ (σ3.2.1 68 x3) then (rec tC_Sym_greater_40_68_p110 β σ3 [x0, x1, x2, x3, x4, (r1 - x2), (r2 - x3), 0]) else (rec tC_Sym_greater_40_68_p110 β σ3 [x0, x1, x2, x3, x4, (r1 - x2), (r2 - x3), 1]))) else none) else (some (σ3, 1))))) else none)) else none) else none)) else none)) else none)) else none)
def kY_Sym_greater_40_68_p72 (rec : zF) (β : Nat) (σ : zS) (x0 x1 x2 x3 x4 x5 x6 : Int) : Option zR := some (σ, 0)
def kY_Sym_greater_40_68_p110 (rec : zF) (β : Nat) (σ : zS) (x0 x1 x2 x3 x4 x5 x6 x7 : Int) : Option zR := if x7 = 0 ∨ x7 = 1 then (some (σ, x7)) else none
def kY_Sym_greater_48_48 (rec : zF) (β : Nat) (σ : zS) (x0 x1 : Int) : Option zR := rec tC_Sym_greater_48_48_p10 β σ [x0, x1, x0, x1, 0]
def kY_Sym_greater_48_48_p10 (rec : zF) (β : Nat) (σ : zS) (x0 x1 x2 x3 x4 : Int) : Option zR := if 100 < x4 then (some (σ, 0)) else (if 1 ≤ β then (zbd (rec tC_Sym_after_48 (β - 1) σ [x2]) (fun σ1 r1 => if 1 ≤ β then (zbd (rec tC_Sym_after_48 (β - 1) σ1 [x3]) (fun σ2 r2 => if zb x2 (σ2.2.2 48) then (if (σ2.2.1 48 x2) < 0 then (if zr (r1 - x2) then (if zr (r2 - x3) then (rec tC_Sym_greater_48_48_p72 β σ2 [x0, x1, x2, x3, x4, (r1 - x2), (r2 - x3)]) else none) else none) else (if zr (r1 - x2) then (if zr (r2 - x3) then (if (r1 - x2) < (r2 - x3) then (rec tC_Sym_greater_48_48_p72 β σ2 [x0, x1, x2, x3, x4, (r1 - x2), (r2 - x3)]) else (if 1 ≤ β then (zbd (rec tC_Sym_hasAllVariables_48_48 (β - 1) σ2 [x2, (r1 - x2), x3, (r2 - x3)]) (fun σ3 r3 => if r3 = 0 then (rec tC_Sym_greater_48_48_p72 β σ3 [x0, x1, x2, x3, x4, (r1 - x2), (r2 - x3)]) else (if (r1 - x2) ≤ (r2 - x3) then (if zb x2 (σ3.2.2 48) then (if zb x3 (σ3.2.2 48) then (if (σ3.2.1 48 x2) = (σ3.2.1 48 x3) then (if 1 ≤ β then (zbd (rec tC_Sym_toDifference_48_48 (β - 1) σ3 [x2, x3, (r1 - x2)]) (fun σ4 r4 => if r4 = 0 then (some (σ4, 0)) else (if zr (x2 + r4) then (if zr (x3 + r4) then (if zr (x4 + 1) then (rec tC_Sym_greater_48_48_p10 β σ4 [x0, x1, (x2 + r4), (x3 + r4), (x4 + 1)]) else none) else none) else none))) else none) else (if (σ3.2.1 48 x2) ≤ (σ3.2.1 48 x3) then (rec tC_Sym_greater_48_48_p110 β σ3 [x0, x1, x2, x3, x4, (r1 - x2), (r2 - x3), 0]) else (rec tC_Sym_greater_48_48_p110 β σ3 [x0, x1, x2, x3, x4, (r1 - x2), (r2 - x3), 1]))) else none) else none) else (some (σ3, 1))))) else none)) else none) else none)) else none)) else none)) else none)
def kY_Sym_greater_48_48_p72 (rec : zF) (β : Nat) (σ : zS) (x0 x1 x2 x3 x4 x5 x6 : Int) : Option zR := some (σ, 0)
def kY_Sym_greater_48_48_p110 (rec : zF) (β : Nat) (σ : zS) (x0 x1 x2 x3 x4 x5 x6 x7 : Int) : Option zR := if x7 = 0 ∨ x7 = 1 then (some (σ, x7)) else none
def kY_Sym_greater_48_68 (rec : zF) (β : Nat) (σ : zS) (x0 x1 : Int) : Option zR := rec tC_Sym_greater_48_68_p10 β σ [x0, x1, x0, x1, 0]
def kY_Sym_greater_48_68_p10 (rec : zF) (β : Nat) (σ : zS) (x0 x1 x2 x3 x4 : Int) : Option zR := if 100 < x4 then (some (σ, 0)) else (if 1 ≤ β then (zbd (rec tC_Sym_after_48 (β - 1) σ [x2]) (fun σ1 r1 => if 1 ≤ β then (zbd (rec tC_Sym_after_68 (β - 1) σ1 [x3]) (fun σ2 r2 => if zb x2 (σ2.2.2 48) then (if (σ2.2.1 48 x2) < 0 then (if zr (r1 - x2) then (if zr (r2 - x3) then (rec tC_Sym_greater_48_68_p72 β σ2 [x0, x1, x2, x3, x4, (r1 - x2), (r2 - x3)]) else none) else none) else (if zr (r1 - x2) then (if zr (r2 - x3) then (if (r1 - x2) < (r2 - x3) then (rec tC_Sym_greater_48_68_p72 β σ2 [x0, x1, x2, x3, x4, (r1 - x2), (r2 - x3)]) else (if 1 ≤ β then (zbd (rec tC_Sym_hasAllVariables_48_68 (β - 1) σ2 [x2, (r1 - x2), x3, (r2 - x3)]) (fun σ3 r3 => if r3 = 0 then (rec tC_Sym_greater_48_68_p72 β σ3 [x0, x1, x2, x3, x4, (r1 - x2), (r2 - x3)]) else (if (r1 - x2) ≤ (r2 - x3) then (if zb x2 (σ3.2.2 48) then (if zb x3 100 then (if (σ3.2.1 48 x2) = (σ3.2.1 68 x3) then (if 1 ≤ β then (zbd (rec tC_Sym_toDifference_48_68 (β - 1) σ3 [x2, x3, (r1 - x2)]) (fun σ4 r4 => if r4 = 0 then (some (σ4, 0)) else (if zr (x2 + r4) then (if zr (x3 + r4) then (if zr (x4 + 1) then (rec tC_Sym_greater_48_68_p10 β σ4 [x0, x1, (x2 + r4), (x3 + r4), (x4 + 1)]) else none) else none) else none))) else none) else (if (σ3.2.1 48 x2) ≤ (σ3.2.1 68 x3) then (rec tC_Sym_greater_48_68_p110 β σ3 [x0, x1, x2, x3, x4, (r1 - x2), (r2 - x3), 0]) else (rec tC_Sym_greater_48_68_p110 β σ3 [x0, x1, x2, x3, x4, (r1 - x2), (r2 - x3), 1]))) else none) else none) else (some (σ3, 1))))) else none)) else none) else none)) else none)) else none)) else none)
def kY_Sym_greater_48_68_p72 (rec : zF) (β : Nat) (σ : zS) (x0 x1 x2 x3 x4 x5 x6 : Int) : Option zR := some (σ, 0)
def kY_Sym_greater_48_68_p110 (rec : zF) (β : Nat) (σ : zS) (x0 x1 x2 x3 x4 x5 x6 x7 : Int) : Option zR := if x7 = 0 ∨ x7 = 1 then (some (σ, x7)) else none
def kY_Sym_hasAllVariables_40_68 (rec : zF) (β : Nat) (σ : zS) (x0 x1 x2 x3 : Int) : Option zR := lt_ (zFl σ 13 0 6) (fun σ1 => rec tC_Sym_hasAllVariables_40_68_p11 β σ1 [x0, x1, x2, x3, x0])
def kY_Sym_hasAllVariables_40_68_p11 (rec : zF) (β : Nat) (σ : zS) (x0 x1 x2 x3 x4 : Int) : Option zR := if zr (x0 + x1) then (if (x0 + x1) ≤ x4 then (rec tC_Sym_hasAllVariables_40_68_p51 β σ [x0, x1, x2, x3, x2]) else (if zb x4 100 then (if 0 ≤ (σ.2.1 40 x4) then (rec tC_Sym_hasAllVariables_40_68_p41 β σ [x0, x1, x2, x3, x4]) else (if zb (-1 - (σ.2.1 40 x4)) 6 then (if zr ((σ.2.1 13 (-1 - (σ.2.1 40 x4))) + 1) then (lt_ (zA σ 13 (-1 - (σ.2.1 40 x4)) ((σ.2.1 13 (-1 - (σ.2.1 40 x4))) + 1)) (fun σ1 => rec tC_Sym_hasAllVariables_40_68_p41 β σ1 [x0, x1, x2, x3, x4])) else none) else none)) else none)) else none
def kY_Sym_hasAllVariables_40_68_p41 (rec : zF) (β : Nat) (σ : zS) (x0 x1 x2 x3 x4 : Int) : Option zR := if zr (x4 + 1) then (rec tC_Sym_hasAllVariables_40_68_p11 β σ [x0, x1, x2, x3, (x4 + 1)]) else none
def kY_Sym_hasAllVariables_40_68_p51 (rec : zF) (β : Nat) (σ : zS) (x0 x1 x2 x3 x4 : Int) : Option zR := if zr (x2 + x3) then (if (x2 + x3) ≤ x4 then (some (σ, 1)) else (if zb x4 100 then (if 0 ≤ (σ.2.1 68 x4) then (rec tC_Sym_hasAllVariables_40_68_p91 β σ [x0, x1, x2, x3, x4]) else (if zb (-1 - (σ.2.1 68 x4)) 6 then (if zr ((σ.2.1 13 (-1 - (σ.2.1 68 x4))) - 1) then (lt_ (zA σ 13 (-1 - (σ.2.1 68 x4)) ((σ.2.1 13 (-1 - (σ.2.1 68 x4))) - 1)) (fun σ1 => if 0 ≤ ((σ.2.1 13 (-1 - (σ.2.1 68 x4))) - 1) then (rec tC_Sym_hasAllVariables_40_68_p91 β σ1 [x0, x1, x2, x3, x4]) else (some (σ1, 0)))) else none) else none)) else none)) else none
def kY_Sym_hasAllVariables_40_68_p91 (rec : zF) (β : Nat) (σ : zS) (x0 x1 x2 x3 x4 : Int) : Option zR := if zr (x4 + 1) then (rec tC_Sym_hasAllVariables_40_68_p51 β σ [x0, x1, x2, x3, (x4 + 1)]) else none
def kY_Sym_hasAllVariables_48_48 (rec : zF) (β : Nat) (σ : zS) (x0 x1 x2 x3 : Int) : Option zR := lt_ (zFl σ 13 0 6) (fun σ1 => rec tC_Sym_hasAllVariables_48_48_p11 β σ1 [x0, x1, x2, x3, x0])
def kY_Sym_hasAllVariables_48_48_p11 (rec : zF) (β : Nat) (σ : zS) (x0 x1 x2 x3 x4 : Int) : Option zR := if zr (x0 + x1) then (if (x0 + x1) ≤ x4 then (rec tC_Sym_hasAllVariables_48_48_p51 β σ [x0, x1, x2, x3, x2]) else (if zb x4 (σ.2.2 48) then (if 0 ≤ (σ.2.1 48 x4) then (rec tC_Sym_hasAllVariables_48_48_p41 β σ [x0, x1, x2, x3, x4]) else (if zb (-1 - (σ.2.1 48 x4)) 6 then (if zr ((σ.2.1 13 (-1 - (σ.2.1 48 x4))) + 1) then (lt_ (zA σ 13 (-1 - (σ.2.1 48 x4)) ((σ.2.1 13 (-1 - (σ.2.1 48 x4))) + 1)) (fun σ1 => rec tC_Sym_hasAllVariables_48_48_p41 β σ1 [x0, x1, x2, x3, x4])) else none) else none)) else none)) else none
def kY_Sym_hasAllVariables_48_48_p41 (rec : zF) (β : Nat) (σ : zS) (x0 x1 x2 x3 x4 : Int) : Option zR := if zr (x4 + 1) then (rec tC_Sym_hasAllVariables_48_48_p11 β σ [x0, x1, x2, x3, (x4 + 1)]) else none
def kY_Sym_hasAllVariables_48_48_p51 (rec : zF) (β : Nat) (σ : zS) (x0 x1 x2 x3 x4 : Int) : Option zR := if zr (x2 + x3) then (if (x2 + x3) ≤ x4 then (some (σ, 1)) else (if zb x4 (σ.2.2 48) then (if 0 ≤ (σ.2.1 48 x4) then (rec tC_Sym_hasAllVariables_48_48_p91 β σ [x0, x1, x2, x3, x4]) else (if zb (-1 - (σ.2.1 48 x4)) 6 then (if zr ((σ.2.1 13 (-1 - (σ.2.1 48 x4))) - 1) then (lt_ (zA σ 13 (-1 - (σ.2.1 48 x4)) ((σ.2.1 13 (-1 - (σ.2.1 48 x4))) - 1)) (fun σ1 => if 0 ≤ ((σ.2.1 13 (-1 - (σ.2.1 48 x4))) - 1) then (rec tC_Sym_hasAllVariables_48_48_p91 β σ1 [x0, x1, x2, x3, x4]) else (some (σ1, 0)))) else none) else none)) else none)) else none
def kY_Sym_hasAllVariables_48_48_p91 (rec : zF) (β : Nat) (σ : zS) (x0 x1 x2 x3 x4 : Int) : Option zR := if zr (x4 + 1) then (rec tC_Sym_hasAllVariables_48_48_p51 β σ [x0, x1, x2, x3, (x4 + 1)]) else none
def kY_Sym_hasAllVariables_48_68 (rec : zF) (β : Nat) (σ : zS) (x0 x1 x2 x3 : Int) : Option zR := lt_ (zFl σ 13 0 6) (fun σ1 => rec tC_Sym_hasAllVariables_48_68_p11 β σ1 [x0, x1, x2, x3, x0])
def kY_Sym_hasAllVariables_48_68_p11 (rec : zF) (β : Nat) (σ : zS) (x0 x1 x2 x3 x4 : Int) : Option zR := if zr (x0 + x1) then (if (x0 + x1) ≤ x4 then (rec tC_Sym_hasAllVariables_48_68_p51 β σ [x0, x1, x2, x3, x2]) else (if zb x4 (σ.2.2 48) then (if 0 ≤ (σ.2.1 48 x4) then (rec tC_Sym_hasAllVariables_48_68_p41 β σ [x0, x1, x2, x3, x4]) else (if zb (-1 - (σ.2.1 48 x4)) 6 then (if zr ((σ.2.1 13 (-1 - (σ.2.1 48 x4))) + 1) then (lt_ (zA σ 13 (-1 - (σ.2.1 48 x4)) ((σ.2.1 13 (-1 - (σ.2.1 48 x4))) + 1)) (fun σ1 => rec tC_Sym_hasAllVariables_48_68_p41 β σ1 [x0, x1, x2, x3, x4])) else none) else none)) else none)) else none
def kY_Sym_hasAllVariables_48_68_p41 (rec : zF) (β : Nat) (σ : zS) (x0 x1 x2 x3 x4 : Int) : Option zR := if zr (x4 + 1) then (rec tC_Sym_hasAllVariables_48_68_p11 β σ [x0, x1, x2, x3, (x4 + 1)]) else none
def kY_Sym_hasAllVariables_48_68_p51 (rec : zF) (β : Nat) (σ : zS) (x0 x1 x2 x3 x4 : Int) : Option zR := if zr (x2 + x3) then (if (x2 + x3) ≤ x4 then (some (σ, 1)) else (if zb x4 100 then (if 0 ≤ (σ.2.1 68 x4) then (rec tC_Sym_hasAllVariables_48_68_p91 β σ [x0, x1, x2, x3, x4]) else (if zb (-1 - (σ.2.1 68 x4)) 6 then (if zr ((σ.2.1 13 (-1 - (σ.2.1 68 x4))) - 1) then (lt_ (zA σ 13 (-1 - (σ.2.1 68 x4)) ((σ.2.1 13 (-1 - (σ.2.1 68 x4))) - 1)) (fun σ1 => if 0 ≤ ((σ.2.1 13 (-1 - (σ.2.1 68 x4))) - 1) then (rec tC_Sym_hasAllVariables_48_68_p91 β σ1 [x0, x1, x2, x3, x4]) else (some (σ1, 0)))) else none) else none)) else none)) else none
def kY_Sym_hasAllVariables_48_68_p91 (rec : zF) (β : Nat) (σ : zS) (x0 x1 x2 x3 x4 : Int) : Option zR := if zr (x4 + 1) then (rec tC_Sym_hasAllVariables_48_68_p51 β σ [x0, x1, x2, x3, (x4 + 1)]) else none
def kY_Sym_isPredicate (rec : zF) (β : Nat) (σ : zS) (x0 : Int) : Option zR := if zb x0 551 then (if (σ.2.1 12 x0) = 1 then (rec tC_Sym_isPredicate_p15 β σ [x0, 1]) else (rec tC_Sym_isPredicate_p15 β σ [x0, 0])) else none
def kY_Sym_isPredicate_p15 (rec : zF) (β : Nat) (σ : zS) (x0 x1 : Int) : Option zR := if x1 = 0 ∨ x1 = 1 then (some (σ, x1)) else none
def kY_Sym_isWitness (rec : zF) (β : Nat) (σ : zS) (x0 : Int) : Option zR := if x0 ≤ (σ.1 604) then (rec tC_Sym_isWitness_p13 β σ [x0, 0]) else (rec tC_Sym_isWitness_p13 β σ [x0, 1])
def kY_Sym_isWitness_p13 (rec : zF) (β : Nat) (σ : zS) (x0 x1 : Int) : Option zR := if x1 = 0 ∨ x1 = 1 then (some (σ, x1)) else none
def kY_Sym_same_40_40 (rec : zF) (β : Nat) (σ : zS) (x0 x1 : Int) : Option zR := if 1 ≤ β then (zbd (rec tC_Sym_after_40 (β - 1) σ [x0]) (fun σ1 r1 => if zr (r1 - x0) then (if zr (x1 + (r1 - x0)) then (if (x1 + (r1 - x0)) ≤ 100 then (rec tC_Sym_same_40_40_p25 β σ1 [x0, x1, (r1 - x0), 0]) else (some (σ1, 0))) else none) else none)) else none
def kY_Sym_same_40_40_p25 (rec : zF) (β : Nat) (σ : zS) (x0 x1 x2 x3 : Int) : Option zR := if x2 ≤ x3 then (some (σ, 1)) else (if zr (x0 + x3) then (if zb (x0 + x3) 100 then (if zr (x1 + x3) then (if zb (x1 + x3) 100 then (if (σ.2.1 40 (x0 + x3)) = (σ.2.1 40 (x1 + x3)) then (if zr (x3 + 1) then (rec tC_Sym_same_40_40_p25 β σ [x0, x1, x2, (x3 + 1)]) else none) else (some (σ, 0))) else none) else none) else none) else none)
def kY_Sym_same_48_48 (rec : zF) (β : Nat) (σ : zS) (x0 x1 : Int) : Option zR := if 1 ≤ β then (zbd (rec tC_Sym_after_48 (β - 1) σ [x0]) (fun σ1 r1 => if zr (r1 - x0) then (if zr (x1 + (r1 - x0)) then (if (x1 + (r1 - x0)) ≤ ((σ1.2.2 48 : Nat) : Int) then (rec tC_Sym_same_48_48_p25 β σ1 [x0, x1, (r1 - x0), 0]) else (some (σ1, 0))) else none) else none)) else none
def kY_Sym_same_48_48_p25 (rec : zF) (β : Nat) (σ : zS) (x0 x1 x2 x3 : Int) : Option zR := if x2 ≤ x3 then (some (σ, 1)) else (if zr (x0 + x3) then (if zb (x0 + x3) (σ.2.2 48) then (if zr (x1 + x3) then (if zb (x1 + x3) (σ.2.2 48) then (if (σ.2.1 48 (x0 + x3)) = (σ.2.1 48 (x1 + x3)) then (if zr (x3 + 1) then (rec tC_Sym_same_48_48_p25 β σ [x0, x1, x2, (x3 + 1)]) else none) else (some (σ, 0))) else none) else none) else none) else none)
def kY_Sym_settles (rec : zF) (β : Nat) (σ : zS) (x0 x1 x2 : Int) : Option zR := if zb x0 551 then (if (σ.2.1 12 x0) = 0 then (lt_ (zA σ 12 x0 x1) (fun σ1 => lt_ (zA σ1 7 x0 x2) (fun σ2 => rec tC_Sym_settles_p23 β σ2 [x0, x1, x2]))) else (rec tC_Sym_settles_p23 β σ [x0, x1, x2])) else none
def kY_Sym_settles_p23 (rec : zF) (β : Nat) (σ : zS) (x0 x1 x2 : Int) : Option zR := if zb x0 551 then (if (σ.2.1 12 x0) = x1 then (if (σ.2.1 7 x0) = x2 then (rec tC_Sym_settles_p48 β σ [x0, x1, x2, 1]) else (rec tC_Sym_settles_p47 β σ [x0, x1, x2])) else (rec tC_Sym_settles_p47 β σ [x0, x1, x2])) else none
def kY_Sym_settles_p47 (rec : zF) (β : Nat) (σ : zS) (x0 x1 x2 : Int) : Option zR := rec tC_Sym_settles_p48 β σ [x0, x1, x2, 0]
def kY_Sym_settles_p48 (rec : zF) (β : Nat) (σ : zS) (x0 x1 x2 x3 : Int) : Option zR := if x3 = 0 ∨ x3 = 1 then (some (σ, x3)) else none
def kY_Sym_toDifference_40_68 (rec : zF) (β : Nat) (σ : zS) (x0 x1 x2 : Int) : Option zR := rec tC_Sym_toDifference_40_68_p3 β σ [x0, x1, x2, 1]
def kY_Sym_toDifference_40_68_p3 (rec : zF) (β : Nat) (σ : zS) (x0 x1 x2 x3 : Int) : Option zR := if x2 ≤ x3 then (rec tC_Sym_toDifference_40_68_p32 β σ [x0, x1, x2, x3]) else (if zr (x0 + x3) then (if zb (x0 + x3) 100 then (if zr (x1 + x3) then (if zb (x1 + x3) 100 then (if (σ.2.1 40 (x0 + x3)) = (σ.2.1 68 (x1 + x3)) then (if zr (x3 + 1) then (rec tC_Sym_toDifference_40_68_p3 β σ [x0, x1, x2, (x3 + 1)]) else none) else (rec tC_Sym_toDifference_40_68_p32 β σ [x0, x1, x2, x3])) else none) else none) else none) else none)
def kY_Sym_toDifference_40_68_p32 (rec : zF) (β : Nat) (σ : zS) (x0 x1 x2 x3 : Int) : Option zR := rec tC_Sym_toDifference_40_68_p35 β σ [x0, x1, x2, x3, 1]
def kY_Sym_toDifference_40_68_p35 (rec : zF) (β : Nat) (σ : zS) (x0 x1 x2 x3 x4 : Int) : Option zR := if x2 ≤ x3 then (rec tC_Sym_toDifference_40_68_p79 β σ [x0, x1, x2, x3, x4]) else (if x2 ≤ x4 then (rec tC_Sym_toDifference_40_68_p79 β σ [x0, x1, x2, x3, x4]) else (if zr (x0 + x4) then (if 1 ≤ β then (zbd (rec tC_Sym_after_40 (β - 1) σ [(x0 + x4)]) (fun σ1 r1 => if zr (r1 - x0) then (if (r1 - x0) ≤ x3 then (rec tC_Sym_toDifference_40_68_p35 β σ1 [x0, x1, x2, x3, (r1 - x0)]) else (some (σ1, x4))) else none)) else none) else none))
def kY_Sym_toDifference_40_68_p79 (rec : zF) (β : Nat) (σ : zS) (x0 x1 x2 x3 x4 : Int) : Option zR := some (σ, 0)
def kY_Sym_toDifference_48_48 (rec : zF) (β : Nat) (σ : zS) (x0 x1 x2 : Int) : Option zR := rec tC_Sym_toDifference_48_48_p3 β σ [x0, x1, x2, 1]
def kY_Sym_toDifference_48_48_p3 (rec : zF) (β : Nat) (σ : zS) (x0 x1 x2 x3 : Int) : Option zR := if x2 ≤ x3 then (rec tC_Sym_toDifference_48_48_p32 β σ [x0, x1, x2, x3]) else (if zr (x0 + x3) then (if zb (x0 + x3) (σ.2.2 48) then (if zr (x1 + x3) then (if zb (x1 + x3) (σ.2.2 48) then (if (σ.2.1 48 (x0 + x3)) = (σ.2.1 48 (x1 + x3)) then (if zr (x3 + 1) then (rec tC_Sym_toDifference_48_48_p3 β σ [x0, x1, x2, (x3 + 1)]) else none) else (rec tC_Sym_toDifference_48_48_p32 β σ [x0, x1, x2, x3])) else none) else none) else none) else none)
def kY_Sym_toDifference_48_48_p32 (rec : zF) (β : Nat) (σ : zS) (x0 x1 x2 x3 : Int) : Option zR := rec tC_Sym_toDifference_48_48_p35 β σ [x0, x1, x2, x3, 1]
def kY_Sym_toDifference_48_48_p35 (rec : zF) (β : Nat) (σ : zS) (x0 x1 x2 x3 x4 : Int) : Option zR := if x2 ≤ x3 then (rec tC_Sym_toDifference_48_48_p79 β σ [x0, x1, x2, x3, x4]) else (if x2 ≤ x4 then (rec tC_Sym_toDifference_48_48_p79 β σ [x0, x1, x2, x3, x4]) else (if zr (x0 + x4) then (if 1 ≤ β then (zbd (rec tC_Sym_after_48 (β - 1) σ [(x0 + x4)]) (fun σ1 r1 => if zr (r1 - x0) then (if (r1 - x0) ≤ x3 then (rec tC_Sym_toDifference_48_48_p35 β σ1 [x0, x1, x2, x3, (r1 - x0)]) else (some (σ1, x4))) else none)) else none) else none))
def kY_Sym_toDifference_48_48_p79 (rec : zF) (β : Nat) (σ : zS) (x0 x1 x2 x3 x4 : Int) : Option zR := some (σ, 0)
def kY_Sym_toDifference_48_68 (rec : zF) (β : Nat) (σ : zS) (x0 x1 x2 : Int) : Option zR := rec tC_Sym_toDifference_48_68_p3 β σ [x0, x1, x2, 1]
def kY_Sym_toDifference_48_68_p3 (rec : zF) (β : Nat) (σ : zS) (x0 x1 x2 x3 : Int) : Option zR := if x2 ≤ x3 then (rec tC_Sym_toDifference_48_68_p32 β σ [x0, x1, x2, x3]) else (if zr (x0 + x3) then (if zb (x0 + x3) (σ.2.2 48) then (if zr (x1 + x3) then (if zb (x1 + x3) 100 then (if (σ.2.1 48 (x0 + x3)) = (σ.2.1 68 (x1 + x3)) then (if zr (x3 + 1) then (rec tC_Sym_toDifference_48_68_p3 β σ [x0, x1, x2, (x3 + 1)]) else none) else (rec tC_Sym_toDifference_48_68_p32 β σ [x0, x1, x2, x3])) else none) else none) else none) else none)
def kY_Sym_toDifference_48_68_p32 (rec : zF) (β : Nat) (σ : zS) (x0 x1 x2 x3 : Int) : Option zR := rec tC_Sym_toDifference_48_68_p35 β σ [x0, x1, x2, x3, 1]
def kY_Sym_toDifference_48_68_p35 (rec : zF) (β : Nat) (σ : zS) (x0 x1 x2 x3 x4 : Int) : Option zR := if x2 ≤ x3 then (rec tC_Sym_toDifference_48_68_p79 β σ [x0, x1, x2, x3, x4]) else (if x2 ≤ x4 then (rec tC_Sym_toDifference_48_68_p79 β σ [x0, x1, x2, x3, x4]) else (if zr (x0 + x4) then (if 1 ≤ β then (zbd (rec tC_Sym_after_48 (β - 1) σ [(x0 + x4)]) (fun σ1 r1 => if zr (r1 - x0) then (if (r1 - x0) ≤ x3 then (rec tC_Sym_toDifference_48_68_p35 β σ1 [x0, x1, x2, x3, (r1 - x0)]) else (some (σ1, x4))) else none)) else none) else none))
def kY_Sym_toDifference_48_68_p79 (rec : zF) (β : Nat) (σ : zS) (x0 x1 x2 x3 x4 : Int) : Option zR := some (σ, 0)
def kY_Uni_clear (rec : zF) (β : Nat) (σ : zS) (x0 x1 : Int) : Option zR := rec tC_Uni_clear_p2 β σ [x0, x1, 0]
def kY_Uni_clear_p2 (rec : zF) (β : Nat) (σ : zS) (x0 x1 x2 : Int) : Option zR := if 12 ≤ x2 then (lt_ (zI σ 5905 0) (fun σ1 => lt_ (zI σ1 5906 x0) (fun σ2 => lt_ (zI σ2 5907 x1) (fun σ3 => rec tC_Uni_clear_p45 β σ3 [x0, x1, 0])))) else (if zb x2 12 then (lt_ (zA σ 60 x2 x2) (fun σ4 => lt_ (zA σ4 61 x2 (-1)) (fun σ5 => if zr (x2 + 1) then (rec tC_Uni_clear_p2 β σ5 [x0, x1, (x2 + 1)]) else none))) else none)
def kY_Uni_clear_p45 (rec : zF) (β : Nat) (σ : zS) (x0 x1 x2 : Int) : Option zR := if (σ.1 6401) ≤ x2 then (lt_ (zI σ 6401 0) (fun σ1 => some (σ1, 0))) else (if zb x2 (σ.2.2 65) then (if zb (σ.2.1 65 x2) 3360 then (lt_ (zA σ 63 (σ.2.1 65 x2) 0) (fun σ2 => if zr (x2 + 1) then (rec tC_Uni_clear_p45 β σ2 [x0, x1, (x2 + 1)]) else none)) else none) else none)
def kY_Uni_occurs (rec : zF) (β : Nat) (σ : zS) (x0 x1 x2 : Int) : Option zR := rec tC_Uni_occurs_p15 β σ [x0, x1, x2, 0, 0, x1, x2, 0]
def kY_Uni_occurs_p15 (rec : zF) (β : Nat) (σ : zS) (x0 x1 x2 x3 x4 x5 x6 x7 : Int) : Option zR := if 12 < x7 then (rec tC_Uni_occurs_p190 β σ [x0, x1, x2, x3, x4, x5, x6, x7]) else (rec tC_Uni_occurs_p29 β σ [x0, x1, x2, x3, x4, x5, x6, x7, 1, x5])
def kY_Uni_occurs_p29 (rec : zF) (β : Nat) (σ : zS) (x0 x1 x2 x3 x4 x5 x6 x7 x8 x9 : Int) : Option zR := if x8 ≤ 0 then (rec tC_Uni_occurs_p118 β σ [x0, x1, x2, x3, x4, x5, x6, x7, x8, x9]) else (if (σ.1 4701) ≤ x9 then (rec tC_Uni_occurs_p118 β σ [x0, x1, x2, x3, x4, x5, x6, x7, x8, x9]) else (if zb x9 (σ.2.2 48) then (if 0 ≤ (σ.2.1 48 x9) then (if zb (σ.2.1 48 x9) 551 then (if zr ((σ.2.1 7 (σ.2.1 48 x9)) - 1) then (rec tC_Uni_occurs_p81 β σ [x0, x1, x2, x3, x4, x5, x6, x7, x8, x9, (σ.2.1 48 x9), ((σ.2.1 7 (σ.2.1 48 x9)) - 1), x8]) else none) else none) else (rec tC_Uni_occurs_p81 β σ [x0, x1, x2, x3, x4, x5, x6, x7, x8, x9, (σ.2.1 48 x9), (-1), x8])) else none))
def kY_Uni_occurs_p81 (rec : zF) (β : Nat) (σ : zS) (x0 x1 x2 x3 x4 x5 x6 x7 x8 x9 x10 x11 x12 : Int) : Option zR := if 0 ≤ x10 then (if zr (x12 + x11) then (rec tC_Uni_occurs_p109 β σ [x0, x1, x2, x3, x4, x5, x6, x7, (x12 + x11), x9, x10, 0, x3]) else none) else (if zr ((-1 - x10) + x6) then (if zb ((-1 - x10) + x6) 12 then (if zr (x12 + x11) then (rec tC_Uni_occurs_p109 β σ [x0, x1, x2, x3, x4, x5, x6, x7, (x12 + x11), x9, x10, (zshl 1 (σ.2.1 60 ((-1 - x10) + x6))), x3]) else none) else none) else none)
def kY_Uni_occurs_p109 (rec : zF) (β : Nat) (σ : zS) (x0 x1 x2 x3 x4 x5 x6 x7 x8 x9 x10 x11 x12 : Int) : Option zR := if zr (x9 + 1) then (rec tC_Uni_occurs_p29 β σ [x0, x1, x2, (zor x12 x11), x4, x5, x6, x7, x8, (x9 + 1)]) else none
def kY_Uni_occurs_p118 (rec : zF) (β : Nat) (σ : zS) (x0 x1 x2 x3 x4 x5 x6 x7 x8 x9 : Int) : Option zR := if (zand (zshr x3 x0) 1) = 1 then (rec tC_Uni_occurs_p190 β σ [x0, x1, x2, x3, x4, x5, x6, x7]) else (if (zand (zand x3 (σ.1 5905)) (-1 - x4)) = 0 then (rec tC_Uni_occurs_p190 β σ [x0, x1, x2, x3, x4, x5, x6, x7]) else (if 1 ≤ β then (zbd (rec tC_Integer_numberOfTrailingZeros (β - 1) σ [(zand (zand x3 (σ.1 5905)) (-1 - x4))]) (fun σ1 r1 => if zb r1 12 then (if zr (x7 + 1) then (rec tC_Uni_occurs_p15 β σ1 [x0, x1, x2, x3, (zor x4 (zshl 1 r1)), (σ1.2.1 61 r1), (σ1.2.1 62 r1), (x7 + 1)]) else none) else none)) else none))
def kY_Uni_occurs_p190 (rec : zF) (β : Nat) (σ : zS) (x0 x1 x2 x3 x4 x5 x6 x7 : Int) : Option zR := if (zand (zshr x3 x0) 1) = 1 then (rec tC_Uni_occurs_p205 β σ [x0, x1, x2, x3, x4, x5, x6, x7, 1]) else (rec tC_Uni_occurs_p205 β σ [x0, x1, x2, x3, x4, x5, x6, x7, 0])
def kY_Uni_occurs_p205 (rec : zF) (β : Nat) (σ : zS) (x0 x1 x2 x3 x4 x5 x6 x7 x8 : Int) : Option zR := if x8 = 0 ∨ x8 = 1 then (some (σ, x8)) else none
def kY_Uni_write (rec : zF) (β : Nat) (σ : zS) (x0 x1 x2 x3 : Int) : Option zR := rec tC_Uni_write_p3 β σ [x0, x1, x2, x3, x0]
def kY_Uni_write_p3 (rec : zF) (β : Nat) (σ : zS) (x0 x1 x2 x3 x4 : Int) : Option zR := if x1 ≤ x4 then (rec tC_Uni_write_p147 β σ [x0, x1, x2, x3, x4]) else (if (σ.1 3907) = 0 then (if 12 < x3 then (rec tC_Uni_write_p147 β σ [x0, x1, x2, x3, x4]) else (if zb x4 (σ.2.2 48) then (if 0 ≤ (σ.2.1 48 x4) then (rec tC_Uni_write_p56 β σ [x0, x1, x2, x3, x4, (σ.2.1 48 x4), (-1)]) else (if zr ((-1 - (σ.2.1 48 x4)) + x2) then (if zb ((-1 - (σ.2.1 48 x4)) + x2) 12 then (rec tC_Uni_write_p56 β σ [x0, x1, x2, x3, x4, (σ.2.1 48 x4), (σ.2.1 60 ((-1 - (σ.2.1 48 x4)) + x2))]) else none) else none)) else none)) else (rec tC_Uni_write_p147 β σ [x0, x1, x2, x3, x4]))
def kY_Uni_write_p56 (rec : zF) (β : Nat) (σ : zS) (x0 x1 x2 x3 x4 x5 x6 : Int) : Option zR := if x6 = (-1) then (if 1 ≤ β then (zbd (rec tC_Dra_put (β - 1) σ [x5]) (fun σ5 r5 => rec tC_Uni_write_p141 β σ5 [x0, x1, x2, x3, x4, x5, x6])) else none) else (if zb x6 12 then (if (σ.2.1 61 x6) = (-1) then (if 1 ≤ β then (zbd (rec tC_Dra_cellOf (β - 1) σ [x6]) (fun σ3 r3 => if 1 ≤ β then (zbd (rec tC_Dra_put (β - 1) σ3 [r3]) (fun σ4 r4 => rec tC_Uni_write_p141 β σ4 [x0, x1, x2, x3, x4, x5, x6])) else none)) else none) else (if 1 ≤ β then (zbd (rec tC_Sym_after_48 (β - 1) σ [(σ.2.1 61 x6)]) (fun σ1 r1 => if zr (x3 + 1) then (if 1 ≤ β then (zbd (rec tC_Uni_write (β - 1) σ1 [(σ.2.1 61 x6), r1, (σ1.2.1 62 x6), (x3 + 1)]) (fun σ2 r2 => rec tC_Uni_write_p141 β σ2 [x0, x1, x2, x3, x4, x5, x6])) else none) else none)) else none)) else none)
def kY_Uni_write_p141 (rec : zF) (β : Nat) (σ : zS) (x0 x1 x2 x3 x4 x5 x6 : Int) : Option zR := if zr (x4 + 1) then (rec tC_Uni_write_p3 β σ [x0, x1, x2, x3, (x4 + 1)]) else none
def kY_Uni_write_p147 (rec : zF) (β : Nat) (σ : zS) (x0 x1 x2 x3 x4 : Int) : Option zR := some (σ, 0)
def kY_Wds_advance (rec : zF) (β : Nat) (σ : zS) : Option zR := if 1 ≤ β then (zbd (rec tC_Wds_skipBlanks (β - 1) σ []) (fun σ1 r1 => lt_ (zI σ1 3203 (σ1.1 3206)) (fun σ2 => lt_ (zI σ2 3204 0) (fun σ3 => lt_ (zI σ3 3205 0) (fun σ4 => lt_ (zI σ4 3202 0) (fun σ5 => if (σ5.1 3206) < (σ5.1 3201) then (if zr ((σ5.1 3207) + 1) then (lt_ (zI σ5 3207 ((σ5.1 3207) + 1)) (fun σ6 => if (σ6.1 3207) ≤ 20000 then (rec tC_Wds_advance_p65 β σ6 [0]) else (rec tC_Wds_advance_p65 β σ6 [1]))) else none) else (some (σ5, 0)))))))) else none
def kY_Wds_advance_p65 (rec : zF) (β : Nat) (σ : zS) (x0 : Int) : Option zR := if x0 = 0 ∨ x0 = 1 then (lt_ (zI σ 3205 x0) (fun σ1 => if zb (σ1.1 3206) (σ1.2.2 2) then (if (zor (σ1.2.1 2 (σ1.1 3206)) 32) < 97 then (rec tC_Wds_advance_p109 β σ1 []) else (if 122 < (zor (σ1.2.1 2 (σ1.1 3206)) 32) then (rec tC_Wds_advance_p109 β σ1 []) else (if 1 ≤ β then (zbd (rec tC_Wds_takeWord (β - 1) σ1 []) (fun σ2 r2 => rec tC_Wds_advance_p169 β σ2 [])) else none))) else none)) else none
def kY_Wds_advance_p109 (rec : zF) (β : Nat) (σ : zS) : Option zR := if zr ((σ.1 3206) + 1) then (if (σ.1 3201) ≤ ((σ.1 3206) + 1) then (rec tC_Wds_advance_p138 β σ [(-1)]) else (if zb ((σ.1 3206) + 1) (σ.2.2 2) then (rec tC_Wds_advance_p138 β σ [(σ.2.1 2 ((σ.1 3206) + 1))]) else none)) else none
def kY_Wds_advance_p138 (rec : zF) (β : Nat) (σ : zS) (x0 : Int) : Option zR := if zr ((σ.1 3206) + 2) then (if (σ.1 3201) ≤ ((σ.1 3206) + 2) then (rec tC_Wds_advance_p166 β σ [(-1), x0]) else (if zb ((σ.1 3206) + 2) (σ.2.2 2) then (rec tC_Wds_advance_p166 β σ [(σ.2.1 2 ((σ.1 3206) + 2)), x0]) else none)) else none
def kY_Wds_advance_p166 (rec : zF) (β : Nat) (σ : zS) (x0 x1 : Int) : Option zR := if 1 ≤ β then (zbd (rec tC_Wds_takeSign (β - 1) σ [x1, x0]) (fun σ1 r1 => rec tC_Wds_advance_p169 β σ1 [])) else none
def kY_Wds_advance_p169 (rec : zF) (β : Nat) (σ : zS) : Option zR := if zr ((σ.1 3206) + (σ.1 3204)) then (lt_ (zI σ 3206 ((σ.1 3206) + (σ.1 3204))) (fun σ1 => some (σ1, 0))) else none
def kY_Wds_isNow (rec : zF) (β : Nat) (σ : zS) (x0 : Int) : Option zR := if (σ.1 3202) = x0 then (if (σ.1 3205) = 0 then (rec tC_Wds_isNow_p20 β σ [x0, 1]) else (rec tC_Wds_isNow_p19 β σ [x0])) else (rec tC_Wds_isNow_p19 β σ [x0])
def kY_Wds_isNow_p19 (rec : zF) (β : Nat) (σ : zS) (x0 : Int) : Option zR := rec tC_Wds_isNow_p20 β σ [x0, 0]
def kY_Wds_isNow_p20 (rec : zF) (β : Nat) (σ : zS) (x0 x1 : Int) : Option zR := if x1 = 0 ∨ x1 = 1 then (some (σ, x1)) else none
def kY_Wds_isProve (rec : zF) (β : Nat) (σ : zS) : Option zR := if 1 ≤ β then (zbd (rec tC_Wds_isNow (β - 1) σ [2]) (fun σ1 r1 => if r1 = 0 then (rec tC_Wds_isProve_p98 β σ1 []) else (if (σ1.1 3204) = 5 then (if zb (σ1.1 3203) (σ1.2.2 2) then (if (σ1.2.1 2 (σ1.1 3203)) = 112 then (if zr ((σ1.1 3203) + 1) then (if zb ((σ1.1 3203) + 1) (σ1.2.2 2) then (if (σ1.2.1 2 ((σ1.1 3203) + 1)) = 114 then (if zr ((σ1.1 3203) + 2) then (if zb ((σ1.1 3203) + 2) (σ1.2.2 2) then (if (σ1.2.1 2 ((σ1.1 3203) + 2)) = 111 then (if zr ((σ1.1 3203) + 3) then (if zb ((σ1.1 3203) + 3) (σ1.2.2 2) then (if (σ1.2.1 2 ((σ1.1 3203) + 3)) = 118 then (if zr ((σ1.1 3203) + 4) then (if zb ((σ1.1 3203) + 4) (σ1.2.2 2) then (if (σ1.2.1 2 ((σ1.1 3203) + 4)) = 101 then (rec tC_Wds_isProve_p99 β σ1 [1]) else (rec tC_Wds_isProve_p98 β σ1 [])) else none) else none) else (rec tC_Wds_isProve_p98 β σ1 [])) else none) else none) else (rec tC_Wds_isProve_p98 β σ1 [])) else none) else none) else (rec tC_Wds_isProve_p98 β σ1 [])) else none) else none) else (rec tC_Wds_isProve_p98 β σ1 [])) else none) else (rec tC_Wds_isProve_p98 β σ1 [])))) else none
def kY_Wds_isProve_p98 (rec : zF) (β : Nat) (σ : zS) : Option zR := rec tC_Wds_isProve_p99 β σ [0]
def kY_Wds_isProve_p99 (rec : zF) (β : Nat) (σ : zS) (x0 : Int) : Option zR := if x0 = 0 ∨ x0 = 1 then (some (σ, x0)) else none
def kY_Wds_skipBlanks (rec : zF) (β : Nat) (σ : zS) : Option zR := rec tC_Wds_skipBlanks_p2 β σ [0]
def kY_Wds_skipBlanks_p2 (rec : zF) (β : Nat) (σ : zS) (x0 : Int) : Option zR := if (σ.1 3201) ≤ (σ.1 3206) then (some (σ, 0)) else (if zb (σ.1 3206) (σ.2.2 2) then (if (σ.2.1 2 (σ.1 3206)) = 10 then (rec tC_Wds_skipBlanks_p68 β σ [0, (σ.2.1 2 (σ.1 3206))]) else (if (σ.2.1 2 (σ.1 3206)) = 37 then (rec tC_Wds_skipBlanks_p68 β σ [1, (σ.2.1 2 (σ.1 3206))]) else (if x0 = 0 then (if (σ.2.1 2 (σ.1 3206)) = 32 then (rec tC_Wds_skipBlanks_p68 β σ [x0, (σ.2.1 2 (σ.1 3206))]) else (if (σ.2.1 2 (σ.1 3206)) = 9 then (rec tC_Wds_skipBlanks_p68 β σ [x0, (σ.2.1 2 (σ.1 3206))]) else (if (σ.2.1 2 (σ.1 3206)) = 13 then (rec tC_Wds_skipBlanks_p68 β σ [x0, (σ.2.1 2 (σ.1 3206))]) else (some (σ, 0))))) else (rec tC_Wds_skipBlanks_p68 β σ [x0, (σ.2.1 2 (σ.1 3206))])))) else none)
def kY_Wds_skipBlanks_p68 (rec : zF) (β : Nat) (σ : zS) (x0 x1 : Int) : Option zR := if zr ((σ.1 3206) + 1) then (lt_ (zI σ 3206 ((σ.1 3206) + 1)) (fun σ1 => rec tC_Wds_skipBlanks_p2 β σ1 [x0])) else none
def kY_Wds_takeSign (rec : zF) (β : Nat) (σ : zS) (x0 x1 : Int) : Option zR := lt_ (zI σ 3204 1) (fun σ1 => if zb (σ1.1 3206) (σ1.2.2 2) then (if (σ1.2.1 2 (σ1.1 3206)) = 33 then (if x0 = 61 then (rec tC_Wds_takeSign_p211 β σ1 [x0, x1, 2]) else (rec tC_Wds_takeSign_p211 β σ1 [x0, x1, 1])) else (if (σ1.2.1 2 (σ1.1 3206)) = 38 then (lt_ (zI σ1 3202 14) (fun σ2 => rec tC_Wds_takeSign_p316 β σ2 [x0, x1])) else (if (σ1.2.1 2 (σ1.1 3206)) = 40 then (lt_ (zI σ1 3202 5) (fun σ3 => rec tC_Wds_takeSign_p316 β σ3 [x0, x1])) else (if (σ1.2.1 2 (σ1.1 3206)) = 41 then (lt_ (zI σ1 3202 6) (fun σ4 => rec tC_Wds_takeSign_p316 β σ4 [x0, x1])) else (if (σ1.2.1 2 (σ1.1 3206)) = 44 then (lt_ (zI σ1 3202 7) (fun σ5 => rec tC_Wds_takeSign_p316 β σ5 [x0, x1])) else (if (σ1.2.1 2 (σ1.1 3206)) = 46 then (lt_ (zI σ1 3202 4) (fun σ6 => rec tC_Wds_takeSign_p316 β σ6 [x0, x1])) else (if (σ1.2.1 2 (σ1.1 3206)) = 58 then (lt_ (zI σ1 3202 8) (fun σ7 => rec tC_Wds_takeSign_p316 β σ7 [x0, x1])) else (if (σ1.2.1 2 (σ1.1 3206)) = 60 then (if x0 = 61 then (if x1 = 62 then (rec tC_Wds_takeSign_p287 β σ1 [x0, x1, 3]) else (rec tC_Wds_takeSign_p286 β σ1 [x0, x1])) else (rec tC_Wds_takeSign_p286 β σ1 [x0, x1])) else (if (σ1.2.1 2 (σ1.1 3206)) = 61 then (if x0 = 62 then (rec tC_Wds_takeSign_p246 β σ1 [x0, x1, 2]) else (rec tC_Wds_takeSign_p246 β σ1 [x0, x1, 1])) else (if (σ1.2.1 2 (σ1.1 3206)) = 63 then (lt_ (zI σ1 3202 13) (fun σ8 => rec tC_Wds_takeSign_p316 β σ8 [x0, x1])) else (if (σ1.2.1 2 (σ1.1 3206)) = 124 then (lt_ (zI σ1 3202 15) (fun σ9 => rec tC_Wds_takeSign_p316 β σ9 [x0, x1])) else (if (σ1.2.1 2 (σ1.1 3206)) = 126 then (lt_ (zI σ1 3202 11) (fun σ10 => rec tC_Wds_takeSign_p316 β σ10 [x0, x1])) else (lt_ (zI σ1 3202 1) (fun σ11 => rec tC_Wds_takeSign_p316 β σ11 [x0, x1])))))))))))))) else none)
def kY_Wds_takeSign_p211 (rec : zF) (β : Nat) (σ : zS) (x0 x1 x2 : Int) : Option zR := lt_ (zI σ 3204 x2) (fun σ1 => if x0 = 61 then (rec tC_Wds_takeSign_p228 β σ1 [x0, x1, 10]) else (rec tC_Wds_takeSign_p228 β σ1 [x0, x1, 12]))
def kY_Wds_takeSign_p228 (rec : zF) (β : Nat) (σ : zS) (x0 x1 x2 : Int) : Option zR := lt_ (zI σ 3202 x2) (fun σ1 => rec tC_Wds_takeSign_p316 β σ1 [x0, x1])
def kY_Wds_takeSign_p246 (rec : zF) (β : Nat) (σ : zS) (x0 x1 x2 : Int) : Option zR := lt_ (zI σ 3204 x2) (fun σ1 => if x0 = 62 then (rec tC_Wds_takeSign_p263 β σ1 [x0, x1, 16]) else (rec tC_Wds_takeSign_p263 β σ1 [x0, x1, 9]))
def kY_Wds_takeSign_p263 (rec : zF) (β : Nat) (σ : zS) (x0 x1 x2 : Int) : Option zR := lt_ (zI σ 3202 x2) (fun σ1 => rec tC_Wds_takeSign_p316 β σ1 [x0, x1])
def kY_Wds_takeSign_p286 (rec : zF) (β : Nat) (σ : zS) (x0 x1 : Int) : Option zR := rec tC_Wds_takeSign_p287 β σ [x0, x1, 1]
def kY_Wds_takeSign_p287 (rec : zF) (β : Nat) (σ : zS) (x0 x1 x2 : Int) : Option zR := lt_ (zI σ 3204 x2) (fun σ1 => if (σ1.1 3204) = 3 then (rec tC_Wds_takeSign_p305 β σ1 [x0, x1, 17]) else (rec tC_Wds_takeSign_p305 β σ1 [x0, x1, 1]))
def kY_Wds_takeSign_p305 (rec : zF) (β : Nat) (σ : zS) (x0 x1 x2 : Int) : Option zR := lt_ (zI σ 3202 x2) (fun σ1 => rec tC_Wds_takeSign_p316 β σ1 [x0, x1])
def kY_Wds_takeSign_p316 (rec : zF) (β : Nat) (σ : zS) (x0 x1 : Int) : Option zR := some (σ, 0)
def kY_Wds_takeWord (rec : zF) (β : Nat) (σ : zS) : Option zR := rec tC_Wds_takeWord_p2 β σ [1]
def kY_Wds_takeWord_p2 (rec : zF) (β : Nat) (σ : zS) (x0 : Int) : Option zR := if x0 = 0 then (rec tC_Wds_takeWord_p100 β σ [x0]) else (if zr ((σ.1 3206) + (σ.1 3204)) then (if (σ.1 3201) ≤ ((σ.1 3206) + (σ.1 3204)) then (rec tC_Wds_takeWord_p100 β σ [x0]) else (if zb ((σ.1 3206) + (σ.1 3204)) (σ.2.2 2) then (if (zor (σ.2.1 2 ((σ.1 3206) + (σ.1 3204))) 32) < 97 then (rec tC_Wds_takeWord_p55 β σ [x0, (σ.2.1 2 ((σ.1 3206) + (σ.1 3204)))]) else (if (zor (σ.2.1 2 ((σ.1 3206) + (σ.1 3204))) 32) ≤ 122 then (rec tC_Wds_takeWord_p73 β σ [x0, (σ.2.1 2 ((σ.1 3206) + (σ.1 3204)))]) else (rec tC_Wds_takeWord_p55 β σ [x0, (σ.2.1 2 ((σ.1 3206) + (σ.1 3204)))]))) else none)) else none)
def kY_Wds_takeWord_p55 (rec : zF) (β : Nat) (σ : zS) (x0 x1 : Int) : Option zR := if x1 < 48 then (rec tC_Wds_takeWord_p67 β σ [x0, x1]) else (if x1 ≤ 57 then (rec tC_Wds_takeWord_p73 β σ [x0, x1]) else (rec tC_Wds_takeWord_p67 β σ [x0, x1]))
def kY_Wds_takeWord_p67 (rec : zF) (β : Nat) (σ : zS) (x0 x1 : Int) : Option zR := if x1 = 95 then (rec tC_Wds_takeWord_p73 β σ [x0, x1]) else (rec tC_Wds_takeWord_p78 β σ [x0, x1, 0])
def kY_Wds_takeWord_p73 (rec : zF) (β : Nat) (σ : zS) (x0 x1 : Int) : Option zR := rec tC_Wds_takeWord_p78 β σ [x0, x1, 1]
def kY_Wds_takeWord_p78 (rec : zF) (β : Nat) (σ : zS) (x0 x1 x2 : Int) : Option zR := if x2 = 0 then (rec tC_Wds_takeWord_p93 β σ [x2, x1, 0, (σ.1 3204)]) else (rec tC_Wds_takeWord_p93 β σ [x2, x1, 1, (σ.1 3204)])
def kY_Wds_takeWord_p93 (rec : zF) (β : Nat) (σ : zS) (x0 x1 x2 x3 : Int) : Option zR := if zr (x3 + x2) then (lt_ (zI σ 3204 (x3 + x2)) (fun σ1 => rec tC_Wds_takeWord_p2 β σ1 [x0])) else none
def kY_Wds_takeWord_p100 (rec : zF) (β : Nat) (σ : zS) (x0 : Int) : Option zR := if zb (σ.1 3206) (σ.2.2 2) then (if 90 < (σ.2.1 2 (σ.1 3206)) then (rec tC_Wds_takeWord_p119 β σ [x0, 0]) else (rec tC_Wds_takeWord_p119 β σ [x0, 1])) else none
def kY_Wds_takeWord_p119 (rec : zF) (β : Nat) (σ : zS) (x0 x1 : Int) : Option zR := if (σ.1 3204) ≤ 31 then (if x1 = 0 then (rec tC_Wds_takeWord_p143 β σ [x0, x1, 2]) else (rec tC_Wds_takeWord_p143 β σ [x0, x1, 3])) else (rec tC_Wds_takeWord_p143 β σ [x0, x1, 1])
def kY_Wds_takeWord_p143 (rec : zF) (β : Nat) (σ : zS) (x0 x1 x2 : Int) : Option zR := lt_ (zI σ 3202 x2) (fun σ1 => some (σ1, 0))
def kY_Integer_numberOfTrailingZeros (rec : zF) (β : Nat) (σ : zS) (x0 : Int) : Option zR := if zr (x0 - 1) then (if 0 < (zand (-1 - x0) (x0 - 1)) then (if (zand (-1 - x0) (x0 - 1)) ≤ 65536 then (rec tC_Integer_numberOfTrailingZeros_p34 β σ [(zand (-1 - x0) (x0 - 1)), 1]) else (if zr (1 + 16) then (rec tC_Integer_numberOfTrailingZeros_p34 β σ [(zushr (zand (-1 - x0) (x0 - 1)) 16), (1 + 16)]) else none)) else (some (σ, (zand (zand (-1 - x0) (x0 - 1)) 32)))) else none
def kY_Integer_numberOfTrailingZeros_p34 (rec : zF) (β : Nat) (σ : zS) (x0 x1 : Int) : Option zR := if x0 ≤ 256 then (rec tC_Integer_numberOfTrailingZeros_p49 β σ [x0, x1]) else (if zr (x1 + 8) then (rec tC_Integer_numberOfTrailingZeros_p49 β σ [(zushr x0 8), (x1 + 8)]) else none)
def kY_Integer_numberOfTrailingZeros_p49 (rec : zF) (β : Nat) (σ : zS) (x0 x1 : Int) : Option zR := if x0 ≤ 16 then (rec tC_Integer_numberOfTrailingZeros_p62 β σ [x0, x1]) else (if zr (x1 + 4) then (rec tC_Integer_numberOfTrailingZeros_p62 β σ [(zushr x0 4), (x1 + 4)]) else none)
def kY_Integer_numberOfTrailingZeros_p62 (rec : zF) (β : Nat) (σ : zS) (x0 x1 : Int) : Option zR := if x0 ≤ 4 then (rec tC_Integer_numberOfTrailingZeros_p74 β σ [x0, x1]) else (if zr (x1 + 2) then (rec tC_Integer_numberOfTrailingZeros_p74 β σ [(zushr x0 2), (x1 + 2)]) else none)
def kY_Integer_numberOfTrailingZeros_p74 (rec : zF) (β : Nat) (σ : zS) (x0 x1 : Int) : Option zR := if zr (x1 + (zushr x0 1)) then (some (σ, (x1 + (zushr x0 1)))) else none
def kY_CP_addBytes (rec : zF) (β : Nat) (σ : zS) (x0 : Int) : Option zR := rec tG_CP_addBytes_p3 β σ [x0, 24]
def kY_CP_addBytes_p3 (rec : zF) (β : Nat) (σ : zS) (x0 x1 : Int) : Option zR := if x1 < 0 then (some (σ, 0)) else (if zrok σ 101 2 then (lt_ (zAdd σ 101 2 (zand (zushr x0 x1) 255)) (fun σ1 => if zr (x1 + (-8)) then (rec tG_CP_addBytes_p3 β σ1 [x0, (x1 + (-8))]) else none)) else none)
def kY_CP_read (rec : zF) (β : Nat) (σ : zS) : Option zR := if 1 ≤ β then (zbd (rec tC_Sym_clear (β - 1) σ []) (fun σ1 r1 => if 1 ≤ β then (zbd (rec tC_Sto_clear (β - 1) σ1 []) (fun σ2 r2 => if 1 ≤ β then (zbd (rec tC_Sat_clear (β - 1) σ2 []) (fun σ3 r3 => if 1 ≤ β then (zbd (rec tG_Par_parse_2 (β - 1) σ3 [(σ3.1 101)]) (fun σ4 r4 => lt_ (zI σ4 101 0) (fun σ5 => lt_ (zI σ5 10 (σ5.1 3100)) (fun σ6 => lt_ (zI σ6 11 (σ6.1 3101)) (fun σ7 => if (σ7.1 10) = 0 then (if 1 ≤ β then (zbd (rec tC_For_makeWitnesses (β - 1) σ7 []) (fun σ8 r8 => if 1 ≤ β then (zbd (rec tG_For_makeClauses (β - 1) σ8 []) (fun σ9 r9 => if r9 = (-1) then (rec tG_CP_read_p113 β σ9 [r9, 0]) else (rec tG_CP_read_p113 β σ9 [r9, 3]))) else none)) else none) else (rec tG_CP_read_p130 β σ7 [])))))) else none)) else none)) else none)) else none
def kY_CP_read_p113 (rec : zF) (β : Nat) (σ : zS) (x0 x1 : Int) : Option zR := lt_ (zI σ 10 x1) (fun σ1 => if x0 = (-1) then (rec tG_CP_read_p127 β σ1 [x0, 0]) else (rec tG_CP_read_p127 β σ1 [x0, x0]))
def kY_CP_read_p127 (rec : zF) (β : Nat) (σ : zS) (x0 x1 : Int) : Option zR := lt_ (zI σ 11 x1) (fun σ1 => rec tG_CP_read_p130 β σ1 [])
def kY_CP_read_p130 (rec : zF) (β : Nat) (σ : zS) : Option zR := if (σ.1 10) = 0 then (lt_ (zI σ 5403 (σ.1 5402)) (fun σ1 => some (σ1, (σ1.1 5402)))) else (if 1 ≤ β then (zbd (rec tC_Sym_clear (β - 1) σ []) (fun σ2 r2 => if 1 ≤ β then (zbd (rec tC_Sto_clear (β - 1) σ2 []) (fun σ3 r3 => some (σ3, (-1)))) else none)) else none)
def kY_CP_writeNumber (rec : zF) (β : Nat) (σ : zS) (x0 : Int) : Option zR := if x0 < 100 then (if x0 < 10 then (rec tG_CP_writeNumber_p23 β σ [x0, 1]) else (rec tG_CP_writeNumber_p23 β σ [x0, 10])) else (rec tG_CP_writeNumber_p23 β σ [x0, 100])
def kY_CP_writeNumber_p23 (rec : zF) (β : Nat) (σ : zS) (x0 x1 : Int) : Option zR := rec tG_CP_writeNumber_p24 β σ [x0, x1]
def kY_CP_writeNumber_p24 (rec : zF) (β : Nat) (σ : zS) (x0 x1 : Int) : Option zR := if x1 ≤ 0 then (some (σ, 0)) else (if x1 = 0 then none else (if zr (Int.tdiv x0 x1) then (if zr (48 + (Int.tmod (Int.tdiv x0 x1) 10)) then (if zrok σ 301 4 then (lt_ (zAdd σ 301 4 (48 + (Int.tmod (Int.tdiv x0 x1) 10))) (fun σ1 => if zr (Int.tdiv x1 10) then (rec tG_CP_writeNumber_p24 β σ1 [x0, (Int.tdiv x1 10)]) else none)) else none) else none) else none))
def kY_For_addNode (rec : zF) (β : Nat) (σ : zS) (x0 x1 x2 : Int) : Option zR := if x0 < 11 then (rec tG_For_addNode_p14 β σ [x0, x1, x2, (-1)]) else (if zr (x1 * 7) then (rec tG_For_addNode_p14 β σ [x0, x1, x2, (x1 * 7)]) else none)
def kY_For_addNode_p14 (rec : zF) (β : Nat) (σ : zS) (x0 x1 x2 x3 : Int) : Option zR := if x0 < 14 then (rec tG_For_addNode_p30 β σ [x0, x1, x2, x3, (-1)]) else (if zr (x2 * 7) then (rec tG_For_addNode_p30 β σ [x0, x1, x2, x3, (x2 * 7)]) else none)
def kY_For_addNode_p30 (rec : zF) (β : Nat) (σ : zS) (x0 x1 x2 x3 x4 : Int) : Option zR := if x3 = (-1) then (rec tG_For_addNode_p54 β σ [x0, x1, x2, x3, x4, 1]) else (if zr (x3 + 4) then (if zb (x3 + 4) (σ.2.2 19) then (rec tG_For_addNode_p54 β σ [x0, x1, x2, x3, x4, (σ.2.1 19 (x3 + 4))]) else none) else none)
def kY_For_addNode_p54 (rec : zF) (β : Nat) (σ : zS) (x0 x1 x2 x3 x4 x5 : Int) : Option zR := if x3 = (-1) then (rec tG_For_addNode_p78 β σ [x0, x1, x2, x3, x4, x5, 1]) else (if zr (x3 + 5) then (if zb (x3 + 5) (σ.2.2 19) then (rec tG_For_addNode_p78 β σ [x0, x1, x2, x3, x4, x5, (σ.2.1 19 (x3 + 5))]) else none) else none)
def kY_For_addNode_p78 (rec : zF) (β : Nat) (σ : zS) (x0 x1 x2 x3 x4 x5 x6 : Int) : Option zR := if x4 = (-1) then (rec tG_For_addNode_p102 β σ [x0, x1, x2, x3, x4, x5, x6, 1]) else (if zr (x4 + 4) then (if zb (x4 + 4) (σ.2.2 19) then (rec tG_For_addNode_p102 β σ [x0, x1, x2, x3, x4, x5, x6, (σ.2.1 19 (x4 + 4))]) else none) else none)
def kY_For_addNode_p102 (rec : zF) (β : Nat) (σ : zS) (x0 x1 x2 x3 x4 x5 x6 x7 : Int) : Option zR := if x4 = (-1) then (rec tG_For_addNode_p126 β σ [x0, x1, x2, x3, x4, x5, x6, x7, 1]) else (if zr (x4 + 5) then (if zb (x4 + 5) (σ.2.2 19) then (rec tG_For_addNode_p126 β σ [x0, x1, x2, x3, x4, x5, x6, x7, (σ.2.1 19 (x4 + 5))]) else none) else none)
def kY_For_addNode_p126 (rec : zF) (β : Nat) (σ : zS) (x0 x1 x2 x3 x4 x5 x6 x7 x8 : Int) : Option zR := if x0 < 11 ∨ 17 < x0 then (rec tG_For_addNode_p271 β σ [x0, x1, x2, x3, x4, x5, x6, x7, x8, x5, x6]) else (if x0 = 11 then (rec tG_For_addNode_p271 β σ [x0, x1, x2, x3, x4, x5, x6, x7, x8, x6, x5]) else (if x0 = 12 then (rec tG_For_addNode_p271 β σ [x0, x1, x2, x3, x4, x5, x6, x7, x8, x5, x6]) else (if x0 = 13 then (rec tG_For_addNode_p271 β σ [x0, x1, x2, x3, x4, x5, x6, x7, x8, x5, x6]) else (if x0 = 14 then (if zr (x5 * x7) then (if zr (x6 + x8) then (rec tG_For_addNode_p271 β σ [x0, x1, x2, x3, x4, x5, x6, x7, x8, (x5 * x7), (x6 + x8)]) else none) else none) else (if x0 = 15 then (if zr (x5 + x7) then (if zr (x6 * x8) then (rec tG_For_addNode_p271 β σ [x0, x1, x2, x3, x4, x5, x6, x7, x8, (x5 + x7), (x6 * x8)]) else none) else none) else (if x0 = 16 then (if zr (x6 + x7) then (if zr (x5 * x8) then (rec tG_For_addNode_p271 β σ [x0, x1, x2, x3, x4, x5, x6, x7, x8, (x6 + x7), (x5 * x8)]) else none) else none) else (if zr (x6 * x8) then (if zr (x5 * x7) then (if zr ((x6 * x8) + (x5 * x7)) then (if zr (x5 * x8) then (if zr (x7 * x6) then (if zr ((x5 * x8) + (x7 * x6)) then (rec tG_For_addNode_p271 β σ [x0, x1, x2, x3, x4, x5, x6, x7, x8, ((x6 * x8) + (x5 * x7)), ((x5 * x8) + (x7 * x6))]) else none) else none) else none) else none) else none) else none)))))))
def kY_For_addNode_p271 (rec : zF) (β : Nat) (σ : zS) (x0 x1 x2 x3 x4 x5 x6 x7 x8 x9 x10 : Int) : Option zR := if x3 = (-1) then (rec tG_For_addNode_p293 β σ [x0, x1, x2, x3, x4, x5, x6, x7, x8, x9, x10, 0]) else (if zr (x3 + 3) then (if zb (x3 + 3) (σ.2.2 19) then (rec tG_For_addNode_p293 β σ [x0, x1, x2, x3, x4, x5, x6, x7, x8, x9, x10, (σ.2.1 19 (x3 + 3))]) else none) else none)
def kY_For_addNode_p293 (rec : zF) (β : Nat) (σ : zS) (x0 x1 x2 x3 x4 x5 x6 x7 x8 x9 x10 x11 : Int) : Option zR := if x4 = (-1) then (rec tG_For_addNode_p315 β σ [x0, x1, x2, x3, x4, x5, x6, x7, x8, x9, x10, 0, x11]) else (if zr (x4 + 3) then (if zb (x4 + 3) (σ.2.2 19) then (rec tG_For_addNode_p315 β σ [x0, x1, x2, x3, x4, x5, x6, x7, x8, x9, x10, (σ.2.1 19 (x4 + 3)), x11]) else none) else none)
def kY_For_addNode_p315 (rec : zF) (β : Nat) (σ : zS) (x0 x1 x2 x3 x4 x5 x6 x7 x8 x9 x10 x11 x12 : Int) : Option zR := if zrok σ 1801 19 then (lt_ (zAdd σ 1801 19 x0) (fun σ1 => if zrok σ1 1801 19 then (lt_ (zAdd σ1 1801 19 x1) (fun σ2 => if zrok σ2 1801 19 then (lt_ (zAdd σ2 1801 19 x2) (fun σ3 => if zr ((if x12 < x11 then x11 else x12) + 1) then (if zrok σ3 1801 19 then (lt_ (zAdd σ3 1801 19 ((if x12 < x11 then x11 else x12) + 1)) (fun σ4 => if zrok σ4 1801 19 then (lt_ (zAdd σ4 1801 19 (if 201 < x9 then 201 else x9)) (fun σ5 => if zrok σ5 1801 19 then (lt_ (zAdd σ5 1801 19 (if 201 < x10 then 201 else x10)) (fun σ6 => if zrok σ6 1801 19 then (lt_ (zAdd σ6 1801 19 0) (fun σ7 => if zr (Int.tdiv (σ7.1 1801) 7) then (if zr ((Int.tdiv (σ7.1 1801) 7) - 1) then (some (σ7, ((Int.tdiv (σ7.1 1801) 7) - 1))) else none) else none)) else none)) else none)) else none)) else none) else none)) else none)) else none)) else none
def kY_For_equivalent (rec : zF) (β : Nat) (σ : zS) (x0 x1 x2 x3 : Int) : Option zR := if x2 = 0 then (rec tG_For_equivalent_p11 β σ [x0, x1, x2, x3, 1, x0]) else (rec tG_For_equivalent_p11 β σ [x0, x1, x2, x3, 0, x0])
def kY_For_equivalent_p11 (rec : zF) (β : Nat) (σ : zS) (x0 x1 x2 x3 x4 x5 : Int) : Option zR := if 1 ≤ β then (zbd (rec tC_For_clausesOf (β - 1) σ [x5, x4]) (fun σ1 r1 => if 1 ≤ β then (zbd (rec tC_For_clausesOf (β - 1) σ1 [x1, 1]) (fun σ2 r2 => if zr (r1 * r2) then (if (r1 * r2) ≤ x3 then (if x2 = 0 then (if zr (x3 - (r1 * r2)) then (if 1 ≤ β then (zbd (rec tG_For_joined (β - 1) σ2 [0, x0, 0, x1, 0, (x3 - (r1 * r2))]) (fun σ3 r3 => rec tG_For_equivalent_p87 β σ3 [x0, x1, x2, x3, (r1 * r2)])) else none) else none) else (if zr (x3 - (r1 * r2)) then (if 1 ≤ β then (zbd (rec tG_For_joined (β - 1) σ2 [0, x1, 0, x0, 1, (x3 - (r1 * r2))]) (fun σ4 r4 => rec tG_For_equivalent_p87 β σ4 [x0, x1, x2, x3, (r1 * r2)])) else none) else none)) else (if x2 = 0 then (rec tG_For_equivalent_p42 β σ2 [x0, x1, x2, x3, (r1 * r2), 1, x0, 0]) else (rec tG_For_equivalent_p42 β σ2 [x0, x1, x2, x3, (r1 * r2), 0, x0, 0]))) else none)) else none)) else none
def kY_For_equivalent_p42 (rec : zF) (β : Nat) (σ : zS) (x0 x1 x2 x3 x4 x5 x6 x7 : Int) : Option zR := if 1 ≤ β then (zbd (rec tG_For_joined (β - 1) σ [x7, x6, x5, x1, 1, x3]) (fun σ1 r1 => rec tG_For_equivalent_p87 β σ1 [x0, x1, x2, x3, x4])) else none
def kY_For_equivalent_p87 (rec : zF) (β : Nat) (σ : zS) (x0 x1 x2 x3 x4 : Int) : Option zR := some (σ, 0)
def kY_For_joined (rec : zF) (β : Nat) (σ : zS) (x0 x1 x2 x3 x4 x5 : Int) : Option zR := if x0 = 0 then (rec tG_For_joined_p12 β σ [x0, x1, x2, x3, x4, x5, x3, 1]) else (rec tG_For_joined_p12 β σ [x0, x1, x2, x3, x4, x5, x1, 1])
def kY_For_joined_p12 (rec : zF) (β : Nat) (σ : zS) (x0 x1 x2 x3 x4 x5 x6 x7 : Int) : Option zR := if x0 = 0 then (rec tG_For_joined_p22 β σ [x0, x1, x2, x3, x4, x5, x4, x6, x7]) else (rec tG_For_joined_p22 β σ [x0, x1, x2, x3, x4, x5, x2, x6, x7])
def kY_For_joined_p22 (rec : zF) (β : Nat) (σ : zS) (x0 x1 x2 x3 x4 x5 x6 x7 x8 : Int) : Option zR := if 1 ≤ β then (zbd (rec tC_For_clausesOf (β - 1) σ [x7, x6]) (fun σ1 r1 => if x0 = 0 then (if (if x8 < r1 then r1 else x8) = 0 then none else (if 1 ≤ β then (zbd (rec tG_For_later (β - 1) σ1 [x3, x4, (Int.tmod x5 (if x8 < r1 then r1 else x8))]) (fun σ4 r4 => if (if x8 < r1 then r1 else x8) = 0 then none else (if zr (Int.tdiv x5 (if x8 < r1 then r1 else x8)) then (if 1 ≤ β then (zbd (rec tG_For_later (β - 1) σ4 [x1, x2, (Int.tdiv x5 (if x8 < r1 then r1 else x8))]) (fun σ5 r5 => rec tG_For_joined_p92 β σ5 [x0, x1, x2, x3, x4, x5, (if x8 < r1 then r1 else x8)])) else none) else none))) else none)) else (if (if x8 < r1 then r1 else x8) ≤ x5 then (if zr (x5 - (if x8 < r1 then r1 else x8)) then (if 1 ≤ β then (zbd (rec tG_For_later (β - 1) σ1 [x3, x4, (x5 - (if x8 < r1 then r1 else x8))]) (fun σ2 r2 => rec tG_For_joined_p92 β σ2 [x0, x1, x2, x3, x4, x5, (if x8 < r1 then r1 else x8)])) else none) else none) else (if 1 ≤ β then (zbd (rec tG_For_later (β - 1) σ1 [x1, x2, x5]) (fun σ3 r3 => rec tG_For_joined_p92 β σ3 [x0, x1, x2, x3, x4, x5, (if x8 < r1 then r1 else x8)])) else none)))) else none
def kY_For_joined_p92 (rec : zF) (β : Nat) (σ : zS) (x0 x1 x2 x3 x4 x5 x6 : Int) : Option zR := some (σ, 0)
def kY_For_later (rec : zF) (β : Nat) (σ : zS) (x0 x1 x2 : Int) : Option zR := if zrok σ 2901 30 then (lt_ (zAdd σ 2901 30 x0) (fun σ1 => if x1 = 0 then (rec tG_For_later_p21 β σ1 [x0, x1, x2, 0]) else (rec tG_For_later_p21 β σ1 [x0, x1, x2, 1]))) else none
def kY_For_later_p21 (rec : zF) (β : Nat) (σ : zS) (x0 x1 x2 x3 : Int) : Option zR := if zrok σ 2901 30 then (lt_ (zAdd σ 2901 30 x3) (fun σ1 => if zrok σ1 2901 30 then (lt_ (zAdd σ1 2901 30 x2) (fun σ2 => some (σ2, 0))) else none)) else none
def kY_For_makeClauses (rec : zF) (β : Nat) (σ : zS) : Option zR := rec tG_For_makeClauses_p5 β σ [0, 0]
def kY_For_makeClauses_p5 (rec : zF) (β : Nat) (σ : zS) (x0 x1 : Int) : Option zR := if (σ.1 2001) ≤ x1 then (some (σ, (-1))) else (if zr (x1 + 2) then (if zb (x1 + 2) (σ.2.2 21) then (if zr (x1 + 1) then (if zb (x1 + 1) (σ.2.2 21) then (if (σ.2.1 21 (x1 + 1)) = 0 then (rec tG_For_makeClauses_p51 β σ [x0, x1, (σ.2.1 21 (x1 + 2)), 1]) else (rec tG_For_makeClauses_p51 β σ [x0, x1, (σ.2.1 21 (x1 + 2)), 0])) else none) else none) else none) else none)
def kY_For_makeClauses_p51 (rec : zF) (β : Nat) (σ : zS) (x0 x1 x2 x3 : Int) : Option zR := if 1 ≤ β then (zbd (rec tC_For_clausesOf (β - 1) σ [x2, x3]) (fun σ1 r1 => if 1 ≤ β then (zbd (rec tC_For_get (β - 1) σ1 [x2, 3]) (fun σ2 r2 => if 200 < r2 then (if zr (x0 + r1) then (rec tG_For_makeClauses_p84 β σ2 [(x0 + r1), x1, x2, x3]) else none) else (if zr (x0 + r1) then (if (x0 + r1) ≤ 200 then (rec tG_For_makeClauses_p100 β σ2 [(x0 + r1), x1, x2, x3, 0]) else (rec tG_For_makeClauses_p84 β σ2 [(x0 + r1), x1, x2, x3])) else none))) else none)) else none
def kY_For_makeClauses_p84 (rec : zF) (β : Nat) (σ : zS) (x0 x1 x2 x3 : Int) : Option zR := if zr (x1 + 0) then (if zb (x1 + 0) (σ.2.2 21) then (some (σ, (σ.2.1 21 (x1 + 0)))) else none) else none
def kY_For_makeClauses_p100 (rec : zF) (β : Nat) (σ : zS) (x0 x1 x2 x3 x4 : Int) : Option zR := if 1 ≤ β then (zbd (rec tC_For_clausesOf (β - 1) σ [x2, x3]) (fun σ1 r1 => if r1 ≤ x4 then (if zr (x1 + 5) then (rec tG_For_makeClauses_p5 β σ1 [x0, (x1 + 5)]) else none) else (if 1 ≤ β then (zbd (rec tG_For_writeClause (β - 1) σ1 [x2, x3, x4]) (fun σ2 r2 => if (σ2.1 3907) = 0 then (if 1 ≤ β then (zbd (rec tC_Dra_reduce (β - 1) σ2 []) (fun σ3 r3 => if 1 ≤ β then (zbd (rec tC_Dra_isTautology (β - 1) σ3 []) (fun σ4 r4 => if r4 = 0 then (if 1 ≤ β then (zbd (rec tG_Sto_add (β - 1) σ4 [0, (-1), (-1)]) (fun σ5 r5 => rec tG_For_makeClauses_p164 β σ5 [x0, x1, x2, x3, x4])) else none) else (rec tG_For_makeClauses_p164 β σ4 [x0, x1, x2, x3, x4]))) else none)) else none) else (if zr (x1 + 0) then (if zb (x1 + 0) (σ2.2.2 21) then (some (σ2, (σ2.2.1 21 (x1 + 0)))) else none) else none))) else none))) else none
def kY_For_makeClauses_p164 (rec : zF) (β : Nat) (σ : zS) (x0 x1 x2 x3 x4 : Int) : Option zR := if zr (x4 + 1) then (rec tG_For_makeClauses_p100 β σ [x0, x1, x2, x3, (x4 + 1)]) else none
def kY_For_openSentence (rec : zF) (β : Nat) (σ : zS) (x0 x1 : Int) : Option zR := if zrok σ 2001 21 then (lt_ (zAdd σ 2001 21 x0) (fun σ1 => if x1 = 0 then (rec tG_For_openSentence_p21 β σ1 [x0, x1, 0]) else (rec tG_For_openSentence_p21 β σ1 [x0, x1, 1]))) else none
def kY_For_openSentence_p21 (rec : zF) (β : Nat) (σ : zS) (x0 x1 x2 : Int) : Option zR := if zrok σ 2001 21 then (lt_ (zAdd σ 2001 21 x2) (fun σ1 => if zrok σ1 2001 21 then (lt_ (zAdd σ1 2001 21 (-1)) (fun σ2 => if zrok σ2 2001 21 then (lt_ (zAdd σ2 2001 21 (σ2.1 1414)) (fun σ3 => if zrok σ3 2001 21 then (lt_ (zAdd σ3 2001 21 (σ3.1 1414)) (fun σ4 => lt_ (zI σ4 1403 (-1)) (fun σ5 => some (σ5, 0)))) else none)) else none)) else none)) else none
def kY_For_writeClause (rec : zF) (β : Nat) (σ : zS) (x0 x1 x2 : Int) : Option zR := if 1 ≤ β then (zbd (rec tC_Dra_clear (β - 1) σ []) (fun σ1 r1 => lt_ (zI σ1 2901 0) (fun σ2 => if 1 ≤ β then (zbd (rec tG_For_later (β - 1) σ2 [x0, x1, x2]) (fun σ3 r3 => rec tG_For_writeClause_p23 β σ3 [x0, x1, x2, 0])) else none))) else none
def kY_For_writeClause_p23 (rec : zF) (β : Nat) (σ : zS) (x0 x1 x2 x3 : Int) : Option zR := if 1000000 ≤ x3 then (rec tG_For_writeClause_p137 β σ [x0, x1, x2, x3]) else (if (σ.1 2901) ≤ 0 then (rec tG_For_writeClause_p137 β σ [x0, x1, x2, x3]) else (if (σ.1 3907) = 0 then (if zr ((σ.1 2901) - 3) then (lt_ (zI σ 2901 ((σ.1 2901) - 3)) (fun σ1 => if zb (σ1.1 2901) (σ1.2.2 30) then (if zr ((σ1.1 2901) + 1) then (if zb ((σ1.1 2901) + 1) (σ1.2.2 30) then (if (σ1.2.1 30 ((σ1.1 2901) + 1)) = 1 then (rec tG_For_writeClause_p103 β σ1 [x0, x1, x2, x3, (σ1.2.1 30 (σ1.1 2901)), 1]) else (rec tG_For_writeClause_p103 β σ1 [x0, x1, x2, x3, (σ1.2.1 30 (σ1.1 2901)), 0])) else none) else none) else none)) else none) else (rec tG_For_writeClause_p137 β σ [x0, x1, x2, x3])))
def kY_For_writeClause_p103 (rec : zF) (β : Nat) (σ : zS) (x0 x1 x2 x3 x4 x5 : Int) : Option zR := if zr ((σ.1 2901) + 2) then (if zb ((σ.1 2901) + 2) (σ.2.2 30) then (if 1 ≤ β then (zbd (rec tG_For_writePart (β - 1) σ [x4, x5, (σ.2.1 30 ((σ.1 2901) + 2))]) (fun σ1 r1 => if zr (x3 + 1) then (rec tG_For_writeClause_p23 β σ1 [x0, x1, x2, (x3 + 1)]) else none)) else none) else none) else none
def kY_For_writeClause_p137 (rec : zF) (β : Nat) (σ : zS) (x0 x1 x2 x3 : Int) : Option zR := some (σ, 0)
def kY_For_writePart (rec : zF) (β : Nat) (σ : zS) (x0 x1 x2 : Int) : Option zR := if 1 ≤ β then (zbd (rec tC_For_get (β - 1) σ [x0, 0]) (fun σ1 r1 => if 1 ≤ β then (zbd (rec tC_For_get (β - 1) σ1 [x0, 1]) (fun σ2 r2 => if 1 ≤ β then (zbd (rec tC_For_get (β - 1) σ2 [x0, 2]) (fun σ3 r3 => if r1 < 11 ∨ 17 < r1 then (if r1 = 9 then (rec tG_For_writePart_p224 β σ3 [x0, x1, x2, r1, r2, r3, 1]) else (rec tG_For_writePart_p224 β σ3 [x0, x1, x2, r1, r2, r3, 0])) else (if r1 = 11 then (if x1 = 0 then (rec tG_For_writePart_p80 β σ3 [x0, x1, x2, r1, r2, r3, 1, r2]) else (rec tG_For_writePart_p80 β σ3 [x0, x1, x2, r1, r2, r3, 0, r2])) else (if r1 = 12 then (if r1 = 13 then (rec tG_For_writePart_p106 β σ3 [x0, x1, x2, r1, r2, r3, 1, r3]) else (rec tG_For_writePart_p106 β σ3 [x0, x1, x2, r1, r2, r3, 0, r3])) else (if r1 = 13 then (if r1 = 13 then (rec tG_For_writePart_p106 β σ3 [x0, x1, x2, r1, r2, r3, 1, r3]) else (rec tG_For_writePart_p106 β σ3 [x0, x1, x2, r1, r2, r3, 0, r3])) else (if r1 = 14 then (if r1 = 14 then (rec tG_For_writePart_p141 β σ3 [x0, x1, x2, r1, r2, r3, 1]) else (rec tG_For_writePart_p141 β σ3 [x0, x1, x2, r1, r2, r3, 0])) else (if r1 = 15 then (if r1 = 14 then (rec tG_For_writePart_p141 β σ3 [x0, x1, x2, r1, r2, r3, 1]) else (rec tG_For_writePart_p141 β σ3 [x0, x1, x2, r1, r2, r3, 0])) else (if r1 = 16 then (if x1 = 0 then (rec tG_For_writePart_p174 β σ3 [x0, x1, x2, r1, r2, r3, 1]) else (rec tG_For_writePart_p174 β σ3 [x0, x1, x2, r1, r2, r3, 0])) else (if 1 ≤ β then (zbd (rec tG_For_equivalent (β - 1) σ3 [r2, r3, x1, x2]) (fun σ4 r4 => rec tG_For_writePart_p240 β σ4 [x0, x1, x2, r1, r2, r3])) else none))))))))) else none)) else none)) else none
def kY_For_writePart_p80 (rec : zF) (β : Nat) (σ : zS) (x0 x1 x2 x3 x4 x5 x6 x7 : Int) : Option zR := if 1 ≤ β then (zbd (rec tG_For_later (β - 1) σ [x7, x6, x2]) (fun σ1 r1 => rec tG_For_writePart_p240 β σ1 [x0, x1, x2, x3, x4, x5])) else none
def kY_For_writePart_p106 (rec : zF) (β : Nat) (σ : zS) (x0 x1 x2 x3 x4 x5 x6 x7 : Int) : Option zR := if x6 = x1 then (rec tG_For_writePart_p115 β σ [x0, x1, x2, x3, x4, x5, 1, x7]) else (rec tG_For_writePart_p115 β σ [x0, x1, x2, x3, x4, x5, 0, x7])
def kY_For_writePart_p115 (rec : zF) (β : Nat) (σ : zS) (x0 x1 x2 x3 x4 x5 x6 x7 : Int) : Option zR := if zb x7 300 then (if x6 = 0 ∨ x6 = 1 then (lt_ (zA σ 27 x7 x6) (fun σ1 => if 1 ≤ β then (zbd (rec tG_For_later (β - 1) σ1 [x4, x1, x2]) (fun σ2 r2 => rec tG_For_writePart_p240 β σ2 [x0, x1, x2, x3, x4, x5])) else none)) else none) else none
def kY_For_writePart_p141 (rec : zF) (β : Nat) (σ : zS) (x0 x1 x2 x3 x4 x5 x6 : Int) : Option zR := if x6 = x1 then (rec tG_For_writePart_p150 β σ [x0, x1, x2, x3, x4, x5, 1]) else (rec tG_For_writePart_p150 β σ [x0, x1, x2, x3, x4, x5, 0])
def kY_For_writePart_p150 (rec : zF) (β : Nat) (σ : zS) (x0 x1 x2 x3 x4 x5 x6 : Int) : Option zR := if 1 ≤ β then (zbd (rec tG_For_joined (β - 1) σ [x6, x4, x1, x5, x1, x2]) (fun σ1 r1 => rec tG_For_writePart_p240 β σ1 [x0, x1, x2, x3, x4, x5])) else none
def kY_For_writePart_p174 (rec : zF) (β : Nat) (σ : zS) (x0 x1 x2 x3 x4 x5 x6 : Int) : Option zR := if x1 = 0 then (rec tG_For_writePart_p185 β σ [x0, x1, x2, x3, x4, x5, 1, x4, x6]) else (rec tG_For_writePart_p185 β σ [x0, x1, x2, x3, x4, x5, 0, x4, x6])
def kY_For_writePart_p185 (rec : zF) (β : Nat) (σ : zS) (x0 x1 x2 x3 x4 x5 x6 x7 x8 : Int) : Option zR := if 1 ≤ β then (zbd (rec tG_For_joined (β - 1) σ [x8, x7, x6, x5, x1, x2]) (fun σ1 r1 => rec tG_For_writePart_p240 β σ1 [x0, x1, x2, x3, x4, x5])) else none
def kY_For_writePart_p224 (rec : zF) (β : Nat) (σ : zS) (x0 x1 x2 x3 x4 x5 x6 : Int) : Option zR := if x6 = x1 then (rec tG_For_writePart_p233 β σ [x0, x1, x2, x3, x4, x5, 1]) else (rec tG_For_writePart_p233 β σ [x0, x1, x2, x3, x4, x5, 0])
def kY_For_writePart_p233 (rec : zF) (β : Nat) (σ : zS) (x0 x1 x2 x3 x4 x5 x6 : Int) : Option zR := if 1 ≤ β then (zbd (rec tC_For_writeLiteral (β - 1) σ [x6, x4, x5]) (fun σ1 r1 => rec tG_For_writePart_p240 β σ1 [x0, x1, x2, x3, x4, x5])) else none
def kY_For_writePart_p240 (rec : zF) (β : Nat) (σ : zS) (x0 x1 x2 x3 x4 x5 : Int) : Option zR := some (σ, 0)
def kY_Par_closeBracket (rec : zF) (β : Nat) (σ : zS) : Option zR := if 1 ≤ β then (zbd (rec tC_Par_strength (β - 1) σ [12]) (fun σ1 r1 => if 1 ≤ β then (zbd (rec tG_Par_fold (β - 1) σ1 [r1]) (fun σ2 r2 => if (σ2.1 3301) = 0 then (some (σ2, 0)) else (if 1 ≤ β then (zbd (rec tC_Par_pop (β - 1) σ2 []) (fun σ3 r3 => if 1 ≤ β then (zbd (rec tC_Wds_advance (β - 1) σ3 []) (fun σ4 r4 => some (σ4, 1))) else none)) else none))) else none)) else none
def kY_Par_closeSentence (rec : zF) (β : Nat) (σ : zS) : Option zR := if 1 ≤ β then (zbd (rec tC_Par_strength (β - 1) σ [12]) (fun σ1 r1 => if 1 ≤ β then (zbd (rec tG_Par_fold (β - 1) σ1 [r1]) (fun σ2 r2 => if 0 < (σ2.1 3301) then (rec tG_Par_closeSentence_p30 β σ2 []) else (if (σ2.1 3701) = 1 then (if zb 0 (σ2.2.2 38) then (if 1 ≤ β then (zbd (rec tC_For_closeSentence (β - 1) σ2 [(σ2.2.1 38 0)]) (fun σ3 r3 => if 1 ≤ β then (zbd (rec tC_Wds_advance (β - 1) σ3 []) (fun σ4 r4 => some (σ4, 0))) else none)) else none) else none) else (rec tG_Par_closeSentence_p30 β σ2 [])))) else none)) else none
def kY_Par_closeSentence_p30 (rec : zF) (β : Nat) (σ : zS) : Option zR := if 1 ≤ β then (zbd (rec tC_Par_refuse (β - 1) σ []) (fun σ1 r1 => some (σ1, 0))) else none
def kY_Par_fold (rec : zF) (β : Nat) (σ : zS) (x0 : Int) : Option zR := rec tG_Par_fold_p2 β σ [x0, 0]
def kY_Par_fold_p2 (rec : zF) (β : Nat) (σ : zS) (x0 x1 : Int) : Option zR := if 1000000 ≤ x1 then (rec tG_Par_fold_p29 β σ [x0, x1]) else (if 1 ≤ β then (zbd (rec tC_Par_top (β - 1) σ []) (fun σ1 r1 => if 1 ≤ β then (zbd (rec tC_Par_strength (β - 1) σ1 [r1]) (fun σ2 r2 => if r2 < x0 then (rec tG_Par_fold_p29 β σ2 [x0, x1]) else (if 1 ≤ β then (zbd (rec tG_Par_foldTop (β - 1) σ2 []) (fun σ3 r3 => if zr (x1 + 1) then (rec tG_Par_fold_p2 β σ3 [x0, (x1 + 1)]) else none)) else none))) else none)) else none)
def kY_Par_fold_p29 (rec : zF) (β : Nat) (σ : zS) (x0 x1 : Int) : Option zR := some (σ, 0)
def kY_Par_foldTop (rec : zF) (β : Nat) (σ : zS) : Option zR := if 1 ≤ β then (zbd (rec tC_Par_top (β - 1) σ []) (fun σ1 r1 => if zr ((σ1.1 3701) - 1) then (if zb ((σ1.1 3701) - 1) (σ1.2.2 38) then (if r1 = 11 then (if 1 ≤ β then (zbd (rec tG_For_addNode (β - 1) σ1 [11, (σ1.2.1 38 ((σ1.1 3701) - 1)), (-1)]) (fun σ4 r4 => rec tG_Par_foldTop_p174 β σ4 [r1, r4])) else none) else (if r1 = 12 then (rec tG_Par_foldTop_p56 β σ1 [r1, (σ1.2.1 38 ((σ1.1 3701) - 1))]) else (if r1 = 13 then (rec tG_Par_foldTop_p56 β σ1 [r1, (σ1.2.1 38 ((σ1.1 3701) - 1))]) else (lt_ (zI σ1 3701 ((σ1.1 3701) - 1)) (fun σ2 => if zr ((σ2.1 3701) - 1) then (if zb ((σ2.1 3701) - 1) (σ2.2.2 38) then (if 1 ≤ β then (zbd (rec tG_For_addNode (β - 1) σ2 [r1, (σ2.2.1 38 ((σ2.1 3701) - 1)), (σ1.2.1 38 ((σ1.1 3701) - 1))]) (fun σ3 r3 => rec tG_Par_foldTop_p174 β σ3 [r1, r3])) else none) else none) else none))))) else none) else none)) else none
def kY_Par_foldTop_p56 (rec : zF) (β : Nat) (σ : zS) (x0 x1 : Int) : Option zR := rec tG_Par_foldTop_p67 β σ [x0, x1, (σ.1 1403), 0]
def kY_Par_foldTop_p67 (rec : zF) (β : Nat) (σ : zS) (x0 x1 x2 x3 : Int) : Option zR := if 300 ≤ x3 then (rec tG_Par_foldTop_p123 β σ [x0, x1, x2, x3]) else (if zr ((σ.1 3501) - 1) then (if zb ((σ.1 3501) - 1) (σ.2.2 36) then (if x2 < (σ.2.1 36 ((σ.1 3501) - 1)) then (rec tG_Par_foldTop_p123 β σ [x0, x1, x2, x3]) else (if 1 ≤ β then (zbd (rec tG_For_addNode (β - 1) σ [x0, x1, x2]) (fun σ1 r1 => if zb x2 300 then (if zr (x3 + 1) then (rec tG_Par_foldTop_p67 β σ1 [x0, r1, (σ1.2.1 17 x2), (x3 + 1)]) else none) else none)) else none)) else none) else none)
def kY_Par_foldTop_p123 (rec : zF) (β : Nat) (σ : zS) (x0 x1 x2 x3 : Int) : Option zR := lt_ (zI σ 1403 x2) (fun σ1 => rec tG_Par_foldTop_p174 β σ1 [x0, x1])
def kY_Par_foldTop_p174 (rec : zF) (β : Nat) (σ : zS) (x0 x1 : Int) : Option zR := if zr ((σ.1 3701) - 1) then (if zb ((σ.1 3701) - 1) (σ.2.2 38) then (lt_ (zA σ 38 ((σ.1 3701) - 1) x1) (fun σ1 => if 1 ≤ β then (zbd (rec tC_Par_pop (β - 1) σ1 []) (fun σ2 r2 => some (σ2, 0))) else none)) else none) else none
def kY_Par_mayBeEquivalent (rec : zF) (β : Nat) (σ : zS) : Option zR := if 1 ≤ β then (zbd (rec tC_Par_strength (β - 1) σ [16]) (fun σ1 r1 => if 1 ≤ β then (zbd (rec tG_Par_fold (β - 1) σ1 [r1]) (fun σ2 r2 => rec tG_Par_mayBeEquivalent_p11 β σ2 [0])) else none)) else none
def kY_Par_mayBeEquivalent_p11 (rec : zF) (β : Nat) (σ : zS) (x0 : Int) : Option zR := if 1000000 ≤ x0 then (rec tG_Par_mayBeEquivalent_p69 β σ [x0]) else (if 1 ≤ β then (zbd (rec tC_Par_top (β - 1) σ []) (fun σ1 r1 => if r1 = 17 then (if 1 ≤ β then (zbd (rec tG_Par_foldTop (β - 1) σ1 []) (fun σ2 r2 => if 1 ≤ β then (zbd (rec tC_Par_top (β - 1) σ2 []) (fun σ3 r3 => if r3 = 12 then (rec tG_Par_mayBeEquivalent_p50 β σ3 [x0]) else (if 1 ≤ β then (zbd (rec tC_Par_top (β - 1) σ3 []) (fun σ4 r4 => if r4 = 13 then (rec tG_Par_mayBeEquivalent_p50 β σ4 [x0]) else (some (σ4, 0)))) else none))) else none)) else none) else (rec tG_Par_mayBeEquivalent_p69 β σ1 [x0]))) else none)
def kY_Par_mayBeEquivalent_p50 (rec : zF) (β : Nat) (σ : zS) (x0 : Int) : Option zR := if 1 ≤ β then (zbd (rec tG_Par_foldTop (β - 1) σ []) (fun σ1 r1 => if 1 ≤ β then (zbd (rec tC_Par_strength (β - 1) σ1 [16]) (fun σ2 r2 => if 1 ≤ β then (zbd (rec tG_Par_fold (β - 1) σ2 [r2]) (fun σ3 r3 => if zr (x0 + 1) then (rec tG_Par_mayBeEquivalent_p11 β σ3 [(x0 + 1)]) else none)) else none)) else none)) else none
def kY_Par_mayBeEquivalent_p69 (rec : zF) (β : Nat) (σ : zS) (x0 : Int) : Option zR := some (σ, 1)
def kY_Par_openSentence (rec : zF) (β : Nat) (σ : zS) : Option zR := if 1 ≤ β then (zbd (rec tC_Wds_isProve (β - 1) σ []) (fun σ1 r1 => if 1 ≤ β then (zbd (rec tG_For_openSentence (β - 1) σ1 [(σ1.1 3203), r1]) (fun σ2 r2 => lt_ (zI σ2 3301 0) (fun σ3 => lt_ (zI σ3 3501 0) (fun σ4 => lt_ (zI σ4 3701 0) (fun σ5 => lt_ (zI σ5 3108 0) (fun σ6 => if r1 = 0 then (rec tG_Par_openSentence_p63 β σ6 [r1]) else (if 1 ≤ β then (zbd (rec tC_Wds_advance (β - 1) σ6 []) (fun σ7 r7 => rec tG_Par_openSentence_p63 β σ7 [r1])) else none))))))) else none)) else none
def kY_Par_openSentence_p63 (rec : zF) (β : Nat) (σ : zS) (x0 : Int) : Option zR := some (σ, 0)
def kY_Par_parse_2 (rec : zF) (β : Nat) (σ : zS) (x0 : Int) : Option zR := lt_ (zI σ 3100 0) (fun σ1 => lt_ (zI σ1 3101 0) (fun σ2 => if 1 ≤ β then (zbd (rec tC_For_clear (β - 1) σ2 []) (fun σ3 r3 => if 1 ≤ β then (zbd (rec tG_Wds_open_2 (β - 1) σ3 [x0]) (fun σ4 r4 => rec tG_Par_parse_2_p28 β σ4 [x0, 0])) else none)) else none))
def kY_Par_parse_2_p28 (rec : zF) (β : Nat) (σ : zS) (x0 x1 : Int) : Option zR := if 1000000 ≤ x1 then (rec tG_Par_parse_2_p114 β σ [x0, x1]) else (if (σ.1 3100) = 0 then (if (σ.1 3202) = 0 then (rec tG_Par_parse_2_p114 β σ [x0, x1]) else (if 1 ≤ β then (zbd (rec tG_Par_openSentence (β - 1) σ []) (fun σ1 r1 => rec tG_Par_parse_2_p61 β σ1 [x0, x1, 1, 0])) else none)) else (rec tG_Par_parse_2_p114 β σ [x0, x1]))
def kY_Par_parse_2_p61 (rec : zF) (β : Nat) (σ : zS) (x0 x1 x2 x3 : Int) : Option zR := if 1000000 ≤ x3 then (rec tG_Par_parse_2_p108 β σ [x0, x1, x2, x3]) else (if x2 = 0 then (rec tG_Par_parse_2_p108 β σ [x0, x1, x2, x3]) else (if 1 ≤ β then (zbd (rec tG_Par_takePrefixes (β - 1) σ []) (fun σ1 r1 => if 1 ≤ β then (zbd (rec tG_Par_takeAtom (β - 1) σ1 []) (fun σ2 r2 => if (σ2.1 3100) = 0 then (if 1 ≤ β then (zbd (rec tG_Par_takeSign (β - 1) σ2 []) (fun σ3 r3 => if r3 = 0 then (rec tG_Par_parse_2_p99 β σ3 [x0, x1, x2, x3]) else (rec tG_Par_parse_2_p100 β σ3 [x0, x1, x2, x3, 1]))) else none) else (rec tG_Par_parse_2_p99 β σ2 [x0, x1, x2, x3]))) else none)) else none))
def kY_Par_parse_2_p99 (rec : zF) (β : Nat) (σ : zS) (x0 x1 x2 x3 : Int) : Option zR := rec tG_Par_parse_2_p100 β σ [x0, x1, x2, x3, 0]
def kY_Par_parse_2_p100 (rec : zF) (β : Nat) (σ : zS) (x0 x1 x2 x3 x4 : Int) : Option zR := if zr (x3 + 1) then (rec tG_Par_parse_2_p61 β σ [x0, x1, x4, (x3 + 1)]) else none
def kY_Par_parse_2_p108 (rec : zF) (β : Nat) (σ : zS) (x0 x1 x2 x3 : Int) : Option zR := if zr (x1 + 1) then (rec tG_Par_parse_2_p28 β σ [x0, (x1 + 1)]) else none
def kY_Par_parse_2_p114 (rec : zF) (β : Nat) (σ : zS) (x0 x1 : Int) : Option zR := some (σ, 0)
def kY_Par_push (rec : zF) (β : Nat) (σ : zS) (x0 x1 : Int) : Option zR := if zrok σ 3301 34 then (lt_ (zAdd σ 3301 34 x0) (fun σ1 => if zrok σ1 3501 36 then (lt_ (zAdd σ1 3501 36 x1) (fun σ2 => if 1 ≤ β then (zbd (rec tC_Par_isNest (β - 1) σ2 [x0]) (fun σ3 r3 => if r3 = 0 then (rec tG_Par_push_p33 β σ3 [x0, x1, 0, (σ2.1 3108)]) else (rec tG_Par_push_p33 β σ3 [x0, x1, 1, (σ2.1 3108)]))) else none)) else none)) else none
def kY_Par_push_p33 (rec : zF) (β : Nat) (σ : zS) (x0 x1 x2 x3 : Int) : Option zR := if zr (x3 + x2) then (lt_ (zI σ 3108 (x3 + x2)) (fun σ1 => some (σ1, 0))) else none
def kY_Par_takeAtom (rec : zF) (β : Nat) (σ : zS) : Option zR := if (σ.1 3100) = 0 then (if 1 ≤ β then (zbd (rec tC_Wds_isNow (β - 1) σ [3]) (fun σ1 r1 => if r1 = 0 then (if 1 ≤ β then (zbd (rec tG_Par_takeName (β - 1) σ1 []) (fun σ2 r2 => if 1 ≤ β then (zbd (rec tG_Par_takeTerms (β - 1) σ2 [(σ2.1 3108)]) (fun σ3 r3 => if (σ3.1 3100) = 0 then (if (σ3.1 3202) = 9 then (rec tG_Par_takeAtom_p95 β σ3 [(σ.1 3203), (σ.1 1501), r2, r3]) else (if (σ3.1 3202) = 10 then (rec tG_Par_takeAtom_p95 β σ3 [(σ.1 3203), (σ.1 1501), r2, r3]) else (rec tG_Par_takeAtom_p100 β σ3 [(σ.1 3203), (σ.1 1501), r2, r3, 0]))) else (some (σ3, 0)))) else none)) else none) else (if 1 ≤ β then (zbd (rec tG_Par_takeVariable (β - 1) σ1 []) (fun σ4 r4 => if 1 ≤ β then (zbd (rec tG_Par_takeEquation (β - 1) σ4 [(σ.1 1501)]) (fun σ5 r5 => some (σ5, 0))) else none)) else none))) else none) else (some (σ, 0))
def kY_Par_takeAtom_p95 (rec : zF) (β : Nat) (σ : zS) (x0 x1 x2 x3 : Int) : Option zR := rec tG_Par_takeAtom_p100 β σ [x0, x1, x2, x3, 1]
def kY_Par_takeAtom_p100 (rec : zF) (β : Nat) (σ : zS) (x0 x1 x2 x3 x4 : Int) : Option zR := if x4 = 0 then (rec tG_Par_takeAtom_p114 β σ [x0, x1, x2, x3, x4, 1, x2]) else (rec tG_Par_takeAtom_p114 β σ [x0, x1, x2, x3, x4, 2, x2])
def kY_Par_takeAtom_p114 (rec : zF) (β : Nat) (σ : zS) (x0 x1 x2 x3 x4 x5 x6 : Int) : Option zR := if 1 ≤ β then (zbd (rec tC_Par_settle (β - 1) σ [x6, x5, x3, x0]) (fun σ1 r1 => if x4 = 0 then (if 1 ≤ β then (zbd (rec tG_For_addNode (β - 1) σ1 [9, x1, (-1)]) (fun σ2 r2 => if zrok σ2 3701 38 then (lt_ (zAdd σ2 3701 38 r2) (fun σ3 => rec tG_Par_takeAtom_p151 β σ3 [x0, x1, x2, x3, x4])) else none)) else none) else (if 1 ≤ β then (zbd (rec tG_Par_takeEquation (β - 1) σ1 [x1]) (fun σ4 r4 => rec tG_Par_takeAtom_p151 β σ4 [x0, x1, x2, x3, x4])) else none))) else none
def kY_Par_takeAtom_p151 (rec : zF) (β : Nat) (σ : zS) (x0 x1 x2 x3 x4 : Int) : Option zR := some (σ, 0)
def kY_Par_takeBound (rec : zF) (β : Nat) (σ : zS) : Option zR := if 1 ≤ β then (zbd (rec tC_Wds_advance (β - 1) σ []) (fun σ1 r1 => rec tG_Par_takeBound_p25 β σ1 [(σ.1 3202), (σ.1 1402), 0])) else none
def kY_Par_takeBound_p25 (rec : zF) (β : Nat) (σ : zS) (x0 x1 x2 : Int) : Option zR := if 1000000 ≤ x2 then (rec tG_Par_takeBound_p83 β σ [x0, x1, x2]) else (if 1 ≤ β then (zbd (rec tC_Wds_isNow (β - 1) σ [3]) (fun σ1 r1 => if r1 = 0 then (rec tG_Par_takeBound_p83 β σ1 [x0, x1, x2]) else (if 1 ≤ β then (zbd (rec tC_For_bind (β - 1) σ1 []) (fun σ2 r2 => if r2 = (-1) then (if 1 ≤ β then (zbd (rec tC_Par_fail (β - 1) σ2 [3, (σ2.1 3203)]) (fun σ4 r4 => some (σ4, 0))) else none) else (if 1 ≤ β then (zbd (rec tC_Wds_advance (β - 1) σ2 []) (fun σ3 r3 => if zr (x2 + 1) then (rec tG_Par_takeBound_p25 β σ3 [x0, x1, (x2 + 1)]) else none)) else none))) else none))) else none)
def kY_Par_takeBound_p83 (rec : zF) (β : Nat) (σ : zS) (x0 x1 x2 : Int) : Option zR := if (σ.1 1402) = x1 then (rec tG_Par_takeBound_p106 β σ [x0, x1, x2]) else (if 1 ≤ β then (zbd (rec tC_Wds_isNow (β - 1) σ [8]) (fun σ1 r1 => if r1 = 0 then (rec tG_Par_takeBound_p106 β σ1 [x0, x1, x2]) else (if 1 ≤ β then (zbd (rec tG_Par_push (β - 1) σ1 [x0, x1]) (fun σ2 r2 => if 1 ≤ β then (zbd (rec tC_Wds_advance (β - 1) σ2 []) (fun σ3 r3 => some (σ3, 0))) else none)) else none))) else none)
def kY_Par_takeBound_p106 (rec : zF) (β : Nat) (σ : zS) (x0 x1 x2 : Int) : Option zR := if 1 ≤ β then (zbd (rec tC_Par_refuse (β - 1) σ []) (fun σ1 r1 => some (σ1, 0))) else none
def kY_Par_takeEquation (rec : zF) (β : Nat) (σ : zS) (x0 : Int) : Option zR := if (σ.1 3100) = 0 then (if 1 ≤ β then (zbd (rec tC_Wds_isNow (β - 1) σ [9]) (fun σ1 r1 => if r1 = 0 then (if 1 ≤ β then (zbd (rec tC_Wds_isNow (β - 1) σ1 [10]) (fun σ2 r2 => if r2 = 0 then (if 1 ≤ β then (zbd (rec tC_Par_refuse (β - 1) σ2 []) (fun σ3 r3 => some (σ3, 0))) else none) else (rec tG_Par_takeEquation_p45 β σ2 [x0, (σ.1 3202)]))) else none) else (rec tG_Par_takeEquation_p45 β σ1 [x0, (σ.1 3202)]))) else none) else (some (σ, 0))
def kY_Par_takeEquation_p45 (rec : zF) (β : Nat) (σ : zS) (x0 x1 : Int) : Option zR := if 1 ≤ β then (zbd (rec tC_Wds_advance (β - 1) σ []) (fun σ1 r1 => if 1 ≤ β then (zbd (rec tG_Par_takeTerm (β - 1) σ1 [(σ1.1 3108)]) (fun σ2 r2 => if 1 ≤ β then (zbd (rec tG_For_addNode (β - 1) σ2 [x1, x0, (σ1.1 1501)]) (fun σ3 r3 => if zrok σ3 3701 38 then (lt_ (zAdd σ3 3701 38 r3) (fun σ4 => some (σ4, 0))) else none)) else none)) else none)) else none
def kY_Par_takeName (rec : zF) (β : Nat) (σ : zS) : Option zR := if 1 ≤ β then (zbd (rec tC_Wds_isNow (β - 1) σ [2]) (fun σ1 r1 => if r1 = 0 then (if 1 ≤ β then (zbd (rec tC_Par_refuse (β - 1) σ1 []) (fun σ6 r6 => some (σ6, (-1)))) else none) else (if 1 ≤ β then (zbd (rec tG_Sym_numberOf (β - 1) σ1 []) (fun σ2 r2 => if r2 = (-1) then (if 1 ≤ β then (zbd (rec tC_Par_fail (β - 1) σ2 [3, (σ2.1 3203)]) (fun σ5 r5 => some (σ5, (-1)))) else none) else (if zrok σ2 1501 16 then (lt_ (zAdd σ2 1501 16 r2) (fun σ3 => if 1 ≤ β then (zbd (rec tC_Wds_advance (β - 1) σ3 []) (fun σ4 r4 => some (σ4, r2))) else none)) else none))) else none))) else none
def kY_Par_takePrefixes (rec : zF) (β : Nat) (σ : zS) : Option zR := rec tG_Par_takePrefixes_p4 β σ [1, 0]
def kY_Par_takePrefixes_p4 (rec : zF) (β : Nat) (σ : zS) (x0 x1 : Int) : Option zR := if 1000000 ≤ x1 then (rec tG_Par_takePrefixes_p129 β σ [x0, x1]) else (if x0 = 0 then (rec tG_Par_takePrefixes_p129 β σ [x0, x1]) else (if (σ.1 3100) = 0 then (if (σ.1 3108) ≤ 60 then (if 1 ≤ β then (zbd (rec tC_Wds_isNow (β - 1) σ [11]) (fun σ1 r1 => if r1 = 0 then (if 1 ≤ β then (zbd (rec tC_Wds_isNow (β - 1) σ1 [5]) (fun σ2 r2 => if r2 = 0 then (if 1 ≤ β then (zbd (rec tC_Wds_isNow (β - 1) σ2 [12]) (fun σ3 r3 => if r3 = 0 then (if 1 ≤ β then (zbd (rec tC_Wds_isNow (β - 1) σ3 [13]) (fun σ4 r4 => if r4 = 0 then (rec tG_Par_takePrefixes_p123 β σ4 [0, x1]) else (rec tG_Par_takePrefixes_p114 β σ4 [x0, x1]))) else none) else (rec tG_Par_takePrefixes_p114 β σ3 [x0, x1]))) else none) else (rec tG_Par_takePrefixes_p68 β σ2 [x0, x1]))) else none) else (rec tG_Par_takePrefixes_p68 β σ1 [x0, x1]))) else none) else (if 1 ≤ β then (zbd (rec tC_Par_fail (β - 1) σ [3, (σ.1 3203)]) (fun σ5 r5 => rec tG_Par_takePrefixes_p123 β σ5 [x0, x1])) else none)) else (rec tG_Par_takePrefixes_p129 β σ [x0, x1])))
def kY_Par_takePrefixes_p68 (rec : zF) (β : Nat) (σ : zS) (x0 x1 : Int) : Option zR := if 1 ≤ β then (zbd (rec tG_Par_push (β - 1) σ [(σ.1 3202), (-1)]) (fun σ1 r1 => if 1 ≤ β then (zbd (rec tC_Wds_advance (β - 1) σ1 []) (fun σ2 r2 => rec tG_Par_takePrefixes_p123 β σ2 [x0, x1])) else none)) else none
def kY_Par_takePrefixes_p114 (rec : zF) (β : Nat) (σ : zS) (x0 x1 : Int) : Option zR := if 1 ≤ β then (zbd (rec tG_Par_takeBound (β - 1) σ []) (fun σ1 r1 => rec tG_Par_takePrefixes_p123 β σ1 [x0, x1])) else none
def kY_Par_takePrefixes_p123 (rec : zF) (β : Nat) (σ : zS) (x0 x1 : Int) : Option zR := if zr (x1 + 1) then (rec tG_Par_takePrefixes_p4 β σ [x0, (x1 + 1)]) else none
def kY_Par_takePrefixes_p129 (rec : zF) (β : Nat) (σ : zS) (x0 x1 : Int) : Option zR := some (σ, 0)
def kY_Par_takeSign (rec : zF) (β : Nat) (σ : zS) : Option zR := rec tG_Par_takeSign_p4 β σ [1, 0]
def kY_Par_takeSign_p4 (rec : zF) (β : Nat) (σ : zS) (x0 x1 : Int) : Option zR := if 1000000 ≤ x1 then (rec tG_Par_takeSign_p45 β σ [x0, x1]) else (if x0 = 0 then (rec tG_Par_takeSign_p45 β σ [x0, x1]) else (if 1 ≤ β then (zbd (rec tC_Wds_isNow (β - 1) σ [6]) (fun σ1 r1 => if r1 = 0 then (rec tG_Par_takeSign_p37 β σ1 [x0, x1]) else (if 1 ≤ β then (zbd (rec tG_Par_closeBracket (β - 1) σ1 []) (fun σ2 r2 => if r2 = 0 then (rec tG_Par_takeSign_p37 β σ2 [x0, x1]) else (rec tG_Par_takeSign_p38 β σ2 [x0, x1, 1]))) else none))) else none))
def kY_Par_takeSign_p37 (rec : zF) (β : Nat) (σ : zS) (x0 x1 : Int) : Option zR := rec tG_Par_takeSign_p38 β σ [x0, x1, 0]
def kY_Par_takeSign_p38 (rec : zF) (β : Nat) (σ : zS) (x0 x1 x2 : Int) : Option zR := if zr (x1 + 1) then (rec tG_Par_takeSign_p4 β σ [x2, (x1 + 1)]) else none
def kY_Par_takeSign_p45 (rec : zF) (β : Nat) (σ : zS) (x0 x1 : Int) : Option zR := if (σ.1 3205) = 0 then (rec tG_Par_takeSign_p66 β σ [x0, x1, (σ.1 3202)]) else (rec tG_Par_takeSign_p66 β σ [x0, x1, 1])
def kY_Par_takeSign_p66 (rec : zF) (β : Nat) (σ : zS) (x0 x1 x2 : Int) : Option zR := if x2 < 4 ∨ 17 < x2 then (if 1 ≤ β then (zbd (rec tC_Par_refuse (β - 1) σ []) (fun σ1 r1 => some (σ1, 0))) else none) else (if x2 = 4 then (if 1 ≤ β then (zbd (rec tG_Par_closeSentence (β - 1) σ []) (fun σ2 r2 => some (σ2, 0))) else none) else (if x2 = 5 then (if 1 ≤ β then (zbd (rec tC_Par_refuse (β - 1) σ []) (fun σ3 r3 => some (σ3, 0))) else none) else (if x2 = 6 then (if 1 ≤ β then (zbd (rec tC_Par_refuse (β - 1) σ []) (fun σ4 r4 => some (σ4, 0))) else none) else (if x2 = 7 then (if 1 ≤ β then (zbd (rec tC_Par_refuse (β - 1) σ []) (fun σ5 r5 => some (σ5, 0))) else none) else (if x2 = 8 then (if 1 ≤ β then (zbd (rec tC_Par_refuse (β - 1) σ []) (fun σ6 r6 => some (σ6, 0))) else none) else (if x2 = 9 then (if 1 ≤ β then (zbd (rec tC_Par_refuse (β - 1) σ []) (fun σ7 r7 => some (σ7, 0))) else none) else (if x2 = 10 then (if 1 ≤ β then (zbd (rec tC_Par_refuse (β - 1) σ []) (fun σ8 r8 => some (σ8, 0))) else none) else (if x2 = 11 then (if 1 ≤ β then (zbd (rec tC_Par_refuse (β - 1) σ []) (fun σ9 r9 => some (σ9, 0))) else none) else (if x2 = 12 then (if 1 ≤ β then (zbd (rec tC_Par_refuse (β - 1) σ []) (fun σ10 r10 => some (σ10, 0))) else none) else (if x2 = 13 then (if 1 ≤ β then (zbd (rec tC_Par_refuse (β - 1) σ []) (fun σ11 r11 => some (σ11, 0))) else none) else (if x2 = 14 then (if 1 ≤ β then (zbd (rec tC_Par_strength (β - 1) σ [x2]) (fun σ12 r12 => if 1 ≤ β then (zbd (rec tG_Par_fold (β - 1) σ12 [r12]) (fun σ13 r13 => rec tG_Par_takeSign_p188 β σ13 [x0, x2])) else none)) else none) else (if x2 = 15 then (if 1 ≤ β then (zbd (rec tC_Par_strength (β - 1) σ [x2]) (fun σ14 r14 => if 1 ≤ β then (zbd (rec tG_Par_fold (β - 1) σ14 [r14]) (fun σ15 r15 => rec tG_Par_takeSign_p188 β σ15 [x0, x2])) else none)) else none) else (if x2 = 16 then (if 1 ≤ β then (zbd (rec tC_Par_strength (β - 1) σ [15]) (fun σ16 r16 => if 1 ≤ β then (zbd (rec tG_Par_fold (β - 1) σ16 [r16]) (fun σ17 r17 => rec tG_Par_takeSign_p188 β σ17 [x0, x2])) else none)) else none) else (if 1 ≤ β then (zbd (rec tG_Par_mayBeEquivalent (β - 1) σ []) (fun σ18 r18 => if r18 = 0 then (if 1 ≤ β then (zbd (rec tC_Par_refuse (β - 1) σ18 []) (fun σ19 r19 => some (σ19, 0))) else none) else (rec tG_Par_takeSign_p188 β σ18 [x0, x2]))) else none))))))))))))))
def kY_Par_takeSign_p188 (rec : zF) (β : Nat) (σ : zS) (x0 x1 : Int) : Option zR := if 1 ≤ β then (zbd (rec tG_Par_push (β - 1) σ [x1, (-1)]) (fun σ1 r1 => if 1 ≤ β then (zbd (rec tC_Wds_advance (β - 1) σ1 []) (fun σ2 r2 => some (σ2, 1))) else none)) else none
def kY_Par_takeTerm (rec : zF) (β : Nat) (σ : zS) (x0 : Int) : Option zR := if x0 ≤ 60 then (if 1 ≤ β then (zbd (rec tC_Wds_isNow (β - 1) σ [3]) (fun σ1 r1 => if r1 = 0 then (if 1 ≤ β then (zbd (rec tG_Par_takeName (β - 1) σ1 []) (fun σ2 r2 => if 1 ≤ β then (zbd (rec tG_Par_takeTerms (β - 1) σ2 [x0]) (fun σ3 r3 => if 1 ≤ β then (zbd (rec tC_Par_settle (β - 1) σ3 [r2, 2, r3, (σ1.1 3203)]) (fun σ4 r4 => some (σ4, 0))) else none)) else none)) else none) else (if 1 ≤ β then (zbd (rec tG_Par_takeVariable (β - 1) σ1 []) (fun σ5 r5 => some (σ5, 0))) else none))) else none) else (if 1 ≤ β then (zbd (rec tC_Par_fail (β - 1) σ [3, (σ.1 3203)]) (fun σ6 r6 => some (σ6, 0))) else none)
def kY_Par_takeTerms (rec : zF) (β : Nat) (σ : zS) (x0 : Int) : Option zR := if (σ.1 3100) = 0 then (if 1 ≤ β then (zbd (rec tC_Wds_isNow (β - 1) σ [5]) (fun σ1 r1 => if r1 = 0 then (rec tG_Par_takeTerms_p18 β σ1 [x0]) else (rec tG_Par_takeTerms_p27 β σ1 [x0, 0, 1, 0]))) else none) else (rec tG_Par_takeTerms_p18 β σ [x0])
def kY_Par_takeTerms_p18 (rec : zF) (β : Nat) (σ : zS) (x0 : Int) : Option zR := some (σ, 0)
def kY_Par_takeTerms_p27 (rec : zF) (β : Nat) (σ : zS) (x0 x1 x2 x3 : Int) : Option zR := if 1000000 ≤ x3 then (rec tG_Par_takeTerms_p86 β σ [x0, x1, x2, x3]) else (if x2 = 0 then (rec tG_Par_takeTerms_p86 β σ [x0, x1, x2, x3]) else (if 1 ≤ β then (zbd (rec tC_Wds_advance (β - 1) σ []) (fun σ1 r1 => if zr (x0 + 1) then (if 1 ≤ β then (zbd (rec tG_Par_takeTerm (β - 1) σ1 [(x0 + 1)]) (fun σ2 r2 => if (σ2.1 3100) = 0 then (if 1 ≤ β then (zbd (rec tC_Wds_isNow (β - 1) σ2 [7]) (fun σ3 r3 => if r3 = 0 then (if zr (x1 + 1) then (rec tG_Par_takeTerms_p78 β σ3 [x0, (x1 + 1), x2, x3]) else none) else (if zr (x1 + 1) then (rec tG_Par_takeTerms_p79 β σ3 [x0, (x1 + 1), x2, x3, 1]) else none))) else none) else (if zr (x1 + 1) then (rec tG_Par_takeTerms_p78 β σ2 [x0, (x1 + 1), x2, x3]) else none))) else none) else none)) else none))
def kY_Par_takeTerms_p78 (rec : zF) (β : Nat) (σ : zS) (x0 x1 x2 x3 : Int) : Option zR := rec tG_Par_takeTerms_p79 β σ [x0, x1, x2, x3, 0]
def kY_Par_takeTerms_p79 (rec : zF) (β : Nat) (σ : zS) (x0 x1 x2 x3 x4 : Int) : Option zR := if zr (x3 + 1) then (rec tG_Par_takeTerms_p27 β σ [x0, x1, x4, (x3 + 1)]) else none
def kY_Par_takeTerms_p86 (rec : zF) (β : Nat) (σ : zS) (x0 x1 x2 x3 : Int) : Option zR := if (σ.1 3100) = 0 then (if 1 ≤ β then (zbd (rec tC_Wds_isNow (β - 1) σ [6]) (fun σ1 r1 => if r1 = 0 then (if 1 ≤ β then (zbd (rec tC_Par_refuse (β - 1) σ1 []) (fun σ2 r2 => rec tG_Par_takeTerms_p119 β σ2 [x0, x1, x2, x3])) else none) else (if 1 ≤ β then (zbd (rec tC_Wds_advance (β - 1) σ1 []) (fun σ3 r3 => rec tG_Par_takeTerms_p119 β σ3 [x0, x1, x2, x3])) else none))) else none) else (rec tG_Par_takeTerms_p119 β σ [x0, x1, x2, x3])
def kY_Par_takeTerms_p119 (rec : zF) (β : Nat) (σ : zS) (x0 x1 x2 x3 : Int) : Option zR := some (σ, x1)
def kY_Par_takeVariable (rec : zF) (β : Nat) (σ : zS) : Option zR := if 1 ≤ β then (zbd (rec tC_For_variableOf (β - 1) σ []) (fun σ1 r1 => if r1 = (-1) then (if 1 ≤ β then (zbd (rec tC_Par_fail (β - 1) σ1 [3, (σ1.1 3203)]) (fun σ4 r4 => some (σ4, 0))) else none) else (if zrok σ1 1501 16 then (lt_ (zAdd σ1 1501 16 (-1 - r1)) (fun σ2 => if 1 ≤ β then (zbd (rec tC_Wds_advance (β - 1) σ2 []) (fun σ3 r3 => some (σ3, 0))) else none)) else none))) else none
def kY_Sat_factor (rec : zF) (β : Nat) (σ : zS) (x0 : Int) : Option zR := if 1 ≤ β then (zbd (rec tC_Sto_fact (β - 1) σ [x0, 3]) (fun σ1 r1 => rec tG_Sat_factor_p12 β σ1 [x0, r1, 0])) else none
def kY_Sat_factor_p12 (rec : zF) (β : Nat) (σ : zS) (x0 x1 x2 : Int) : Option zR := if x1 ≤ x2 then (some (σ, 0)) else (if 1 ≤ β then (zbd (rec tC_Sto_headOf (β - 1) σ [x0, x2]) (fun σ1 r1 => rec tG_Sat_factor_p31 β σ1 [x0, x1, x2, r1, 0])) else none)
def kY_Sat_factor_p31 (rec : zF) (β : Nat) (σ : zS) (x0 x1 x2 x3 x4 : Int) : Option zR := if x1 ≤ x4 then (rec tG_Sat_factor_p78 β σ [x0, x1, x2, x3, x4]) else (if 1 ≤ β then (zbd (rec tC_Sto_isEligible (β - 1) σ [x3]) (fun σ1 r1 => if r1 = 0 then (rec tG_Sat_factor_p78 β σ1 [x0, x1, x2, x3, x4]) else (if x2 = x4 then (rec tG_Sat_factor_p72 β σ1 [x0, x1, x2, x3, x4]) else (if 1 ≤ β then (zbd (rec tC_Sto_headOf (β - 1) σ1 [x0, x4]) (fun σ2 r2 => if 1 ≤ β then (zbd (rec tG_Sat_factorTwo (β - 1) σ2 [x0, x3, r2]) (fun σ3 r3 => rec tG_Sat_factor_p72 β σ3 [x0, x1, x2, x3, x4])) else none)) else none)))) else none)
def kY_Sat_factor_p72 (rec : zF) (β : Nat) (σ : zS) (x0 x1 x2 x3 x4 : Int) : Option zR := if zr (x4 + 1) then (rec tG_Sat_factor_p31 β σ [x0, x1, x2, x3, (x4 + 1)]) else none
def kY_Sat_factor_p78 (rec : zF) (β : Nat) (σ : zS) (x0 x1 x2 x3 x4 : Int) : Option zR := if zr (x2 + 1) then (rec tG_Sat_factor_p12 β σ [x0, x1, (x2 + 1)]) else none
def kY_Sat_factorTwo (rec : zF) (β : Nat) (σ : zS) (x0 x1 x2 : Int) : Option zR := if 1 ≤ β then (zbd (rec tC_Sto_fact (β - 1) σ [x0, 8]) (fun σ1 r1 => rec tG_Sat_factorTwo_p15 β σ1 [x0, x1, x2, r1, 0])) else none
def kY_Sat_factorTwo_p15 (rec : zF) (β : Nat) (σ : zS) (x0 x1 x2 x3 x4 : Int) : Option zR := if 4 ≤ x4 then (rec tG_Sat_factorTwo_p156 β σ [x0, x1, x2, x3, x4]) else (if (σ.1 5300) = 0 then (if 1 ≤ β then (zbd (rec tC_Sto_isUsable (β - 1) σ [x1, (zshr x4 1)]) (fun σ1 r1 => if r1 = 0 then (rec tG_Sat_factorTwo_p150 β σ1 [x0, x1, x2, x3, x4, (zshr x4 1), (zand x4 1)]) else (if 1 ≤ β then (zbd (rec tC_Uni_clear (β - 1) σ1 [x3, x3]) (fun σ2 r2 => if 1 ≤ β then (zbd (rec tC_Sto_sideAt (β - 1) σ2 [x1, (zshr x4 1)]) (fun σ3 r3 => if 1 ≤ β then (zbd (rec tC_Sto_sideAt (β - 1) σ3 [x2, (zand x4 1)]) (fun σ4 r4 => if 1 ≤ β then (zbd (rec tG_Uni_unite (β - 1) σ4 [r3, 0, r4, 0, 0]) (fun σ5 r5 => if r5 = 0 then (rec tG_Sat_factorTwo_p150 β σ5 [x0, x1, x2, x3, x4, (zshr x4 1), (zand x4 1)]) else (if 1 ≤ β then (zbd (rec tC_Dra_clear (β - 1) σ5 []) (fun σ6 r6 => if 1 ≤ β then (zbd (rec tC_Sat_writeOthers (β - 1) σ6 [x0, x1, x2, 0]) (fun σ7 r7 => if zr (1 - (zshr x4 1)) then (if zr (1 - (zand x4 1)) then (if 1 ≤ β then (zbd (rec tC_Sat_writePair (β - 1) σ7 [0, x1, (1 - (zshr x4 1)), x2, (1 - (zand x4 1))]) (fun σ8 r8 => if 1 ≤ β then (zbd (rec tC_Sat_writePair (β - 1) σ8 [1, x1, (zshr x4 1), x2, (1 - (zand x4 1))]) (fun σ9 r9 => if 1 ≤ β then (zbd (rec tG_Sat_keep (β - 1) σ9 [3, x0, (-1)]) (fun σ10 r10 => rec tG_Sat_factorTwo_p150 β σ10 [x0, x1, x2, x3, x4, (zshr x4 1), (zand x4 1)])) else none)) else none)) else none) else none) else none)) else none)) else none))) else none)) else none)) else none)) else none))) else none) else (rec tG_Sat_factorTwo_p156 β σ [x0, x1, x2, x3, x4]))
def kY_Sat_factorTwo_p150 (rec : zF) (β : Nat) (σ : zS) (x0 x1 x2 x3 x4 x5 x6 : Int) : Option zR := if zr (x4 + 1) then (rec tG_Sat_factorTwo_p15 β σ [x0, x1, x2, x3, (x4 + 1)]) else none
def kY_Sat_factorTwo_p156 (rec : zF) (β : Nat) (σ : zS) (x0 x1 x2 x3 x4 : Int) : Option zR := some (σ, 0)
def kY_Sat_inferFrom (rec : zF) (β : Nat) (σ : zS) (x0 : Int) : Option zR := rec tG_Sat_inferFrom_p10 β σ [x0, (σ.1 5402), 0]
def kY_Sat_inferFrom_p10 (rec : zF) (β : Nat) (σ : zS) (x0 x1 x2 : Int) : Option zR := if x1 ≤ x2 then (rec tG_Sat_inferFrom_p53 β σ [x0, x1, x2]) else (if (σ.1 5300) = 0 then (if 1 ≤ β then (zbd (rec tC_Sat_isProcessed (β - 1) σ [x2]) (fun σ1 r1 => if r1 = 0 then (rec tG_Sat_inferFrom_p47 β σ1 [x0, x1, x2]) else (if 1 ≤ β then (zbd (rec tG_Sat_superpose (β - 1) σ1 [x2, x0]) (fun σ2 r2 => if x2 = x0 then (rec tG_Sat_inferFrom_p47 β σ2 [x0, x1, x2]) else (if 1 ≤ β then (zbd (rec tG_Sat_superpose (β - 1) σ2 [x0, x2]) (fun σ3 r3 => rec tG_Sat_inferFrom_p47 β σ3 [x0, x1, x2])) else none))) else none))) else none) else (rec tG_Sat_inferFrom_p53 β σ [x0, x1, x2]))
def kY_Sat_inferFrom_p47 (rec : zF) (β : Nat) (σ : zS) (x0 x1 x2 : Int) : Option zR := if zr (x2 + 1) then (rec tG_Sat_inferFrom_p10 β σ [x0, x1, (x2 + 1)]) else none
def kY_Sat_inferFrom_p53 (rec : zF) (β : Nat) (σ : zS) (x0 x1 x2 : Int) : Option zR := if 1 ≤ β then (zbd (rec tC_Sto_selectedOf (β - 1) σ [x0]) (fun σ1 r1 => if r1 = (-1) then (if 1 ≤ β then (zbd (rec tG_Sat_factor (β - 1) σ1 [x0]) (fun σ4 r4 => rec tG_Sat_inferFrom_p86 β σ4 [x0, x1, x2])) else none) else (if 1 ≤ β then (zbd (rec tC_Sto_selectedOf (β - 1) σ1 [x0]) (fun σ2 r2 => if 1 ≤ β then (zbd (rec tG_Sat_resolve (β - 1) σ2 [x0, r2]) (fun σ3 r3 => rec tG_Sat_inferFrom_p86 β σ3 [x0, x1, x2])) else none)) else none))) else none
def kY_Sat_inferFrom_p86 (rec : zF) (β : Nat) (σ : zS) (x0 x1 x2 : Int) : Option zR := some (σ, 0)
def kY_Sat_keep (rec : zF) (β : Nat) (σ : zS) (x0 x1 x2 : Int) : Option zR := lt_ (zI σ 5302 (zwa (σ.1 5302) 1)) (fun σ1 => if (σ1.1 3907) = 0 then (if 1 ≤ β then (zbd (rec tC_Dra_reduce (β - 1) σ1 []) (fun σ2 r2 => if 1 ≤ β then (zbd (rec tC_Dra_isTautology (β - 1) σ2 []) (fun σ3 r3 => if r3 = 0 then (if (σ3.1 5402) = 2000 then (lt_ (zI σ3 5300 3) (fun σ5 => rec tG_Sat_keep_p97 β σ5 [x0, x1, x2])) else (if 1 ≤ β then (zbd (rec tG_Sto_add (β - 1) σ3 [x0, x1, x2]) (fun σ4 r4 => rec tG_Sat_keep_p97 β σ4 [x0, x1, x2])) else none)) else (lt_ (zI σ3 5306 (zwa (σ3.1 5306) 1)) (fun σ6 => rec tG_Sat_keep_p97 β σ6 [x0, x1, x2])))) else none)) else none) else (lt_ (zI σ1 5303 (zwa (σ1.1 5303) 1)) (fun σ7 => some (σ7, 0))))
def kY_Sat_keep_p97 (rec : zF) (β : Nat) (σ : zS) (x0 x1 x2 : Int) : Option zR := some (σ, 0)
def kY_Sat_keepRewritten (rec : zF) (β : Nat) (σ : zS) (x0 x1 : Int) : Option zR := if 1 ≤ β then (zbd (rec tC_Dra_isTautology (β - 1) σ []) (fun σ1 r1 => if r1 = 0 then (if (σ1.1 5402) = 2000 then (lt_ (zI σ1 5300 3) (fun σ6 => some (σ6, (-1)))) else (if 1 ≤ β then (zbd (rec tG_Sto_add (β - 1) σ1 [4, x0, (-1)]) (fun σ2 r2 => if 1 ≤ β then (zbd (rec tC_Sto_setFact (β - 1) σ2 [r2, 6, 2]) (fun σ3 r3 => if zr ((σ3.1 4901) - x1) then (if 1 ≤ β then (zbd (rec tC_Sto_setFact (β - 1) σ3 [r2, 7, ((σ3.1 4901) - x1)]) (fun σ4 r4 => if 1 ≤ β then (zbd (rec tC_Sto_setFact (β - 1) σ4 [r2, 9, x1]) (fun σ5 r5 => some (σ5, r2))) else none)) else none) else none)) else none)) else none)) else (lt_ (zI σ1 5306 (zwa (σ1.1 5306) 1)) (fun σ7 => some (σ7, (-1)))))) else none
def kY_Sat_listSingles (rec : zF) (β : Nat) (σ : zS) : Option zR := lt_ (zI σ 5701 0) (fun σ1 => rec tG_Sat_listSingles_p10 β σ1 [0])
def kY_Sat_listSingles_p10 (rec : zF) (β : Nat) (σ : zS) (x0 : Int) : Option zR := if (σ.1 5402) ≤ x0 then (some (σ, 0)) else (if 1 ≤ β then (zbd (rec tC_Sat_isProcessed (β - 1) σ [x0]) (fun σ1 r1 => if r1 = 0 then (rec tG_Sat_listSingles_p45 β σ1 [x0]) else (if 1 ≤ β then (zbd (rec tC_Sat_isSingle (β - 1) σ1 [x0]) (fun σ2 r2 => if r2 = 0 then (rec tG_Sat_listSingles_p45 β σ2 [x0]) else (if zrok σ2 5701 58 then (lt_ (zAdd σ2 5701 58 x0) (fun σ3 => rec tG_Sat_listSingles_p45 β σ3 [x0])) else none))) else none))) else none)
def kY_Sat_listSingles_p45 (rec : zF) (β : Nat) (σ : zS) (x0 : Int) : Option zR := if zr (x0 + 1) then (rec tG_Sat_listSingles_p10 β σ [(x0 + 1)]) else none
def kY_Sat_noteRewriter (rec : zF) (β : Nat) (σ : zS) (x0 x1 : Int) : Option zR := rec tG_Sat_noteRewriter_p2 β σ [x0, x1, x0]
def kY_Sat_noteRewriter_p2 (rec : zF) (β : Nat) (σ : zS) (x0 x1 x2 : Int) : Option zR := if (σ.1 4901) ≤ x2 then (if zrok σ 4901 50 then (lt_ (zAdd σ 4901 50 x1) (fun σ1 => some (σ1, 0))) else none) else (if zb x2 (σ.2.2 50) then (if (σ.2.1 50 x2) = x1 then (some (σ, 0)) else (if zr (x2 + 1) then (rec tG_Sat_noteRewriter_p2 β σ [x0, x1, (x2 + 1)]) else none)) else none)
def kY_Sat_refute (rec : zF) (β : Nat) (σ : zS) (x0 : Int) : Option zR := lt_ (zI σ 5300 1) (fun σ1 => if 1 ≤ β then (zbd (rec tC_Sat_markProof (β - 1) σ1 [x0]) (fun σ2 r2 => rec tG_Sat_refute_p12 β σ2 [x0, x0])) else none)
def kY_Sat_refute_p12 (rec : zF) (β : Nat) (σ : zS) (x0 x1 : Int) : Option zR := if x1 < 0 then (rec tG_Sat_refute_p113 β σ [x0, 0]) else (if 1 ≤ β then (zbd (rec tC_Sto_fact (β - 1) σ [x1, 10]) (fun σ1 r1 => if r1 = 1 then (if 1 ≤ β then (zbd (rec tC_Sto_fact (β - 1) σ1 [x1, 1]) (fun σ2 r2 => if 1 ≤ β then (zbd (rec tC_Sat_markProof (β - 1) σ2 [r2]) (fun σ3 r3 => if 1 ≤ β then (zbd (rec tC_Sto_fact (β - 1) σ3 [x1, 2]) (fun σ4 r4 => if 1 ≤ β then (zbd (rec tC_Sat_markProof (β - 1) σ4 [r4]) (fun σ5 r5 => rec tG_Sat_refute_p58 β σ5 [x0, x1, 0])) else none)) else none)) else none)) else none) else (rec tG_Sat_refute_p105 β σ1 [x0, x1]))) else none)
def kY_Sat_refute_p58 (rec : zF) (β : Nat) (σ : zS) (x0 x1 x2 : Int) : Option zR := if 1 ≤ β then (zbd (rec tC_Sto_fact (β - 1) σ [x1, 7]) (fun σ1 r1 => if r1 ≤ x2 then (rec tG_Sat_refute_p105 β σ1 [x0, x1]) else (if 1 ≤ β then (zbd (rec tC_Sto_fact (β - 1) σ1 [x1, 9]) (fun σ2 r2 => if zr (r2 + x2) then (if zb (r2 + x2) (σ2.2.2 50) then (if 1 ≤ β then (zbd (rec tC_Sat_markProof (β - 1) σ2 [(σ2.2.1 50 (r2 + x2))]) (fun σ3 r3 => if zr (x2 + 1) then (rec tG_Sat_refute_p58 β σ3 [x0, x1, (x2 + 1)]) else none)) else none) else none) else none)) else none))) else none
def kY_Sat_refute_p105 (rec : zF) (β : Nat) (σ : zS) (x0 x1 : Int) : Option zR := if zr (x1 + (-1)) then (rec tG_Sat_refute_p12 β σ [x0, (x1 + (-1))]) else none
def kY_Sat_refute_p113 (rec : zF) (β : Nat) (σ : zS) (x0 x1 : Int) : Option zR := if x0 < x1 then (some (σ, 0)) else (if 1 ≤ β then (zbd (rec tC_Sto_fact (β - 1) σ [x1, 10]) (fun σ1 r1 => if r1 = 1 then (if zrok σ1 5501 56 then (lt_ (zAdd σ1 5501 56 x1) (fun σ2 => rec tG_Sat_refute_p140 β σ2 [x0, x1])) else none) else (rec tG_Sat_refute_p140 β σ1 [x0, x1]))) else none)
def kY_Sat_refute_p140 (rec : zF) (β : Nat) (σ : zS) (x0 x1 : Int) : Option zR := if zr (x1 + 1) then (rec tG_Sat_refute_p113 β σ [x0, (x1 + 1)]) else none
def kY_Sat_resolve (rec : zF) (β : Nat) (σ : zS) (x0 x1 : Int) : Option zR := if 1 ≤ β then (zbd (rec tC_Sto_fact (β - 1) σ [x0, 8]) (fun σ1 r1 => if 1 ≤ β then (zbd (rec tC_Uni_clear (β - 1) σ1 [r1, r1]) (fun σ2 r2 => if (σ2.1 5300) = 0 then (if 1 ≤ β then (zbd (rec tC_Sto_sideAt (β - 1) σ2 [x1, 0]) (fun σ3 r3 => if 1 ≤ β then (zbd (rec tC_Sto_sideAt (β - 1) σ3 [x1, 1]) (fun σ4 r4 => if 1 ≤ β then (zbd (rec tG_Uni_unite (β - 1) σ4 [r3, 0, r4, 0, 0]) (fun σ5 r5 => if r5 = 0 then (rec tG_Sat_resolve_p80 β σ5 [x0, x1, r1]) else (if 1 ≤ β then (zbd (rec tC_Dra_clear (β - 1) σ5 []) (fun σ6 r6 => if 1 ≤ β then (zbd (rec tC_Sat_writeOthers (β - 1) σ6 [x0, x1, (-1), 0]) (fun σ7 r7 => if 1 ≤ β then (zbd (rec tG_Sat_keep (β - 1) σ7 [2, x0, (-1)]) (fun σ8 r8 => rec tG_Sat_resolve_p80 β σ8 [x0, x1, r1])) else none)) else none)) else none))) else none)) else none)) else none) else (rec tG_Sat_resolve_p80 β σ2 [x0, x1, r1]))) else none)) else none
def kY_Sat_resolve_p80 (rec : zF) (β : Nat) (σ : zS) (x0 x1 x2 : Int) : Option zR := some (σ, 0)
def kY_Sat_rewrite (rec : zF) (β : Nat) (σ : zS) (x0 : Int) : Option zR := if 1 ≤ β then (zbd (rec tG_Sat_listSingles (β - 1) σ []) (fun σ1 r1 => if 1 ≤ β then (zbd (rec tC_Dra_load (β - 1) σ1 [x0]) (fun σ2 r2 => rec tG_Sat_rewrite_p29 β σ2 [x0, (σ2.1 4901), 0])) else none)) else none
def kY_Sat_rewrite_p29 (rec : zF) (β : Nat) (σ : zS) (x0 x1 x2 : Int) : Option zR := if 60 ≤ x2 then (rec tG_Sat_rewrite_p74 β σ [x0, x1, x2]) else (if 1 ≤ β then (zbd (rec tC_Mat_rewriteFirst_r57 (β - 1) σ []) (fun σ1 r1 => if r1 = (-1) then (rec tG_Sat_rewrite_p74 β σ1 [x0, x1, x2]) else (if 1 ≤ β then (zbd (rec tG_Sat_noteRewriter (β - 1) σ1 [x1, r1]) (fun σ2 r2 => if zr (x2 + 1) then (rec tG_Sat_rewrite_p29 β σ2 [x0, x1, (x2 + 1)]) else none)) else none))) else none)
def kY_Sat_rewrite_p74 (rec : zF) (β : Nat) (σ : zS) (x0 x1 x2 : Int) : Option zR := if x2 = 0 then (some (σ, x0)) else (lt_ (zI σ 5305 (zwa (σ.1 5305) x2)) (fun σ1 => if 1 ≤ β then (zbd (rec tC_Dra_reduce (β - 1) σ1 []) (fun σ2 r2 => if 1 ≤ β then (zbd (rec tG_Sat_keepRewritten (β - 1) σ2 [x0, x1]) (fun σ3 r3 => if r3 = (-1) then (lt_ (zI σ3 4901 x1) (fun σ4 => rec tG_Sat_rewrite_p122 β σ4 [x0, x1, x2, r3])) else (rec tG_Sat_rewrite_p122 β σ3 [x0, x1, x2, r3]))) else none)) else none))
def kY_Sat_rewrite_p122 (rec : zF) (β : Nat) (σ : zS) (x0 x1 x2 x3 : Int) : Option zR := some (σ, x3)
def kY_Sat_superpose (rec : zF) (β : Nat) (σ : zS) (x0 x1 : Int) : Option zR := if 1 ≤ β then (zbd (rec tC_Sto_fact (β - 1) σ [x0, 3]) (fun σ1 r1 => if 1 ≤ β then (zbd (rec tC_Sto_fact (β - 1) σ1 [x1, 3]) (fun σ2 r2 => if zr (2 * r1) then (if zr (2 * r2) then (rec tG_Sat_superpose_p28 β σ2 [x0, x1, (2 * r1), (2 * r2), 0]) else none) else none)) else none)) else none
def kY_Sat_superpose_p28 (rec : zF) (β : Nat) (σ : zS) (x0 x1 x2 x3 x4 : Int) : Option zR := if x2 ≤ x4 then (some (σ, 0)) else (if 1 ≤ β then (zbd (rec tC_Sto_headOf (β - 1) σ [x0, (zshr x4 1)]) (fun σ1 r1 => if 1 ≤ β then (zbd (rec tC_Sto_isPositive (β - 1) σ1 [r1]) (fun σ2 r2 => if r2 = 0 then (rec tG_Sat_superpose_p92 β σ2 [x0, x1, x2, x3, x4, r1]) else (if 1 ≤ β then (zbd (rec tC_Sto_isEligible (β - 1) σ2 [r1]) (fun σ3 r3 => if r3 = 0 then (rec tG_Sat_superpose_p92 β σ3 [x0, x1, x2, x3, x4, r1]) else (if 1 ≤ β then (zbd (rec tC_Sto_isUsable (β - 1) σ3 [r1, (zand x4 1)]) (fun σ4 r4 => if r4 = 0 then (rec tG_Sat_superpose_p92 β σ4 [x0, x1, x2, x3, x4, r1]) else (rec tG_Sat_superpose_p93 β σ4 [x0, x1, x2, x3, x4, r1, 1]))) else none))) else none))) else none)) else none)
def kY_Sat_superpose_p92 (rec : zF) (β : Nat) (σ : zS) (x0 x1 x2 x3 x4 x5 : Int) : Option zR := rec tG_Sat_superpose_p93 β σ [x0, x1, x2, x3, x4, x5, 0]
def kY_Sat_superpose_p93 (rec : zF) (β : Nat) (σ : zS) (x0 x1 x2 x3 x4 x5 x6 : Int) : Option zR := rec tG_Sat_superpose_p98 β σ [x0, x1, x2, x3, x4, x5, x6, 0]
def kY_Sat_superpose_p98 (rec : zF) (β : Nat) (σ : zS) (x0 x1 x2 x3 x4 x5 x6 x7 : Int) : Option zR := if x3 ≤ x7 then (rec tG_Sat_superpose_p176 β σ [x0, x1, x2, x3, x4, x5, x6, x7]) else (if x6 = 0 then (rec tG_Sat_superpose_p176 β σ [x0, x1, x2, x3, x4, x5, x6, x7]) else (if 1 ≤ β then (zbd (rec tC_Sto_headOf (β - 1) σ [x1, (zshr x7 1)]) (fun σ1 r1 => if 1 ≤ β then (zbd (rec tC_Sto_isEligible (β - 1) σ1 [r1]) (fun σ2 r2 => if r2 = 0 then (rec tG_Sat_superpose_p170 β σ2 [x0, x1, x2, x3, x4, x5, x6, x7, r1]) else (if 1 ≤ β then (zbd (rec tC_Sto_isUsable (β - 1) σ2 [r1, (zand x7 1)]) (fun σ3 r3 => if r3 = 0 then (rec tG_Sat_superpose_p170 β σ3 [x0, x1, x2, x3, x4, x5, x6, x7, r1]) else (if 1 ≤ β then (zbd (rec tG_Sat_superposeInto (β - 1) σ3 [x0, x5, (zand x4 1), x1, r1, (zand x7 1)]) (fun σ4 r4 => rec tG_Sat_superpose_p170 β σ4 [x0, x1, x2, x3, x4, x5, x6, x7, r1])) else none))) else none))) else none)) else none))
def kY_Sat_superpose_p170 (rec : zF) (β : Nat) (σ : zS) (x0 x1 x2 x3 x4 x5 x6 x7 x8 : Int) : Option zR := if zr (x7 + 1) then (rec tG_Sat_superpose_p98 β σ [x0, x1, x2, x3, x4, x5, x6, (x7 + 1)]) else none
def kY_Sat_superpose_p176 (rec : zF) (β : Nat) (σ : zS) (x0 x1 x2 x3 x4 x5 x6 x7 : Int) : Option zR := if zr (x4 + 1) then (rec tG_Sat_superpose_p28 β σ [x0, x1, x2, x3, (x4 + 1)]) else none
def kY_Sat_superposeInto (rec : zF) (β : Nat) (σ : zS) (x0 x1 x2 x3 x4 x5 : Int) : Option zR := if 1 ≤ β then (zbd (rec tC_Sto_sideAt (β - 1) σ [x1, x2]) (fun σ1 r1 => if 1 ≤ β then (zbd (rec tC_Sto_sideAt (β - 1) σ1 [x4, x5]) (fun σ2 r2 => if 1 ≤ β then (zbd (rec tC_Sto_sideSize (β - 1) σ2 [x4, x5]) (fun σ3 r3 => if zr (r2 + r3) then (rec tG_Sat_superposeInto_p44 β σ3 [x0, x1, x2, x3, x4, x5, r1, r2, (r2 + r3), r2]) else none)) else none)) else none)) else none
def kY_Sat_superposeInto_p44 (rec : zF) (β : Nat) (σ : zS) (x0 x1 x2 x3 x4 x5 x6 x7 x8 x9 : Int) : Option zR := if x8 ≤ x9 then (rec tG_Sat_superposeInto_p195 β σ [x0, x1, x2, x3, x4, x5, x6, x7, x8, x9]) else (if (σ.1 5300) = 0 then (if zb x6 (σ.2.2 48) then (if zb x9 (σ.2.2 48) then (if (σ.2.1 48 x9) < 0 then (rec tG_Sat_superposeInto_p189 β σ [x0, x1, x2, x3, x4, x5, x6, x7, x8, x9, (σ.2.1 48 x6), (σ.2.1 48 x9)]) else (if (σ.2.1 48 x6) < 0 then (rec tG_Sat_superposeInto_p108 β σ [x0, x1, x2, x3, x4, x5, x6, x7, x8, x9, (σ.2.1 48 x6), (σ.2.1 48 x9)]) else (if (σ.2.1 48 x6) = (σ.2.1 48 x9) then (rec tG_Sat_superposeInto_p108 β σ [x0, x1, x2, x3, x4, x5, x6, x7, x8, x9, (σ.2.1 48 x6), (σ.2.1 48 x9)]) else (rec tG_Sat_superposeInto_p189 β σ [x0, x1, x2, x3, x4, x5, x6, x7, x8, x9, (σ.2.1 48 x6), (σ.2.1 48 x9)])))) else none) else none) else (rec tG_Sat_superposeInto_p195 β σ [x0, x1, x2, x3, x4, x5, x6, x7, x8, x9]))
def kY_Sat_superposeInto_p108 (rec : zF) (β : Nat) (σ : zS) (x0 x1 x2 x3 x4 x5 x6 x7 x8 x9 x10 x11 : Int) : Option zR := if 1 ≤ β then (zbd (rec tC_Sto_fact (β - 1) σ [x0, 8]) (fun σ1 r1 => if 1 ≤ β then (zbd (rec tC_Sto_fact (β - 1) σ1 [x3, 8]) (fun σ2 r2 => if 1 ≤ β then (zbd (rec tC_Uni_clear (β - 1) σ2 [r1, r2]) (fun σ3 r3 => if 1 ≤ β then (zbd (rec tG_Uni_unite (β - 1) σ3 [x6, 0, x9, 6, 0]) (fun σ4 r4 => if r4 = 0 then (rec tG_Sat_superposeInto_p189 β σ4 [x0, x1, x2, x3, x4, x5, x6, x7, x8, x9, x10, x11]) else (if 1 ≤ β then (zbd (rec tC_Dra_clear (β - 1) σ4 []) (fun σ5 r5 => if 1 ≤ β then (zbd (rec tC_Sat_writeOthers (β - 1) σ5 [x0, x1, (-1), 0]) (fun σ6 r6 => if zr (1 - x2) then (if 1 ≤ β then (zbd (rec tC_Sat_writeReplaced (β - 1) σ6 [x3, x9, x1, (1 - x2)]) (fun σ7 r7 => if 1 ≤ β then (zbd (rec tG_Sat_keep (β - 1) σ7 [1, x0, x3]) (fun σ8 r8 => rec tG_Sat_superposeInto_p189 β σ8 [x0, x1, x2, x3, x4, x5, x6, x7, x8, x9, x10, x11])) else none)) else none) else none)) else none)) else none))) else none)) else none)) else none)) else none
def kY_Sat_superposeInto_p189 (rec : zF) (β : Nat) (σ : zS) (x0 x1 x2 x3 x4 x5 x6 x7 x8 x9 x10 x11 : Int) : Option zR := if zr (x9 + 1) then (rec tG_Sat_superposeInto_p44 β σ [x0, x1, x2, x3, x4, x5, x6, x7, x8, (x9 + 1)]) else none
def kY_Sat_superposeInto_p195 (rec : zF) (β : Nat) (σ : zS) (x0 x1 x2 x3 x4 x5 x6 x7 x8 x9 : Int) : Option zR := some (σ, 0)
def kY_Sat_takeGiven (rec : zF) (β : Nat) (σ : zS) : Option zR := if 1 ≤ β then (zbd (rec tC_Sat_choose (β - 1) σ []) (fun σ1 r1 => if r1 = (-1) then (lt_ (zI σ1 5300 2) (fun σ6 => some (σ6, (-1)))) else (lt_ (zI σ1 5301 (zwa (σ1.1 5301) 1)) (fun σ2 => if 1 ≤ β then (zbd (rec tC_Sto_setFact (β - 1) σ2 [r1, 6, 2]) (fun σ3 r3 => if 1 ≤ β then (zbd (rec tC_Sto_fact (β - 1) σ3 [r1, 3]) (fun σ4 r4 => if r4 ≤ 0 then (rec tG_Sat_takeGiven_p56 β σ4 [r1]) else (if 1 ≤ β then (zbd (rec tG_Sat_rewrite (β - 1) σ4 [r1]) (fun σ5 r5 => rec tG_Sat_takeGiven_p56 β σ5 [r5])) else none))) else none)) else none)))) else none
def kY_Sat_takeGiven_p56 (rec : zF) (β : Nat) (σ : zS) (x0 : Int) : Option zR := if x0 = (-1) then (some (σ, (-1))) else (if 1 ≤ β then (zbd (rec tC_Sto_fact (β - 1) σ [x0, 3]) (fun σ1 r1 => if r1 = 0 then (if 1 ≤ β then (zbd (rec tG_Sat_refute (β - 1) σ1 [x0]) (fun σ7 r7 => some (σ7, (-1)))) else none) else (if 1 ≤ β then (zbd (rec tC_Sat_isSubsumed (β - 1) σ1 [x0]) (fun σ2 r2 => if r2 = 0 then (if 1 ≤ β then (zbd (rec tC_Sat_clearAway (β - 1) σ2 [x0]) (fun σ3 r3 => if 1 ≤ β then (zbd (rec tC_Sto_setFact (β - 1) σ3 [x0, 6, 1]) (fun σ4 r4 => if 1 ≤ β then (zbd (rec tC_Sto_judge (β - 1) σ4 [x0]) (fun σ5 r5 => some (σ5, x0))) else none)) else none)) else none) else (lt_ (zI σ2 5304 (zwa (σ2.1 5304) 1)) (fun σ6 => some (σ6, (-1)))))) else none))) else none)
def kY_Sto_add (rec : zF) (β : Nat) (σ : zS) (x0 x1 x2 : Int) : Option zR := if zrok σ 5101 52 then (lt_ (zAdd σ 5101 52 x0) (fun σ1 => if zrok σ1 5101 52 then (lt_ (zAdd σ1 5101 52 x1) (fun σ2 => if zrok σ2 5101 52 then (lt_ (zAdd σ2 5101 52 x2) (fun σ3 => if zrok σ3 5101 52 then (lt_ (zAdd σ3 5101 52 (σ3.1 3905)) (fun σ4 => if zrok σ4 5101 52 then (lt_ (zAdd σ4 5101 52 (σ4.1 3904)) (fun σ5 => if zrok σ5 5101 52 then (lt_ (zAdd σ5 5101 52 (σ5.1 3906)) (fun σ6 => if zrok σ6 5101 52 then (lt_ (zAdd σ6 5101 52 0) (fun σ7 => if zrok σ7 5101 52 then (lt_ (zAdd σ7 5101 52 0) (fun σ8 => if zrok σ8 5101 52 then (lt_ (zAdd σ8 5101 52 (σ8.1 4701)) (fun σ9 => if zrok σ9 5101 52 then (lt_ (zAdd σ9 5101 52 (σ9.1 4901)) (fun σ10 => if zrok σ10 5101 52 then (lt_ (zAdd σ10 5101 52 0) (fun σ11 => rec tG_Sto_add_p113 β σ11 [x0, x1, x2, 0])) else none)) else none)) else none)) else none)) else none)) else none)) else none)) else none)) else none)) else none)) else none
def kY_Sto_add_p113 (rec : zF) (β : Nat) (σ : zS) (x0 x1 x2 x3 : Int) : Option zR := if (σ.1 3905) ≤ x3 then (if zr ((σ.1 5402) + 1) then (lt_ (zI σ 5402 ((σ.1 5402) + 1)) (fun σ1 => some (σ1, (σ.1 5402)))) else none) else (if zb x3 8 then (if (σ.2.1 43 x3) = 0 then (rec tG_Sto_add_p141 β σ [x0, x1, x2, x3, 0]) else (rec tG_Sto_add_p141 β σ [x0, x1, x2, x3, 1])) else none)
def kY_Sto_add_p141 (rec : zF) (β : Nat) (σ : zS) (x0 x1 x2 x3 x4 : Int) : Option zR := if zrok σ 4701 48 then (lt_ (zAdd σ 4701 48 x4) (fun σ1 => if zrok σ1 4701 48 then (lt_ (zAdd σ1 4701 48 0) (fun σ2 => if zrok σ2 4701 48 then (lt_ (zAdd σ2 4701 48 0) (fun σ3 => if zb x3 8 then (if zb x3 9 then (if zr ((σ3.2.1 42 x3) - (σ3.2.1 41 x3)) then (if zrok σ3 4701 48 then (lt_ (zAdd σ3 4701 48 ((σ3.2.1 42 x3) - (σ3.2.1 41 x3))) (fun σ4 => if zr (x3 + 1) then (if zb (x3 + 1) 9 then (if zr ((σ4.2.1 41 (x3 + 1)) - (σ4.2.1 42 x3)) then (if zrok σ4 4701 48 then (lt_ (zAdd σ4 4701 48 ((σ4.2.1 41 (x3 + 1)) - (σ4.2.1 42 x3))) (fun σ5 => rec tG_Sto_add_p215 β σ5 [x0, x1, x2, x3, (σ5.2.1 41 x3)])) else none) else none) else none) else none)) else none) else none) else none) else none)) else none)) else none)) else none
def kY_Sto_add_p215 (rec : zF) (β : Nat) (σ : zS) (x0 x1 x2 x3 x4 : Int) : Option zR := if zr (x3 + 1) then (if zb (x3 + 1) 9 then (if (σ.2.1 41 (x3 + 1)) ≤ x4 then (rec tG_Sto_add_p113 β σ [x0, x1, x2, (x3 + 1)]) else (if zb x4 100 then (if zrok σ 4701 48 then (lt_ (zAdd σ 4701 48 (σ.2.1 40 x4)) (fun σ1 => if zr (x4 + 1) then (rec tG_Sto_add_p215 β σ1 [x0, x1, x2, x3, (x4 + 1)]) else none)) else none) else none)) else none) else none
def kY_Sym_numberOf (rec : zF) (β : Nat) (σ : zS) : Option zR := rec tG_Sym_numberOf_p2 β σ [1]
def kY_Sym_numberOf_p2 (rec : zF) (β : Nat) (σ : zS) (x0 : Int) : Option zR := if (σ.1 604) < x0 then (if (σ.1 604) = 250 then (some (σ, (-1))) else (if zr ((σ.1 604) + 1) then (lt_ (zI σ 604 ((σ.1 604) + 1)) (fun σ1 => if zr ((σ1.1 604) + 1) then (lt_ (zI σ1 605 ((σ1.1 604) + 1)) (fun σ2 => if zb (σ2.1 604) 551 then (lt_ (zA σ2 12 (σ2.1 604) 0) (fun σ3 => if zb (σ3.1 604) 251 then (lt_ (zA σ3 8 (σ3.1 604) (σ3.1 1001)) (fun σ4 => if zb (σ4.1 604) 251 then (lt_ (zA σ4 9 (σ4.1 604) (σ4.1 3204)) (fun σ5 => rec tG_Sym_numberOf_p165 β σ5 [0])) else none)) else none)) else none)) else none)) else none)) else (rec tG_Sym_numberOf_p12 β σ [x0, 0])
def kY_Sym_numberOf_p12 (rec : zF) (β : Nat) (σ : zS) (x0 x1 : Int) : Option zR := if zb x0 251 then (if (σ.2.1 9 x0) ≤ x1 then (rec tG_Sym_numberOf_p66 β σ [x0, x1]) else (if (σ.1 3204) ≤ x1 then (rec tG_Sym_numberOf_p66 β σ [x0, x1]) else (if zr ((σ.2.1 8 x0) + x1) then (if zb ((σ.2.1 8 x0) + x1) (σ.2.2 11) then (if zr ((σ.1 3203) + x1) then (if zb ((σ.1 3203) + x1) (σ.2.2 2) then (if (σ.2.1 11 ((σ.2.1 8 x0) + x1)) = (σ.2.1 2 ((σ.1 3203) + x1)) then (if zr (x1 + 1) then (rec tG_Sym_numberOf_p12 β σ [x0, (x1 + 1)]) else none) else (rec tG_Sym_numberOf_p66 β σ [x0, x1])) else none) else none) else none) else none))) else none
def kY_Sym_numberOf_p66 (rec : zF) (β : Nat) (σ : zS) (x0 x1 : Int) : Option zR := if zb x0 251 then (if x1 = (σ.2.1 9 x0) then (if x1 = (σ.1 3204) then (some (σ, x0)) else (rec tG_Sym_numberOf_p86 β σ [x0, x1])) else (rec tG_Sym_numberOf_p86 β σ [x0, x1])) else none
def kY_Sym_numberOf_p86 (rec : zF) (β : Nat) (σ : zS) (x0 x1 : Int) : Option zR := if zr (x0 + 1) then (rec tG_Sym_numberOf_p2 β σ [(x0 + 1)]) else none
def kY_Sym_numberOf_p165 (rec : zF) (β : Nat) (σ : zS) (x0 : Int) : Option zR := if (σ.1 3204) ≤ x0 then (some (σ, (σ.1 604))) else (if zr ((σ.1 3203) + x0) then (if zb ((σ.1 3203) + x0) (σ.2.2 2) then (if zrok σ 1001 11 then (lt_ (zAdd σ 1001 11 (σ.2.1 2 ((σ.1 3203) + x0))) (fun σ1 => if zr (x0 + 1) then (rec tG_Sym_numberOf_p165 β σ1 [(x0 + 1)]) else none)) else none) else none) else none)
def kY_Uni_join (rec : zF) (β : Nat) (σ : zS) (x0 x1 x2 : Int) : Option zR := if zb x1 12 then (if (σ.2.1 61 x1) = (-1) then (rec tG_Uni_join_p30 β σ [x0, x1, x2]) else (if 1 ≤ β then (zbd (rec tC_Uni_occurs (β - 1) σ [x0, (σ.2.1 61 x1), (σ.2.1 62 x1)]) (fun σ1 r1 => if r1 = 0 then (rec tG_Uni_join_p30 β σ1 [x0, x1, x2]) else (rec tG_Uni_join_p60 β σ1 [x0, x1, x2]))) else none)) else none
def kY_Uni_join_p30 (rec : zF) (β : Nat) (σ : zS) (x0 x1 x2 : Int) : Option zR := if zb x0 12 then (if (σ.2.1 61 x0) = (-1) then (rec tG_Uni_join_p62 β σ [x0, x1, x2]) else (if 1 ≤ β then (zbd (rec tC_Uni_occurs (β - 1) σ [x1, (σ.2.1 61 x0), (σ.2.1 62 x0)]) (fun σ1 r1 => if r1 = 0 then (rec tG_Uni_join_p62 β σ1 [x0, x1, x2]) else (rec tG_Uni_join_p60 β σ1 [x0, x1, x2]))) else none)) else none
def kY_Uni_join_p60 (rec : zF) (β : Nat) (σ : zS) (x0 x1 x2 : Int) : Option zR := some (σ, 0)
def kY_Uni_join_p62 (rec : zF) (β : Nat) (σ : zS) (x0 x1 x2 : Int) : Option zR := if zb x0 12 then (if (σ.2.1 61 x0) = (-1) then (rec tG_Uni_join_p77 β σ [x0, x1, x2, x0]) else (rec tG_Uni_join_p77 β σ [x0, x1, x2, x1])) else none
def kY_Uni_join_p77 (rec : zF) (β : Nat) (σ : zS) (x0 x1 x2 x3 : Int) : Option zR := if zr (x0 + x1) then (if zr ((x0 + x1) - x3) then (rec tG_Uni_join_p90 β σ [x0, x1, x2, x3, ((x0 + x1) - x3), 0]) else none) else none
def kY_Uni_join_p90 (rec : zF) (β : Nat) (σ : zS) (x0 x1 x2 x3 x4 x5 : Int) : Option zR := if 12 ≤ x5 then (lt_ (zI σ 5905 (zand (σ.1 5905) (-1 - (zshl 1 x3)))) (fun σ1 => if zb x3 12 then (if (σ1.2.1 61 x3) = (-1) then (rec tG_Uni_join_p198 β σ1 [x0, x1, x2, x3, x4, x5]) else (if zb x4 12 then (if zr (x2 + 1) then (if 1 ≤ β then (zbd (rec tG_Uni_unite (β - 1) σ1 [(σ1.2.1 61 x3), (σ1.2.1 62 x3), (σ1.2.1 61 x4), (σ1.2.1 62 x4), (x2 + 1)]) (fun σ2 r2 => if r2 = 0 then (rec tG_Uni_join_p203 β σ2 [x0, x1, x2, x3, x4, x5, 0]) else (rec tG_Uni_join_p198 β σ2 [x0, x1, x2, x3, x4, x5]))) else none) else none) else none)) else none)) else (if zb x5 12 then (if (σ.2.1 60 x5) = x3 then (rec tG_Uni_join_p127 β σ [x0, x1, x2, x3, x4, x5, x4, x5]) else (rec tG_Uni_join_p127 β σ [x0, x1, x2, x3, x4, x5, (σ.2.1 60 x5), x5])) else none)
def kY_Uni_join_p127 (rec : zF) (β : Nat) (σ : zS) (x0 x1 x2 x3 x4 x5 x6 x7 : Int) : Option zR := if zb x7 12 then (lt_ (zA σ 60 x7 x6) (fun σ1 => if zr (x5 + 1) then (rec tG_Uni_join_p90 β σ1 [x0, x1, x2, x3, x4, (x5 + 1)]) else none)) else none
def kY_Uni_join_p198 (rec : zF) (β : Nat) (σ : zS) (x0 x1 x2 x3 x4 x5 : Int) : Option zR := rec tG_Uni_join_p203 β σ [x0, x1, x2, x3, x4, x5, 1]
def kY_Uni_join_p203 (rec : zF) (β : Nat) (σ : zS) (x0 x1 x2 x3 x4 x5 x6 : Int) : Option zR := if x6 = 0 ∨ x6 = 1 then (some (σ, x6)) else none
def kY_Uni_meet (rec : zF) (β : Nat) (σ : zS) (x0 x1 x2 x3 : Int) : Option zR := if zb x0 12 then (if (σ.2.1 61 x0) = (-1) then (if zb x1 (σ.2.2 48) then (if 1 ≤ β then (zbd (rec tC_Sym_isPredicate (β - 1) σ [(σ.2.1 48 x1)]) (fun σ1 r1 => if r1 = 0 then (if 1 ≤ β then (zbd (rec tC_Uni_occurs (β - 1) σ1 [x0, x1, x2]) (fun σ2 r2 => if r2 = 0 then (lt_ (zA σ2 61 x0 x1) (fun σ3 => lt_ (zA σ3 62 x0 x2) (fun σ4 => lt_ (zI σ4 5905 (zor (σ4.1 5905) (zshl 1 x0))) (fun σ5 => some (σ5, 1))))) else (rec tG_Uni_meet_p39 β σ2 [x0, x1, x2, x3]))) else none) else (rec tG_Uni_meet_p39 β σ1 [x0, x1, x2, x3]))) else none) else none) else (if x2 = 0 then (rec tG_Uni_meet_p78 β σ [x0, x1, x2, x3, 0]) else (rec tG_Uni_meet_p78 β σ [x0, x1, x2, x3, 1]))) else none
def kY_Uni_meet_p39 (rec : zF) (β : Nat) (σ : zS) (x0 x1 x2 x3 : Int) : Option zR := some (σ, 0)
def kY_Uni_meet_p78 (rec : zF) (β : Nat) (σ : zS) (x0 x1 x2 x3 x4 : Int) : Option zR := if x2 = 0 then (if zr (2 * x0) then (if zr ((2 * x0) + x4) then (if zr (((2 * x0) + x4) * 140) then (if zr ((((2 * x0) + x4) * 140) + x1) then (rec tG_Uni_meet_p107 β σ [x0, x1, x2, x3, x4, (σ.1 5906), ((((2 * x0) + x4) * 140) + x1)]) else none) else none) else none) else none) else (if zr (2 * x0) then (if zr ((2 * x0) + x4) then (if zr (((2 * x0) + x4) * 140) then (if zr ((((2 * x0) + x4) * 140) + x1) then (rec tG_Uni_meet_p107 β σ [x0, x1, x2, x3, x4, (σ.1 5907), ((((2 * x0) + x4) * 140) + x1)]) else none) else none) else none) else none)
def kY_Uni_meet_p107 (rec : zF) (β : Nat) (σ : zS) (x0 x1 x2 x3 x4 x5 x6 : Int) : Option zR := if zr (x6 - x5) then (if (x6 - x5) < 0 then (rec tG_Uni_meet_p154 β σ [x0, x1, x2, x3, x4, (x6 - x5)]) else (if 3360 ≤ (x6 - x5) then (rec tG_Uni_meet_p154 β σ [x0, x1, x2, x3, x4, (x6 - x5)]) else (if zb (x6 - x5) 3360 then (if (σ.2.1 63 (x6 - x5)) = 0 then (lt_ (zA σ 63 (x6 - x5) 1) (fun σ1 => if zrok σ1 6401 65 then (lt_ (zAdd σ1 6401 65 (x6 - x5)) (fun σ2 => rec tG_Uni_meet_p154 β σ2 [x0, x1, x2, x3, x4, (x6 - x5)])) else none)) else (some (σ, 1))) else none))) else none
def kY_Uni_meet_p154 (rec : zF) (β : Nat) (σ : zS) (x0 x1 x2 x3 x4 x5 : Int) : Option zR := if zb x0 12 then (if zr (x3 + 1) then (if 1 ≤ β then (zbd (rec tG_Uni_unite (β - 1) σ [(σ.2.1 61 x0), (σ.2.1 62 x0), x1, x2, (x3 + 1)]) (fun σ1 r1 => if r1 = 0 ∨ r1 = 1 then (some (σ1, r1)) else none)) else none) else none) else none
def kY_Uni_unite (rec : zF) (β : Nat) (σ : zS) (x0 x1 x2 x3 x4 : Int) : Option zR := if x4 ≤ 48 then (rec tG_Uni_unite_p30 β σ [x0, x1, x2, x3, x4, x0, x2, 1, 0]) else (some (σ, 0))
def kY_Uni_unite_p30 (rec : zF) (β : Nat) (σ : zS) (x0 x1 x2 x3 x4 x5 x6 x7 x8 : Int) : Option zR := if 100 ≤ x8 then (rec tG_Uni_unite_p155 β σ [x0, x1, x2, x3, x4, x5, x6, x7, x8]) else (if x7 ≤ 0 then (rec tG_Uni_unite_p155 β σ [x0, x1, x2, x3, x4, x5, x6, x7, x8]) else (if zb x5 (σ.2.2 48) then (if (σ.2.1 48 x5) < 0 then (rec tG_Uni_unite_p58 β σ [x0, x1, x2, x3, x4, x5, x6, x7, x8]) else (if zb x6 (σ.2.2 48) then (if 0 ≤ (σ.2.1 48 x6) then (if (σ.2.1 48 x5) = (σ.2.1 48 x6) then (if zb (σ.2.1 48 x5) 551 then (if zr (x5 + 1) then (if zr (x6 + 1) then (if zr ((σ.2.1 7 (σ.2.1 48 x5)) - 1) then (if zr (x7 + ((σ.2.1 7 (σ.2.1 48 x5)) - 1)) then (rec tG_Uni_unite_p149 β σ [x0, x1, x2, x3, x4, (x5 + 1), (x6 + 1), (x7 + ((σ.2.1 7 (σ.2.1 48 x5)) - 1)), x8]) else none) else none) else none) else none) else none) else (some (σ, 0))) else (rec tG_Uni_unite_p58 β σ [x0, x1, x2, x3, x4, x5, x6, x7, x8])) else none)) else none))
def kY_Uni_unite_p58 (rec : zF) (β : Nat) (σ : zS) (x0 x1 x2 x3 x4 x5 x6 x7 x8 : Int) : Option zR := if 1 ≤ β then (zbd (rec tG_Uni_uniteVariable (β - 1) σ [x5, x1, x6, x3, x4]) (fun σ1 r1 => if r1 = 0 then (some (σ1, 0)) else (if 1 ≤ β then (zbd (rec tC_Sym_after_48 (β - 1) σ1 [x5]) (fun σ2 r2 => if 1 ≤ β then (zbd (rec tC_Sym_after_48 (β - 1) σ2 [x6]) (fun σ3 r3 => if zr (x7 + (-1)) then (rec tG_Uni_unite_p149 β σ3 [x0, x1, x2, x3, x4, r2, r3, (x7 + (-1)), x8]) else none)) else none)) else none))) else none
def kY_Uni_unite_p149 (rec : zF) (β : Nat) (σ : zS) (x0 x1 x2 x3 x4 x5 x6 x7 x8 : Int) : Option zR := if zr (x8 + 1) then (rec tG_Uni_unite_p30 β σ [x0, x1, x2, x3, x4, x5, x6, x7, (x8 + 1)]) else none
def kY_Uni_unite_p155 (rec : zF) (β : Nat) (σ : zS) (x0 x1 x2 x3 x4 x5 x6 x7 x8 : Int) : Option zR := some (σ, 1)
def kY_Uni_uniteVariable (rec : zF) (β : Nat) (σ : zS) (x0 x1 x2 x3 x4 : Int) : Option zR := if zb x0 (σ.2.2 48) then (if 0 ≤ (σ.2.1 48 x0) then (rec tG_Uni_uniteVariable_p34 β σ [x0, x1, x2, x3, x4, (-1)]) else (if zr ((-1 - (σ.2.1 48 x0)) + x1) then (if zb ((-1 - (σ.2.1 48 x0)) + x1) 12 then (rec tG_Uni_uniteVariable_p34 β σ [x0, x1, x2, x3, x4, (σ.2.1 60 ((-1 - (σ.2.1 48 x0)) + x1))]) else none) else none)) else none
def kY_Uni_uniteVariable_p34 (rec : zF) (β : Nat) (σ : zS) (x0 x1 x2 x3 x4 x5 : Int) : Option zR := if zb x2 (σ.2.2 48) then (if 0 ≤ (σ.2.1 48 x2) then (rec tG_Uni_uniteVariable_p71 β σ [x0, x1, x2, x3, x4, x5, (-1)]) else (if zr ((-1 - (σ.2.1 48 x2)) + x3) then (if zb ((-1 - (σ.2.1 48 x2)) + x3) 12 then (rec tG_Uni_uniteVariable_p71 β σ [x0, x1, x2, x3, x4, x5, (σ.2.1 60 ((-1 - (σ.2.1 48 x2)) + x3))]) else none) else none)) else none
def kY_Uni_uniteVariable_p71 (rec : zF) (β : Nat) (σ : zS) (x0 x1 x2 x3 x4 x5 x6 : Int) : Option zR := if x5 = x6 then (some (σ, 1)) else (if x5 = (-1) then (if 1 ≤ β then (zbd (rec tG_Uni_meet (β - 1) σ [x6, x0, x1, x4]) (fun σ3 r3 => if r3 = 0 ∨ r3 = 1 then (some (σ3, r3)) else none)) else none) else (if x6 = (-1) then (if 1 ≤ β then (zbd (rec tG_Uni_meet (β - 1) σ [x5, x2, x3, x4]) (fun σ2 r2 => if r2 = 0 ∨ r2 = 1 then (some (σ2, r2)) else none)) else none) else (if 1 ≤ β then (zbd (rec tG_Uni_join (β - 1) σ [x5, x6, x4]) (fun σ1 r1 => if r1 = 0 ∨ r1 = 1 then (some (σ1, r1)) else none)) else none)))
def kY_Wds_open_2 (rec : zF) (β : Nat) (σ : zS) (x0 : Int) : Option zR := lt_ (zI σ 3201 x0) (fun σ1 => lt_ (zI σ1 3206 0) (fun σ2 => lt_ (zI σ2 3207 0) (fun σ3 => if 1 ≤ β then (zbd (rec tC_Wds_advance (β - 1) σ3 []) (fun σ4 r4 => some (σ4, 0))) else none)))
def kY_CP_clause (rec : zF) (β : Nat) (σ : zS) (x0 x1 : Int) : Option zR := if 1 ≤ β then (zbd (rec tC_Sto_has (β - 1) σ [x0]) (fun σ1 r1 => if r1 = 0 then (if zrT σ1 then (lt_ (zT σ1 3) (fun σ99 => some (σ99, 0))) else none) else (if x1 < 0 then (rec tP_CP_clause_p31 β σ1 [x0, x1]) else (if x1 ≤ 7 then (if 1 ≤ β then (zbd (rec tC_Sto_fact (β - 1) σ1 [x0, x1]) (fun σ2 r2 => some (σ2, r2))) else none) else (rec tP_CP_clause_p31 β σ1 [x0, x1]))))) else none
def kY_CP_clause_p31 (rec : zF) (β : Nat) (σ : zS) (x0 x1 : Int) : Option zR := if zrT σ then (lt_ (zT σ 2) (fun σ99 => some (σ99, 0))) else none
def kY_CP_end (rec : zF) (β : Nat) (σ : zS) (x0 : Int) : Option zR := if x0 < 0 then (rec tP_CP_end_p15 β σ [x0]) else (if x0 ≤ (σ.1 101) then (lt_ (zI σ 101 x0) (fun σ1 => some (σ1, x0))) else (rec tP_CP_end_p15 β σ [x0]))
def kY_CP_end_p15 (rec : zF) (β : Nat) (σ : zS) (x0 : Int) : Option zR := if zrT σ then (lt_ (zT σ 2) (fun σ99 => some (σ99, 0))) else none
def kY_CP_feed (rec : zF) (β : Nat) (σ : zS) (x0 x1 x2 x3 x4 : Int) : Option zR := if zr ((σ.1 101) + 20) then (if ((σ.1 101) + 20) ≤ 65536 then (if 1 ≤ β then (zbd (rec tG_CP_addBytes (β - 1) σ [x0]) (fun σ1 r1 => if 1 ≤ β then (zbd (rec tG_CP_addBytes (β - 1) σ1 [x1]) (fun σ2 r2 => if 1 ≤ β then (zbd (rec tG_CP_addBytes (β - 1) σ2 [x2]) (fun σ3 r3 => if 1 ≤ β then (zbd (rec tG_CP_addBytes (β - 1) σ3 [x3]) (fun σ4 r4 => if 1 ≤ β then (zbd (rec tG_CP_addBytes (β - 1) σ4 [x4]) (fun σ5 r5 => some (σ5, (σ5.1 101)))) else none)) else none)) else none)) else none)) else none) else (if zrT σ then (lt_ (zT σ 1) (fun σ99 => some (σ99, 0))) else none)) else none
def kY_CP_literal (rec : zF) (β : Nat) (σ : zS) (x0 x1 x2 : Int) : Option zR := if 1 ≤ β then (zbd (rec tC_Sto_has (β - 1) σ [x0]) (fun σ1 r1 => if r1 = 0 then (rec tP_CP_literal_p28 β σ1 [x0, x1, x2]) else (if x1 < 0 then (rec tP_CP_literal_p28 β σ1 [x0, x1, x2]) else (if 1 ≤ β then (zbd (rec tC_Sto_fact (β - 1) σ1 [x0, 3]) (fun σ2 r2 => if x1 < r2 then (if x2 < 0 then (rec tP_CP_literal_p47 β σ2 [x0, x1, x2]) else (if x2 ≤ 3 then (if 1 ≤ β then (zbd (rec tC_Sto_judge (β - 1) σ2 [x0]) (fun σ3 r3 => if 1 ≤ β then (zbd (rec tC_Sto_headOf (β - 1) σ3 [x0, x1]) (fun σ4 r4 => if x2 = 3 then (if zr (r4 + 3) then (if zb (r4 + 3) (σ4.2.2 48) then (if zr (r4 + 4) then (if zb (r4 + 4) (σ4.2.2 48) then (if zr ((σ4.2.1 48 (r4 + 3)) + (σ4.2.1 48 (r4 + 4))) then (some (σ4, ((σ4.2.1 48 (r4 + 3)) + (σ4.2.1 48 (r4 + 4))))) else none) else none) else none) else none) else none) else (if x2 = 0 then (rec tP_CP_literal_p131 β σ4 [x0, x1, x2, r4, 0, r4]) else (if x2 = 1 then (rec tP_CP_literal_p131 β σ4 [x0, x1, x2, r4, 1, r4]) else (rec tP_CP_literal_p131 β σ4 [x0, x1, x2, r4, 2, r4]))))) else none)) else none) else (rec tP_CP_literal_p47 β σ2 [x0, x1, x2]))) else (rec tP_CP_literal_p28 β σ2 [x0, x1, x2]))) else none)))) else none
def kY_CP_literal_p28 (rec : zF) (β : Nat) (σ : zS) (x0 x1 x2 : Int) : Option zR := if zrT σ then (lt_ (zT σ 3) (fun σ99 => some (σ99, 0))) else none
def kY_CP_literal_p47 (rec : zF) (β : Nat) (σ : zS) (x0 x1 x2 : Int) : Option zR := if zrT σ then (lt_ (zT σ 2) (fun σ99 => some (σ99, 0))) else none
def kY_CP_literal_p131 (rec : zF) (β : Nat) (σ : zS) (x0 x1 x2 x3 x4 x5 : Int) : Option zR := if zr (x5 + x4) then (if zb (x5 + x4) (σ.2.2 48) then (some (σ, (σ.2.1 48 (x5 + x4)))) else none) else none
def kY_CP_look (rec : zF) (β : Nat) (σ : zS) (x0 x1 : Int) : Option zR := if x1 < 1 then (rec tP_CP_look_p10 β σ [x0, x1]) else (if x1 ≤ 3 then (if 1 ≤ β then (zbd (rec tC_Mod_suitsText (β - 1) σ [x0, x1]) (fun σ1 r1 => if r1 = 0 then (some (σ1, (-1))) else (rec tP_CP_look_p46 β σ1 [x0, x1, 0, (σ1.1 5403)]))) else none) else (rec tP_CP_look_p10 β σ [x0, x1]))
def kY_CP_look_p10 (rec : zF) (β : Nat) (σ : zS) (x0 x1 : Int) : Option zR := if zrT σ then (lt_ (zT σ 2) (fun σ99 => some (σ99, 0))) else none
def kY_CP_look_p46 (rec : zF) (β : Nat) (σ : zS) (x0 x1 x2 x3 : Int) : Option zR := if (σ.1 5402) ≤ x3 then (some (σ, x2)) else (if 1 ≤ β then (zbd (rec tC_Mod_makesTrue (β - 1) σ [x3]) (fun σ1 r1 => if r1 = 0 then (if zr (x2 + 1) then (rec tP_CP_look_p73 β σ1 [x0, x1, (x2 + 1), x3]) else none) else (rec tP_CP_look_p73 β σ1 [x0, x1, x2, x3]))) else none)
def kY_CP_look_p73 (rec : zF) (β : Nat) (σ : zS) (x0 x1 x2 x3 : Int) : Option zR := if zr (x3 + 1) then (rec tP_CP_look_p46 β σ [x0, x1, x2, (x3 + 1)]) else none
def kY_CP_out (rec : zF) (β : Nat) (σ : zS) (x0 : Int) : Option zR := if x0 < 0 then (rec tP_CP_out_p15 β σ [x0]) else (if x0 < (σ.1 301) then (if zb x0 (σ.2.2 4) then (some (σ, (σ.2.1 4 x0))) else none) else (rec tP_CP_out_p15 β σ [x0]))
def kY_CP_out_p15 (rec : zF) (β : Nat) (σ : zS) (x0 : Int) : Option zR := if zrT σ then (lt_ (zT σ 4) (fun σ99 => some (σ99, 0))) else none
def kY_CP_rewrote (rec : zF) (β : Nat) (σ : zS) (x0 x1 : Int) : Option zR := if 1 ≤ β then (zbd (rec tC_Sto_has (β - 1) σ [x0]) (fun σ1 r1 => if r1 = 0 then (rec tP_CP_rewrote_p29 β σ1 [x0, x1]) else (if x1 < 0 then (rec tP_CP_rewrote_p29 β σ1 [x0, x1]) else (if 1 ≤ β then (zbd (rec tC_Sto_fact (β - 1) σ1 [x0, 7]) (fun σ2 r2 => if x1 < r2 then (if 1 ≤ β then (zbd (rec tC_Sto_fact (β - 1) σ2 [x0, 9]) (fun σ3 r3 => if zr (r3 + x1) then (if zb (r3 + x1) (σ3.2.2 50) then (some (σ3, (σ3.2.1 50 (r3 + x1)))) else none) else none)) else none) else (rec tP_CP_rewrote_p29 β σ2 [x0, x1]))) else none)))) else none
def kY_CP_rewrote_p29 (rec : zF) (β : Nat) (σ : zS) (x0 x1 : Int) : Option zR := if zrT σ then (lt_ (zT σ 3) (fun σ99 => some (σ99, 0))) else none
def kY_CP_run (rec : zF) (β : Nat) (σ : zS) (x0 : Int) : Option zR := if x0 < 1 then (rec tP_CP_run_p11 β σ [x0]) else (if x0 ≤ 100 then (rec tP_CP_run_p23 β σ [x0, 0]) else (rec tP_CP_run_p11 β σ [x0]))
def kY_CP_run_p11 (rec : zF) (β : Nat) (σ : zS) (x0 : Int) : Option zR := if zrT σ then (lt_ (zT σ 2) (fun σ99 => some (σ99, 0))) else none
def kY_CP_run_p23 (rec : zF) (β : Nat) (σ : zS) (x0 x1 : Int) : Option zR := if x0 ≤ x1 then (rec tP_CP_run_p65 β σ [x0, x1]) else (if (σ.1 5300) = 0 then (if 1 ≤ β then (zbd (rec tG_Sat_takeGiven (β - 1) σ []) (fun σ1 r1 => if r1 = (-1) then (rec tP_CP_run_p59 β σ1 [x0, x1, r1]) else (if 1 ≤ β then (zbd (rec tG_Sat_inferFrom (β - 1) σ1 [r1]) (fun σ2 r2 => rec tP_CP_run_p59 β σ2 [x0, x1, r1])) else none))) else none) else (rec tP_CP_run_p65 β σ [x0, x1]))
def kY_CP_run_p59 (rec : zF) (β : Nat) (σ : zS) (x0 x1 x2 : Int) : Option zR := if zr (x1 + 1) then (rec tP_CP_run_p23 β σ [x0, (x1 + 1)]) else none
def kY_CP_run_p65 (rec : zF) (β : Nat) (σ : zS) (x0 x1 : Int) : Option zR := some (σ, (σ.1 5300))
def kY_CP_search (rec : zF) (β : Nat) (σ : zS) (x0 x1 x2 : Int) : Option zR := if x1 < 1 then (rec tP_CP_search_p21 β σ [x0, x1, x2]) else (if 3 < x1 then (rec tP_CP_search_p21 β σ [x0, x1, x2]) else (if x2 < 1 then (rec tP_CP_search_p21 β σ [x0, x1, x2]) else (if x2 ≤ 50 then (rec tP_CP_search_p35 β σ [x0, x1, x2, 0]) else (rec tP_CP_search_p21 β σ [x0, x1, x2]))))
def kY_CP_search_p21 (rec : zF) (β : Nat) (σ : zS) (x0 x1 x2 : Int) : Option zR := if zrT σ then (lt_ (zT σ 2) (fun σ99 => some (σ99, 0))) else none
def kY_CP_search_p35 (rec : zF) (β : Nat) (σ : zS) (x0 x1 x2 x3 : Int) : Option zR := if x2 ≤ x3 then (some (σ, (-1))) else (if 1 ≤ β then (zbd (rec tC_Mod_suitsText (β - 1) σ [(zwa x0 x3), x1]) (fun σ1 r1 => if r1 = 0 then (if zr (x3 + 1) then (rec tP_CP_search_p35 β σ1 [x0, x1, x2, (x3 + 1)]) else none) else (some (σ1, x3)))) else none)
def kY_CP_step (rec : zF) (β : Nat) (σ : zS) (x0 : Int) : Option zR := if x0 < 0 then (rec tP_CP_step_p18 β σ [x0]) else (if x0 < (σ.1 5501) then (if zb x0 (σ.2.2 56) then (some (σ, (σ.2.1 56 x0))) else none) else (rec tP_CP_step_p18 β σ [x0]))
def kY_CP_step_p18 (rec : zF) (β : Nat) (σ : zS) (x0 : Int) : Option zR := if zrT σ then (lt_ (zT σ 4) (fun σ99 => some (σ99, 0))) else none
def kY_CP_symbol (rec : zF) (β : Nat) (σ : zS) (x0 x1 : Int) : Option zR := if x0 < 0 then (rec tP_CP_symbol_p15 β σ [x0, x1]) else (if x0 < (σ.1 605) then (if x1 < 0 then (rec tP_CP_symbol_p35 β σ [x0, x1]) else (if x1 ≤ 2 then (if x1 = 0 then (if zb x0 551 then (some (σ, (σ.2.1 7 x0))) else none) else (if x1 = 1 then (if 1 ≤ β then (zbd (rec tC_Sym_isPredicate (β - 1) σ [x0]) (fun σ2 r2 => rec tP_CP_symbol_p83 β σ2 [x0, x1, r2])) else none) else (if 1 ≤ β then (zbd (rec tC_Sym_isWitness (β - 1) σ [x0]) (fun σ1 r1 => rec tP_CP_symbol_p83 β σ1 [x0, x1, r1])) else none))) else (rec tP_CP_symbol_p35 β σ [x0, x1]))) else (rec tP_CP_symbol_p15 β σ [x0, x1]))
def kY_CP_symbol_p15 (rec : zF) (β : Nat) (σ : zS) (x0 x1 : Int) : Option zR := if zrT σ then (lt_ (zT σ 3) (fun σ99 => some (σ99, 0))) else none
def kY_CP_symbol_p35 (rec : zF) (β : Nat) (σ : zS) (x0 x1 : Int) : Option zR := if zrT σ then (lt_ (zT σ 2) (fun σ99 => some (σ99, 0))) else none
def kY_CP_symbol_p83 (rec : zF) (β : Nat) (σ : zS) (x0 x1 x2 : Int) : Option zR := if x2 = 0 then (rec tP_CP_symbol_p93 β σ [x0, x1, x2, 0]) else (rec tP_CP_symbol_p93 β σ [x0, x1, x2, 1])
def kY_CP_symbol_p93 (rec : zF) (β : Nat) (σ : zS) (x0 x1 x2 x3 : Int) : Option zR := some (σ, x3)
def uz_11 (f : Int → Int → Int → Int → Int → Int → Int → Int → Int → Int → Int → Option zR) (xs : List Int) : Option zR := match xs with
  | [x0, x1, x2, x3, x4, x5, x6, x7, x8, x9, x10] => f x0 x1 x2 x3 x4 x5 x6 x7 x8 x9 x10
  | _ => none
theorem uR_11 {β : Nat} {kz : Int → Int → Int → Int → Int → Int → Int → Int → Int → Int → Int → Option zR} {km : Int32 → Int32 → Int32 → Int32 → Int32 → Int32 → Int32 → Int32 → Int32 → Int32 → Int32 → Option mR} (h : ∀ x0 x1 x2 x3 x4 x5 x6 x7 x8 x9 x10, zr x0 → zr x1 → zr x2 → zr x3 → zr x4 → zr x5 → zr x6 → zr x7 → zr x8 → zr x9 → zr x10 → Rf (kz x0 x1 x2 x3 x4 x5 x6 x7 x8 x9 x10) (km (i32 x0) (i32 x1) (i32 x2) (i32 x3) (i32 x4) (i32 x5) (i32 x6) (i32 x7) (i32 x8) (i32 x9) (i32 x10)) β) (xs : List Int) (hx : ∀ x ∈ xs, zr x) : Rf (uz_11 kz xs) (u_11 km (xs.map i32)) β := by
  match xs, hx with
  | [x0, x1, x2, x3, x4, x5, x6, x7, x8, x9, x10], hx => exact h x0 x1 x2 x3 x4 x5 x6 x7 x8 x9 x10 (hx x0 (by simp)) (hx x1 (by simp)) (hx x2 (by simp)) (hx x3 (by simp)) (hx x4 (by simp)) (hx x5 (by simp)) (hx x6 (by simp)) (hx x7 (by simp)) (hx x8 (by simp)) (hx x9 (by simp)) (hx x10 (by simp))
  | [], _ => exact Rf_none
  | [_], _ => exact Rf_none
  | [_, _], _ => exact Rf_none
  | [_, _, _], _ => exact Rf_none
  | [_, _, _, _], _ => exact Rf_none
  | [_, _, _, _, _], _ => exact Rf_none
  | [_, _, _, _, _, _], _ => exact Rf_none
  | [_, _, _, _, _, _, _], _ => exact Rf_none
  | [_, _, _, _, _, _, _, _], _ => exact Rf_none
  | [_, _, _, _, _, _, _, _, _], _ => exact Rf_none
  | [_, _, _, _, _, _, _, _, _, _], _ => exact Rf_none
  | _ :: _ :: _ :: _ :: _ :: _ :: _ :: _ :: _ :: _ :: _ :: _ :: _, _ => exact Rf_none
def uz_12 (f : Int → Int → Int → Int → Int → Int → Int → Int → Int → Int → Int → Int → Option zR) (xs : List Int) : Option zR := match xs with
  | [x0, x1, x2, x3, x4, x5, x6, x7, x8, x9, x10, x11] => f x0 x1 x2 x3 x4 x5 x6 x7 x8 x9 x10 x11
  | _ => none
theorem uR_12 {β : Nat} {kz : Int → Int → Int → Int → Int → Int → Int → Int → Int → Int → Int → Int → Option zR} {km : Int32 → Int32 → Int32 → Int32 → Int32 → Int32 → Int32 → Int32 → Int32 → Int32 → Int32 → Int32 → Option mR} (h : ∀ x0 x1 x2 x3 x4 x5 x6 x7 x8 x9 x10 x11, zr x0 → zr x1 → zr x2 → zr x3 → zr x4 → zr x5 → zr x6 → zr x7 → zr x8 → zr x9 → zr x10 → zr x11 → Rf (kz x0 x1 x2 x3 x4 x5 x6 x7 x8 x9 x10 x11) (km (i32 x0) (i32 x1) (i32 x2) (i32 x3) (i32 x4) (i32 x5) (i32 x6) (i32 x7) (i32 x8) (i32 x9) (i32 x10) (i32 x11)) β) (xs : List Int) (hx : ∀ x ∈ xs, zr x) : Rf (uz_12 kz xs) (u_12 km (xs.map i32)) β := by
  match xs, hx with
  | [x0, x1, x2, x3, x4, x5, x6, x7, x8, x9, x10, x11], hx => exact h x0 x1 x2 x3 x4 x5 x6 x7 x8 x9 x10 x11 (hx x0 (by simp)) (hx x1 (by simp)) (hx x2 (by simp)) (hx x3 (by simp)) (hx x4 (by simp)) (hx x5 (by simp)) (hx x6 (by simp)) (hx x7 (by simp)) (hx x8 (by simp)) (hx x9 (by simp)) (hx x10 (by simp)) (hx x11 (by simp))
  | [], _ => exact Rf_none
  | [_], _ => exact Rf_none
  | [_, _], _ => exact Rf_none
  | [_, _, _], _ => exact Rf_none
  | [_, _, _, _], _ => exact Rf_none
  | [_, _, _, _, _], _ => exact Rf_none
  | [_, _, _, _, _, _], _ => exact Rf_none
  | [_, _, _, _, _, _, _], _ => exact Rf_none
  | [_, _, _, _, _, _, _, _], _ => exact Rf_none
  | [_, _, _, _, _, _, _, _, _], _ => exact Rf_none
  | [_, _, _, _, _, _, _, _, _, _], _ => exact Rf_none
  | [_, _, _, _, _, _, _, _, _, _, _], _ => exact Rf_none
  | _ :: _ :: _ :: _ :: _ :: _ :: _ :: _ :: _ :: _ :: _ :: _ :: _ :: _, _ => exact Rf_none
def uz_13 (f : Int → Int → Int → Int → Int → Int → Int → Int → Int → Int → Int → Int → Int → Option zR) (xs : List Int) : Option zR := match xs with
  | [x0, x1, x2, x3, x4, x5, x6, x7, x8, x9, x10, x11, x12] => f x0 x1 x2 x3 x4 x5 x6 x7 x8 x9 x10 x11 x12
  | _ => none
theorem uR_13 {β : Nat} {kz : Int → Int → Int → Int → Int → Int → Int → Int → Int → Int → Int → Int → Int → Option zR} {km : Int32 → Int32 → Int32 → Int32 → Int32 → Int32 → Int32 → Int32 → Int32 → Int32 → Int32 → Int32 → Int32 → Option mR} (h : ∀ x0 x1 x2 x3 x4 x5 x6 x7 x8 x9 x10 x11 x12, zr x0 → zr x1 → zr x2 → zr x3 → zr x4 → zr x5 → zr x6 → zr x7 → zr x8 → zr x9 → zr x10 → zr x11 → zr x12 → Rf (kz x0 x1 x2 x3 x4 x5 x6 x7 x8 x9 x10 x11 x12) (km (i32 x0) (i32 x1) (i32 x2) (i32 x3) (i32 x4) (i32 x5) (i32 x6) (i32 x7) (i32 x8) (i32 x9) (i32 x10) (i32 x11) (i32 x12)) β) (xs : List Int) (hx : ∀ x ∈ xs, zr x) : Rf (uz_13 kz xs) (u_13 km (xs.map i32)) β := by
  match xs, hx with
  | [x0, x1, x2, x3, x4, x5, x6, x7, x8, x9, x10, x11, x12], hx => exact h x0 x1 x2 x3 x4 x5 x6 x7 x8 x9 x10 x11 x12 (hx x0 (by simp)) (hx x1 (by simp)) (hx x2 (by simp)) (hx x3 (by simp)) (hx x4 (by simp)) (hx x5 (by simp)) (hx x6 (by simp)) (hx x7 (by simp)) (hx x8 (by simp)) (hx x9 (by simp)) (hx x10 (by simp)) (hx x11 (by simp)) (hx x12 (by simp))
  | [], _ => exact Rf_none
  | [_], _ => exact Rf_none
  | [_, _], _ => exact Rf_none
  | [_, _, _], _ => exact Rf_none
  | [_, _, _, _], _ => exact Rf_none
  | [_, _, _, _, _], _ => exact Rf_none
  | [_, _, _, _, _, _], _ => exact Rf_none
  | [_, _, _, _, _, _, _], _ => exact Rf_none
  | [_, _, _, _, _, _, _, _], _ => exact Rf_none
  | [_, _, _, _, _, _, _, _, _], _ => exact Rf_none
  | [_, _, _, _, _, _, _, _, _, _], _ => exact Rf_none
  | [_, _, _, _, _, _, _, _, _, _, _], _ => exact Rf_none
  | [_, _, _, _, _, _, _, _, _, _, _, _], _ => exact Rf_none
  | _ :: _ :: _ :: _ :: _ :: _ :: _ :: _ :: _ :: _ :: _ :: _ :: _ :: _ :: _, _ => exact Rf_none
theorem rY_CP_count (rz : zF) (rm : mF) (hR : Rc rz rm) (β : Nat) (σ : zS) (hσ : zOK σ) (x0 : Int) (hx0 : zr x0) : Rf (kY_CP_count rz β σ x0) (kC_CP_count rm (cv σ) (i32 x0)) β := by
  unfold kY_CP_count kC_CP_count
  refine Rf_out rfl hx0 (fun _ => ?_) (fun _ => ?_)
  · exact Rf_some hσ (by decide) (by decide)
  · refine Rf_eq rfl (by decide) hx0 (by decide) (fun _ => ?_) (fun _ => ?_)
    · exact Rf_some hσ (hσ.1 5402) rfl
    · refine Rf_eq rfl (by decide) hx0 (by decide) (fun _ => ?_) (fun _ => ?_)
      · exact Rf_some hσ (hσ.1 5403) rfl
      · refine Rf_eq rfl (by decide) hx0 (by decide) (fun _ => ?_) (fun _ => ?_)
        · refine Rf_bnd hR hσ (zrs_cons (by decide) zrs_nil) (e_cons (by decide) rfl) (fun σ1 r1 hσ1 hr1 => ?_)
          exact Rf_some hσ1 hr1 rfl
        · refine Rf_eq rfl (by decide) hx0 (by decide) (fun _ => ?_) (fun _ => ?_)
          · refine Rf_bnd hR hσ (zrs_cons (by decide) zrs_nil) (e_cons (by decide) rfl) (fun σ2 r2 hσ2 hr2 => ?_)
            exact Rf_some hσ2 hr2 rfl
          · refine Rf_eq rfl (by decide) hx0 (by decide) (fun _ => ?_) (fun _ => ?_)
            · exact Rf_some hσ (hσ.1 5301) rfl
            · refine Rf_eq rfl (by decide) hx0 (by decide) (fun _ => ?_) (fun _ => ?_)
              · exact Rf_some hσ (hσ.1 5302) rfl
              · refine Rf_eq rfl (by decide) hx0 (by decide) (fun _ => ?_) (fun _ => ?_)
                · exact Rf_some hσ (hσ.1 5303) rfl
                · refine Rf_eq rfl (by decide) hx0 (by decide) (fun _ => ?_) (fun _ => ?_)
                  · exact Rf_some hσ (hσ.1 5304) rfl
                  · refine Rf_eq rfl (by decide) hx0 (by decide) (fun _ => ?_) (fun _ => ?_)
                    · exact Rf_some hσ (hσ.1 5305) rfl
                    · refine Rf_eq rfl (by decide) hx0 (by decide) (fun _ => ?_) (fun _ => ?_)
                      · exact Rf_some hσ (hσ.1 5306) rfl
                      · refine Rf_eq rfl (by decide) hx0 (by decide) (fun _ => ?_) (fun _ => ?_)
                        · exact Rf_some hσ (hσ.1 5300) rfl
                        · refine Rf_eq rfl (by decide) hx0 (by decide) (fun _ => ?_) (fun _ => ?_)
                          · exact Rf_some hσ (hσ.1 605) rfl
                          · refine Rf_eq rfl (by decide) hx0 (by decide) (fun _ => ?_) (fun _ => ?_)
                            · exact Rf_some hσ (hσ.1 101) rfl
                            · exact Rf_some hσ (hσ.1 301) rfl
theorem rY_CP_fault (rz : zF) (rm : mF) (hR : Rc rz rm) (β : Nat) (σ : zS) (hσ : zOK σ) (x0 : Int) (hx0 : zr x0) : Rf (kY_CP_fault rz β σ x0) (kC_CP_fault rm (cv σ) (i32 x0)) β := by
  unfold kY_CP_fault kC_CP_fault
  refine Rf_eq rfl (by decide) hx0 (by decide) (fun _ => ?_) (fun _ => ?_)
  · exact Rf_some hσ (hσ.1 10) rfl
  · refine Rf_eq rfl (by decide) hx0 (by decide) (fun _ => ?_) (fun _ => ?_)
    · exact Rf_tail hR hσ (zrs_cons hx0 (zrs_cons (hσ.1 11) zrs_nil)) (e_cons rfl (e_cons rfl rfl))
    · exact Rf_tail hR hσ (zrs_cons hx0 (zrs_cons (by decide) zrs_nil)) (e_cons rfl (e_cons (by decide) rfl))
theorem rY_CP_fault_p22 (rz : zF) (rm : mF) (hR : Rc rz rm) (β : Nat) (σ : zS) (hσ : zOK σ) (x0 x1 : Int) (hx0 : zr x0) (hx1 : zr x1) : Rf (kY_CP_fault_p22 rz β σ x0 x1) (kC_CP_fault_p22 rm (cv σ) (i32 x0) (i32 x1)) β := by
  unfold kY_CP_fault_p22 kC_CP_fault_p22
  exact Rf_some hσ hx1 rfl
theorem rY_CP_proof (rz : zF) (rm : mF) (hR : Rc rz rm) (β : Nat) (σ : zS) (hσ : zOK σ) : Rf (kY_CP_proof rz β σ) (kC_CP_proof rm (cv σ)) β := by
  unfold kY_CP_proof kC_CP_proof
  exact Rf_some hσ (hσ.1 5501) rfl
theorem rY_Dra_cellOf (rz : zF) (rm : mF) (hR : Rc rz rm) (β : Nat) (σ : zS) (hσ : zOK σ) (x0 : Int) (hx0 : zr x0) : Rf (kY_Dra_cellOf rz β σ x0) (kC_Dra_cellOf rm (cv σ) (i32 x0)) β := by
  unfold kY_Dra_cellOf kC_Dra_cellOf
  refine Rf_rd rfl hx0 (fun hb1 => ?_)
  refine Rf_eq (e_rd rfl hb1) (by decide) (hσ.2.1 _ _) (by decide) (fun _ => ?_) (fun _ => ?_)
  · refine Rf_eq rfl (by decide) (hσ.1 3911) (by decide) (fun _ => ?_) (fun _ => ?_)
    · refine Rf_I (by decide) (by decide) hσ (fun σ1 hσ1 => ?_)
      exact Rf_tail hR hσ1 (zrs_cons hx0 zrs_nil) (e_cons rfl rfl)
    · exact Rf_tail hR hσ (zrs_cons hx0 zrs_nil) (e_cons rfl rfl)
  · exact Rf_tail hR hσ (zrs_cons hx0 zrs_nil) (e_cons rfl rfl)
theorem rY_Dra_cellOf_p27 (rz : zF) (rm : mF) (hR : Rc rz rm) (β : Nat) (σ : zS) (hσ : zOK σ) (x0 : Int) (hx0 : zr x0) : Rf (kY_Dra_cellOf_p27 rz β σ x0) (kC_Dra_cellOf_p27 rm (cv σ) (i32 x0)) β := by
  unfold kY_Dra_cellOf_p27 kC_Dra_cellOf_p27
  refine Rf_rd rfl hx0 (fun hb1 => ?_)
  refine Rf_eq (e_rd rfl hb1) (by decide) (hσ.2.1 _ _) (by decide) (fun _ => ?_) (fun _ => ?_)
  · refine Rf_rd rfl (hσ.1 3911) (fun hb2 => ?_)
    refine Rf_A rfl hb2 rfl hx0 hσ (fun σ1 hσ1 => ?_)
    refine Rf_g (fun hg3 => ?_)
    refine Rf_I (e_add rfl (by decide)) hg3 hσ1 (fun σ2 hσ2 => ?_)
    refine Rf_rd2 rfl hb1 ?_
    refine Rf_A rfl hb1 rfl (hσ1.1 3911) hσ2 (fun σ3 hσ3 => ?_)
    exact Rf_tail hR hσ3 (zrs_cons hx0 zrs_nil) (e_cons rfl rfl)
  · exact Rf_tail hR hσ (zrs_cons hx0 zrs_nil) (e_cons rfl rfl)
theorem rY_Dra_cellOf_p64 (rz : zF) (rm : mF) (hR : Rc rz rm) (β : Nat) (σ : zS) (hσ : zOK σ) (x0 : Int) (hx0 : zr x0) : Rf (kY_Dra_cellOf_p64 rz β σ x0) (kC_Dra_cellOf_p64 rm (cv σ) (i32 x0)) β := by
  unfold kY_Dra_cellOf_p64 kC_Dra_cellOf_p64
  refine Rf_rd rfl hx0 (fun hb1 => ?_)
  exact Rf_some hσ (zr_not (zr_ite (by decide) (hσ.2.1 _ _))) (e_not (e_ite (e_rd rfl hb1) (by decide) (hσ.2.1 _ _) (by decide) (by decide) (e_rd rfl hb1)))
theorem rY_Dra_clear (rz : zF) (rm : mF) (hR : Rc rz rm) (β : Nat) (σ : zS) (hσ : zOK σ) : Rf (kY_Dra_clear rz β σ) (kC_Dra_clear rm (cv σ)) β := by
  unfold kY_Dra_clear kC_Dra_clear
  exact Rf_tail hR hσ (zrs_cons (by decide) zrs_nil) (e_cons (by decide) rfl)
theorem rY_Dra_clear_p2 (rz : zF) (rm : mF) (hR : Rc rz rm) (β : Nat) (σ : zS) (hσ : zOK σ) (x0 : Int) (hx0 : zr x0) : Rf (kY_Dra_clear_p2 rz β σ x0) (kC_Dra_clear_p2 rm (cv σ) (i32 x0)) β := by
  unfold kY_Dra_clear_p2 kC_Dra_clear_p2
  refine Rf_le rfl rfl (hσ.1 3911) hx0 (fun _ => ?_) (fun _ => ?_)
  · refine Rf_I (by decide) (by decide) hσ (fun σ1 hσ1 => ?_)
    refine Rf_I (by decide) (by decide) hσ1 (fun σ2 hσ2 => ?_)
    refine Rf_I (by decide) (by decide) hσ2 (fun σ3 hσ3 => ?_)
    refine Rf_I (by decide) (by decide) hσ3 (fun σ4 hσ4 => ?_)
    exact Rf_some hσ4 (by decide) (by decide)
  · refine Rf_rd rfl hx0 (fun hb1 => ?_)
    refine Rf_rd (e_rd rfl hb1) (hσ.2.1 _ _) (fun hb2 => ?_)
    refine Rf_A (e_rd rfl hb1) hb2 (by decide) (by decide) hσ (fun σ5 hσ5 => ?_)
    refine Rf_g (fun hg3 => ?_)
    exact Rf_tail hR hσ5 (zrs_cons hg3 zrs_nil) (e_cons (e_add rfl (by decide)) rfl)
theorem rY_Dra_closeLiteral (rz : zF) (rm : mF) (hR : Rc rz rm) (β : Nat) (σ : zS) (hσ : zOK σ) : Rf (kY_Dra_closeLiteral rz β σ) (kC_Dra_closeLiteral rm (cv σ)) β := by
  unfold kY_Dra_closeLiteral kC_Dra_closeLiteral
  refine Rf_eq rfl (by decide) (hσ.1 3907) (by decide) (fun _ => ?_) (fun _ => ?_)
  · refine Rf_g (fun hg1 => ?_)
    refine Rf_I (e_add rfl (by decide)) hg1 hσ (fun σ1 hσ1 => ?_)
    refine Rf_rd rfl (hσ1.1 3905) (fun hb2 => ?_)
    refine Rf_A rfl hb2 rfl (hσ1.1 3904) hσ1 (fun σ2 hσ2 => ?_)
    exact Rf_tail hR hσ2 zrs_nil rfl
  · exact Rf_tail hR hσ zrs_nil rfl
theorem rY_Dra_closeLiteral_p30 (rz : zF) (rm : mF) (hR : Rc rz rm) (β : Nat) (σ : zS) (hσ : zOK σ) : Rf (kY_Dra_closeLiteral_p30 rz β σ) (kC_Dra_closeLiteral_p30 rm (cv σ)) β := by
  unfold kY_Dra_closeLiteral_p30 kC_Dra_closeLiteral_p30
  exact Rf_some hσ (by decide) (by decide)
theorem rY_Dra_hasSameSides (rz : zF) (rm : mF) (hR : Rc rz rm) (β : Nat) (σ : zS) (hσ : zOK σ) (x0 x1 : Int) (hx0 : zr x0) (hx1 : zr x1) : Rf (kY_Dra_hasSameSides rz β σ x0 x1) (kC_Dra_hasSameSides rm (cv σ) (i32 x0) (i32 x1)) β := by
  unfold kY_Dra_hasSameSides kC_Dra_hasSameSides
  refine Rf_rd rfl hx0 (fun hb1 => ?_)
  refine Rf_rd rfl hx0 (fun hb2 => ?_)
  refine Rf_g (fun hg3 => ?_)
  refine Rf_rd (e_add rfl (by decide)) hg3 (fun hb4 => ?_)
  refine Rf_rd2 rfl hb1 ?_
  refine Rf_rd rfl hx1 (fun hb5 => ?_)
  refine Rf_rd rfl hx1 (fun hb6 => ?_)
  refine Rf_g (fun hg7 => ?_)
  refine Rf_rd (e_add rfl (by decide)) hg7 (fun hb8 => ?_)
  refine Rf_rd2 rfl hb5 ?_
  refine Rf_rd2 rfl hb2 ?_
  refine Rf_rd2 rfl hb6 ?_
  refine Rf_g (fun hg9 => ?_)
  refine Rf_g (fun hg10 => ?_)
  refine Rf_bnd hR hσ (zrs_cons (hσ.2.1 _ _) (zrs_cons hg9 (zrs_cons (hσ.2.1 _ _) (zrs_cons hg10 zrs_nil)))) (e_cons (e_rd rfl hb2) (e_cons (e_sub (e_rd rfl hb2) (e_rd rfl hb2)) (e_cons (e_rd rfl hb6) (e_cons (e_sub (e_rd rfl hb6) (e_rd rfl hb6)) rfl)))) (fun σ1 r1 hσ1 hr1 => ?_)
  refine Rf_eq rfl (by decide) hr1 (by decide) (fun _ => ?_) (fun _ => ?_)
  · refine Rf_g (fun hg11 => ?_)
    refine Rf_g (fun hg12 => ?_)
    exact Rf_tail hR hσ1 (zrs_cons hx0 (zrs_cons hx1 (zrs_cons hg9 (zrs_cons hg11 (zrs_cons hg10 (zrs_cons hg12 zrs_nil)))))) (e_cons rfl (e_cons rfl (e_cons (e_sub (e_rd rfl hb2) (e_rd rfl hb2)) (e_cons (e_sub (e_rd (e_add rfl (by decide)) hb4) (e_rd rfl hb2)) (e_cons (e_sub (e_rd rfl hb6) (e_rd rfl hb6)) (e_cons (e_sub (e_rd (e_add rfl (by decide)) hb8) (e_rd rfl hb6)) rfl))))))
  · refine Rf_rd2 rfl hb1 ?_
    refine Rf_rd2 rfl hb5 ?_
    refine Rf_g (fun hg13 => ?_)
    refine Rf_g (fun hg14 => ?_)
    refine Rf_bnd hR hσ1 (zrs_cons (hσ1.2.1 _ _) (zrs_cons hg13 (zrs_cons (hσ1.2.1 _ _) (zrs_cons hg14 zrs_nil)))) (e_cons (e_rd rfl hb2) (e_cons (e_sub (e_rd (e_add rfl (by decide)) hb4) (e_rd rfl hb2)) (e_cons (e_rd rfl hb6) (e_cons (e_sub (e_rd (e_add rfl (by decide)) hb8) (e_rd rfl hb6)) rfl)))) (fun σ2 r2 hσ2 hr2 => ?_)
    refine Rf_eq rfl (by decide) hr2 (by decide) (fun _ => ?_) (fun _ => ?_)
    · exact Rf_tail hR hσ2 (zrs_cons hx0 (zrs_cons hx1 (zrs_cons hg9 (zrs_cons hg13 (zrs_cons hg10 (zrs_cons hg14 zrs_nil)))))) (e_cons rfl (e_cons rfl (e_cons (e_sub (e_rd rfl hb2) (e_rd rfl hb2)) (e_cons (e_sub (e_rd (e_add rfl (by decide)) hb4) (e_rd rfl hb2)) (e_cons (e_sub (e_rd rfl hb6) (e_rd rfl hb6)) (e_cons (e_sub (e_rd (e_add rfl (by decide)) hb8) (e_rd rfl hb6)) rfl))))))
    · exact Rf_tail hR hσ2 (zrs_cons hx0 (zrs_cons hx1 (zrs_cons hg9 (zrs_cons hg13 (zrs_cons hg10 (zrs_cons hg14 zrs_nil)))))) (e_cons rfl (e_cons rfl (e_cons (e_sub (e_rd rfl hb2) (e_rd rfl hb2)) (e_cons (e_sub (e_rd (e_add rfl (by decide)) hb4) (e_rd rfl hb2)) (e_cons (e_sub (e_rd rfl hb6) (e_rd rfl hb6)) (e_cons (e_sub (e_rd (e_add rfl (by decide)) hb8) (e_rd rfl hb6)) rfl))))))
theorem rY_Dra_hasSameSides_p108 (rz : zF) (rm : mF) (hR : Rc rz rm) (β : Nat) (σ : zS) (hσ : zOK σ) (x0 x1 x2 x3 x4 x5 : Int) (hx0 : zr x0) (hx1 : zr x1) (hx2 : zr x2) (hx3 : zr x3) (hx4 : zr x4) (hx5 : zr x5) : Rf (kY_Dra_hasSameSides_p108 rz β σ x0 x1 x2 x3 x4 x5) (kC_Dra_hasSameSides_p108 rm (cv σ) (i32 x0) (i32 x1) (i32 x2) (i32 x3) (i32 x4) (i32 x5)) β := by
  unfold kY_Dra_hasSameSides_p108 kC_Dra_hasSameSides_p108
  refine Rf_rd rfl hx0 (fun hb1 => ?_)
  refine Rf_rd rfl hx1 (fun hb2 => ?_)
  refine Rf_bnd hR hσ (zrs_cons (hσ.2.1 _ _) (zrs_cons hx2 (zrs_cons (hσ.2.1 _ _) (zrs_cons hx5 zrs_nil)))) (e_cons (e_rd rfl hb1) (e_cons rfl (e_cons (e_rd rfl hb2) (e_cons rfl rfl)))) (fun σ1 r1 hσ1 hr1 => ?_)
  refine Rf_eq rfl (by decide) hr1 (by decide) (fun _ => ?_) (fun _ => ?_)
  · exact Rf_tail hR hσ1 (zrs_cons hx0 (zrs_cons hx1 (zrs_cons hx2 (zrs_cons hx3 (zrs_cons hx4 (zrs_cons hx5 zrs_nil)))))) (e_cons rfl (e_cons rfl (e_cons rfl (e_cons rfl (e_cons rfl (e_cons rfl rfl))))))
  · refine Rf_rd rfl hx0 (fun hb3 => ?_)
    refine Rf_rd rfl hx1 (fun hb4 => ?_)
    refine Rf_bnd hR hσ1 (zrs_cons (hσ1.2.1 _ _) (zrs_cons hx3 (zrs_cons (hσ1.2.1 _ _) (zrs_cons hx4 zrs_nil)))) (e_cons (e_rd rfl hb3) (e_cons rfl (e_cons (e_rd rfl hb4) (e_cons rfl rfl)))) (fun σ2 r2 hσ2 hr2 => ?_)
    refine Rf_eq rfl (by decide) hr2 (by decide) (fun _ => ?_) (fun _ => ?_)
    · exact Rf_tail hR hσ2 (zrs_cons hx0 (zrs_cons hx1 (zrs_cons hx2 (zrs_cons hx3 (zrs_cons hx4 (zrs_cons hx5 zrs_nil)))))) (e_cons rfl (e_cons rfl (e_cons rfl (e_cons rfl (e_cons rfl (e_cons rfl rfl))))))
    · exact Rf_tail hR hσ2 (zrs_cons hx0 (zrs_cons hx1 (zrs_cons hx2 (zrs_cons hx3 (zrs_cons hx4 (zrs_cons hx5 zrs_nil)))))) (e_cons rfl (e_cons rfl (e_cons rfl (e_cons rfl (e_cons rfl (e_cons rfl rfl))))))
theorem rY_Dra_hasSameSides_p153 (rz : zF) (rm : mF) (hR : Rc rz rm) (β : Nat) (σ : zS) (hσ : zOK σ) (x0 x1 x2 x3 x4 x5 : Int) (hx0 : zr x0) (hx1 : zr x1) (hx2 : zr x2) (hx3 : zr x3) (hx4 : zr x4) (hx5 : zr x5) : Rf (kY_Dra_hasSameSides_p153 rz β σ x0 x1 x2 x3 x4 x5) (kC_Dra_hasSameSides_p153 rm (cv σ) (i32 x0) (i32 x1) (i32 x2) (i32 x3) (i32 x4) (i32 x5)) β := by
  unfold kY_Dra_hasSameSides_p153 kC_Dra_hasSameSides_p153
  exact Rf_tail hR hσ (zrs_cons hx0 (zrs_cons hx1 (zrs_cons hx2 (zrs_cons hx3 (zrs_cons hx4 (zrs_cons hx5 (zrs_cons (by decide) zrs_nil))))))) (e_cons rfl (e_cons rfl (e_cons rfl (e_cons rfl (e_cons rfl (e_cons rfl (e_cons (by decide) rfl)))))))
theorem rY_Dra_hasSameSides_p157 (rz : zF) (rm : mF) (hR : Rc rz rm) (β : Nat) (σ : zS) (hσ : zOK σ) (x0 x1 x2 x3 x4 x5 : Int) (hx0 : zr x0) (hx1 : zr x1) (hx2 : zr x2) (hx3 : zr x3) (hx4 : zr x4) (hx5 : zr x5) : Rf (kY_Dra_hasSameSides_p157 rz β σ x0 x1 x2 x3 x4 x5) (kC_Dra_hasSameSides_p157 rm (cv σ) (i32 x0) (i32 x1) (i32 x2) (i32 x3) (i32 x4) (i32 x5)) β := by
  unfold kY_Dra_hasSameSides_p157 kC_Dra_hasSameSides_p157
  exact Rf_tail hR hσ (zrs_cons hx0 (zrs_cons hx1 (zrs_cons hx2 (zrs_cons hx3 (zrs_cons hx4 (zrs_cons hx5 (zrs_cons (by decide) zrs_nil))))))) (e_cons rfl (e_cons rfl (e_cons rfl (e_cons rfl (e_cons rfl (e_cons rfl (e_cons (by decide) rfl)))))))
theorem rY_Dra_hasSameSides_p158 (rz : zF) (rm : mF) (hR : Rc rz rm) (β : Nat) (σ : zS) (hσ : zOK σ) (x0 x1 x2 x3 x4 x5 x6 : Int) (hx0 : zr x0) (hx1 : zr x1) (hx2 : zr x2) (hx3 : zr x3) (hx4 : zr x4) (hx5 : zr x5) (hx6 : zr x6) : Rf (kY_Dra_hasSameSides_p158 rz β σ x0 x1 x2 x3 x4 x5 x6) (kC_Dra_hasSameSides_p158 rm (cv σ) (i32 x0) (i32 x1) (i32 x2) (i32 x3) (i32 x4) (i32 x5) (i32 x6)) β := by
  unfold kY_Dra_hasSameSides_p158 kC_Dra_hasSameSides_p158
  refine Rf_01 rfl hx6 (fun hb1 => ?_)
  exact Rf_some hσ hx6 rfl
theorem rY_Dra_isSame (rz : zF) (rm : mF) (hR : Rc rz rm) (β : Nat) (σ : zS) (hσ : zOK σ) (x0 x1 x2 x3 : Int) (hx0 : zr x0) (hx1 : zr x1) (hx2 : zr x2) (hx3 : zr x3) : Rf (kY_Dra_isSame rz β σ x0 x1 x2 x3) (kC_Dra_isSame rm (cv σ) (i32 x0) (i32 x1) (i32 x2) (i32 x3)) β := by
  unfold kY_Dra_isSame kC_Dra_isSame
  refine Rf_eq rfl rfl hx1 hx3 (fun _ => ?_) (fun _ => ?_)
  · exact Rf_tail hR hσ (zrs_cons hx0 (zrs_cons hx1 (zrs_cons hx2 (zrs_cons hx3 (zrs_cons (by decide) zrs_nil))))) (e_cons rfl (e_cons rfl (e_cons rfl (e_cons rfl (e_cons (by decide) rfl)))))
  · exact Rf_tail hR hσ (zrs_cons hx0 (zrs_cons hx1 (zrs_cons hx2 (zrs_cons hx3 (zrs_cons (by decide) zrs_nil))))) (e_cons rfl (e_cons rfl (e_cons rfl (e_cons rfl (e_cons (by decide) rfl)))))
theorem rY_Dra_isSame_p11 (rz : zF) (rm : mF) (hR : Rc rz rm) (β : Nat) (σ : zS) (hσ : zOK σ) (x0 x1 x2 x3 x4 : Int) (hx0 : zr x0) (hx1 : zr x1) (hx2 : zr x2) (hx3 : zr x3) (hx4 : zr x4) : Rf (kY_Dra_isSame_p11 rz β σ x0 x1 x2 x3 x4) (kC_Dra_isSame_p11 rm (cv σ) (i32 x0) (i32 x1) (i32 x2) (i32 x3) (i32 x4)) β := by
  unfold kY_Dra_isSame_p11 kC_Dra_isSame_p11
  exact Rf_tail hR hσ (zrs_cons hx0 (zrs_cons hx1 (zrs_cons hx2 (zrs_cons hx3 (zrs_cons hx4 (zrs_cons (by decide) zrs_nil)))))) (e_cons rfl (e_cons rfl (e_cons rfl (e_cons rfl (e_cons rfl (e_cons (by decide) rfl))))))
theorem rY_Dra_isSame_p16 (rz : zF) (rm : mF) (hR : Rc rz rm) (β : Nat) (σ : zS) (hσ : zOK σ) (x0 x1 x2 x3 x4 x5 : Int) (hx0 : zr x0) (hx1 : zr x1) (hx2 : zr x2) (hx3 : zr x3) (hx4 : zr x4) (hx5 : zr x5) : Rf (kY_Dra_isSame_p16 rz β σ x0 x1 x2 x3 x4 x5) (kC_Dra_isSame_p16 rm (cv σ) (i32 x0) (i32 x1) (i32 x2) (i32 x3) (i32 x4) (i32 x5)) β := by
  unfold kY_Dra_isSame_p16 kC_Dra_isSame_p16
  refine Rf_le rfl rfl hx1 hx5 (fun _ => ?_) (fun _ => ?_)
  · exact Rf_tail hR hσ (zrs_cons hx0 (zrs_cons hx1 (zrs_cons hx2 (zrs_cons hx3 (zrs_cons hx4 (zrs_cons hx5 zrs_nil)))))) (e_cons rfl (e_cons rfl (e_cons rfl (e_cons rfl (e_cons rfl (e_cons rfl rfl))))))
  · refine Rf_eq rfl (by decide) hx4 (by decide) (fun _ => ?_) (fun _ => ?_)
    · exact Rf_tail hR hσ (zrs_cons hx0 (zrs_cons hx1 (zrs_cons hx2 (zrs_cons hx3 (zrs_cons hx4 (zrs_cons hx5 zrs_nil)))))) (e_cons rfl (e_cons rfl (e_cons rfl (e_cons rfl (e_cons rfl (e_cons rfl rfl))))))
    · refine Rf_g (fun hg1 => ?_)
      refine Rf_rd (e_add rfl rfl) hg1 (fun hb2 => ?_)
      refine Rf_g (fun hg3 => ?_)
      refine Rf_rd (e_add rfl rfl) hg3 (fun hb4 => ?_)
      refine Rf_eq (e_rd (e_add rfl rfl) hb2) (e_rd (e_add rfl rfl) hb4) (hσ.2.1 _ _) (hσ.2.1 _ _) (fun _ => ?_) (fun _ => ?_)
      · exact Rf_tail hR hσ (zrs_cons hx0 (zrs_cons hx1 (zrs_cons hx2 (zrs_cons hx3 (zrs_cons hx4 (zrs_cons hx5 (zrs_cons (by decide) zrs_nil))))))) (e_cons rfl (e_cons rfl (e_cons rfl (e_cons rfl (e_cons rfl (e_cons rfl (e_cons (by decide) rfl)))))))
      · exact Rf_tail hR hσ (zrs_cons hx0 (zrs_cons hx1 (zrs_cons hx2 (zrs_cons hx3 (zrs_cons hx4 (zrs_cons hx5 (zrs_cons (by decide) zrs_nil))))))) (e_cons rfl (e_cons rfl (e_cons rfl (e_cons rfl (e_cons rfl (e_cons rfl (e_cons (by decide) rfl)))))))
theorem rY_Dra_isSame_p53 (rz : zF) (rm : mF) (hR : Rc rz rm) (β : Nat) (σ : zS) (hσ : zOK σ) (x0 x1 x2 x3 x4 x5 x6 : Int) (hx0 : zr x0) (hx1 : zr x1) (hx2 : zr x2) (hx3 : zr x3) (hx4 : zr x4) (hx5 : zr x5) (hx6 : zr x6) : Rf (kY_Dra_isSame_p53 rz β σ x0 x1 x2 x3 x4 x5 x6) (kC_Dra_isSame_p53 rm (cv σ) (i32 x0) (i32 x1) (i32 x2) (i32 x3) (i32 x4) (i32 x5) (i32 x6)) β := by
  unfold kY_Dra_isSame_p53 kC_Dra_isSame_p53
  refine Rf_g (fun hg1 => ?_)
  exact Rf_tail hR hσ (zrs_cons hx0 (zrs_cons hx1 (zrs_cons hx2 (zrs_cons hx3 (zrs_cons hx6 (zrs_cons hg1 zrs_nil)))))) (e_cons rfl (e_cons rfl (e_cons rfl (e_cons rfl (e_cons rfl (e_cons (e_add rfl (by decide)) rfl))))))
theorem rY_Dra_isSame_p61 (rz : zF) (rm : mF) (hR : Rc rz rm) (β : Nat) (σ : zS) (hσ : zOK σ) (x0 x1 x2 x3 x4 x5 : Int) (hx0 : zr x0) (hx1 : zr x1) (hx2 : zr x2) (hx3 : zr x3) (hx4 : zr x4) (hx5 : zr x5) : Rf (kY_Dra_isSame_p61 rz β σ x0 x1 x2 x3 x4 x5) (kC_Dra_isSame_p61 rm (cv σ) (i32 x0) (i32 x1) (i32 x2) (i32 x3) (i32 x4) (i32 x5)) β := by
  unfold kY_Dra_isSame_p61 kC_Dra_isSame_p61
  refine Rf_01 rfl hx4 (fun hb1 => ?_)
  exact Rf_some hσ hx4 rfl
theorem rY_Dra_isTautology (rz : zF) (rm : mF) (hR : Rc rz rm) (β : Nat) (σ : zS) (hσ : zOK σ) : Rf (kY_Dra_isTautology rz β σ) (kC_Dra_isTautology rm (cv σ)) β := by
  unfold kY_Dra_isTautology kC_Dra_isTautology
  exact Rf_tail hR hσ (zrs_cons (by decide) zrs_nil) (e_cons (by decide) rfl)
theorem rY_Dra_isTautology_p2 (rz : zF) (rm : mF) (hR : Rc rz rm) (β : Nat) (σ : zS) (hσ : zOK σ) (x0 : Int) (hx0 : zr x0) : Rf (kY_Dra_isTautology_p2 rz β σ x0) (kC_Dra_isTautology_p2 rm (cv σ) (i32 x0)) β := by
  unfold kY_Dra_isTautology_p2 kC_Dra_isTautology_p2
  refine Rf_le rfl rfl (hσ.1 3905) hx0 (fun _ => ?_) (fun _ => ?_)
  · exact Rf_some hσ (by decide) (by decide)
  · refine Rf_rd rfl hx0 (fun hb1 => ?_)
    refine Rf_rd rfl hx0 (fun hb2 => ?_)
    refine Rf_rd2 rfl hb1 ?_
    refine Rf_eq (e_rd rfl hb2) (by decide) (hσ.2.1 _ _) (by decide) (fun _ => ?_) (fun _ => ?_)
    · refine Rf_g (fun hg3 => ?_)
      exact Rf_tail hR hσ (zrs_cons hx0 (zrs_cons hg3 zrs_nil)) (e_cons rfl (e_cons (e_sub (e_rd rfl hb2) (e_rd rfl hb2)) rfl))
    · refine Rf_rd2 rfl hb2 ?_
      refine Rf_rd2 rfl hb1 ?_
      refine Rf_g (fun hg4 => ?_)
      refine Rf_rd (e_add rfl (by decide)) hg4 (fun hb5 => ?_)
      refine Rf_rd2 rfl hb1 ?_
      refine Rf_g (fun hg6 => ?_)
      refine Rf_g (fun hg7 => ?_)
      refine Rf_bnd hR hσ (zrs_cons (hσ.2.1 _ _) (zrs_cons hg6 (zrs_cons (hσ.2.1 _ _) (zrs_cons hg7 zrs_nil)))) (e_cons (e_rd rfl hb2) (e_cons (e_sub (e_rd rfl hb2) (e_rd rfl hb2)) (e_cons (e_rd rfl hb2) (e_cons (e_sub (e_rd (e_add rfl (by decide)) hb5) (e_rd rfl hb2)) rfl)))) (fun σ1 r1 hσ1 hr1 => ?_)
      refine Rf_eq rfl (by decide) hr1 (by decide) (fun _ => ?_) (fun _ => ?_)
      · exact Rf_tail hR hσ1 (zrs_cons hx0 (zrs_cons hg6 zrs_nil)) (e_cons rfl (e_cons (e_sub (e_rd rfl hb2) (e_rd rfl hb2)) rfl))
      · exact Rf_some hσ1 (by decide) (by decide)
theorem rY_Dra_isTautology_p70 (rz : zF) (rm : mF) (hR : Rc rz rm) (β : Nat) (σ : zS) (hσ : zOK σ) (x0 x1 : Int) (hx0 : zr x0) (hx1 : zr x1) : Rf (kY_Dra_isTautology_p70 rz β σ x0 x1) (kC_Dra_isTautology_p70 rm (cv σ) (i32 x0) (i32 x1)) β := by
  unfold kY_Dra_isTautology_p70 kC_Dra_isTautology_p70
  exact Rf_tail hR hσ (zrs_cons hx0 (zrs_cons hx1 (zrs_cons (by decide) zrs_nil))) (e_cons rfl (e_cons rfl (e_cons (by decide) rfl)))
theorem rY_Dra_isTautology_p72 (rz : zF) (rm : mF) (hR : Rc rz rm) (β : Nat) (σ : zS) (hσ : zOK σ) (x0 x1 x2 : Int) (hx0 : zr x0) (hx1 : zr x1) (hx2 : zr x2) : Rf (kY_Dra_isTautology_p72 rz β σ x0 x1 x2) (kC_Dra_isTautology_p72 rm (cv σ) (i32 x0) (i32 x1) (i32 x2)) β := by
  unfold kY_Dra_isTautology_p72 kC_Dra_isTautology_p72
  refine Rf_le rfl rfl hx0 hx2 (fun _ => ?_) (fun _ => ?_)
  · refine Rf_g (fun hg1 => ?_)
    exact Rf_tail hR hσ (zrs_cons hg1 zrs_nil) (e_cons (e_add rfl (by decide)) rfl)
  · refine Rf_rd rfl hx0 (fun hb2 => ?_)
    refine Rf_rd rfl hx2 (fun hb3 => ?_)
    refine Rf_eq (e_rd rfl hb2) (e_rd rfl hb3) (hσ.2.1 _ _) (hσ.2.1 _ _) (fun _ => ?_) (fun _ => ?_)
    · exact Rf_tail hR hσ (zrs_cons hx0 (zrs_cons hx1 (zrs_cons hx2 zrs_nil))) (e_cons rfl (e_cons rfl (e_cons rfl rfl)))
    · refine Rf_bnd hR hσ (zrs_cons hx0 (zrs_cons hx2 zrs_nil)) (e_cons rfl (e_cons rfl rfl)) (fun σ1 r1 hσ1 hr1 => ?_)
      refine Rf_eq rfl (by decide) hr1 (by decide) (fun _ => ?_) (fun _ => ?_)
      · exact Rf_tail hR hσ1 (zrs_cons hx0 (zrs_cons hx1 (zrs_cons hx2 zrs_nil))) (e_cons rfl (e_cons rfl (e_cons rfl rfl)))
      · exact Rf_some hσ1 (by decide) (by decide)
theorem rY_Dra_isTautology_p103 (rz : zF) (rm : mF) (hR : Rc rz rm) (β : Nat) (σ : zS) (hσ : zOK σ) (x0 x1 x2 : Int) (hx0 : zr x0) (hx1 : zr x1) (hx2 : zr x2) : Rf (kY_Dra_isTautology_p103 rz β σ x0 x1 x2) (kC_Dra_isTautology_p103 rm (cv σ) (i32 x0) (i32 x1) (i32 x2)) β := by
  unfold kY_Dra_isTautology_p103 kC_Dra_isTautology_p103
  refine Rf_g (fun hg1 => ?_)
  exact Rf_tail hR hσ (zrs_cons hx0 (zrs_cons hx1 (zrs_cons hg1 zrs_nil))) (e_cons rfl (e_cons rfl (e_cons (e_add rfl (by decide)) rfl)))
theorem rY_Dra_load (rz : zF) (rm : mF) (hR : Rc rz rm) (β : Nat) (σ : zS) (hσ : zOK σ) (x0 : Int) (hx0 : zr x0) : Rf (kY_Dra_load rz β σ x0) (kC_Dra_load rm (cv σ) (i32 x0)) β := by
  unfold kY_Dra_load kC_Dra_load
  refine Rf_bnd hR hσ zrs_nil rfl (fun σ1 r1 hσ1 hr1 => ?_)
  refine Rf_bnd hR hσ1 (zrs_cons hx0 (zrs_cons (by decide) zrs_nil)) (e_cons rfl (e_cons (by decide) rfl)) (fun σ2 r2 hσ2 hr2 => ?_)
  exact Rf_tail hR hσ2 (zrs_cons hx0 (zrs_cons hr2 (zrs_cons (by decide) zrs_nil))) (e_cons rfl (e_cons rfl (e_cons (by decide) rfl)))
theorem rY_Dra_load_p24 (rz : zF) (rm : mF) (hR : Rc rz rm) (β : Nat) (σ : zS) (hσ : zOK σ) (x0 x1 x2 : Int) (hx0 : zr x0) (hx1 : zr x1) (hx2 : zr x2) : Rf (kY_Dra_load_p24 rz β σ x0 x1 x2) (kC_Dra_load_p24 rm (cv σ) (i32 x0) (i32 x1) (i32 x2)) β := by
  unfold kY_Dra_load_p24 kC_Dra_load_p24
  refine Rf_bnd hR hσ (zrs_cons hx0 (zrs_cons (by decide) zrs_nil)) (e_cons rfl (e_cons (by decide) rfl)) (fun σ1 r1 hσ1 hr1 => ?_)
  refine Rf_le rfl rfl hr1 hx2 (fun _ => ?_) (fun _ => ?_)
  · exact Rf_some hσ1 (by decide) (by decide)
  · refine Rf_g (fun hg1 => ?_)
    refine Rf_rd (e_add rfl (by decide)) hg1 (fun hb2 => ?_)
    refine Rf_eq (e_rd (e_add rfl (by decide)) hb2) (by decide) (hσ1.2.1 _ _) (by decide) (fun _ => ?_) (fun _ => ?_)
    · exact Rf_tail hR hσ1 (zrs_cons hx0 (zrs_cons hx1 (zrs_cons hx2 (zrs_cons (by decide) zrs_nil)))) (e_cons rfl (e_cons rfl (e_cons rfl (e_cons (by decide) rfl))))
    · exact Rf_tail hR hσ1 (zrs_cons hx0 (zrs_cons hx1 (zrs_cons hx2 (zrs_cons (by decide) zrs_nil)))) (e_cons rfl (e_cons rfl (e_cons rfl (e_cons (by decide) rfl))))
theorem rY_Dra_load_p51 (rz : zF) (rm : mF) (hR : Rc rz rm) (β : Nat) (σ : zS) (hσ : zOK σ) (x0 x1 x2 x3 : Int) (hx0 : zr x0) (hx1 : zr x1) (hx2 : zr x2) (hx3 : zr x3) : Rf (kY_Dra_load_p51 rz β σ x0 x1 x2 x3) (kC_Dra_load_p51 rm (cv σ) (i32 x0) (i32 x1) (i32 x2) (i32 x3)) β := by
  unfold kY_Dra_load_p51 kC_Dra_load_p51
  refine Rf_bnd hR hσ (zrs_cons hx3 zrs_nil) (e_cons rfl rfl) (fun σ1 r1 hσ1 hr1 => ?_)
  refine Rf_bnd hR hσ1 (zrs_cons hx1 (zrs_cons (by decide) zrs_nil)) (e_cons rfl (e_cons (by decide) rfl)) (fun σ2 r2 hσ2 hr2 => ?_)
  exact Rf_tail hR hσ2 (zrs_cons hx0 (zrs_cons hx1 (zrs_cons hx2 (zrs_cons hr2 zrs_nil)))) (e_cons rfl (e_cons rfl (e_cons rfl (e_cons rfl rfl))))
theorem rY_Dra_load_p63 (rz : zF) (rm : mF) (hR : Rc rz rm) (β : Nat) (σ : zS) (hσ : zOK σ) (x0 x1 x2 x3 : Int) (hx0 : zr x0) (hx1 : zr x1) (hx2 : zr x2) (hx3 : zr x3) : Rf (kY_Dra_load_p63 rz β σ x0 x1 x2 x3) (kC_Dra_load_p63 rm (cv σ) (i32 x0) (i32 x1) (i32 x2) (i32 x3)) β := by
  unfold kY_Dra_load_p63 kC_Dra_load_p63
  refine Rf_bnd hR hσ (zrs_cons hx1 zrs_nil) (e_cons rfl rfl) (fun σ1 r1 hσ1 hr1 => ?_)
  refine Rf_le rfl rfl hr1 hx3 (fun _ => ?_) (fun _ => ?_)
  · refine Rf_bnd hR hσ1 zrs_nil rfl (fun σ2 r2 hσ2 hr2 => ?_)
    refine Rf_bnd hR hσ2 (zrs_cons hx1 zrs_nil) (e_cons rfl rfl) (fun σ3 r3 hσ3 hr3 => ?_)
    refine Rf_g (fun hg1 => ?_)
    exact Rf_tail hR hσ3 (zrs_cons hx0 (zrs_cons hr3 (zrs_cons hg1 zrs_nil))) (e_cons rfl (e_cons rfl (e_cons (e_add rfl (by decide)) rfl)))
  · refine Rf_bnd hR hσ1 (zrs_cons hx1 (zrs_cons (by decide) zrs_nil)) (e_cons rfl (e_cons (by decide) rfl)) (fun σ4 r4 hσ4 hr4 => ?_)
    refine Rf_eq rfl rfl hx3 hr4 (fun _ => ?_) (fun _ => ?_)
    · refine Rf_bnd hR hσ4 zrs_nil rfl (fun σ5 r5 hσ5 hr5 => ?_)
      exact Rf_tail hR hσ5 (zrs_cons hx0 (zrs_cons hx1 (zrs_cons hx2 (zrs_cons hx3 zrs_nil)))) (e_cons rfl (e_cons rfl (e_cons rfl (e_cons rfl rfl))))
    · exact Rf_tail hR hσ4 (zrs_cons hx0 (zrs_cons hx1 (zrs_cons hx2 (zrs_cons hx3 zrs_nil)))) (e_cons rfl (e_cons rfl (e_cons rfl (e_cons rfl rfl))))
theorem rY_Dra_load_p90 (rz : zF) (rm : mF) (hR : Rc rz rm) (β : Nat) (σ : zS) (hσ : zOK σ) (x0 x1 x2 x3 : Int) (hx0 : zr x0) (hx1 : zr x1) (hx2 : zr x2) (hx3 : zr x3) : Rf (kY_Dra_load_p90 rz β σ x0 x1 x2 x3) (kC_Dra_load_p90 rm (cv σ) (i32 x0) (i32 x1) (i32 x2) (i32 x3)) β := by
  unfold kY_Dra_load_p90 kC_Dra_load_p90
  refine Rf_rd rfl hx3 (fun hb1 => ?_)
  refine Rf_bnd hR hσ (zrs_cons (hσ.2.1 _ _) zrs_nil) (e_cons (e_rd rfl hb1) rfl) (fun σ1 r1 hσ1 hr1 => ?_)
  refine Rf_g (fun hg2 => ?_)
  exact Rf_tail hR hσ1 (zrs_cons hx0 (zrs_cons hx1 (zrs_cons hx2 (zrs_cons hg2 zrs_nil)))) (e_cons rfl (e_cons rfl (e_cons rfl (e_cons (e_add rfl (by decide)) rfl))))
theorem rY_Dra_openLiteral (rz : zF) (rm : mF) (hR : Rc rz rm) (β : Nat) (σ : zS) (hσ : zOK σ) (x0 : Int) (hx0 : zr x0) : Rf (kY_Dra_openLiteral rz β σ x0) (kC_Dra_openLiteral rm (cv σ) (i32 x0)) β := by
  unfold kY_Dra_openLiteral kC_Dra_openLiteral
  refine Rf_eq rfl (by decide) (hσ.1 3905) (by decide) (fun _ => ?_) (fun _ => ?_)
  · refine Rf_I (by decide) (by decide) hσ (fun σ3 hσ3 => ?_)
    exact Rf_some hσ3 (by decide) (by decide)
  · refine Rf_rd rfl (hσ.1 3905) (fun hb1 => ?_)
    refine Rf_g (fun hg2 => ?_)
    refine Rf_A rfl hb1 (e_bool rfl hg2) hx0 hσ (fun σ1 hσ1 => ?_)
    refine Rf_rd rfl (hσ1.1 3905) (fun hb3 => ?_)
    refine Rf_A rfl hb3 rfl (hσ1.1 3904) hσ1 (fun σ2 hσ2 => ?_)
    exact Rf_some hσ2 (by decide) (by decide)
theorem rY_Dra_openRight (rz : zF) (rm : mF) (hR : Rc rz rm) (β : Nat) (σ : zS) (hσ : zOK σ) : Rf (kY_Dra_openRight rz β σ) (kC_Dra_openRight rm (cv σ)) β := by
  unfold kY_Dra_openRight kC_Dra_openRight
  refine Rf_eq rfl (by decide) (hσ.1 3907) (by decide) (fun _ => ?_) (fun _ => ?_)
  · refine Rf_rd rfl (hσ.1 3905) (fun hb1 => ?_)
    refine Rf_A rfl hb1 rfl (hσ.1 3904) hσ (fun σ1 hσ1 => ?_)
    exact Rf_tail hR hσ1 zrs_nil rfl
  · exact Rf_tail hR hσ zrs_nil rfl
theorem rY_Dra_openRight_p20 (rz : zF) (rm : mF) (hR : Rc rz rm) (β : Nat) (σ : zS) (hσ : zOK σ) : Rf (kY_Dra_openRight_p20 rz β σ) (kC_Dra_openRight_p20 rm (cv σ)) β := by
  unfold kY_Dra_openRight_p20 kC_Dra_openRight_p20
  exact Rf_some hσ (by decide) (by decide)
theorem rY_Dra_put (rz : zF) (rm : mF) (hR : Rc rz rm) (β : Nat) (σ : zS) (hσ : zOK σ) (x0 : Int) (hx0 : zr x0) : Rf (kY_Dra_put rz β σ x0) (kC_Dra_put rm (cv σ) (i32 x0)) β := by
  unfold kY_Dra_put kC_Dra_put
  refine Rf_eq rfl (by decide) (hσ.1 3904) (by decide) (fun _ => ?_) (fun _ => ?_)
  · refine Rf_I (by decide) (by decide) hσ (fun σ1 hσ1 => ?_)
    exact Rf_tail hR hσ1 (zrs_cons hx0 zrs_nil) (e_cons rfl rfl)
  · exact Rf_tail hR hσ (zrs_cons hx0 zrs_nil) (e_cons rfl rfl)
theorem rY_Dra_put_p14 (rz : zF) (rm : mF) (hR : Rc rz rm) (β : Nat) (σ : zS) (hσ : zOK σ) (x0 : Int) (hx0 : zr x0) : Rf (kY_Dra_put_p14 rz β σ x0) (kC_Dra_put_p14 rm (cv σ) (i32 x0)) β := by
  unfold kY_Dra_put_p14 kC_Dra_put_p14
  refine Rf_eq rfl (by decide) (hσ.1 3907) (by decide) (fun _ => ?_) (fun _ => ?_)
  · refine Rf_g (fun hg1 => ?_)
    refine Rf_I (e_add rfl (by decide)) hg1 hσ (fun σ1 hσ1 => ?_)
    refine Rf_rd rfl (hσ.1 3904) (fun hb2 => ?_)
    refine Rf_A rfl hb2 rfl hx0 hσ1 (fun σ2 hσ2 => ?_)
    exact Rf_tail hR hσ2 (zrs_cons hx0 zrs_nil) (e_cons rfl rfl)
  · exact Rf_tail hR hσ (zrs_cons hx0 zrs_nil) (e_cons rfl rfl)
theorem rY_Dra_put_p38 (rz : zF) (rm : mF) (hR : Rc rz rm) (β : Nat) (σ : zS) (hσ : zOK σ) (x0 : Int) (hx0 : zr x0) : Rf (kY_Dra_put_p38 rz β σ x0) (kC_Dra_put_p38 rm (cv σ) (i32 x0)) β := by
  unfold kY_Dra_put_p38 kC_Dra_put_p38
  exact Rf_some hσ (by decide) (by decide)
theorem rY_Dra_reduce (rz : zF) (rm : mF) (hR : Rc rz rm) (β : Nat) (σ : zS) (hσ : zOK σ) : Rf (kY_Dra_reduce rz β σ) (kC_Dra_reduce rm (cv σ)) β := by
  unfold kY_Dra_reduce kC_Dra_reduce
  exact Rf_tail hR hσ (zrs_cons (by decide) (zrs_cons (by decide) (zrs_cons (by decide) zrs_nil))) (e_cons (by decide) (e_cons (by decide) (e_cons (by decide) rfl)))
theorem rY_Dra_reduce_p6 (rz : zF) (rm : mF) (hR : Rc rz rm) (β : Nat) (σ : zS) (hσ : zOK σ) (x0 x1 x2 : Int) (hx0 : zr x0) (hx1 : zr x1) (hx2 : zr x2) : Rf (kY_Dra_reduce_p6 rz β σ x0 x1 x2) (kC_Dra_reduce_p6 rm (cv σ) (i32 x0) (i32 x1) (i32 x2)) β := by
  unfold kY_Dra_reduce_p6 kC_Dra_reduce_p6
  refine Rf_le rfl rfl (hσ.1 3905) hx2 (fun _ => ?_) (fun _ => ?_)
  · refine Rf_I rfl hx0 hσ (fun σ1 hσ1 => ?_)
    refine Rf_I rfl hx1 hσ1 (fun σ2 hσ2 => ?_)
    refine Rf_bnd hR hσ2 zrs_nil rfl (fun σ3 r3 hσ3 hr3 => ?_)
    exact Rf_some hσ3 (by decide) (by decide)
  · refine Rf_rd rfl hx2 (fun hb1 => ?_)
    refine Rf_g (fun hg2 => ?_)
    refine Rf_rd (e_add rfl (by decide)) hg2 (fun hb3 => ?_)
    refine Rf_rd rfl hx2 (fun hb4 => ?_)
    refine Rf_rd2 rfl hb4 ?_
    refine Rf_eq (e_rd rfl hb4) (by decide) (hσ.2.1 _ _) (by decide) (fun _ => ?_) (fun _ => ?_)
    · refine Rf_rd2 rfl hb4 ?_
      refine Rf_g (fun hg5 => ?_)
      refine Rf_g (fun hg6 => ?_)
      refine Rf_g (fun hg7 => ?_)
      refine Rf_bnd hR hσ (zrs_cons (hσ.2.1 _ _) (zrs_cons hg5 (zrs_cons (hσ.2.1 _ _) (zrs_cons hg7 zrs_nil)))) (e_cons (e_rd rfl hb4) (e_cons (e_sub (e_rd rfl hb4) (e_rd rfl hb4)) (e_cons (e_rd rfl hb4) (e_cons (e_sub (e_sub (e_rd (e_add rfl (by decide)) hb3) (e_rd rfl hb4)) (e_sub (e_rd rfl hb4) (e_rd rfl hb4))) rfl)))) (fun σ4 r4 hσ4 hr4 => ?_)
      refine Rf_eq rfl (by decide) hr4 (by decide) (fun _ => ?_) (fun _ => ?_)
      · exact Rf_tail hR hσ4 (zrs_cons hx0 (zrs_cons hx1 (zrs_cons hx2 (zrs_cons (hσ.2.1 _ _) (zrs_cons hg6 (zrs_cons hg5 zrs_nil)))))) (e_cons rfl (e_cons rfl (e_cons rfl (e_cons (e_rd rfl hb4) (e_cons (e_sub (e_rd (e_add rfl (by decide)) hb3) (e_rd rfl hb4)) (e_cons (e_sub (e_rd rfl hb4) (e_rd rfl hb4)) rfl))))))
      · exact Rf_tail hR hσ4 (zrs_cons hx0 (zrs_cons hx1 (zrs_cons hx2 (zrs_cons (hσ.2.1 _ _) (zrs_cons hg6 (zrs_cons hg5 (zrs_cons (by decide) zrs_nil))))))) (e_cons rfl (e_cons rfl (e_cons rfl (e_cons (e_rd rfl hb4) (e_cons (e_sub (e_rd (e_add rfl (by decide)) hb3) (e_rd rfl hb4)) (e_cons (e_sub (e_rd rfl hb4) (e_rd rfl hb4)) (e_cons (by decide) rfl)))))))
    · refine Rf_g (fun hg8 => ?_)
      refine Rf_g (fun hg9 => ?_)
      exact Rf_tail hR hσ (zrs_cons hx0 (zrs_cons hx1 (zrs_cons hx2 (zrs_cons (hσ.2.1 _ _) (zrs_cons hg8 (zrs_cons hg9 zrs_nil)))))) (e_cons rfl (e_cons rfl (e_cons rfl (e_cons (e_rd rfl hb4) (e_cons (e_sub (e_rd (e_add rfl (by decide)) hb3) (e_rd rfl hb4)) (e_cons (e_sub (e_rd rfl hb4) (e_rd rfl hb4)) rfl))))))
theorem rY_Dra_reduce_p81 (rz : zF) (rm : mF) (hR : Rc rz rm) (β : Nat) (σ : zS) (hσ : zOK σ) (x0 x1 x2 x3 x4 x5 : Int) (hx0 : zr x0) (hx1 : zr x1) (hx2 : zr x2) (hx3 : zr x3) (hx4 : zr x4) (hx5 : zr x5) : Rf (kY_Dra_reduce_p81 rz β σ x0 x1 x2 x3 x4 x5) (kC_Dra_reduce_p81 rm (cv σ) (i32 x0) (i32 x1) (i32 x2) (i32 x3) (i32 x4) (i32 x5)) β := by
  unfold kY_Dra_reduce_p81 kC_Dra_reduce_p81
  exact Rf_tail hR hσ (zrs_cons hx0 (zrs_cons hx1 (zrs_cons hx2 (zrs_cons hx3 (zrs_cons hx4 (zrs_cons hx5 (zrs_cons (by decide) zrs_nil))))))) (e_cons rfl (e_cons rfl (e_cons rfl (e_cons rfl (e_cons rfl (e_cons rfl (e_cons (by decide) rfl)))))))
theorem rY_Dra_reduce_p82 (rz : zF) (rm : mF) (hR : Rc rz rm) (β : Nat) (σ : zS) (hσ : zOK σ) (x0 x1 x2 x3 x4 x5 x6 : Int) (hx0 : zr x0) (hx1 : zr x1) (hx2 : zr x2) (hx3 : zr x3) (hx4 : zr x4) (hx5 : zr x5) (hx6 : zr x6) : Rf (kY_Dra_reduce_p82 rz β σ x0 x1 x2 x3 x4 x5 x6) (kC_Dra_reduce_p82 rm (cv σ) (i32 x0) (i32 x1) (i32 x2) (i32 x3) (i32 x4) (i32 x5) (i32 x6)) β := by
  unfold kY_Dra_reduce_p82 kC_Dra_reduce_p82
  exact Rf_tail hR hσ (zrs_cons hx0 (zrs_cons hx1 (zrs_cons hx2 (zrs_cons hx3 (zrs_cons hx4 (zrs_cons hx5 (zrs_cons hx6 (zrs_cons (by decide) zrs_nil)))))))) (e_cons rfl (e_cons rfl (e_cons rfl (e_cons rfl (e_cons rfl (e_cons rfl (e_cons rfl (e_cons (by decide) rfl))))))))
theorem rY_Dra_reduce_p87 (rz : zF) (rm : mF) (hR : Rc rz rm) (β : Nat) (σ : zS) (hσ : zOK σ) (x0 x1 x2 x3 x4 x5 x6 x7 : Int) (hx0 : zr x0) (hx1 : zr x1) (hx2 : zr x2) (hx3 : zr x3) (hx4 : zr x4) (hx5 : zr x5) (hx6 : zr x6) (hx7 : zr x7) : Rf (kY_Dra_reduce_p87 rz β σ x0 x1 x2 x3 x4 x5 x6 x7) (kC_Dra_reduce_p87 rm (cv σ) (i32 x0) (i32 x1) (i32 x2) (i32 x3) (i32 x4) (i32 x5) (i32 x6) (i32 x7)) β := by
  unfold kY_Dra_reduce_p87 kC_Dra_reduce_p87
  refine Rf_le rfl rfl hx0 hx7 (fun _ => ?_) (fun _ => ?_)
  · exact Rf_tail hR hσ (zrs_cons hx0 (zrs_cons hx1 (zrs_cons hx2 (zrs_cons hx3 (zrs_cons hx4 (zrs_cons hx5 (zrs_cons hx6 (zrs_cons hx7 zrs_nil)))))))) (e_cons rfl (e_cons rfl (e_cons rfl (e_cons rfl (e_cons rfl (e_cons rfl (e_cons rfl (e_cons rfl rfl))))))))
  · refine Rf_eq rfl (by decide) hx6 (by decide) (fun _ => ?_) (fun _ => ?_)
    · refine Rf_rd rfl hx7 (fun hb1 => ?_)
      refine Rf_rd rfl hx2 (fun hb2 => ?_)
      refine Rf_eq (e_rd rfl hb1) (e_rd rfl hb2) (hσ.2.1 _ _) (hσ.2.1 _ _) (fun _ => ?_) (fun _ => ?_)
      · refine Rf_bnd hR hσ (zrs_cons hx2 (zrs_cons hx7 zrs_nil)) (e_cons rfl (e_cons rfl rfl)) (fun σ1 r1 hσ1 hr1 => ?_)
        refine Rf_eq rfl (by decide) hr1 (by decide) (fun _ => ?_) (fun _ => ?_)
        · exact Rf_tail hR hσ1 (zrs_cons hx0 (zrs_cons hx1 (zrs_cons hx2 (zrs_cons hx3 (zrs_cons hx4 (zrs_cons hx5 (zrs_cons hx6 (zrs_cons hx7 zrs_nil)))))))) (e_cons rfl (e_cons rfl (e_cons rfl (e_cons rfl (e_cons rfl (e_cons rfl (e_cons rfl (e_cons rfl rfl))))))))
        · exact Rf_tail hR hσ1 (zrs_cons hx0 (zrs_cons hx1 (zrs_cons hx2 (zrs_cons hx3 (zrs_cons hx4 (zrs_cons hx5 (zrs_cons hx6 (zrs_cons hx7 (zrs_cons (by decide) zrs_nil))))))))) (e_cons rfl (e_cons rfl (e_cons rfl (e_cons rfl (e_cons rfl (e_cons rfl (e_cons rfl (e_cons rfl (e_cons (by decide) rfl)))))))))
      · exact Rf_tail hR hσ (zrs_cons hx0 (zrs_cons hx1 (zrs_cons hx2 (zrs_cons hx3 (zrs_cons hx4 (zrs_cons hx5 (zrs_cons hx6 (zrs_cons hx7 zrs_nil)))))))) (e_cons rfl (e_cons rfl (e_cons rfl (e_cons rfl (e_cons rfl (e_cons rfl (e_cons rfl (e_cons rfl rfl))))))))
    · exact Rf_tail hR hσ (zrs_cons hx0 (zrs_cons hx1 (zrs_cons hx2 (zrs_cons hx3 (zrs_cons hx4 (zrs_cons hx5 (zrs_cons hx6 (zrs_cons hx7 zrs_nil)))))))) (e_cons rfl (e_cons rfl (e_cons rfl (e_cons rfl (e_cons rfl (e_cons rfl (e_cons rfl (e_cons rfl rfl))))))))
theorem rY_Dra_reduce_p128 (rz : zF) (rm : mF) (hR : Rc rz rm) (β : Nat) (σ : zS) (hσ : zOK σ) (x0 x1 x2 x3 x4 x5 x6 x7 : Int) (hx0 : zr x0) (hx1 : zr x1) (hx2 : zr x2) (hx3 : zr x3) (hx4 : zr x4) (hx5 : zr x5) (hx6 : zr x6) (hx7 : zr x7) : Rf (kY_Dra_reduce_p128 rz β σ x0 x1 x2 x3 x4 x5 x6 x7) (kC_Dra_reduce_p128 rm (cv σ) (i32 x0) (i32 x1) (i32 x2) (i32 x3) (i32 x4) (i32 x5) (i32 x6) (i32 x7)) β := by
  unfold kY_Dra_reduce_p128 kC_Dra_reduce_p128
  exact Rf_tail hR hσ (zrs_cons hx0 (zrs_cons hx1 (zrs_cons hx2 (zrs_cons hx3 (zrs_cons hx4 (zrs_cons hx5 (zrs_cons hx6 (zrs_cons hx7 (zrs_cons (by decide) zrs_nil))))))))) (e_cons rfl (e_cons rfl (e_cons rfl (e_cons rfl (e_cons rfl (e_cons rfl (e_cons rfl (e_cons rfl (e_cons (by decide) rfl)))))))))
theorem rY_Dra_reduce_p129 (rz : zF) (rm : mF) (hR : Rc rz rm) (β : Nat) (σ : zS) (hσ : zOK σ) (x0 x1 x2 x3 x4 x5 x6 x7 x8 : Int) (hx0 : zr x0) (hx1 : zr x1) (hx2 : zr x2) (hx3 : zr x3) (hx4 : zr x4) (hx5 : zr x5) (hx6 : zr x6) (hx7 : zr x7) (hx8 : zr x8) : Rf (kY_Dra_reduce_p129 rz β σ x0 x1 x2 x3 x4 x5 x6 x7 x8) (kC_Dra_reduce_p129 rm (cv σ) (i32 x0) (i32 x1) (i32 x2) (i32 x3) (i32 x4) (i32 x5) (i32 x6) (i32 x7) (i32 x8)) β := by
  unfold kY_Dra_reduce_p129 kC_Dra_reduce_p129
  refine Rf_g (fun hg1 => ?_)
  exact Rf_tail hR hσ (zrs_cons hx0 (zrs_cons hx1 (zrs_cons hx2 (zrs_cons hx3 (zrs_cons hx4 (zrs_cons hx5 (zrs_cons hx8 (zrs_cons hg1 zrs_nil)))))))) (e_cons rfl (e_cons rfl (e_cons rfl (e_cons rfl (e_cons rfl (e_cons rfl (e_cons rfl (e_cons (e_add rfl (by decide)) rfl))))))))
theorem rY_Dra_reduce_p137 (rz : zF) (rm : mF) (hR : Rc rz rm) (β : Nat) (σ : zS) (hσ : zOK σ) (x0 x1 x2 x3 x4 x5 x6 x7 : Int) (hx0 : zr x0) (hx1 : zr x1) (hx2 : zr x2) (hx3 : zr x3) (hx4 : zr x4) (hx5 : zr x5) (hx6 : zr x6) (hx7 : zr x7) : Rf (kY_Dra_reduce_p137 rz β σ x0 x1 x2 x3 x4 x5 x6 x7) (kC_Dra_reduce_p137 rm (cv σ) (i32 x0) (i32 x1) (i32 x2) (i32 x3) (i32 x4) (i32 x5) (i32 x6) (i32 x7)) β := by
  unfold kY_Dra_reduce_p137 kC_Dra_reduce_p137
  refine Rf_eq rfl (by decide) hx6 (by decide) (fun _ => ?_) (fun _ => ?_)
  · refine Rf_cp rfl rfl rfl hx3 hx1 hx4 (fun hb1 => ?_)
    refine Rf_Cp rfl rfl rfl rfl rfl hb1 hσ (fun σ1 hσ1 => ?_)
    refine Rf_rd rfl hx2 (fun hb2 => ?_)
    refine Rf_rd rfl hx0 (fun hb3 => ?_)
    refine Rf_g (fun hg4 => ?_)
    refine Rf_A rfl hb3 (e_bool (e_rd rfl hb2) hg4) (hσ1.2.1 _ _) hσ1 (fun σ2 hσ2 => ?_)
    refine Rf_rd rfl hx0 (fun hb5 => ?_)
    refine Rf_A rfl hb5 rfl hx1 hσ2 (fun σ3 hσ3 => ?_)
    refine Rf_rd2 rfl hb3 ?_
    refine Rf_g (fun hg6 => ?_)
    refine Rf_A rfl hb5 (e_add rfl rfl) hg6 hσ3 (fun σ4 hσ4 => ?_)
    refine Rf_g (fun hg7 => ?_)
    refine Rf_rd (e_add rfl (by decide)) hg7 (fun hb8 => ?_)
    refine Rf_g (fun hg9 => ?_)
    refine Rf_A (e_add rfl (by decide)) hb8 (e_add rfl rfl) hg9 hσ4 (fun σ5 hσ5 => ?_)
    exact Rf_tail hR hσ5 (zrs_cons hg7 (zrs_cons hg9 (zrs_cons hx2 (zrs_cons hx3 (zrs_cons hx4 (zrs_cons hx5 (zrs_cons hx6 (zrs_cons hx7 zrs_nil)))))))) (e_cons (e_add rfl (by decide)) (e_cons (e_add rfl rfl) (e_cons rfl (e_cons rfl (e_cons rfl (e_cons rfl (e_cons rfl (e_cons rfl rfl))))))))
  · exact Rf_tail hR hσ (zrs_cons hx0 (zrs_cons hx1 (zrs_cons hx2 (zrs_cons hx3 (zrs_cons hx4 (zrs_cons hx5 (zrs_cons hx6 (zrs_cons hx7 zrs_nil)))))))) (e_cons rfl (e_cons rfl (e_cons rfl (e_cons rfl (e_cons rfl (e_cons rfl (e_cons rfl (e_cons rfl rfl))))))))
theorem rY_Dra_reduce_p202 (rz : zF) (rm : mF) (hR : Rc rz rm) (β : Nat) (σ : zS) (hσ : zOK σ) (x0 x1 x2 x3 x4 x5 x6 x7 : Int) (hx0 : zr x0) (hx1 : zr x1) (hx2 : zr x2) (hx3 : zr x3) (hx4 : zr x4) (hx5 : zr x5) (hx6 : zr x6) (hx7 : zr x7) : Rf (kY_Dra_reduce_p202 rz β σ x0 x1 x2 x3 x4 x5 x6 x7) (kC_Dra_reduce_p202 rm (cv σ) (i32 x0) (i32 x1) (i32 x2) (i32 x3) (i32 x4) (i32 x5) (i32 x6) (i32 x7)) β := by
  unfold kY_Dra_reduce_p202 kC_Dra_reduce_p202
  refine Rf_g (fun hg1 => ?_)
  exact Rf_tail hR hσ (zrs_cons hx0 (zrs_cons hx1 (zrs_cons hg1 zrs_nil))) (e_cons rfl (e_cons rfl (e_cons (e_add rfl (by decide)) rfl)))
theorem rY_Dra_renumber (rz : zF) (rm : mF) (hR : Rc rz rm) (β : Nat) (σ : zS) (hσ : zOK σ) : Rf (kY_Dra_renumber rz β σ) (kC_Dra_renumber rm (cv σ)) β := by
  unfold kY_Dra_renumber kC_Dra_renumber
  refine Rf_Fl (by decide) (by decide) hσ (fun σ1 hσ1 => ?_)
  refine Rf_I (by decide) (by decide) hσ1 (fun σ2 hσ2 => ?_)
  exact Rf_tail hR hσ2 (zrs_cons (by decide) zrs_nil) (e_cons (by decide) rfl)
theorem rY_Dra_renumber_p15 (rz : zF) (rm : mF) (hR : Rc rz rm) (β : Nat) (σ : zS) (hσ : zOK σ) (x0 : Int) (hx0 : zr x0) : Rf (kY_Dra_renumber_p15 rz β σ x0) (kC_Dra_renumber_p15 rm (cv σ) (i32 x0)) β := by
  unfold kY_Dra_renumber_p15 kC_Dra_renumber_p15
  refine Rf_le rfl rfl (hσ.1 3904) hx0 (fun _ => ?_) (fun _ => ?_)
  · exact Rf_some hσ (by decide) (by decide)
  · refine Rf_rd rfl hx0 (fun hb1 => ?_)
    refine Rf_le (by decide) (e_rd rfl hb1) (by decide) (hσ.2.1 _ _) (fun _ => ?_) (fun _ => ?_)
    · exact Rf_tail hR hσ (zrs_cons hx0 zrs_nil) (e_cons rfl rfl)
    · refine Rf_rd2 rfl hb1 ?_
      refine Rf_rd (e_not (e_rd rfl hb1)) (zr_not (hσ.2.1 _ _)) (fun hb2 => ?_)
      refine Rf_eq (e_rd (e_not (e_rd rfl hb1)) hb2) (by decide) (hσ.2.1 _ _) (by decide) (fun _ => ?_) (fun _ => ?_)
      · refine Rf_g (fun hg3 => ?_)
        refine Rf_I (e_add rfl (by decide)) hg3 hσ (fun σ1 hσ1 => ?_)
        refine Rf_rd2 (e_not (e_rd rfl hb1)) hb2 ?_
        refine Rf_A (e_not (e_rd rfl hb1)) hb2 rfl (hσ.1 3906) hσ1 (fun σ2 hσ2 => ?_)
        exact Rf_tail hR hσ2 (zrs_cons hx0 (zrs_cons (zr_not (hσ.2.1 _ _)) zrs_nil)) (e_cons rfl (e_cons (e_not (e_rd rfl hb1)) rfl))
      · exact Rf_tail hR hσ (zrs_cons hx0 (zrs_cons (zr_not (hσ.2.1 _ _)) zrs_nil)) (e_cons rfl (e_cons (e_not (e_rd rfl hb1)) rfl))
theorem rY_Dra_renumber_p68 (rz : zF) (rm : mF) (hR : Rc rz rm) (β : Nat) (σ : zS) (hσ : zOK σ) (x0 x1 : Int) (hx0 : zr x0) (hx1 : zr x1) : Rf (kY_Dra_renumber_p68 rz β σ x0 x1) (kC_Dra_renumber_p68 rm (cv σ) (i32 x0) (i32 x1)) β := by
  unfold kY_Dra_renumber_p68 kC_Dra_renumber_p68
  refine Rf_rd rfl hx1 (fun hb1 => ?_)
  refine Rf_rd rfl hx0 (fun hb2 => ?_)
  refine Rf_A rfl hb2 (e_not (e_rd rfl hb1)) (zr_not (hσ.2.1 _ _)) hσ (fun σ1 hσ1 => ?_)
  exact Rf_tail hR hσ1 (zrs_cons hx0 zrs_nil) (e_cons rfl rfl)
theorem rY_Dra_renumber_p82 (rz : zF) (rm : mF) (hR : Rc rz rm) (β : Nat) (σ : zS) (hσ : zOK σ) (x0 : Int) (hx0 : zr x0) : Rf (kY_Dra_renumber_p82 rz β σ x0) (kC_Dra_renumber_p82 rm (cv σ) (i32 x0)) β := by
  unfold kY_Dra_renumber_p82 kC_Dra_renumber_p82
  refine Rf_g (fun hg1 => ?_)
  exact Rf_tail hR hσ (zrs_cons hg1 zrs_nil) (e_cons (e_add rfl (by decide)) rfl)
theorem rY_Dra_replace_68 (rz : zF) (rm : mF) (hR : Rc rz rm) (β : Nat) (σ : zS) (hσ : zOK σ) (x0 x1 : Int) (hx0 : zr x0) (hx1 : zr x1) : Rf (kY_Dra_replace_68 rz β σ x0 x1) (kC_Dra_replace_68 rm (cv σ) (i32 x0) (i32 x1)) β := by
  unfold kY_Dra_replace_68 kC_Dra_replace_68
  refine Rf_bnd hR hσ (zrs_cons hx0 zrs_nil) (e_cons rfl rfl) (fun σ1 r1 hσ1 hr1 => ?_)
  refine Rf_cp (by decide) rfl rfl (by decide) hx0 hx1 (fun hb1 => ?_)
  refine Rf_Cp rfl rfl (by decide) rfl rfl hb1 hσ1 (fun σ2 hσ2 => ?_)
  refine Rf_g (fun hg2 => ?_)
  refine Rf_g (fun hg3 => ?_)
  refine Rf_cp rfl (e_add rfl rfl) (e_sub rfl rfl) hr1 hg2 hg3 (fun hb4 => ?_)
  refine Rf_Cp rfl rfl rfl (e_add rfl rfl) (e_sub rfl rfl) hb4 hσ2 (fun σ3 hσ3 => ?_)
  refine Rf_g (fun hg5 => ?_)
  refine Rf_g (fun hg6 => ?_)
  refine Rf_g (fun hg7 => ?_)
  refine Rf_I (e_sub rfl (e_sub (e_sub rfl rfl) rfl)) hg7 hσ3 (fun σ4 hσ4 => ?_)
  exact Rf_tail hR hσ4 (zrs_cons hx0 (zrs_cons hx1 (zrs_cons hr1 (zrs_cons hg6 (zrs_cons (by decide) zrs_nil))))) (e_cons rfl (e_cons rfl (e_cons rfl (e_cons (e_sub (e_sub rfl rfl) rfl) (e_cons (by decide) rfl)))))
theorem rY_Dra_replace_68_p70 (rz : zF) (rm : mF) (hR : Rc rz rm) (β : Nat) (σ : zS) (hσ : zOK σ) (x0 x1 x2 x3 x4 : Int) (hx0 : zr x0) (hx1 : zr x1) (hx2 : zr x2) (hx3 : zr x3) (hx4 : zr x4) : Rf (kY_Dra_replace_68_p70 rz β σ x0 x1 x2 x3 x4) (kC_Dra_replace_68_p70 rm (cv σ) (i32 x0) (i32 x1) (i32 x2) (i32 x3) (i32 x4)) β := by
  unfold kY_Dra_replace_68_p70 kC_Dra_replace_68_p70
  refine Rf_le rfl rfl (hσ.1 3905) hx4 (fun _ => ?_) (fun _ => ?_)
  · exact Rf_some hσ (by decide) (by decide)
  · refine Rf_rd rfl hx4 (fun hb1 => ?_)
    refine Rf_rd2 rfl hb1 ?_
    refine Rf_le (e_rd rfl hb1) rfl (hσ.2.1 _ _) hx0 (fun _ => ?_) (fun _ => ?_)
    · exact Rf_tail hR hσ (zrs_cons hx0 (zrs_cons hx1 (zrs_cons hx2 (zrs_cons hx3 (zrs_cons hx4 (zrs_cons (by decide) (zrs_cons (hσ.2.1 _ _) (zrs_cons hx4 zrs_nil)))))))) (e_cons rfl (e_cons rfl (e_cons rfl (e_cons rfl (e_cons rfl (e_cons (by decide) (e_cons (e_rd rfl hb1) (e_cons rfl rfl))))))))
    · exact Rf_tail hR hσ (zrs_cons hx0 (zrs_cons hx1 (zrs_cons hx2 (zrs_cons hx3 (zrs_cons hx4 (zrs_cons hx3 (zrs_cons (hσ.2.1 _ _) (zrs_cons hx4 zrs_nil)))))))) (e_cons rfl (e_cons rfl (e_cons rfl (e_cons rfl (e_cons rfl (e_cons rfl (e_cons (e_rd rfl hb1) (e_cons rfl rfl))))))))
theorem rY_Dra_replace_68_p104 (rz : zF) (rm : mF) (hR : Rc rz rm) (β : Nat) (σ : zS) (hσ : zOK σ) (x0 x1 x2 x3 x4 x5 x6 x7 : Int) (hx0 : zr x0) (hx1 : zr x1) (hx2 : zr x2) (hx3 : zr x3) (hx4 : zr x4) (hx5 : zr x5) (hx6 : zr x6) (hx7 : zr x7) : Rf (kY_Dra_replace_68_p104 rz β σ x0 x1 x2 x3 x4 x5 x6 x7) (kC_Dra_replace_68_p104 rm (cv σ) (i32 x0) (i32 x1) (i32 x2) (i32 x3) (i32 x4) (i32 x5) (i32 x6) (i32 x7)) β := by
  unfold kY_Dra_replace_68_p104 kC_Dra_replace_68_p104
  refine Rf_rd rfl hx7 (fun hb1 => ?_)
  refine Rf_g (fun hg2 => ?_)
  refine Rf_A rfl hb1 (e_sub rfl rfl) hg2 hσ (fun σ1 hσ1 => ?_)
  refine Rf_g (fun hg3 => ?_)
  refine Rf_rd (e_add rfl (by decide)) hg3 (fun hb4 => ?_)
  refine Rf_rd2 (e_add rfl (by decide)) hb4 ?_
  refine Rf_le (e_rd (e_add rfl (by decide)) hb4) rfl (hσ1.2.1 _ _) hx0 (fun _ => ?_) (fun _ => ?_)
  · exact Rf_tail hR hσ1 (zrs_cons hx0 (zrs_cons hx1 (zrs_cons hx2 (zrs_cons hx3 (zrs_cons hx4 (zrs_cons (by decide) (zrs_cons (hσ1.2.1 _ _) (zrs_cons hg3 zrs_nil)))))))) (e_cons rfl (e_cons rfl (e_cons rfl (e_cons rfl (e_cons rfl (e_cons (by decide) (e_cons (e_rd (e_add rfl (by decide)) hb4) (e_cons (e_add rfl (by decide)) rfl))))))))
  · exact Rf_tail hR hσ1 (zrs_cons hx0 (zrs_cons hx1 (zrs_cons hx2 (zrs_cons hx3 (zrs_cons hx4 (zrs_cons hx3 (zrs_cons (hσ1.2.1 _ _) (zrs_cons hg3 zrs_nil)))))))) (e_cons rfl (e_cons rfl (e_cons rfl (e_cons rfl (e_cons rfl (e_cons rfl (e_cons (e_rd (e_add rfl (by decide)) hb4) (e_cons (e_add rfl (by decide)) rfl))))))))
theorem rY_Dra_replace_68_p135 (rz : zF) (rm : mF) (hR : Rc rz rm) (β : Nat) (σ : zS) (hσ : zOK σ) (x0 x1 x2 x3 x4 x5 x6 x7 : Int) (hx0 : zr x0) (hx1 : zr x1) (hx2 : zr x2) (hx3 : zr x3) (hx4 : zr x4) (hx5 : zr x5) (hx6 : zr x6) (hx7 : zr x7) : Rf (kY_Dra_replace_68_p135 rz β σ x0 x1 x2 x3 x4 x5 x6 x7) (kC_Dra_replace_68_p135 rm (cv σ) (i32 x0) (i32 x1) (i32 x2) (i32 x3) (i32 x4) (i32 x5) (i32 x6) (i32 x7)) β := by
  unfold kY_Dra_replace_68_p135 kC_Dra_replace_68_p135
  refine Rf_rd rfl hx7 (fun hb1 => ?_)
  refine Rf_g (fun hg2 => ?_)
  refine Rf_A rfl hb1 (e_sub rfl rfl) hg2 hσ (fun σ1 hσ1 => ?_)
  refine Rf_g (fun hg3 => ?_)
  exact Rf_tail hR hσ1 (zrs_cons hx0 (zrs_cons hx1 (zrs_cons hx2 (zrs_cons hx3 (zrs_cons hg3 zrs_nil))))) (e_cons rfl (e_cons rfl (e_cons rfl (e_cons rfl (e_cons (e_add rfl (by decide)) rfl)))))
theorem rY_For_addVariable (rz : zF) (rm : mF) (hR : Rc rz rm) (β : Nat) (σ : zS) (hσ : zOK σ) : Rf (kY_For_addVariable rz β σ) (kC_For_addVariable rm (cv σ)) β := by
  unfold kY_For_addVariable kC_For_addVariable
  refine Rf_eq rfl (by decide) (hσ.1 1402) (by decide) (fun _ => ?_) (fun _ => ?_)
  · exact Rf_some hσ (by decide) (by decide)
  · refine Rf_rd rfl (hσ.1 1402) (fun hb1 => ?_)
    refine Rf_A rfl hb1 rfl (hσ.1 3203) hσ (fun σ1 hσ1 => ?_)
    refine Rf_rd rfl (hσ1.1 1402) (fun hb2 => ?_)
    refine Rf_A rfl hb2 rfl (hσ1.1 3204) hσ1 (fun σ2 hσ2 => ?_)
    refine Rf_rd rfl (hσ2.1 1402) (fun hb3 => ?_)
    refine Rf_g (fun hg4 => ?_)
    refine Rf_A rfl hb3 (e_sub rfl (by decide)) hg4 hσ2 (fun σ3 hσ3 => ?_)
    refine Rf_g (fun hg5 => ?_)
    refine Rf_I (e_add rfl (by decide)) hg5 hσ3 (fun σ4 hσ4 => ?_)
    exact Rf_some hσ4 (hσ3.1 1402) rfl
theorem rY_For_around (rz : zF) (rm : mF) (hR : Rc rz rm) (β : Nat) (σ : zS) (hσ : zOK σ) (x0 : Int) (hx0 : zr x0) : Rf (kY_For_around rz β σ x0) (kC_For_around rm (cv σ) (i32 x0)) β := by
  unfold kY_For_around kC_For_around
  refine Rf_rd rfl hx0 (fun hb1 => ?_)
  refine Rf_rd2 rfl hb1 ?_
  refine Rf_eq (e_rd rfl hb1) (by decide) (hσ.2.1 _ _) (by decide) (fun _ => ?_) (fun _ => ?_)
  · refine Rf_rd2 rfl hb1 ?_
    exact Rf_tail hR hσ (zrs_cons hx0 (zrs_cons (hσ.2.1 _ _) (zrs_cons (hσ.2.1 _ _) zrs_nil))) (e_cons rfl (e_cons (e_rd rfl hb1) (e_cons (e_rd rfl hb1) rfl)))
  · refine Rf_rd2 rfl hb1 ?_
    refine Rf_g (fun hg2 => ?_)
    refine Rf_rd (e_add (e_rd rfl hb1) (by decide)) hg2 (fun hb3 => ?_)
    refine Rf_g (fun hg4 => ?_)
    refine Rf_rd (e_add (e_rd rfl hb1) (by decide)) hg4 (fun hb5 => ?_)
    refine Rf_g (fun hg6 => ?_)
    refine Rf_g (fun hg7 => ?_)
    exact Rf_tail hR hσ (zrs_cons hx0 (zrs_cons (hσ.2.1 _ _) (zrs_cons hg7 zrs_nil))) (e_cons rfl (e_cons (e_rd rfl hb1) (e_cons (e_sub (e_add (e_rd rfl hb1) (e_rd (e_add (e_rd rfl hb1) (by decide)) hb3)) (e_rd (e_add (e_rd rfl hb1) (by decide)) hb5)) rfl)))
theorem rY_For_around_p57 (rz : zF) (rm : mF) (hR : Rc rz rm) (β : Nat) (σ : zS) (hσ : zOK σ) (x0 x1 x2 : Int) (hx0 : zr x0) (hx1 : zr x1) (hx2 : zr x2) : Rf (kY_For_around_p57 rz β σ x0 x1 x2) (kC_For_around_p57 rm (cv σ) (i32 x0) (i32 x1) (i32 x2)) β := by
  unfold kY_For_around_p57 kC_For_around_p57
  exact Rf_some hσ hx2 rfl
theorem rY_For_aroundAt (rz : zF) (rm : mF) (hR : Rc rz rm) (β : Nat) (σ : zS) (hσ : zOK σ) (x0 x1 : Int) (hx0 : zr x0) (hx1 : zr x1) : Rf (kY_For_aroundAt rz β σ x0 x1) (kC_For_aroundAt rm (cv σ) (i32 x0) (i32 x1)) β := by
  unfold kY_For_aroundAt kC_For_aroundAt
  refine Rf_rd rfl hx0 (fun hb1 => ?_)
  refine Rf_g (fun hg2 => ?_)
  refine Rf_rd (e_add (e_rd rfl hb1) (by decide)) hg2 (fun hb3 => ?_)
  refine Rf_g (fun hg4 => ?_)
  refine Rf_rd (e_add (e_rd rfl hb1) (by decide)) hg4 (fun hb5 => ?_)
  refine Rf_g (fun hg6 => ?_)
  refine Rf_le (e_sub (e_rd (e_add (e_rd rfl hb1) (by decide)) hb5) (e_rd (e_add (e_rd rfl hb1) (by decide)) hb3)) rfl hg6 hx1 (fun _ => ?_) (fun _ => ?_)
  · refine Rf_rd2 rfl hb1 ?_
    refine Rf_g (fun hg7 => ?_)
    refine Rf_g (fun hg8 => ?_)
    exact Rf_tail hR hσ (zrs_cons hx0 (zrs_cons hx1 (zrs_cons (hσ.2.1 _ _) (zrs_cons (hσ.2.1 _ _) (zrs_cons hg6 (zrs_cons hx0 (zrs_cons hg8 zrs_nil))))))) (e_cons rfl (e_cons rfl (e_cons (e_rd rfl hb1) (e_cons (e_rd (e_add (e_rd rfl hb1) (by decide)) hb3) (e_cons (e_sub (e_rd (e_add (e_rd rfl hb1) (by decide)) hb5) (e_rd (e_add (e_rd rfl hb1) (by decide)) hb3)) (e_cons rfl (e_cons (e_sub (e_rd rfl hb1) (e_sub rfl (e_sub (e_rd (e_add (e_rd rfl hb1) (by decide)) hb5) (e_rd (e_add (e_rd rfl hb1) (by decide)) hb3)))) rfl)))))))
  · refine Rf_g (fun hg9 => ?_)
    refine Rf_rd (e_add (e_rd (e_add (e_rd rfl hb1) (by decide)) hb3) rfl) hg9 (fun hb10 => ?_)
    exact Rf_some hσ (hσ.2.1 _ _) (e_rd (e_add (e_rd (e_add (e_rd rfl hb1) (by decide)) hb3) rfl) hb10)
theorem rY_For_aroundAt_p68 (rz : zF) (rm : mF) (hR : Rc rz rm) (β : Nat) (σ : zS) (hσ : zOK σ) (x0 x1 x2 x3 x4 x5 x6 : Int) (hx0 : zr x0) (hx1 : zr x1) (hx2 : zr x2) (hx3 : zr x3) (hx4 : zr x4) (hx5 : zr x5) (hx6 : zr x6) : Rf (kY_For_aroundAt_p68 rz β σ x0 x1 x2 x3 x4 x5 x6) (kC_For_aroundAt_p68 rm (cv σ) (i32 x0) (i32 x1) (i32 x2) (i32 x3) (i32 x4) (i32 x5) (i32 x6)) β := by
  unfold kY_For_aroundAt_p68 kC_For_aroundAt_p68
  refine Rf_le rfl (by decide) hx6 (by decide) (fun _ => ?_) (fun _ => ?_)
  · exact Rf_some hσ hx5 rfl
  · refine Rf_rd rfl hx5 (fun hb1 => ?_)
    refine Rf_g (fun hg2 => ?_)
    exact Rf_tail hR hσ (zrs_cons hx0 (zrs_cons hx1 (zrs_cons hx2 (zrs_cons hx3 (zrs_cons hx4 (zrs_cons (hσ.2.1 _ _) (zrs_cons hg2 zrs_nil))))))) (e_cons rfl (e_cons rfl (e_cons rfl (e_cons rfl (e_cons rfl (e_cons (e_rd rfl hb1) (e_cons (e_add rfl (by decide)) rfl)))))))
theorem rY_For_bind (rz : zF) (rm : mF) (hR : Rc rz rm) (β : Nat) (σ : zS) (hσ : zOK σ) : Rf (kY_For_bind rz β σ) (kC_For_bind rm (cv σ)) β := by
  unfold kY_For_bind kC_For_bind
  refine Rf_bnd hR hσ zrs_nil rfl (fun σ1 r1 hσ1 hr1 => ?_)
  refine Rf_eq rfl (by decide) hr1 (by decide) (fun _ => ?_) (fun _ => ?_)
  · exact Rf_tail hR hσ1 (zrs_cons hr1 zrs_nil) (e_cons rfl rfl)
  · refine Rf_rd rfl hr1 (fun hb1 => ?_)
    refine Rf_A rfl hb1 rfl (hσ1.1 1403) hσ1 (fun σ2 hσ2 => ?_)
    refine Rf_eq rfl (by decide) (hσ2.1 1403) (by decide) (fun _ => ?_) (fun _ => ?_)
    · exact Rf_tail hR hσ2 (zrs_cons hr1 (zrs_cons (by decide) (zrs_cons hr1 zrs_nil))) (e_cons rfl (e_cons (by decide) (e_cons rfl rfl)))
    · refine Rf_rd rfl (hσ2.1 1403) (fun hb2 => ?_)
      refine Rf_g (fun hg3 => ?_)
      exact Rf_tail hR hσ2 (zrs_cons hr1 (zrs_cons hg3 (zrs_cons hr1 zrs_nil))) (e_cons rfl (e_cons (e_add (e_rd rfl hb2) (by decide)) (e_cons rfl rfl)))
theorem rY_For_bind_p49 (rz : zF) (rm : mF) (hR : Rc rz rm) (β : Nat) (σ : zS) (hσ : zOK σ) (x0 x1 x2 : Int) (hx0 : zr x0) (hx1 : zr x1) (hx2 : zr x2) : Rf (kY_For_bind_p49 rz β σ x0 x1 x2) (kC_For_bind_p49 rm (cv σ) (i32 x0) (i32 x1) (i32 x2)) β := by
  unfold kY_For_bind_p49 kC_For_bind_p49
  refine Rf_rd rfl hx2 (fun hb1 => ?_)
  refine Rf_A rfl hb1 rfl hx1 hσ (fun σ1 hσ1 => ?_)
  refine Rf_I rfl hx0 hσ1 (fun σ2 hσ2 => ?_)
  exact Rf_tail hR hσ2 (zrs_cons hx0 zrs_nil) (e_cons rfl rfl)
theorem rY_For_bind_p55 (rz : zF) (rm : mF) (hR : Rc rz rm) (β : Nat) (σ : zS) (hσ : zOK σ) (x0 : Int) (hx0 : zr x0) : Rf (kY_For_bind_p55 rz β σ x0) (kC_For_bind_p55 rm (cv σ) (i32 x0)) β := by
  unfold kY_For_bind_p55 kC_For_bind_p55
  exact Rf_some hσ hx0 rfl
theorem rY_For_clausesOf (rz : zF) (rm : mF) (hR : Rc rz rm) (β : Nat) (σ : zS) (hσ : zOK σ) (x0 x1 : Int) (hx0 : zr x0) (hx1 : zr x1) : Rf (kY_For_clausesOf rz β σ x0 x1) (kC_For_clausesOf rm (cv σ) (i32 x0) (i32 x1)) β := by
  unfold kY_For_clausesOf kC_For_clausesOf
  refine Rf_eq rfl (by decide) hx1 (by decide) (fun _ => ?_) (fun _ => ?_)
  · exact Rf_tail hR hσ (zrs_cons hx0 (zrs_cons hx1 (zrs_cons (by decide) (zrs_cons hx0 zrs_nil)))) (e_cons rfl (e_cons rfl (e_cons (by decide) (e_cons rfl rfl))))
  · exact Rf_tail hR hσ (zrs_cons hx0 (zrs_cons hx1 (zrs_cons (by decide) (zrs_cons hx0 zrs_nil)))) (e_cons rfl (e_cons rfl (e_cons (by decide) (e_cons rfl rfl))))
theorem rY_For_clausesOf_p11 (rz : zF) (rm : mF) (hR : Rc rz rm) (β : Nat) (σ : zS) (hσ : zOK σ) (x0 x1 x2 x3 : Int) (hx0 : zr x0) (hx1 : zr x1) (hx2 : zr x2) (hx3 : zr x3) : Rf (kY_For_clausesOf_p11 rz β σ x0 x1 x2 x3) (kC_For_clausesOf_p11 rm (cv σ) (i32 x0) (i32 x1) (i32 x2) (i32 x3)) β := by
  unfold kY_For_clausesOf_p11 kC_For_clausesOf_p11
  refine Rf_bnd hR hσ (zrs_cons hx3 (zrs_cons hx2 zrs_nil)) (e_cons rfl (e_cons rfl rfl)) (fun σ1 r1 hσ1 hr1 => ?_)
  exact Rf_some hσ1 hr1 rfl
theorem rY_For_clear (rz : zF) (rm : mF) (hR : Rc rz rm) (β : Nat) (σ : zS) (hσ : zOK σ) : Rf (kY_For_clear rz β σ) (kC_For_clear rm (cv σ)) β := by
  unfold kY_For_clear kC_For_clear
  refine Rf_I (by decide) (by decide) hσ (fun σ1 hσ1 => ?_)
  refine Rf_I (by decide) (by decide) hσ1 (fun σ2 hσ2 => ?_)
  refine Rf_I (by decide) (by decide) hσ2 (fun σ3 hσ3 => ?_)
  refine Rf_I (by decide) (by decide) hσ3 (fun σ4 hσ4 => ?_)
  refine Rf_I (by decide) (by decide) hσ4 (fun σ5 hσ5 => ?_)
  refine Rf_I (by decide) (by decide) hσ5 (fun σ6 hσ6 => ?_)
  exact Rf_some hσ6 (by decide) (by decide)
theorem rY_For_closeSentence (rz : zF) (rm : mF) (hR : Rc rz rm) (β : Nat) (σ : zS) (hσ : zOK σ) (x0 : Int) (hx0 : zr x0) : Rf (kY_For_closeSentence rz β σ x0) (kC_For_closeSentence rm (cv σ) (i32 x0)) β := by
  unfold kY_For_closeSentence kC_For_closeSentence
  refine Rf_g (fun hg1 => ?_)
  refine Rf_g (fun hg2 => ?_)
  refine Rf_rd (e_add (e_sub rfl (by decide)) (by decide)) hg2 (fun hb3 => ?_)
  refine Rf_A (e_add (e_sub rfl (by decide)) (by decide)) hb3 rfl hx0 hσ (fun σ1 hσ1 => ?_)
  exact Rf_some hσ1 (by decide) (by decide)
theorem rY_For_get (rz : zF) (rm : mF) (hR : Rc rz rm) (β : Nat) (σ : zS) (hσ : zOK σ) (x0 x1 : Int) (hx0 : zr x0) (hx1 : zr x1) : Rf (kY_For_get rz β σ x0 x1) (kC_For_get rm (cv σ) (i32 x0) (i32 x1)) β := by
  unfold kY_For_get kC_For_get
  refine Rf_g (fun hg1 => ?_)
  refine Rf_g (fun hg2 => ?_)
  refine Rf_rd (e_add (e_mul rfl (by decide)) rfl) hg2 (fun hb3 => ?_)
  exact Rf_some hσ (hσ.2.1 _ _) (e_rd (e_add (e_mul rfl (by decide)) rfl) hb3)
theorem rY_For_isWord (rz : zF) (rm : mF) (hR : Rc rz rm) (β : Nat) (σ : zS) (hσ : zOK σ) (x0 : Int) (hx0 : zr x0) : Rf (kY_For_isWord rz β σ x0) (kC_For_isWord rm (cv σ) (i32 x0)) β := by
  unfold kY_For_isWord kC_For_isWord
  refine Rf_rd rfl hx0 (fun hb1 => ?_)
  refine Rf_eq (e_rd rfl hb1) rfl (hσ.2.1 _ _) (hσ.1 3204) (fun _ => ?_) (fun _ => ?_)
  · exact Rf_tail hR hσ (zrs_cons hx0 (zrs_cons (by decide) zrs_nil)) (e_cons rfl (e_cons (by decide) rfl))
  · exact Rf_some hσ (by decide) (by decide)
theorem rY_For_isWord_p17 (rz : zF) (rm : mF) (hR : Rc rz rm) (β : Nat) (σ : zS) (hσ : zOK σ) (x0 x1 : Int) (hx0 : zr x0) (hx1 : zr x1) : Rf (kY_For_isWord_p17 rz β σ x0 x1) (kC_For_isWord_p17 rm (cv σ) (i32 x0) (i32 x1)) β := by
  unfold kY_For_isWord_p17 kC_For_isWord_p17
  refine Rf_le rfl rfl (hσ.1 3204) hx1 (fun _ => ?_) (fun _ => ?_)
  · exact Rf_some hσ (by decide) (by decide)
  · refine Rf_rd rfl hx0 (fun hb1 => ?_)
    refine Rf_g (fun hg2 => ?_)
    refine Rf_rd (e_add (e_rd rfl hb1) rfl) hg2 (fun hb3 => ?_)
    refine Rf_g (fun hg4 => ?_)
    refine Rf_rd (e_add rfl rfl) hg4 (fun hb5 => ?_)
    refine Rf_eq (e_rd (e_add (e_rd rfl hb1) rfl) hb3) (e_rd (e_add rfl rfl) hb5) (hσ.2.1 _ _) (hσ.2.1 _ _) (fun _ => ?_) (fun _ => ?_)
    · refine Rf_g (fun hg6 => ?_)
      exact Rf_tail hR hσ (zrs_cons hx0 (zrs_cons hg6 zrs_nil)) (e_cons rfl (e_cons (e_add rfl (by decide)) rfl))
    · exact Rf_some hσ (by decide) (by decide)
theorem rY_For_makeWitnesses (rz : zF) (rm : mF) (hR : Rc rz rm) (β : Nat) (σ : zS) (hσ : zOK σ) : Rf (kY_For_makeWitnesses rz β σ) (kC_For_makeWitnesses rm (cv σ)) β := by
  unfold kY_For_makeWitnesses kC_For_makeWitnesses
  exact Rf_tail hR hσ (zrs_cons (by decide) zrs_nil) (e_cons (by decide) rfl)
theorem rY_For_makeWitnesses_p2 (rz : zF) (rm : mF) (hR : Rc rz rm) (β : Nat) (σ : zS) (hσ : zOK σ) (x0 : Int) (hx0 : zr x0) : Rf (kY_For_makeWitnesses_p2 rz β σ x0) (kC_For_makeWitnesses_p2 rm (cv σ) (i32 x0)) β := by
  unfold kY_For_makeWitnesses_p2 kC_For_makeWitnesses_p2
  refine Rf_le rfl rfl (hσ.1 2001) hx0 (fun _ => ?_) (fun _ => ?_)
  · refine Rf_nz (by decide) ?_
    refine Rf_g (fun hg1 => ?_)
    refine Rf_g (fun hg2 => ?_)
    exact Rf_tail hR hσ (zrs_cons hg2 zrs_nil) (e_cons (e_sub (e_div rfl (by decide) (hσ.1 1801) (by decide)) (by decide)) rfl)
  · refine Rf_g (fun hg3 => ?_)
    refine Rf_rd (e_add rfl (by decide)) hg3 (fun hb4 => ?_)
    refine Rf_eq (e_rd (e_add rfl (by decide)) hb4) (by decide) (hσ.2.1 _ _) (by decide) (fun _ => ?_) (fun _ => ?_)
    · exact Rf_tail hR hσ (zrs_cons hx0 (zrs_cons (by decide) zrs_nil)) (e_cons rfl (e_cons (by decide) rfl))
    · exact Rf_tail hR hσ (zrs_cons hx0 (zrs_cons (by decide) zrs_nil)) (e_cons rfl (e_cons (by decide) rfl))
theorem rY_For_makeWitnesses_p33 (rz : zF) (rm : mF) (hR : Rc rz rm) (β : Nat) (σ : zS) (hσ : zOK σ) (x0 x1 : Int) (hx0 : zr x0) (hx1 : zr x1) : Rf (kY_For_makeWitnesses_p33 rz β σ x0 x1) (kC_For_makeWitnesses_p33 rm (cv σ) (i32 x0) (i32 x1)) β := by
  unfold kY_For_makeWitnesses_p33 kC_For_makeWitnesses_p33
  refine Rf_g (fun hg1 => ?_)
  refine Rf_rd (e_add rfl (by decide)) hg1 (fun hb2 => ?_)
  refine Rf_eq rfl (by decide) hx1 (by decide) (fun _ => ?_) (fun _ => ?_)
  · exact Rf_tail hR hσ (zrs_cons hx0 (zrs_cons hx1 (zrs_cons (by decide) (zrs_cons (hσ.2.1 _ _) zrs_nil)))) (e_cons rfl (e_cons rfl (e_cons (by decide) (e_cons (e_rd (e_add rfl (by decide)) hb2) rfl))))
  · exact Rf_tail hR hσ (zrs_cons hx0 (zrs_cons hx1 (zrs_cons (by decide) (zrs_cons (hσ.2.1 _ _) zrs_nil)))) (e_cons rfl (e_cons rfl (e_cons (by decide) (e_cons (e_rd (e_add rfl (by decide)) hb2) rfl))))
theorem rY_For_makeWitnesses_p55 (rz : zF) (rm : mF) (hR : Rc rz rm) (β : Nat) (σ : zS) (hσ : zOK σ) (x0 x1 x2 x3 : Int) (hx0 : zr x0) (hx1 : zr x1) (hx2 : zr x2) (hx3 : zr x3) : Rf (kY_For_makeWitnesses_p55 rz β σ x0 x1 x2 x3) (kC_For_makeWitnesses_p55 rm (cv σ) (i32 x0) (i32 x1) (i32 x2) (i32 x3)) β := by
  unfold kY_For_makeWitnesses_p55 kC_For_makeWitnesses_p55
  refine Rf_bnd hR hσ (zrs_cons hx3 (zrs_cons hx2 zrs_nil)) (e_cons rfl (e_cons rfl rfl)) (fun σ1 r1 hσ1 hr1 => ?_)
  refine Rf_bnd hR hσ1 (zrs_cons hx0 (zrs_cons hx1 zrs_nil)) (e_cons rfl (e_cons rfl rfl)) (fun σ2 r2 hσ2 hr2 => ?_)
  refine Rf_g (fun hg1 => ?_)
  exact Rf_tail hR hσ2 (zrs_cons hg1 zrs_nil) (e_cons (e_add rfl (by decide)) rfl)
theorem rY_For_makeWitnesses_p83 (rz : zF) (rm : mF) (hR : Rc rz rm) (β : Nat) (σ : zS) (hσ : zOK σ) (x0 : Int) (hx0 : zr x0) : Rf (kY_For_makeWitnesses_p83 rz β σ x0) (kC_For_makeWitnesses_p83 rm (cv σ) (i32 x0)) β := by
  unfold kY_For_makeWitnesses_p83 kC_For_makeWitnesses_p83
  refine Rf_lt rfl (by decide) hx0 (by decide) (fun _ => ?_) (fun _ => ?_)
  · exact Rf_tail hR hσ (zrs_cons (by decide) zrs_nil) (e_cons (by decide) rfl)
  · refine Rf_bnd hR hσ (zrs_cons hx0 (zrs_cons (by decide) zrs_nil)) (e_cons rfl (e_cons (by decide) rfl)) (fun σ1 r1 hσ1 hr1 => ?_)
    refine Rf_bnd hR hσ1 (zrs_cons hx0 (zrs_cons hr1 zrs_nil)) (e_cons rfl (e_cons rfl rfl)) (fun σ2 r2 hσ2 hr2 => ?_)
    refine Rf_g (fun hg1 => ?_)
    exact Rf_tail hR hσ2 (zrs_cons hg1 zrs_nil) (e_cons (e_add rfl (by decide)) rfl)
theorem rY_For_makeWitnesses_p107 (rz : zF) (rm : mF) (hR : Rc rz rm) (β : Nat) (σ : zS) (hσ : zOK σ) (x0 : Int) (hx0 : zr x0) : Rf (kY_For_makeWitnesses_p107 rz β σ x0) (kC_For_makeWitnesses_p107 rm (cv σ) (i32 x0)) β := by
  unfold kY_For_makeWitnesses_p107 kC_For_makeWitnesses_p107
  refine Rf_le rfl rfl (hσ.1 1402) hx0 (fun _ => ?_) (fun _ => ?_)
  · exact Rf_some hσ (by decide) (by decide)
  · refine Rf_rd rfl hx0 (fun hb1 => ?_)
    refine Rf_eq (e_rd rfl hb1) (by decide) (hσ.2.1 _ _) (by decide) (fun _ => ?_) (fun _ => ?_)
    · exact Rf_tail hR hσ (zrs_cons hx0 (zrs_cons (by decide) (zrs_cons hx0 zrs_nil))) (e_cons rfl (e_cons (by decide) (e_cons rfl rfl)))
    · refine Rf_bnd hR hσ (zrs_cons hx0 zrs_nil) (e_cons rfl rfl) (fun σ1 r1 hσ1 hr1 => ?_)
      refine Rf_bnd hR hσ1 (zrs_cons hr1 zrs_nil) (e_cons rfl rfl) (fun σ2 r2 hσ2 hr2 => ?_)
      exact Rf_tail hR hσ2 (zrs_cons hx0 (zrs_cons hr2 (zrs_cons hx0 zrs_nil))) (e_cons rfl (e_cons rfl (e_cons rfl rfl)))
theorem rY_For_makeWitnesses_p145 (rz : zF) (rm : mF) (hR : Rc rz rm) (β : Nat) (σ : zS) (hσ : zOK σ) (x0 x1 x2 : Int) (hx0 : zr x0) (hx1 : zr x1) (hx2 : zr x2) : Rf (kY_For_makeWitnesses_p145 rz β σ x0 x1 x2) (kC_For_makeWitnesses_p145 rm (cv σ) (i32 x0) (i32 x1) (i32 x2)) β := by
  unfold kY_For_makeWitnesses_p145 kC_For_makeWitnesses_p145
  refine Rf_rd rfl hx2 (fun hb1 => ?_)
  refine Rf_A rfl hb1 rfl hx1 hσ (fun σ1 hσ1 => ?_)
  refine Rf_g (fun hg2 => ?_)
  exact Rf_tail hR hσ1 (zrs_cons hg2 zrs_nil) (e_cons (e_add rfl (by decide)) rfl)
theorem rY_For_reach (rz : zF) (rm : mF) (hR : Rc rz rm) (β : Nat) (σ : zS) (hσ : zOK σ) (x0 x1 : Int) (hx0 : zr x0) (hx1 : zr x1) : Rf (kY_For_reach rz β σ x0 x1) (kC_For_reach rm (cv σ) (i32 x0) (i32 x1)) β := by
  unfold kY_For_reach kC_For_reach
  refine Rf_g (fun hg1 => ?_)
  refine Rf_g (fun hg2 => ?_)
  refine Rf_rd (e_add (e_mul rfl (by decide)) (by decide)) hg2 (fun hb3 => ?_)
  refine Rf_rd2 (e_add (e_mul rfl (by decide)) (by decide)) hb3 ?_
  refine Rf_A (e_add (e_mul rfl (by decide)) (by decide)) hb3 (e_or (e_rd (e_add (e_mul rfl (by decide)) (by decide)) hb3) rfl) (zr_to _) hσ (fun σ1 hσ1 => ?_)
  exact Rf_some hσ1 (by decide) (by decide)
theorem rY_For_reachParts (rz : zF) (rm : mF) (hR : Rc rz rm) (β : Nat) (σ : zS) (hσ : zOK σ) (x0 x1 : Int) (hx0 : zr x0) (hx1 : zr x1) : Rf (kY_For_reachParts rz β σ x0 x1) (kC_For_reachParts rm (cv σ) (i32 x0) (i32 x1)) β := by
  unfold kY_For_reachParts kC_For_reachParts
  refine Rf_bnd hR hσ (zrs_cons hx0 (zrs_cons (by decide) zrs_nil)) (e_cons rfl (e_cons (by decide) rfl)) (fun σ1 r1 hσ1 hr1 => ?_)
  refine Rf_bnd hR hσ1 (zrs_cons hx0 (zrs_cons (by decide) zrs_nil)) (e_cons rfl (e_cons (by decide) rfl)) (fun σ2 r2 hσ2 hr2 => ?_)
  refine Rf_bnd hR hσ2 (zrs_cons hx0 (zrs_cons (by decide) zrs_nil)) (e_cons rfl (e_cons (by decide) rfl)) (fun σ3 r3 hσ3 hr3 => ?_)
  refine Rf_out rfl hr3 (fun _ => ?_) (fun _ => ?_)
  · exact Rf_tail hR hσ3 (zrs_cons hx0 (zrs_cons hx1 (zrs_cons (zr_to _) (zrs_cons hr1 (zrs_cons hr2 zrs_nil))))) (e_cons rfl (e_cons rfl (e_cons (e_or (e_shr rfl (by decide)) (e_shl (e_and rfl (by decide)) (by decide))) (e_cons rfl (e_cons rfl rfl)))))
  · refine Rf_eq rfl (by decide) hr3 (by decide) (fun _ => ?_) (fun _ => ?_)
    · refine Rf_bnd hR hσ3 (zrs_cons hr1 (zrs_cons (zr_to _) zrs_nil)) (e_cons rfl (e_cons (e_or (e_shr rfl (by decide)) (e_shl (e_and rfl (by decide)) (by decide))) rfl)) (fun σ4 r4 hσ4 hr4 => ?_)
      exact Rf_tail hR hσ4 (zrs_cons hx0 (zrs_cons hx1 (zrs_cons (zr_to _) (zrs_cons hr1 (zrs_cons hr2 zrs_nil))))) (e_cons rfl (e_cons rfl (e_cons (e_or (e_shr rfl (by decide)) (e_shl (e_and rfl (by decide)) (by decide))) (e_cons rfl (e_cons rfl rfl)))))
    · refine Rf_eq rfl (by decide) hr3 (by decide) (fun _ => ?_) (fun _ => ?_)
      · refine Rf_bnd hR hσ3 (zrs_cons hr1 (zrs_cons hx1 zrs_nil)) (e_cons rfl (e_cons rfl rfl)) (fun σ5 r5 hσ5 hr5 => ?_)
        refine Rf_bnd hR hσ5 (zrs_cons hx0 (zrs_cons (by decide) zrs_nil)) (e_cons rfl (e_cons (by decide) rfl)) (fun σ6 r6 hσ6 hr6 => ?_)
        refine Rf_eq rfl (by decide) hr6 (by decide) (fun _ => ?_) (fun _ => ?_)
        · exact Rf_tail hR hσ6 (zrs_cons hx0 (zrs_cons hx1 (zrs_cons (zr_to _) (zrs_cons hr1 (zrs_cons hr2 (zrs_cons (by decide) (zrs_cons hx1 (zrs_cons hr2 zrs_nil)))))))) (e_cons rfl (e_cons rfl (e_cons (e_or (e_shr rfl (by decide)) (e_shl (e_and rfl (by decide)) (by decide))) (e_cons rfl (e_cons rfl (e_cons (by decide) (e_cons rfl (e_cons rfl rfl))))))))
        · exact Rf_tail hR hσ6 (zrs_cons hx0 (zrs_cons hx1 (zrs_cons (zr_to _) (zrs_cons hr1 (zrs_cons hr2 (zrs_cons (by decide) (zrs_cons hx1 (zrs_cons hr2 zrs_nil)))))))) (e_cons rfl (e_cons rfl (e_cons (e_or (e_shr rfl (by decide)) (e_shl (e_and rfl (by decide)) (by decide))) (e_cons rfl (e_cons rfl (e_cons (by decide) (e_cons rfl (e_cons rfl rfl))))))))
      · refine Rf_eq rfl (by decide) hr3 (by decide) (fun _ => ?_) (fun _ => ?_)
        · refine Rf_bnd hR hσ3 (zrs_cons hr1 (zrs_cons hx1 zrs_nil)) (e_cons rfl (e_cons rfl rfl)) (fun σ7 r7 hσ7 hr7 => ?_)
          refine Rf_bnd hR hσ7 (zrs_cons hx0 (zrs_cons (by decide) zrs_nil)) (e_cons rfl (e_cons (by decide) rfl)) (fun σ8 r8 hσ8 hr8 => ?_)
          refine Rf_eq rfl (by decide) hr8 (by decide) (fun _ => ?_) (fun _ => ?_)
          · exact Rf_tail hR hσ8 (zrs_cons hx0 (zrs_cons hx1 (zrs_cons (zr_to _) (zrs_cons hr1 (zrs_cons hr2 (zrs_cons (by decide) (zrs_cons hx1 (zrs_cons hr2 zrs_nil)))))))) (e_cons rfl (e_cons rfl (e_cons (e_or (e_shr rfl (by decide)) (e_shl (e_and rfl (by decide)) (by decide))) (e_cons rfl (e_cons rfl (e_cons (by decide) (e_cons rfl (e_cons rfl rfl))))))))
          · exact Rf_tail hR hσ8 (zrs_cons hx0 (zrs_cons hx1 (zrs_cons (zr_to _) (zrs_cons hr1 (zrs_cons hr2 (zrs_cons (by decide) (zrs_cons hx1 (zrs_cons hr2 zrs_nil)))))))) (e_cons rfl (e_cons rfl (e_cons (e_or (e_shr rfl (by decide)) (e_shl (e_and rfl (by decide)) (by decide))) (e_cons rfl (e_cons rfl (e_cons (by decide) (e_cons rfl (e_cons rfl rfl))))))))
        · refine Rf_eq rfl (by decide) hr3 (by decide) (fun _ => ?_) (fun _ => ?_)
          · refine Rf_bnd hR hσ3 (zrs_cons hr1 (zrs_cons hx1 zrs_nil)) (e_cons rfl (e_cons rfl rfl)) (fun σ9 r9 hσ9 hr9 => ?_)
            refine Rf_bnd hR hσ9 (zrs_cons hr2 (zrs_cons hx1 zrs_nil)) (e_cons rfl (e_cons rfl rfl)) (fun σ10 r10 hσ10 hr10 => ?_)
            exact Rf_tail hR hσ10 (zrs_cons hx0 (zrs_cons hx1 (zrs_cons (zr_to _) (zrs_cons hr1 (zrs_cons hr2 zrs_nil))))) (e_cons rfl (e_cons rfl (e_cons (e_or (e_shr rfl (by decide)) (e_shl (e_and rfl (by decide)) (by decide))) (e_cons rfl (e_cons rfl rfl)))))
          · refine Rf_eq rfl (by decide) hr3 (by decide) (fun _ => ?_) (fun _ => ?_)
            · refine Rf_bnd hR hσ3 (zrs_cons hr1 (zrs_cons hx1 zrs_nil)) (e_cons rfl (e_cons rfl rfl)) (fun σ11 r11 hσ11 hr11 => ?_)
              refine Rf_bnd hR hσ11 (zrs_cons hr2 (zrs_cons hx1 zrs_nil)) (e_cons rfl (e_cons rfl rfl)) (fun σ12 r12 hσ12 hr12 => ?_)
              exact Rf_tail hR hσ12 (zrs_cons hx0 (zrs_cons hx1 (zrs_cons (zr_to _) (zrs_cons hr1 (zrs_cons hr2 zrs_nil))))) (e_cons rfl (e_cons rfl (e_cons (e_or (e_shr rfl (by decide)) (e_shl (e_and rfl (by decide)) (by decide))) (e_cons rfl (e_cons rfl rfl)))))
            · refine Rf_eq rfl (by decide) hr3 (by decide) (fun _ => ?_) (fun _ => ?_)
              · refine Rf_bnd hR hσ3 (zrs_cons hr1 (zrs_cons (zr_to _) zrs_nil)) (e_cons rfl (e_cons (e_or (e_shr rfl (by decide)) (e_shl (e_and rfl (by decide)) (by decide))) rfl)) (fun σ13 r13 hσ13 hr13 => ?_)
                refine Rf_bnd hR hσ13 (zrs_cons hr2 (zrs_cons hx1 zrs_nil)) (e_cons rfl (e_cons rfl rfl)) (fun σ14 r14 hσ14 hr14 => ?_)
                exact Rf_tail hR hσ14 (zrs_cons hx0 (zrs_cons hx1 (zrs_cons (zr_to _) (zrs_cons hr1 (zrs_cons hr2 zrs_nil))))) (e_cons rfl (e_cons rfl (e_cons (e_or (e_shr rfl (by decide)) (e_shl (e_and rfl (by decide)) (by decide))) (e_cons rfl (e_cons rfl rfl)))))
              · refine Rf_bnd hR hσ3 (zrs_cons hr1 (zrs_cons (by decide) zrs_nil)) (e_cons rfl (e_cons (by decide) rfl)) (fun σ15 r15 hσ15 hr15 => ?_)
                refine Rf_bnd hR hσ15 (zrs_cons hr2 (zrs_cons (by decide) zrs_nil)) (e_cons rfl (e_cons (by decide) rfl)) (fun σ16 r16 hσ16 hr16 => ?_)
                exact Rf_tail hR hσ16 (zrs_cons hx0 (zrs_cons hx1 (zrs_cons (zr_to _) (zrs_cons hr1 (zrs_cons hr2 zrs_nil))))) (e_cons rfl (e_cons rfl (e_cons (e_or (e_shr rfl (by decide)) (e_shl (e_and rfl (by decide)) (by decide))) (e_cons rfl (e_cons rfl rfl)))))
theorem rY_For_reachParts_p116 (rz : zF) (rm : mF) (hR : Rc rz rm) (β : Nat) (σ : zS) (hσ : zOK σ) (x0 x1 x2 x3 x4 x5 x6 x7 : Int) (hx0 : zr x0) (hx1 : zr x1) (hx2 : zr x2) (hx3 : zr x3) (hx4 : zr x4) (hx5 : zr x5) (hx6 : zr x6) (hx7 : zr x7) : Rf (kY_For_reachParts_p116 rz β σ x0 x1 x2 x3 x4 x5 x6 x7) (kC_For_reachParts_p116 rm (cv σ) (i32 x0) (i32 x1) (i32 x2) (i32 x3) (i32 x4) (i32 x5) (i32 x6) (i32 x7)) β := by
  unfold kY_For_reachParts_p116 kC_For_reachParts_p116
  refine Rf_eq (e_and rfl rfl) (by decide) (zr_to _) (by decide) (fun _ => ?_) (fun _ => ?_)
  · exact Rf_tail hR hσ (zrs_cons hx0 (zrs_cons hx1 (zrs_cons hx2 (zrs_cons hx3 (zrs_cons hx4 (zrs_cons (by decide) (zrs_cons hx7 zrs_nil))))))) (e_cons rfl (e_cons rfl (e_cons rfl (e_cons rfl (e_cons rfl (e_cons (by decide) (e_cons rfl rfl)))))))
  · exact Rf_tail hR hσ (zrs_cons hx0 (zrs_cons hx1 (zrs_cons hx2 (zrs_cons hx3 (zrs_cons hx4 (zrs_cons (by decide) (zrs_cons hx7 zrs_nil))))))) (e_cons rfl (e_cons rfl (e_cons rfl (e_cons rfl (e_cons rfl (e_cons (by decide) (e_cons rfl rfl)))))))
theorem rY_For_reachParts_p125 (rz : zF) (rm : mF) (hR : Rc rz rm) (β : Nat) (σ : zS) (hσ : zOK σ) (x0 x1 x2 x3 x4 x5 x6 : Int) (hx0 : zr x0) (hx1 : zr x1) (hx2 : zr x2) (hx3 : zr x3) (hx4 : zr x4) (hx5 : zr x5) (hx6 : zr x6) : Rf (kY_For_reachParts_p125 rz β σ x0 x1 x2 x3 x4 x5 x6) (kC_For_reachParts_p125 rm (cv σ) (i32 x0) (i32 x1) (i32 x2) (i32 x3) (i32 x4) (i32 x5) (i32 x6)) β := by
  unfold kY_For_reachParts_p125 kC_For_reachParts_p125
  refine Rf_rd rfl hx6 (fun hb1 => ?_)
  refine Rf_g (fun hg2 => ?_)
  refine Rf_A rfl hb1 (e_bool rfl hg2) hx5 hσ (fun σ1 hσ1 => ?_)
  exact Rf_tail hR hσ1 (zrs_cons hx0 (zrs_cons hx1 (zrs_cons hx2 (zrs_cons hx3 (zrs_cons hx4 zrs_nil))))) (e_cons rfl (e_cons rfl (e_cons rfl (e_cons rfl (e_cons rfl rfl)))))
theorem rY_For_reachParts_p180 (rz : zF) (rm : mF) (hR : Rc rz rm) (β : Nat) (σ : zS) (hσ : zOK σ) (x0 x1 x2 x3 x4 : Int) (hx0 : zr x0) (hx1 : zr x1) (hx2 : zr x2) (hx3 : zr x3) (hx4 : zr x4) : Rf (kY_For_reachParts_p180 rz β σ x0 x1 x2 x3 x4) (kC_For_reachParts_p180 rm (cv σ) (i32 x0) (i32 x1) (i32 x2) (i32 x3) (i32 x4)) β := by
  unfold kY_For_reachParts_p180 kC_For_reachParts_p180
  exact Rf_some hσ (by decide) (by decide)
theorem rY_For_replaceFree (rz : zF) (rm : mF) (hR : Rc rz rm) (β : Nat) (σ : zS) (hσ : zOK σ) (x0 x1 : Int) (hx0 : zr x0) (hx1 : zr x1) : Rf (kY_For_replaceFree rz β σ x0 x1) (kC_For_replaceFree rm (cv σ) (i32 x0) (i32 x1)) β := by
  unfold kY_For_replaceFree kC_For_replaceFree
  refine Rf_g (fun hg1 => ?_)
  refine Rf_rd (e_add rfl (by decide)) hg1 (fun hb2 => ?_)
  exact Rf_tail hR hσ (zrs_cons hx0 (zrs_cons hx1 (zrs_cons (hσ.2.1 _ _) zrs_nil))) (e_cons rfl (e_cons rfl (e_cons (e_rd (e_add rfl (by decide)) hb2) rfl)))
theorem rY_For_replaceFree_p12 (rz : zF) (rm : mF) (hR : Rc rz rm) (β : Nat) (σ : zS) (hσ : zOK σ) (x0 x1 x2 : Int) (hx0 : zr x0) (hx1 : zr x1) (hx2 : zr x2) : Rf (kY_For_replaceFree_p12 rz β σ x0 x1 x2) (kC_For_replaceFree_p12 rm (cv σ) (i32 x0) (i32 x1) (i32 x2)) β := by
  unfold kY_For_replaceFree_p12 kC_For_replaceFree_p12
  refine Rf_g (fun hg1 => ?_)
  refine Rf_rd (e_add rfl (by decide)) hg1 (fun hb2 => ?_)
  refine Rf_le (e_rd (e_add rfl (by decide)) hb2) rfl (hσ.2.1 _ _) hx2 (fun _ => ?_) (fun _ => ?_)
  · exact Rf_some hσ (by decide) (by decide)
  · refine Rf_rd rfl hx2 (fun hb3 => ?_)
    refine Rf_rd (e_rd rfl hb3) (hσ.2.1 _ _) (fun hb4 => ?_)
    refine Rf_g (fun hg5 => ?_)
    refine Rf_A (e_rd rfl hb3) hb4 (e_bool rfl hg5) hx1 hσ (fun σ1 hσ1 => ?_)
    refine Rf_g (fun hg6 => ?_)
    exact Rf_tail hR hσ1 (zrs_cons hx0 (zrs_cons hx1 (zrs_cons hg6 zrs_nil))) (e_cons rfl (e_cons rfl (e_cons (e_add rfl (by decide)) rfl)))
theorem rY_For_variableOf (rz : zF) (rm : mF) (hR : Rc rz rm) (β : Nat) (σ : zS) (hσ : zOK σ) : Rf (kY_For_variableOf rz β σ) (kC_For_variableOf rm (cv σ)) β := by
  unfold kY_For_variableOf kC_For_variableOf
  exact Rf_tail hR hσ (zrs_cons (hσ.1 1403) (zrs_cons (by decide) zrs_nil)) (e_cons rfl (e_cons (by decide) rfl))
theorem rY_For_variableOf_p7 (rz : zF) (rm : mF) (hR : Rc rz rm) (β : Nat) (σ : zS) (hσ : zOK σ) (x0 x1 : Int) (hx0 : zr x0) (hx1 : zr x1) : Rf (kY_For_variableOf_p7 rz β σ x0 x1) (kC_For_variableOf_p7 rm (cv σ) (i32 x0) (i32 x1)) β := by
  unfold kY_For_variableOf_p7 kC_For_variableOf_p7
  refine Rf_le (by decide) rfl (by decide) hx1 (fun _ => ?_) (fun _ => ?_)
  · exact Rf_tail hR hσ (zrs_cons hx0 (zrs_cons hx1 zrs_nil)) (e_cons rfl (e_cons rfl rfl))
  · refine Rf_eq rfl (by decide) hx0 (by decide) (fun _ => ?_) (fun _ => ?_)
    · exact Rf_tail hR hσ (zrs_cons hx0 (zrs_cons hx1 zrs_nil)) (e_cons rfl (e_cons rfl rfl))
    · refine Rf_bnd hR hσ (zrs_cons hx0 zrs_nil) (e_cons rfl rfl) (fun σ1 r1 hσ1 hr1 => ?_)
      refine Rf_eq rfl (by decide) hr1 (by decide) (fun _ => ?_) (fun _ => ?_)
      · refine Rf_rd rfl hx0 (fun hb1 => ?_)
        refine Rf_g (fun hg2 => ?_)
        exact Rf_tail hR hσ1 (zrs_cons (hσ1.2.1 _ _) (zrs_cons hg2 zrs_nil)) (e_cons (e_rd rfl hb1) (e_cons (e_add rfl (by decide)) rfl))
      · exact Rf_some hσ1 hx0 rfl
theorem rY_For_variableOf_p43 (rz : zF) (rm : mF) (hR : Rc rz rm) (β : Nat) (σ : zS) (hσ : zOK σ) (x0 x1 : Int) (hx0 : zr x0) (hx1 : zr x1) : Rf (kY_For_variableOf_p43 rz β σ x0 x1) (kC_For_variableOf_p43 rm (cv σ) (i32 x0) (i32 x1)) β := by
  unfold kY_For_variableOf_p43 kC_For_variableOf_p43
  refine Rf_g (fun hg1 => ?_)
  refine Rf_g (fun hg2 => ?_)
  refine Rf_rd (e_add (e_sub rfl (by decide)) (by decide)) hg2 (fun hb3 => ?_)
  exact Rf_tail hR hσ (zrs_cons hx0 (zrs_cons hg1 (zrs_cons (hσ.2.1 _ _) zrs_nil))) (e_cons rfl (e_cons (e_sub rfl (by decide)) (e_cons (e_rd (e_add (e_sub rfl (by decide)) (by decide)) hb3) rfl)))
theorem rY_For_variableOf_p66 (rz : zF) (rm : mF) (hR : Rc rz rm) (β : Nat) (σ : zS) (hσ : zOK σ) (x0 x1 x2 : Int) (hx0 : zr x0) (hx1 : zr x1) (hx2 : zr x2) : Rf (kY_For_variableOf_p66 rz β σ x0 x1 x2) (kC_For_variableOf_p66 rm (cv σ) (i32 x0) (i32 x1) (i32 x2)) β := by
  unfold kY_For_variableOf_p66 kC_For_variableOf_p66
  refine Rf_le rfl rfl (hσ.1 1414) hx2 (fun _ => ?_) (fun _ => ?_)
  · refine Rf_bnd hR hσ zrs_nil rfl (fun σ1 r1 hσ1 hr1 => ?_)
    refine Rf_eq rfl (by decide) hr1 (by decide) (fun _ => ?_) (fun _ => ?_)
    · exact Rf_tail hR hσ1 (zrs_cons hr1 (zrs_cons hx1 (zrs_cons hx2 zrs_nil))) (e_cons rfl (e_cons rfl (e_cons rfl rfl)))
    · refine Rf_rd rfl hr1 (fun hb1 => ?_)
      refine Rf_A rfl hb1 (by decide) (by decide) hσ1 (fun σ2 hσ2 => ?_)
      refine Rf_g (fun hg2 => ?_)
      refine Rf_rd (e_add rfl (by decide)) hg2 (fun hb3 => ?_)
      refine Rf_rd2 rfl hb1 ?_
      refine Rf_g (fun hg4 => ?_)
      refine Rf_A rfl hb1 (e_sub rfl (e_rd (e_add rfl (by decide)) hb3)) hg4 hσ2 (fun σ3 hσ3 => ?_)
      refine Rf_g (fun hg5 => ?_)
      refine Rf_I (e_add rfl (by decide)) hg5 hσ3 (fun σ4 hσ4 => ?_)
      refine Rf_rd rfl (hσ3.1 1414) (fun hb6 => ?_)
      refine Rf_A rfl hb6 rfl hr1 hσ4 (fun σ5 hσ5 => ?_)
      refine Rf_g (fun hg7 => ?_)
      refine Rf_rd (e_add rfl (by decide)) hg7 (fun hb8 => ?_)
      refine Rf_A (e_add rfl (by decide)) hb8 rfl (hσ5.1 1414) hσ5 (fun σ6 hσ6 => ?_)
      exact Rf_tail hR hσ6 (zrs_cons hr1 (zrs_cons hx1 (zrs_cons hx2 zrs_nil))) (e_cons rfl (e_cons rfl (e_cons rfl rfl)))
  · refine Rf_rd rfl hx2 (fun hb9 => ?_)
    refine Rf_bnd hR hσ (zrs_cons (hσ.2.1 _ _) zrs_nil) (e_cons (e_rd rfl hb9) rfl) (fun σ7 r7 hσ7 hr7 => ?_)
    refine Rf_eq rfl (by decide) hr7 (by decide) (fun _ => ?_) (fun _ => ?_)
    · refine Rf_g (fun hg10 => ?_)
      exact Rf_tail hR hσ7 (zrs_cons hx0 (zrs_cons hx1 (zrs_cons hg10 zrs_nil))) (e_cons rfl (e_cons rfl (e_cons (e_add rfl (by decide)) rfl)))
    · refine Rf_rd2 rfl hb9 ?_
      exact Rf_some hσ7 (hσ7.2.1 _ _) (e_rd rfl hb9)
theorem rY_For_variableOf_p177 (rz : zF) (rm : mF) (hR : Rc rz rm) (β : Nat) (σ : zS) (hσ : zOK σ) (x0 x1 x2 : Int) (hx0 : zr x0) (hx1 : zr x1) (hx2 : zr x2) : Rf (kY_For_variableOf_p177 rz β σ x0 x1 x2) (kC_For_variableOf_p177 rm (cv σ) (i32 x0) (i32 x1) (i32 x2)) β := by
  unfold kY_For_variableOf_p177 kC_For_variableOf_p177
  exact Rf_some hσ hx0 rfl
theorem rY_For_writeLiteral (rz : zF) (rm : mF) (hR : Rc rz rm) (β : Nat) (σ : zS) (hσ : zOK σ) (x0 x1 x2 : Int) (hx0 : zr x0) (hx1 : zr x1) (hx2 : zr x2) : Rf (kY_For_writeLiteral rz β σ x0 x1 x2) (kC_For_writeLiteral rm (cv σ) (i32 x0) (i32 x1) (i32 x2)) β := by
  unfold kY_For_writeLiteral kC_For_writeLiteral
  refine Rf_bnd hR hσ (zrs_cons hx0 zrs_nil) (e_cons rfl rfl) (fun σ1 r1 hσ1 hr1 => ?_)
  refine Rf_bnd hR hσ1 (zrs_cons hx1 zrs_nil) (e_cons rfl rfl) (fun σ2 r2 hσ2 hr2 => ?_)
  refine Rf_bnd hR hσ2 zrs_nil rfl (fun σ3 r3 hσ3 hr3 => ?_)
  refine Rf_eq rfl (by decide) hx2 (by decide) (fun _ => ?_) (fun _ => ?_)
  · refine Rf_bnd hR hσ3 (zrs_cons (by decide) zrs_nil) (e_cons (by decide) rfl) (fun σ5 r5 hσ5 hr5 => ?_)
    exact Rf_tail hR hσ5 (zrs_cons hx0 (zrs_cons hx1 (zrs_cons hx2 zrs_nil))) (e_cons rfl (e_cons rfl (e_cons rfl rfl)))
  · refine Rf_bnd hR hσ3 (zrs_cons hx2 zrs_nil) (e_cons rfl rfl) (fun σ4 r4 hσ4 hr4 => ?_)
    exact Rf_tail hR hσ4 (zrs_cons hx0 (zrs_cons hx1 (zrs_cons hx2 zrs_nil))) (e_cons rfl (e_cons rfl (e_cons rfl rfl)))
theorem rY_For_writeLiteral_p36 (rz : zF) (rm : mF) (hR : Rc rz rm) (β : Nat) (σ : zS) (hσ : zOK σ) (x0 x1 x2 : Int) (hx0 : zr x0) (hx1 : zr x1) (hx2 : zr x2) : Rf (kY_For_writeLiteral_p36 rz β σ x0 x1 x2) (kC_For_writeLiteral_p36 rm (cv σ) (i32 x0) (i32 x1) (i32 x2)) β := by
  unfold kY_For_writeLiteral_p36 kC_For_writeLiteral_p36
  refine Rf_bnd hR hσ zrs_nil rfl (fun σ1 r1 hσ1 hr1 => ?_)
  exact Rf_some hσ1 (by decide) (by decide)
theorem rY_For_writeTerm (rz : zF) (rm : mF) (hR : Rc rz rm) (β : Nat) (σ : zS) (hσ : zOK σ) (x0 : Int) (hx0 : zr x0) : Rf (kY_For_writeTerm rz β σ x0) (kC_For_writeTerm rm (cv σ) (i32 x0)) β := by
  unfold kY_For_writeTerm kC_For_writeTerm
  refine Rf_bnd hR hσ (zrs_cons hx0 zrs_nil) (e_cons rfl rfl) (fun σ1 r1 hσ1 hr1 => ?_)
  exact Rf_tail hR hσ1 (zrs_cons hx0 (zrs_cons hr1 (zrs_cons hx0 zrs_nil))) (e_cons rfl (e_cons rfl (e_cons rfl rfl)))
theorem rY_For_writeTerm_p19 (rz : zF) (rm : mF) (hR : Rc rz rm) (β : Nat) (σ : zS) (hσ : zOK σ) (x0 x1 x2 : Int) (hx0 : zr x0) (hx1 : zr x1) (hx2 : zr x2) : Rf (kY_For_writeTerm_p19 rz β σ x0 x1 x2) (kC_For_writeTerm_p19 rm (cv σ) (i32 x0) (i32 x1) (i32 x2)) β := by
  unfold kY_For_writeTerm_p19 kC_For_writeTerm_p19
  refine Rf_le rfl rfl hx1 hx2 (fun _ => ?_) (fun _ => ?_)
  · exact Rf_tail hR hσ (zrs_cons hx0 (zrs_cons hx1 (zrs_cons hx2 zrs_nil))) (e_cons rfl (e_cons rfl (e_cons rfl rfl)))
  · refine Rf_eq rfl (by decide) (hσ.1 3907) (by decide) (fun _ => ?_) (fun _ => ?_)
    · refine Rf_rd rfl hx2 (fun hb1 => ?_)
      refine Rf_le (by decide) (e_rd rfl hb1) (by decide) (hσ.2.1 _ _) (fun _ => ?_) (fun _ => ?_)
      · refine Rf_rd2 rfl hb1 ?_
        refine Rf_bnd hR hσ (zrs_cons (hσ.2.1 _ _) zrs_nil) (e_cons (e_rd rfl hb1) rfl) (fun σ1 r1 hσ1 hr1 => ?_)
        exact Rf_tail hR hσ1 (zrs_cons hx0 (zrs_cons hx1 (zrs_cons hx2 zrs_nil))) (e_cons rfl (e_cons rfl (e_cons rfl rfl)))
      · refine Rf_rd2 rfl hb1 ?_
        refine Rf_bnd hR hσ (zrs_cons (zr_not (hσ.2.1 _ _)) (zrs_cons (by decide) zrs_nil)) (e_cons (e_not (e_rd rfl hb1)) (e_cons (by decide) rfl)) (fun σ2 r2 hσ2 hr2 => ?_)
        exact Rf_tail hR hσ2 (zrs_cons hx0 (zrs_cons hx1 (zrs_cons hx2 zrs_nil))) (e_cons rfl (e_cons rfl (e_cons rfl rfl)))
    · exact Rf_tail hR hσ (zrs_cons hx0 (zrs_cons hx1 (zrs_cons hx2 zrs_nil))) (e_cons rfl (e_cons rfl (e_cons rfl rfl)))
theorem rY_For_writeTerm_p80 (rz : zF) (rm : mF) (hR : Rc rz rm) (β : Nat) (σ : zS) (hσ : zOK σ) (x0 x1 x2 : Int) (hx0 : zr x0) (hx1 : zr x1) (hx2 : zr x2) : Rf (kY_For_writeTerm_p80 rz β σ x0 x1 x2) (kC_For_writeTerm_p80 rm (cv σ) (i32 x0) (i32 x1) (i32 x2)) β := by
  unfold kY_For_writeTerm_p80 kC_For_writeTerm_p80
  refine Rf_g (fun hg1 => ?_)
  exact Rf_tail hR hσ (zrs_cons hx0 (zrs_cons hx1 (zrs_cons hg1 zrs_nil))) (e_cons rfl (e_cons rfl (e_cons (e_add rfl (by decide)) rfl)))
theorem rY_For_writeTerm_p86 (rz : zF) (rm : mF) (hR : Rc rz rm) (β : Nat) (σ : zS) (hσ : zOK σ) (x0 x1 x2 : Int) (hx0 : zr x0) (hx1 : zr x1) (hx2 : zr x2) : Rf (kY_For_writeTerm_p86 rz β σ x0 x1 x2) (kC_For_writeTerm_p86 rm (cv σ) (i32 x0) (i32 x1) (i32 x2)) β := by
  unfold kY_For_writeTerm_p86 kC_For_writeTerm_p86
  exact Rf_some hσ (by decide) (by decide)
theorem rY_For_writeVariable (rz : zF) (rm : mF) (hR : Rc rz rm) (β : Nat) (σ : zS) (hσ : zOK σ) (x0 x1 : Int) (hx0 : zr x0) (hx1 : zr x1) : Rf (kY_For_writeVariable rz β σ x0 x1) (kC_For_writeVariable rm (cv σ) (i32 x0) (i32 x1)) β := by
  unfold kY_For_writeVariable kC_For_writeVariable
  refine Rf_rd rfl hx0 (fun hb1 => ?_)
  refine Rf_eq (e_rd rfl hb1) (by decide) (hσ.2.1 _ _) (by decide) (fun _ => ?_) (fun _ => ?_)
  · refine Rf_bnd hR hσ (zrs_cons hx0 zrs_nil) (e_cons rfl rfl) (fun σ4 r4 hσ4 hr4 => ?_)
    refine Rf_bnd hR hσ4 (zrs_cons hr4 zrs_nil) (e_cons rfl rfl) (fun σ5 r5 hσ5 hr5 => ?_)
    exact Rf_some hσ5 (by decide) (by decide)
  · refine Rf_rd2 rfl hb1 ?_
    refine Rf_bnd hR hσ (zrs_cons (hσ.2.1 _ _) zrs_nil) (e_cons (e_rd rfl hb1) rfl) (fun σ1 r1 hσ1 hr1 => ?_)
    refine Rf_bnd hR hσ1 (zrs_cons hx0 zrs_nil) (e_cons rfl rfl) (fun σ2 r2 hσ2 hr2 => ?_)
    refine Rf_le rfl (by decide) hx1 (by decide) (fun _ => ?_) (fun _ => ?_)
    · exact Rf_tail hR hσ2 (zrs_cons hx0 (zrs_cons hx1 (zrs_cons hr2 zrs_nil))) (e_cons rfl (e_cons rfl (e_cons rfl rfl)))
    · refine Rf_I (by decide) (by decide) hσ2 (fun σ3 hσ3 => ?_)
      exact Rf_tail hR hσ3 (zrs_cons hx0 (zrs_cons hx1 (zrs_cons hr2 zrs_nil))) (e_cons rfl (e_cons rfl (e_cons rfl rfl)))
theorem rY_For_writeVariable_p47 (rz : zF) (rm : mF) (hR : Rc rz rm) (β : Nat) (σ : zS) (hσ : zOK σ) (x0 x1 x2 : Int) (hx0 : zr x0) (hx1 : zr x1) (hx2 : zr x2) : Rf (kY_For_writeVariable_p47 rz β σ x0 x1 x2) (kC_For_writeVariable_p47 rm (cv σ) (i32 x0) (i32 x1) (i32 x2)) β := by
  unfold kY_For_writeVariable_p47 kC_For_writeVariable_p47
  exact Rf_tail hR hσ (zrs_cons hx0 (zrs_cons hx1 (zrs_cons hx2 (zrs_cons (by decide) zrs_nil)))) (e_cons rfl (e_cons rfl (e_cons rfl (e_cons (by decide) rfl))))
theorem rY_For_writeVariable_p50 (rz : zF) (rm : mF) (hR : Rc rz rm) (β : Nat) (σ : zS) (hσ : zOK σ) (x0 x1 x2 x3 : Int) (hx0 : zr x0) (hx1 : zr x1) (hx2 : zr x2) (hx3 : zr x3) : Rf (kY_For_writeVariable_p50 rz β σ x0 x1 x2 x3) (kC_For_writeVariable_p50 rm (cv σ) (i32 x0) (i32 x1) (i32 x2) (i32 x3)) β := by
  unfold kY_For_writeVariable_p50 kC_For_writeVariable_p50
  refine Rf_le rfl rfl hx2 hx3 (fun _ => ?_) (fun _ => ?_)
  · exact Rf_tail hR hσ (zrs_cons hx0 (zrs_cons hx1 (zrs_cons hx2 (zrs_cons hx3 zrs_nil)))) (e_cons rfl (e_cons rfl (e_cons rfl (e_cons rfl rfl))))
  · refine Rf_eq rfl (by decide) (hσ.1 3907) (by decide) (fun _ => ?_) (fun _ => ?_)
    · refine Rf_bnd hR hσ (zrs_cons hx0 (zrs_cons hx3 zrs_nil)) (e_cons rfl (e_cons rfl rfl)) (fun σ1 r1 hσ1 hr1 => ?_)
      refine Rf_g (fun hg1 => ?_)
      refine Rf_bnd hR hσ1 (zrs_cons hr1 (zrs_cons hg1 zrs_nil)) (e_cons rfl (e_cons (e_add rfl (by decide)) rfl)) (fun σ2 r2 hσ2 hr2 => ?_)
      refine Rf_g (fun hg2 => ?_)
      exact Rf_tail hR hσ2 (zrs_cons hx0 (zrs_cons hx1 (zrs_cons hx2 (zrs_cons hg2 zrs_nil)))) (e_cons rfl (e_cons rfl (e_cons rfl (e_cons (e_add rfl (by decide)) rfl))))
    · exact Rf_tail hR hσ (zrs_cons hx0 (zrs_cons hx1 (zrs_cons hx2 (zrs_cons hx3 zrs_nil)))) (e_cons rfl (e_cons rfl (e_cons rfl (e_cons rfl rfl))))
theorem rY_For_writeVariable_p85 (rz : zF) (rm : mF) (hR : Rc rz rm) (β : Nat) (σ : zS) (hσ : zOK σ) (x0 x1 x2 x3 : Int) (hx0 : zr x0) (hx1 : zr x1) (hx2 : zr x2) (hx3 : zr x3) : Rf (kY_For_writeVariable_p85 rz β σ x0 x1 x2 x3) (kC_For_writeVariable_p85 rm (cv σ) (i32 x0) (i32 x1) (i32 x2) (i32 x3)) β := by
  unfold kY_For_writeVariable_p85 kC_For_writeVariable_p85
  exact Rf_some hσ (by decide) (by decide)
theorem rY_Mat_coversAll (rz : zF) (rm : mF) (hR : Rc rz rm) (β : Nat) (σ : zS) (hσ : zOK σ) (x0 x1 x2 : Int) (hx0 : zr x0) (hx1 : zr x1) (hx2 : zr x2) : Rf (kY_Mat_coversAll rz β σ x0 x1 x2) (kC_Mat_coversAll rm (cv σ) (i32 x0) (i32 x1) (i32 x2)) β := by
  unfold kY_Mat_coversAll kC_Mat_coversAll
  refine Rf_lt (by decide) rfl (by decide) hx1 (fun _ => ?_) (fun _ => ?_)
  · refine Rf_bnd hR hσ (zrs_cons hx2 (zrs_cons (by decide) zrs_nil)) (e_cons rfl (e_cons (by decide) rfl)) (fun σ1 r1 hσ1 hr1 => ?_)
    exact Rf_tail hR hσ1 (zrs_cons hx0 (zrs_cons hx1 (zrs_cons hx2 (zrs_cons (hσ.1 6603) (zrs_cons hr1 (zrs_cons (by decide) zrs_nil)))))) (e_cons rfl (e_cons rfl (e_cons rfl (e_cons rfl (e_cons rfl (e_cons (by decide) rfl))))))
  · exact Rf_some hσ (by decide) (by decide)
theorem rY_Mat_coversAll_p27 (rz : zF) (rm : mF) (hR : Rc rz rm) (β : Nat) (σ : zS) (hσ : zOK σ) (x0 x1 x2 x3 x4 x5 : Int) (hx0 : zr x0) (hx1 : zr x1) (hx2 : zr x2) (hx3 : zr x3) (hx4 : zr x4) (hx5 : zr x5) : Rf (kY_Mat_coversAll_p27 rz β σ x0 x1 x2 x3 x4 x5) (kC_Mat_coversAll_p27 rm (cv σ) (i32 x0) (i32 x1) (i32 x2) (i32 x3) (i32 x4) (i32 x5)) β := by
  unfold kY_Mat_coversAll_p27 kC_Mat_coversAll_p27
  refine Rf_bnd hR hσ (zrs_cons hx2 (zrs_cons (by decide) zrs_nil)) (e_cons rfl (e_cons (by decide) rfl)) (fun σ1 r1 hσ1 hr1 => ?_)
  refine Rf_le rfl rfl hr1 hx5 (fun _ => ?_) (fun _ => ?_)
  · exact Rf_some hσ1 (by decide) (by decide)
  · exact Rf_tail hR hσ1 (zrs_cons hx0 (zrs_cons hx1 (zrs_cons hx2 (zrs_cons hx3 (zrs_cons hx4 (zrs_cons hx5 (zrs_cons (by decide) zrs_nil))))))) (e_cons rfl (e_cons rfl (e_cons rfl (e_cons rfl (e_cons rfl (e_cons rfl (e_cons (by decide) rfl)))))))
theorem rY_Mat_coversAll_p44 (rz : zF) (rm : mF) (hR : Rc rz rm) (β : Nat) (σ : zS) (hσ : zOK σ) (x0 x1 x2 x3 x4 x5 x6 : Int) (hx0 : zr x0) (hx1 : zr x1) (hx2 : zr x2) (hx3 : zr x3) (hx4 : zr x4) (hx5 : zr x5) (hx6 : zr x6) : Rf (kY_Mat_coversAll_p44 rz β σ x0 x1 x2 x3 x4 x5 x6) (kC_Mat_coversAll_p44 rm (cv σ) (i32 x0) (i32 x1) (i32 x2) (i32 x3) (i32 x4) (i32 x5) (i32 x6)) β := by
  unfold kY_Mat_coversAll_p44 kC_Mat_coversAll_p44
  refine Rf_le (by decide) rfl (by decide) hx6 (fun _ => ?_) (fun _ => ?_)
  · exact Rf_tail hR hσ (zrs_cons hx0 (zrs_cons hx1 (zrs_cons hx2 (zrs_cons hx3 (zrs_cons hx4 (zrs_cons hx5 (zrs_cons hx6 zrs_nil))))))) (e_cons rfl (e_cons rfl (e_cons rfl (e_cons rfl (e_cons rfl (e_cons rfl (e_cons rfl rfl)))))))
  · refine Rf_bnd hR hσ (zrs_cons hx0 zrs_nil) (e_cons rfl rfl) (fun σ1 r1 hσ1 hr1 => ?_)
    refine Rf_bnd hR hσ1 (zrs_cons hx4 zrs_nil) (e_cons rfl rfl) (fun σ2 r2 hσ2 hr2 => ?_)
    refine Rf_eq rfl rfl hr1 hr2 (fun _ => ?_) (fun _ => ?_)
    · refine Rf_I rfl hx3 hσ2 (fun σ3 hσ3 => ?_)
      refine Rf_bnd hR hσ3 (zrs_cons hx4 (zrs_cons hx6 zrs_nil)) (e_cons rfl (e_cons rfl rfl)) (fun σ4 r4 hσ4 hr4 => ?_)
      refine Rf_g (fun hg1 => ?_)
      refine Rf_bnd hR hσ4 (zrs_cons hx4 (zrs_cons hg1 zrs_nil)) (e_cons rfl (e_cons (e_sub (by decide) rfl) rfl)) (fun σ5 r5 hσ5 hr5 => ?_)
      refine Rf_bnd hR hσ5 (zrs_cons hx0 (zrs_cons (by decide) zrs_nil)) (e_cons rfl (e_cons (by decide) rfl)) (fun σ6 r6 hσ6 hr6 => ?_)
      refine Rf_bnd hR hσ6 (zrs_cons hx0 (zrs_cons (by decide) zrs_nil)) (e_cons rfl (e_cons (by decide) rfl)) (fun σ7 r7 hσ7 hr7 => ?_)
      refine Rf_bnd hR hσ7 (zrs_cons hr6 (zrs_cons hr7 (zrs_cons hr4 zrs_nil))) (e_cons rfl (e_cons rfl (e_cons rfl rfl))) (fun σ8 r8 hσ8 hr8 => ?_)
      refine Rf_eq rfl (by decide) hr8 (by decide) (fun _ => ?_) (fun _ => ?_)
      · exact Rf_tail hR hσ8 (zrs_cons hx0 (zrs_cons hx1 (zrs_cons hx2 (zrs_cons hx3 (zrs_cons hx4 (zrs_cons hx5 (zrs_cons hx6 (zrs_cons hr4 (zrs_cons hr5 zrs_nil))))))))) (e_cons rfl (e_cons rfl (e_cons rfl (e_cons rfl (e_cons rfl (e_cons rfl (e_cons rfl (e_cons rfl (e_cons rfl rfl)))))))))
      · refine Rf_bnd hR hσ8 (zrs_cons hx0 (zrs_cons (by decide) zrs_nil)) (e_cons rfl (e_cons (by decide) rfl)) (fun σ9 r9 hσ9 hr9 => ?_)
        refine Rf_bnd hR hσ9 (zrs_cons hx0 (zrs_cons (by decide) zrs_nil)) (e_cons rfl (e_cons (by decide) rfl)) (fun σ10 r10 hσ10 hr10 => ?_)
        refine Rf_bnd hR hσ10 (zrs_cons hr9 (zrs_cons hr10 (zrs_cons hr5 zrs_nil))) (e_cons rfl (e_cons rfl (e_cons rfl rfl))) (fun σ11 r11 hσ11 hr11 => ?_)
        refine Rf_eq rfl (by decide) hr11 (by decide) (fun _ => ?_) (fun _ => ?_)
        · exact Rf_tail hR hσ11 (zrs_cons hx0 (zrs_cons hx1 (zrs_cons hx2 (zrs_cons hx3 (zrs_cons hx4 (zrs_cons hx5 (zrs_cons hx6 (zrs_cons hr4 (zrs_cons hr5 zrs_nil))))))))) (e_cons rfl (e_cons rfl (e_cons rfl (e_cons rfl (e_cons rfl (e_cons rfl (e_cons rfl (e_cons rfl (e_cons rfl rfl)))))))))
        · refine Rf_bnd hR hσ11 (zrs_cons hx0 zrs_nil) (e_cons rfl rfl) (fun σ12 r12 hσ12 hr12 => ?_)
          refine Rf_g (fun hg2 => ?_)
          refine Rf_bnd hR hσ12 (zrs_cons hr12 (zrs_cons hg2 (zrs_cons hx2 zrs_nil))) (e_cons rfl (e_cons (e_sub rfl (by decide)) (e_cons rfl rfl))) (fun σ13 r13 hσ13 hr13 => ?_)
          refine Rf_eq rfl (by decide) hr13 (by decide) (fun _ => ?_) (fun _ => ?_)
          · exact Rf_tail hR hσ13 (zrs_cons hx0 (zrs_cons hx1 (zrs_cons hx2 (zrs_cons hx3 (zrs_cons hx4 (zrs_cons hx5 (zrs_cons hx6 (zrs_cons hr4 (zrs_cons hr5 zrs_nil))))))))) (e_cons rfl (e_cons rfl (e_cons rfl (e_cons rfl (e_cons rfl (e_cons rfl (e_cons rfl (e_cons rfl (e_cons rfl rfl)))))))))
          · exact Rf_some hσ13 (by decide) (by decide)
    · exact Rf_tail hR hσ2 (zrs_cons hx0 (zrs_cons hx1 (zrs_cons hx2 (zrs_cons hx3 (zrs_cons hx4 (zrs_cons hx5 (zrs_cons hx6 zrs_nil))))))) (e_cons rfl (e_cons rfl (e_cons rfl (e_cons rfl (e_cons rfl (e_cons rfl (e_cons rfl rfl)))))))
theorem rY_Mat_coversAll_p199 (rz : zF) (rm : mF) (hR : Rc rz rm) (β : Nat) (σ : zS) (hσ : zOK σ) (x0 x1 x2 x3 x4 x5 x6 x7 x8 : Int) (hx0 : zr x0) (hx1 : zr x1) (hx2 : zr x2) (hx3 : zr x3) (hx4 : zr x4) (hx5 : zr x5) (hx6 : zr x6) (hx7 : zr x7) (hx8 : zr x8) : Rf (kY_Mat_coversAll_p199 rz β σ x0 x1 x2 x3 x4 x5 x6 x7 x8) (kC_Mat_coversAll_p199 rm (cv σ) (i32 x0) (i32 x1) (i32 x2) (i32 x3) (i32 x4) (i32 x5) (i32 x6) (i32 x7) (i32 x8)) β := by
  unfold kY_Mat_coversAll_p199 kC_Mat_coversAll_p199
  refine Rf_g (fun hg1 => ?_)
  exact Rf_tail hR hσ (zrs_cons hx0 (zrs_cons hx1 (zrs_cons hx2 (zrs_cons hx3 (zrs_cons hx4 (zrs_cons hx5 (zrs_cons hg1 zrs_nil))))))) (e_cons rfl (e_cons rfl (e_cons rfl (e_cons rfl (e_cons rfl (e_cons rfl (e_cons (e_add rfl (by decide)) rfl)))))))
theorem rY_Mat_coversAll_p205 (rz : zF) (rm : mF) (hR : Rc rz rm) (β : Nat) (σ : zS) (hσ : zOK σ) (x0 x1 x2 x3 x4 x5 x6 : Int) (hx0 : zr x0) (hx1 : zr x1) (hx2 : zr x2) (hx3 : zr x3) (hx4 : zr x4) (hx5 : zr x5) (hx6 : zr x6) : Rf (kY_Mat_coversAll_p205 rz β σ x0 x1 x2 x3 x4 x5 x6) (kC_Mat_coversAll_p205 rm (cv σ) (i32 x0) (i32 x1) (i32 x2) (i32 x3) (i32 x4) (i32 x5) (i32 x6)) β := by
  unfold kY_Mat_coversAll_p205 kC_Mat_coversAll_p205
  refine Rf_bnd hR hσ (zrs_cons hx4 zrs_nil) (e_cons rfl rfl) (fun σ1 r1 hσ1 hr1 => ?_)
  refine Rf_g (fun hg1 => ?_)
  exact Rf_tail hR hσ1 (zrs_cons hx0 (zrs_cons hx1 (zrs_cons hx2 (zrs_cons hx3 (zrs_cons hr1 (zrs_cons hg1 zrs_nil)))))) (e_cons rfl (e_cons rfl (e_cons rfl (e_cons rfl (e_cons rfl (e_cons (e_add rfl (by decide)) rfl))))))
theorem rY_Mat_makeImage_40 (rz : zF) (rm : mF) (hR : Rc rz rm) (β : Nat) (σ : zS) (hσ : zOK σ) (x0 x1 x2 : Int) (hx0 : zr x0) (hx1 : zr x1) (hx2 : zr x2) : Rf (kY_Mat_makeImage_40 rz β σ x0 x1 x2) (kC_Mat_makeImage_40 rm (cv σ) (i32 x0) (i32 x1) (i32 x2)) β := by
  unfold kY_Mat_makeImage_40 kC_Mat_makeImage_40
  refine Rf_I (by decide) (by decide) hσ (fun σ1 hσ1 => ?_)
  exact Rf_tail hR hσ1 (zrs_cons hx0 (zrs_cons hx1 (zrs_cons hx2 (zrs_cons hx0 zrs_nil)))) (e_cons rfl (e_cons rfl (e_cons rfl (e_cons rfl rfl))))
theorem rY_Mat_makeImage_40_p8 (rz : zF) (rm : mF) (hR : Rc rz rm) (β : Nat) (σ : zS) (hσ : zOK σ) (x0 x1 x2 x3 : Int) (hx0 : zr x0) (hx1 : zr x1) (hx2 : zr x2) (hx3 : zr x3) : Rf (kY_Mat_makeImage_40_p8 rz β σ x0 x1 x2 x3) (kC_Mat_makeImage_40_p8 rm (cv σ) (i32 x0) (i32 x1) (i32 x2) (i32 x3)) β := by
  unfold kY_Mat_makeImage_40_p8 kC_Mat_makeImage_40_p8
  refine Rf_g (fun hg1 => ?_)
  refine Rf_le (e_add rfl rfl) rfl hg1 hx3 (fun _ => ?_) (fun _ => ?_)
  · exact Rf_some hσ (by decide) (by decide)
  · refine Rf_rd rfl hx3 (fun hb2 => ?_)
    refine Rf_le (by decide) (e_rd rfl hb2) (by decide) (hσ.2.1 _ _) (fun _ => ?_) (fun _ => ?_)
    · exact Rf_tail hR hσ (zrs_cons hx0 (zrs_cons hx1 (zrs_cons hx2 (zrs_cons hx3 (zrs_cons (hσ.2.1 _ _) zrs_nil))))) (e_cons rfl (e_cons rfl (e_cons rfl (e_cons rfl (e_cons (e_rd rfl hb2) rfl)))))
    · refine Rf_eq (e_and (e_shr rfl (e_not (e_rd rfl hb2))) (by decide)) (by decide) (zr_to _) (by decide) (fun _ => ?_) (fun _ => ?_)
      · exact Rf_some hσ (by decide) (by decide)
      · exact Rf_tail hR hσ (zrs_cons hx0 (zrs_cons hx1 (zrs_cons hx2 (zrs_cons hx3 (zrs_cons (hσ.2.1 _ _) zrs_nil))))) (e_cons rfl (e_cons rfl (e_cons rfl (e_cons rfl (e_cons (e_rd rfl hb2) rfl)))))
theorem rY_Mat_makeImage_40_p52 (rz : zF) (rm : mF) (hR : Rc rz rm) (β : Nat) (σ : zS) (hσ : zOK σ) (x0 x1 x2 x3 x4 : Int) (hx0 : zr x0) (hx1 : zr x1) (hx2 : zr x2) (hx3 : zr x3) (hx4 : zr x4) : Rf (kY_Mat_makeImage_40_p52 rz β σ x0 x1 x2 x3 x4) (kC_Mat_makeImage_40_p52 rm (cv σ) (i32 x0) (i32 x1) (i32 x2) (i32 x3) (i32 x4)) β := by
  unfold kY_Mat_makeImage_40_p52 kC_Mat_makeImage_40_p52
  refine Rf_le (by decide) rfl (by decide) hx4 (fun _ => ?_) (fun _ => ?_)
  · exact Rf_tail hR hσ (zrs_cons hx0 (zrs_cons hx1 (zrs_cons hx2 (zrs_cons hx3 (zrs_cons hx4 (zrs_cons (by decide) zrs_nil)))))) (e_cons rfl (e_cons rfl (e_cons rfl (e_cons rfl (e_cons rfl (e_cons (by decide) rfl))))))
  · refine Rf_rd (e_not rfl) (zr_not hx4) (fun hb1 => ?_)
    exact Rf_tail hR hσ (zrs_cons hx0 (zrs_cons hx1 (zrs_cons hx2 (zrs_cons hx3 (zrs_cons hx4 (zrs_cons (hσ.2.1 _ _) zrs_nil)))))) (e_cons rfl (e_cons rfl (e_cons rfl (e_cons rfl (e_cons rfl (e_cons (e_rd (e_not rfl) hb1) rfl))))))
theorem rY_Mat_makeImage_40_p70 (rz : zF) (rm : mF) (hR : Rc rz rm) (β : Nat) (σ : zS) (hσ : zOK σ) (x0 x1 x2 x3 x4 x5 : Int) (hx0 : zr x0) (hx1 : zr x1) (hx2 : zr x2) (hx3 : zr x3) (hx4 : zr x4) (hx5 : zr x5) : Rf (kY_Mat_makeImage_40_p70 rz β σ x0 x1 x2 x3 x4 x5) (kC_Mat_makeImage_40_p70 rm (cv σ) (i32 x0) (i32 x1) (i32 x2) (i32 x3) (i32 x4) (i32 x5)) β := by
  unfold kY_Mat_makeImage_40_p70 kC_Mat_makeImage_40_p70
  refine Rf_le (by decide) rfl (by decide) hx4 (fun _ => ?_) (fun _ => ?_)
  · exact Rf_tail hR hσ (zrs_cons hx0 (zrs_cons hx1 (zrs_cons hx2 (zrs_cons hx3 (zrs_cons hx4 (zrs_cons hx5 (zrs_cons (by decide) zrs_nil))))))) (e_cons rfl (e_cons rfl (e_cons rfl (e_cons rfl (e_cons rfl (e_cons rfl (e_cons (by decide) rfl)))))))
  · refine Rf_bnd hR hσ (zrs_cons hx5 zrs_nil) (e_cons rfl rfl) (fun σ1 r1 hσ1 hr1 => ?_)
    refine Rf_g (fun hg1 => ?_)
    exact Rf_tail hR hσ1 (zrs_cons hx0 (zrs_cons hx1 (zrs_cons hx2 (zrs_cons hx3 (zrs_cons hx4 (zrs_cons hx5 (zrs_cons hg1 zrs_nil))))))) (e_cons rfl (e_cons rfl (e_cons rfl (e_cons rfl (e_cons rfl (e_cons rfl (e_cons (e_sub rfl rfl) rfl)))))))
theorem rY_Mat_makeImage_40_p94 (rz : zF) (rm : mF) (hR : Rc rz rm) (β : Nat) (σ : zS) (hσ : zOK σ) (x0 x1 x2 x3 x4 x5 x6 : Int) (hx0 : zr x0) (hx1 : zr x1) (hx2 : zr x2) (hx3 : zr x3) (hx4 : zr x4) (hx5 : zr x5) (hx6 : zr x6) : Rf (kY_Mat_makeImage_40_p94 rz β σ x0 x1 x2 x3 x4 x5 x6) (kC_Mat_makeImage_40_p94 rm (cv σ) (i32 x0) (i32 x1) (i32 x2) (i32 x3) (i32 x4) (i32 x5) (i32 x6)) β := by
  unfold kY_Mat_makeImage_40_p94 kC_Mat_makeImage_40_p94
  refine Rf_g (fun hg1 => ?_)
  refine Rf_lt rfl (e_add rfl rfl) hx2 hg1 (fun _ => ?_) (fun _ => ?_)
  · exact Rf_tail hR hσ (zrs_cons hx0 (zrs_cons hx1 (zrs_cons hx2 (zrs_cons hx3 (zrs_cons hx4 (zrs_cons hx5 (zrs_cons hx6 zrs_nil))))))) (e_cons rfl (e_cons rfl (e_cons rfl (e_cons rfl (e_cons rfl (e_cons rfl (e_cons rfl rfl)))))))
  · refine Rf_le (e_add rfl rfl) (by decide) hg1 (by decide) (fun _ => ?_) (fun _ => ?_)
    · refine Rf_le (by decide) rfl (by decide) hx4 (fun _ => ?_) (fun _ => ?_)
      · refine Rf_rd rfl (hσ.1 6605) (fun hb2 => ?_)
        refine Rf_A rfl hb2 rfl hx4 hσ (fun σ1 hσ1 => ?_)
        exact Rf_tail hR hσ1 (zrs_cons hx0 (zrs_cons hx1 (zrs_cons hx2 (zrs_cons hx3 (zrs_cons hx4 (zrs_cons hx5 (zrs_cons hx6 zrs_nil))))))) (e_cons rfl (e_cons rfl (e_cons rfl (e_cons rfl (e_cons rfl (e_cons rfl (e_cons rfl rfl)))))))
      · refine Rf_cp rfl rfl rfl hx5 (hσ.1 6605) hx6 (fun hb3 => ?_)
        refine Rf_Cp rfl rfl rfl rfl rfl hb3 hσ (fun σ2 hσ2 => ?_)
        exact Rf_tail hR hσ2 (zrs_cons hx0 (zrs_cons hx1 (zrs_cons hx2 (zrs_cons hx3 (zrs_cons hx4 (zrs_cons hx5 (zrs_cons hx6 zrs_nil))))))) (e_cons rfl (e_cons rfl (e_cons rfl (e_cons rfl (e_cons rfl (e_cons rfl (e_cons rfl rfl)))))))
    · exact Rf_tail hR hσ (zrs_cons hx0 (zrs_cons hx1 (zrs_cons hx2 (zrs_cons hx3 (zrs_cons hx4 (zrs_cons hx5 (zrs_cons hx6 zrs_nil))))))) (e_cons rfl (e_cons rfl (e_cons rfl (e_cons rfl (e_cons rfl (e_cons rfl (e_cons rfl rfl)))))))
theorem rY_Mat_makeImage_40_p123 (rz : zF) (rm : mF) (hR : Rc rz rm) (β : Nat) (σ : zS) (hσ : zOK σ) (x0 x1 x2 x3 x4 x5 x6 : Int) (hx0 : zr x0) (hx1 : zr x1) (hx2 : zr x2) (hx3 : zr x3) (hx4 : zr x4) (hx5 : zr x5) (hx6 : zr x6) : Rf (kY_Mat_makeImage_40_p123 rz β σ x0 x1 x2 x3 x4 x5 x6) (kC_Mat_makeImage_40_p123 rm (cv σ) (i32 x0) (i32 x1) (i32 x2) (i32 x3) (i32 x4) (i32 x5) (i32 x6)) β := by
  unfold kY_Mat_makeImage_40_p123 kC_Mat_makeImage_40_p123
  exact Rf_some hσ (by decide) (by decide)
theorem rY_Mat_makeImage_40_p160 (rz : zF) (rm : mF) (hR : Rc rz rm) (β : Nat) (σ : zS) (hσ : zOK σ) (x0 x1 x2 x3 x4 x5 x6 : Int) (hx0 : zr x0) (hx1 : zr x1) (hx2 : zr x2) (hx3 : zr x3) (hx4 : zr x4) (hx5 : zr x5) (hx6 : zr x6) : Rf (kY_Mat_makeImage_40_p160 rz β σ x0 x1 x2 x3 x4 x5 x6) (kC_Mat_makeImage_40_p160 rm (cv σ) (i32 x0) (i32 x1) (i32 x2) (i32 x3) (i32 x4) (i32 x5) (i32 x6)) β := by
  unfold kY_Mat_makeImage_40_p160 kC_Mat_makeImage_40_p160
  refine Rf_g (fun hg1 => ?_)
  refine Rf_I (e_add rfl rfl) hg1 hσ (fun σ1 hσ1 => ?_)
  refine Rf_g (fun hg2 => ?_)
  exact Rf_tail hR hσ1 (zrs_cons hx0 (zrs_cons hx1 (zrs_cons hx2 (zrs_cons hg2 zrs_nil)))) (e_cons rfl (e_cons rfl (e_cons rfl (e_cons (e_add rfl (by decide)) rfl))))
theorem rY_Mat_makeImage_48 (rz : zF) (rm : mF) (hR : Rc rz rm) (β : Nat) (σ : zS) (hσ : zOK σ) (x0 x1 x2 : Int) (hx0 : zr x0) (hx1 : zr x1) (hx2 : zr x2) : Rf (kY_Mat_makeImage_48 rz β σ x0 x1 x2) (kC_Mat_makeImage_48 rm (cv σ) (i32 x0) (i32 x1) (i32 x2)) β := by
  unfold kY_Mat_makeImage_48 kC_Mat_makeImage_48
  refine Rf_I (by decide) (by decide) hσ (fun σ1 hσ1 => ?_)
  exact Rf_tail hR hσ1 (zrs_cons hx0 (zrs_cons hx1 (zrs_cons hx2 (zrs_cons hx0 zrs_nil)))) (e_cons rfl (e_cons rfl (e_cons rfl (e_cons rfl rfl))))
theorem rY_Mat_makeImage_48_p8 (rz : zF) (rm : mF) (hR : Rc rz rm) (β : Nat) (σ : zS) (hσ : zOK σ) (x0 x1 x2 x3 : Int) (hx0 : zr x0) (hx1 : zr x1) (hx2 : zr x2) (hx3 : zr x3) : Rf (kY_Mat_makeImage_48_p8 rz β σ x0 x1 x2 x3) (kC_Mat_makeImage_48_p8 rm (cv σ) (i32 x0) (i32 x1) (i32 x2) (i32 x3)) β := by
  unfold kY_Mat_makeImage_48_p8 kC_Mat_makeImage_48_p8
  refine Rf_g (fun hg1 => ?_)
  refine Rf_le (e_add rfl rfl) rfl hg1 hx3 (fun _ => ?_) (fun _ => ?_)
  · exact Rf_some hσ (by decide) (by decide)
  · refine Rf_rd rfl hx3 (fun hb2 => ?_)
    refine Rf_le (by decide) (e_rd rfl hb2) (by decide) (hσ.2.1 _ _) (fun _ => ?_) (fun _ => ?_)
    · exact Rf_tail hR hσ (zrs_cons hx0 (zrs_cons hx1 (zrs_cons hx2 (zrs_cons hx3 (zrs_cons (hσ.2.1 _ _) zrs_nil))))) (e_cons rfl (e_cons rfl (e_cons rfl (e_cons rfl (e_cons (e_rd rfl hb2) rfl)))))
    · refine Rf_eq (e_and (e_shr rfl (e_not (e_rd rfl hb2))) (by decide)) (by decide) (zr_to _) (by decide) (fun _ => ?_) (fun _ => ?_)
      · exact Rf_some hσ (by decide) (by decide)
      · exact Rf_tail hR hσ (zrs_cons hx0 (zrs_cons hx1 (zrs_cons hx2 (zrs_cons hx3 (zrs_cons (hσ.2.1 _ _) zrs_nil))))) (e_cons rfl (e_cons rfl (e_cons rfl (e_cons rfl (e_cons (e_rd rfl hb2) rfl)))))
theorem rY_Mat_makeImage_48_p52 (rz : zF) (rm : mF) (hR : Rc rz rm) (β : Nat) (σ : zS) (hσ : zOK σ) (x0 x1 x2 x3 x4 : Int) (hx0 : zr x0) (hx1 : zr x1) (hx2 : zr x2) (hx3 : zr x3) (hx4 : zr x4) : Rf (kY_Mat_makeImage_48_p52 rz β σ x0 x1 x2 x3 x4) (kC_Mat_makeImage_48_p52 rm (cv σ) (i32 x0) (i32 x1) (i32 x2) (i32 x3) (i32 x4)) β := by
  unfold kY_Mat_makeImage_48_p52 kC_Mat_makeImage_48_p52
  refine Rf_le (by decide) rfl (by decide) hx4 (fun _ => ?_) (fun _ => ?_)
  · exact Rf_tail hR hσ (zrs_cons hx0 (zrs_cons hx1 (zrs_cons hx2 (zrs_cons hx3 (zrs_cons hx4 (zrs_cons (by decide) zrs_nil)))))) (e_cons rfl (e_cons rfl (e_cons rfl (e_cons rfl (e_cons rfl (e_cons (by decide) rfl))))))
  · refine Rf_rd (e_not rfl) (zr_not hx4) (fun hb1 => ?_)
    exact Rf_tail hR hσ (zrs_cons hx0 (zrs_cons hx1 (zrs_cons hx2 (zrs_cons hx3 (zrs_cons hx4 (zrs_cons (hσ.2.1 _ _) zrs_nil)))))) (e_cons rfl (e_cons rfl (e_cons rfl (e_cons rfl (e_cons rfl (e_cons (e_rd (e_not rfl) hb1) rfl))))))
theorem rY_Mat_makeImage_48_p70 (rz : zF) (rm : mF) (hR : Rc rz rm) (β : Nat) (σ : zS) (hσ : zOK σ) (x0 x1 x2 x3 x4 x5 : Int) (hx0 : zr x0) (hx1 : zr x1) (hx2 : zr x2) (hx3 : zr x3) (hx4 : zr x4) (hx5 : zr x5) : Rf (kY_Mat_makeImage_48_p70 rz β σ x0 x1 x2 x3 x4 x5) (kC_Mat_makeImage_48_p70 rm (cv σ) (i32 x0) (i32 x1) (i32 x2) (i32 x3) (i32 x4) (i32 x5)) β := by
  unfold kY_Mat_makeImage_48_p70 kC_Mat_makeImage_48_p70
  refine Rf_le (by decide) rfl (by decide) hx4 (fun _ => ?_) (fun _ => ?_)
  · exact Rf_tail hR hσ (zrs_cons hx0 (zrs_cons hx1 (zrs_cons hx2 (zrs_cons hx3 (zrs_cons hx4 (zrs_cons hx5 (zrs_cons (by decide) zrs_nil))))))) (e_cons rfl (e_cons rfl (e_cons rfl (e_cons rfl (e_cons rfl (e_cons rfl (e_cons (by decide) rfl)))))))
  · refine Rf_bnd hR hσ (zrs_cons hx5 zrs_nil) (e_cons rfl rfl) (fun σ1 r1 hσ1 hr1 => ?_)
    refine Rf_g (fun hg1 => ?_)
    exact Rf_tail hR hσ1 (zrs_cons hx0 (zrs_cons hx1 (zrs_cons hx2 (zrs_cons hx3 (zrs_cons hx4 (zrs_cons hx5 (zrs_cons hg1 zrs_nil))))))) (e_cons rfl (e_cons rfl (e_cons rfl (e_cons rfl (e_cons rfl (e_cons rfl (e_cons (e_sub rfl rfl) rfl)))))))
theorem rY_Mat_makeImage_48_p94 (rz : zF) (rm : mF) (hR : Rc rz rm) (β : Nat) (σ : zS) (hσ : zOK σ) (x0 x1 x2 x3 x4 x5 x6 : Int) (hx0 : zr x0) (hx1 : zr x1) (hx2 : zr x2) (hx3 : zr x3) (hx4 : zr x4) (hx5 : zr x5) (hx6 : zr x6) : Rf (kY_Mat_makeImage_48_p94 rz β σ x0 x1 x2 x3 x4 x5 x6) (kC_Mat_makeImage_48_p94 rm (cv σ) (i32 x0) (i32 x1) (i32 x2) (i32 x3) (i32 x4) (i32 x5) (i32 x6)) β := by
  unfold kY_Mat_makeImage_48_p94 kC_Mat_makeImage_48_p94
  refine Rf_g (fun hg1 => ?_)
  refine Rf_lt rfl (e_add rfl rfl) hx2 hg1 (fun _ => ?_) (fun _ => ?_)
  · exact Rf_tail hR hσ (zrs_cons hx0 (zrs_cons hx1 (zrs_cons hx2 (zrs_cons hx3 (zrs_cons hx4 (zrs_cons hx5 (zrs_cons hx6 zrs_nil))))))) (e_cons rfl (e_cons rfl (e_cons rfl (e_cons rfl (e_cons rfl (e_cons rfl (e_cons rfl rfl)))))))
  · refine Rf_le (e_add rfl rfl) (by decide) hg1 (by decide) (fun _ => ?_) (fun _ => ?_)
    · refine Rf_le (by decide) rfl (by decide) hx4 (fun _ => ?_) (fun _ => ?_)
      · refine Rf_rd rfl (hσ.1 6605) (fun hb2 => ?_)
        refine Rf_A rfl hb2 rfl hx4 hσ (fun σ1 hσ1 => ?_)
        exact Rf_tail hR hσ1 (zrs_cons hx0 (zrs_cons hx1 (zrs_cons hx2 (zrs_cons hx3 (zrs_cons hx4 (zrs_cons hx5 (zrs_cons hx6 zrs_nil))))))) (e_cons rfl (e_cons rfl (e_cons rfl (e_cons rfl (e_cons rfl (e_cons rfl (e_cons rfl rfl)))))))
      · refine Rf_cp rfl rfl rfl hx5 (hσ.1 6605) hx6 (fun hb3 => ?_)
        refine Rf_Cp rfl rfl rfl rfl rfl hb3 hσ (fun σ2 hσ2 => ?_)
        exact Rf_tail hR hσ2 (zrs_cons hx0 (zrs_cons hx1 (zrs_cons hx2 (zrs_cons hx3 (zrs_cons hx4 (zrs_cons hx5 (zrs_cons hx6 zrs_nil))))))) (e_cons rfl (e_cons rfl (e_cons rfl (e_cons rfl (e_cons rfl (e_cons rfl (e_cons rfl rfl)))))))
    · exact Rf_tail hR hσ (zrs_cons hx0 (zrs_cons hx1 (zrs_cons hx2 (zrs_cons hx3 (zrs_cons hx4 (zrs_cons hx5 (zrs_cons hx6 zrs_nil))))))) (e_cons rfl (e_cons rfl (e_cons rfl (e_cons rfl (e_cons rfl (e_cons rfl (e_cons rfl rfl)))))))
theorem rY_Mat_makeImage_48_p123 (rz : zF) (rm : mF) (hR : Rc rz rm) (β : Nat) (σ : zS) (hσ : zOK σ) (x0 x1 x2 x3 x4 x5 x6 : Int) (hx0 : zr x0) (hx1 : zr x1) (hx2 : zr x2) (hx3 : zr x3) (hx4 : zr x4) (hx5 : zr x5) (hx6 : zr x6) : Rf (kY_Mat_makeImage_48_p123 rz β σ x0 x1 x2 x3 x4 x5 x6) (kC_Mat_makeImage_48_p123 rm (cv σ) (i32 x0) (i32 x1) (i32 x2) (i32 x3) (i32 x4) (i32 x5) (i32 x6)) β := by
  unfold kY_Mat_makeImage_48_p123 kC_Mat_makeImage_48_p123
  exact Rf_some hσ (by decide) (by decide)
theorem rY_Mat_makeImage_48_p160 (rz : zF) (rm : mF) (hR : Rc rz rm) (β : Nat) (σ : zS) (hσ : zOK σ) (x0 x1 x2 x3 x4 x5 x6 : Int) (hx0 : zr x0) (hx1 : zr x1) (hx2 : zr x2) (hx3 : zr x3) (hx4 : zr x4) (hx5 : zr x5) (hx6 : zr x6) : Rf (kY_Mat_makeImage_48_p160 rz β σ x0 x1 x2 x3 x4 x5 x6) (kC_Mat_makeImage_48_p160 rm (cv σ) (i32 x0) (i32 x1) (i32 x2) (i32 x3) (i32 x4) (i32 x5) (i32 x6)) β := by
  unfold kY_Mat_makeImage_48_p160 kC_Mat_makeImage_48_p160
  refine Rf_g (fun hg1 => ?_)
  refine Rf_I (e_add rfl rfl) hg1 hσ (fun σ1 hσ1 => ?_)
  refine Rf_g (fun hg2 => ?_)
  exact Rf_tail hR hσ1 (zrs_cons hx0 (zrs_cons hx1 (zrs_cons hx2 (zrs_cons hg2 zrs_nil)))) (e_cons rfl (e_cons rfl (e_cons rfl (e_cons (e_add rfl (by decide)) rfl))))
theorem rY_Mat_matches_40 (rz : zF) (rm : mF) (hR : Rc rz rm) (β : Nat) (σ : zS) (hσ : zOK σ) (x0 x1 x2 : Int) (hx0 : zr x0) (hx1 : zr x1) (hx2 : zr x2) : Rf (kY_Mat_matches_40 rz β σ x0 x1 x2) (kC_Mat_matches_40 rm (cv σ) (i32 x0) (i32 x1) (i32 x2)) β := by
  unfold kY_Mat_matches_40 kC_Mat_matches_40
  exact Rf_tail hR hσ (zrs_cons hx0 (zrs_cons hx1 (zrs_cons hx2 (zrs_cons hx2 (zrs_cons hx0 zrs_nil))))) (e_cons rfl (e_cons rfl (e_cons rfl (e_cons rfl (e_cons rfl rfl)))))
theorem rY_Mat_matches_40_p19 (rz : zF) (rm : mF) (hR : Rc rz rm) (β : Nat) (σ : zS) (hσ : zOK σ) (x0 x1 x2 x3 x4 : Int) (hx0 : zr x0) (hx1 : zr x1) (hx2 : zr x2) (hx3 : zr x3) (hx4 : zr x4) : Rf (kY_Mat_matches_40_p19 rz β σ x0 x1 x2 x3 x4) (kC_Mat_matches_40_p19 rm (cv σ) (i32 x0) (i32 x1) (i32 x2) (i32 x3) (i32 x4)) β := by
  unfold kY_Mat_matches_40_p19 kC_Mat_matches_40_p19
  refine Rf_g (fun hg1 => ?_)
  refine Rf_le (e_add rfl rfl) rfl hg1 hx4 (fun _ => ?_) (fun _ => ?_)
  · exact Rf_some hσ (by decide) (by decide)
  · refine Rf_rd rfl hx4 (fun hb2 => ?_)
    refine Rf_lt (e_rd rfl hb2) (by decide) (hσ.2.1 _ _) (by decide) (fun _ => ?_) (fun _ => ?_)
    · refine Rf_rd2 rfl hb2 ?_
      refine Rf_eq (e_and (e_shr rfl (e_not (e_rd rfl hb2))) (by decide)) (by decide) (zr_to _) (by decide) (fun _ => ?_) (fun _ => ?_)
      · refine Rf_rd rfl hx3 (fun hb3 => ?_)
        refine Rf_lt (e_rd rfl hb3) (by decide) (hσ.2.1 _ _) (by decide) (fun _ => ?_) (fun _ => ?_)
        · exact Rf_tail hR hσ (zrs_cons hx0 (zrs_cons hx1 (zrs_cons hx2 (zrs_cons hx3 (zrs_cons hx4 (zrs_cons (zr_not (hσ.2.1 _ _)) zrs_nil)))))) (e_cons rfl (e_cons rfl (e_cons rfl (e_cons rfl (e_cons rfl (e_cons (e_not (e_rd rfl hb2)) rfl))))))
        · refine Rf_rd2 rfl hb3 ?_
          refine Rf_bnd hR hσ (zrs_cons (hσ.2.1 _ _) zrs_nil) (e_cons (e_rd rfl hb3) rfl) (fun σ2 r2 hσ2 hr2 => ?_)
          refine Rf_eq rfl (by decide) hr2 (by decide) (fun _ => ?_) (fun _ => ?_)
          · exact Rf_tail hR hσ2 (zrs_cons hx0 (zrs_cons hx1 (zrs_cons hx2 (zrs_cons hx3 (zrs_cons hx4 (zrs_cons (zr_not (hσ.2.1 _ _)) zrs_nil)))))) (e_cons rfl (e_cons rfl (e_cons rfl (e_cons rfl (e_cons rfl (e_cons (e_not (e_rd rfl hb2)) rfl))))))
          · exact Rf_some hσ2 (by decide) (by decide)
      · refine Rf_rd (e_not (e_rd rfl hb2)) (zr_not (hσ.2.1 _ _)) (fun hb4 => ?_)
        refine Rf_bnd hR hσ (zrs_cons (hσ.2.1 _ _) (zrs_cons hx3 zrs_nil)) (e_cons (e_rd (e_not (e_rd rfl hb2)) hb4) (e_cons rfl rfl)) (fun σ1 r1 hσ1 hr1 => ?_)
        refine Rf_eq rfl (by decide) hr1 (by decide) (fun _ => ?_) (fun _ => ?_)
        · exact Rf_some hσ1 (by decide) (by decide)
        · exact Rf_tail hR hσ1 (zrs_cons hx0 (zrs_cons hx1 (zrs_cons hx2 (zrs_cons hx3 (zrs_cons hx4 (zrs_cons (zr_not (hσ.2.1 _ _)) zrs_nil)))))) (e_cons rfl (e_cons rfl (e_cons rfl (e_cons rfl (e_cons rfl (e_cons (e_not (e_rd rfl hb2)) rfl))))))
    · refine Rf_rd2 rfl hb2 ?_
      refine Rf_rd rfl hx3 (fun hb5 => ?_)
      refine Rf_eq (e_rd rfl hb2) (e_rd rfl hb5) (hσ.2.1 _ _) (hσ.2.1 _ _) (fun _ => ?_) (fun _ => ?_)
      · refine Rf_g (fun hg6 => ?_)
        exact Rf_tail hR hσ (zrs_cons hx0 (zrs_cons hx1 (zrs_cons hx2 (zrs_cons hg6 (zrs_cons hx4 zrs_nil))))) (e_cons rfl (e_cons rfl (e_cons rfl (e_cons (e_add rfl (by decide)) (e_cons rfl rfl)))))
      · exact Rf_some hσ (by decide) (by decide)
theorem rY_Mat_matches_40_p99 (rz : zF) (rm : mF) (hR : Rc rz rm) (β : Nat) (σ : zS) (hσ : zOK σ) (x0 x1 x2 x3 x4 x5 : Int) (hx0 : zr x0) (hx1 : zr x1) (hx2 : zr x2) (hx3 : zr x3) (hx4 : zr x4) (hx5 : zr x5) : Rf (kY_Mat_matches_40_p99 rz β σ x0 x1 x2 x3 x4 x5) (kC_Mat_matches_40_p99 rm (cv σ) (i32 x0) (i32 x1) (i32 x2) (i32 x3) (i32 x4) (i32 x5)) β := by
  unfold kY_Mat_matches_40_p99 kC_Mat_matches_40_p99
  refine Rf_rd rfl hx5 (fun hb1 => ?_)
  refine Rf_A rfl hb1 rfl hx3 hσ (fun σ1 hσ1 => ?_)
  refine Rf_I (e_or rfl (e_shl (by decide) rfl)) (zr_to _) hσ1 (fun σ2 hσ2 => ?_)
  exact Rf_tail hR hσ2 (zrs_cons hx0 (zrs_cons hx1 (zrs_cons hx2 (zrs_cons hx3 (zrs_cons hx4 (zrs_cons hx5 zrs_nil)))))) (e_cons rfl (e_cons rfl (e_cons rfl (e_cons rfl (e_cons rfl (e_cons rfl rfl))))))
theorem rY_Mat_matches_40_p147 (rz : zF) (rm : mF) (hR : Rc rz rm) (β : Nat) (σ : zS) (hσ : zOK σ) (x0 x1 x2 x3 x4 x5 : Int) (hx0 : zr x0) (hx1 : zr x1) (hx2 : zr x2) (hx3 : zr x3) (hx4 : zr x4) (hx5 : zr x5) : Rf (kY_Mat_matches_40_p147 rz β σ x0 x1 x2 x3 x4 x5) (kC_Mat_matches_40_p147 rm (cv σ) (i32 x0) (i32 x1) (i32 x2) (i32 x3) (i32 x4) (i32 x5)) β := by
  unfold kY_Mat_matches_40_p147 kC_Mat_matches_40_p147
  refine Rf_bnd hR hσ (zrs_cons hx3 zrs_nil) (e_cons rfl rfl) (fun σ1 r1 hσ1 hr1 => ?_)
  exact Rf_tail hR hσ1 (zrs_cons hx0 (zrs_cons hx1 (zrs_cons hx2 (zrs_cons hr1 (zrs_cons hx4 zrs_nil))))) (e_cons rfl (e_cons rfl (e_cons rfl (e_cons rfl (e_cons rfl rfl)))))
theorem rY_Mat_matches_40_p159 (rz : zF) (rm : mF) (hR : Rc rz rm) (β : Nat) (σ : zS) (hσ : zOK σ) (x0 x1 x2 x3 x4 : Int) (hx0 : zr x0) (hx1 : zr x1) (hx2 : zr x2) (hx3 : zr x3) (hx4 : zr x4) : Rf (kY_Mat_matches_40_p159 rz β σ x0 x1 x2 x3 x4) (kC_Mat_matches_40_p159 rm (cv σ) (i32 x0) (i32 x1) (i32 x2) (i32 x3) (i32 x4)) β := by
  unfold kY_Mat_matches_40_p159 kC_Mat_matches_40_p159
  refine Rf_g (fun hg1 => ?_)
  exact Rf_tail hR hσ (zrs_cons hx0 (zrs_cons hx1 (zrs_cons hx2 (zrs_cons hx3 (zrs_cons hg1 zrs_nil))))) (e_cons rfl (e_cons rfl (e_cons rfl (e_cons rfl (e_cons (e_add rfl (by decide)) rfl)))))
theorem rY_Mat_matches_48 (rz : zF) (rm : mF) (hR : Rc rz rm) (β : Nat) (σ : zS) (hσ : zOK σ) (x0 x1 x2 : Int) (hx0 : zr x0) (hx1 : zr x1) (hx2 : zr x2) : Rf (kY_Mat_matches_48 rz β σ x0 x1 x2) (kC_Mat_matches_48 rm (cv σ) (i32 x0) (i32 x1) (i32 x2)) β := by
  unfold kY_Mat_matches_48 kC_Mat_matches_48
  exact Rf_tail hR hσ (zrs_cons hx0 (zrs_cons hx1 (zrs_cons hx2 (zrs_cons hx2 (zrs_cons hx0 zrs_nil))))) (e_cons rfl (e_cons rfl (e_cons rfl (e_cons rfl (e_cons rfl rfl)))))
theorem rY_Mat_matches_48_p19 (rz : zF) (rm : mF) (hR : Rc rz rm) (β : Nat) (σ : zS) (hσ : zOK σ) (x0 x1 x2 x3 x4 : Int) (hx0 : zr x0) (hx1 : zr x1) (hx2 : zr x2) (hx3 : zr x3) (hx4 : zr x4) : Rf (kY_Mat_matches_48_p19 rz β σ x0 x1 x2 x3 x4) (kC_Mat_matches_48_p19 rm (cv σ) (i32 x0) (i32 x1) (i32 x2) (i32 x3) (i32 x4)) β := by
  unfold kY_Mat_matches_48_p19 kC_Mat_matches_48_p19
  refine Rf_g (fun hg1 => ?_)
  refine Rf_le (e_add rfl rfl) rfl hg1 hx4 (fun _ => ?_) (fun _ => ?_)
  · exact Rf_some hσ (by decide) (by decide)
  · refine Rf_rd rfl hx4 (fun hb2 => ?_)
    refine Rf_lt (e_rd rfl hb2) (by decide) (hσ.2.1 _ _) (by decide) (fun _ => ?_) (fun _ => ?_)
    · refine Rf_rd2 rfl hb2 ?_
      refine Rf_eq (e_and (e_shr rfl (e_not (e_rd rfl hb2))) (by decide)) (by decide) (zr_to _) (by decide) (fun _ => ?_) (fun _ => ?_)
      · refine Rf_rd rfl hx3 (fun hb3 => ?_)
        refine Rf_lt (e_rd rfl hb3) (by decide) (hσ.2.1 _ _) (by decide) (fun _ => ?_) (fun _ => ?_)
        · exact Rf_tail hR hσ (zrs_cons hx0 (zrs_cons hx1 (zrs_cons hx2 (zrs_cons hx3 (zrs_cons hx4 (zrs_cons (zr_not (hσ.2.1 _ _)) zrs_nil)))))) (e_cons rfl (e_cons rfl (e_cons rfl (e_cons rfl (e_cons rfl (e_cons (e_not (e_rd rfl hb2)) rfl))))))
        · refine Rf_rd2 rfl hb3 ?_
          refine Rf_bnd hR hσ (zrs_cons (hσ.2.1 _ _) zrs_nil) (e_cons (e_rd rfl hb3) rfl) (fun σ2 r2 hσ2 hr2 => ?_)
          refine Rf_eq rfl (by decide) hr2 (by decide) (fun _ => ?_) (fun _ => ?_)
          · exact Rf_tail hR hσ2 (zrs_cons hx0 (zrs_cons hx1 (zrs_cons hx2 (zrs_cons hx3 (zrs_cons hx4 (zrs_cons (zr_not (hσ.2.1 _ _)) zrs_nil)))))) (e_cons rfl (e_cons rfl (e_cons rfl (e_cons rfl (e_cons rfl (e_cons (e_not (e_rd rfl hb2)) rfl))))))
          · exact Rf_some hσ2 (by decide) (by decide)
      · refine Rf_rd (e_not (e_rd rfl hb2)) (zr_not (hσ.2.1 _ _)) (fun hb4 => ?_)
        refine Rf_bnd hR hσ (zrs_cons (hσ.2.1 _ _) (zrs_cons hx3 zrs_nil)) (e_cons (e_rd (e_not (e_rd rfl hb2)) hb4) (e_cons rfl rfl)) (fun σ1 r1 hσ1 hr1 => ?_)
        refine Rf_eq rfl (by decide) hr1 (by decide) (fun _ => ?_) (fun _ => ?_)
        · exact Rf_some hσ1 (by decide) (by decide)
        · exact Rf_tail hR hσ1 (zrs_cons hx0 (zrs_cons hx1 (zrs_cons hx2 (zrs_cons hx3 (zrs_cons hx4 (zrs_cons (zr_not (hσ.2.1 _ _)) zrs_nil)))))) (e_cons rfl (e_cons rfl (e_cons rfl (e_cons rfl (e_cons rfl (e_cons (e_not (e_rd rfl hb2)) rfl))))))
    · refine Rf_rd2 rfl hb2 ?_
      refine Rf_rd rfl hx3 (fun hb5 => ?_)
      refine Rf_eq (e_rd rfl hb2) (e_rd rfl hb5) (hσ.2.1 _ _) (hσ.2.1 _ _) (fun _ => ?_) (fun _ => ?_)
      · refine Rf_g (fun hg6 => ?_)
        exact Rf_tail hR hσ (zrs_cons hx0 (zrs_cons hx1 (zrs_cons hx2 (zrs_cons hg6 (zrs_cons hx4 zrs_nil))))) (e_cons rfl (e_cons rfl (e_cons rfl (e_cons (e_add rfl (by decide)) (e_cons rfl rfl)))))
      · exact Rf_some hσ (by decide) (by decide)
theorem rY_Mat_matches_48_p99 (rz : zF) (rm : mF) (hR : Rc rz rm) (β : Nat) (σ : zS) (hσ : zOK σ) (x0 x1 x2 x3 x4 x5 : Int) (hx0 : zr x0) (hx1 : zr x1) (hx2 : zr x2) (hx3 : zr x3) (hx4 : zr x4) (hx5 : zr x5) : Rf (kY_Mat_matches_48_p99 rz β σ x0 x1 x2 x3 x4 x5) (kC_Mat_matches_48_p99 rm (cv σ) (i32 x0) (i32 x1) (i32 x2) (i32 x3) (i32 x4) (i32 x5)) β := by
  unfold kY_Mat_matches_48_p99 kC_Mat_matches_48_p99
  refine Rf_rd rfl hx5 (fun hb1 => ?_)
  refine Rf_A rfl hb1 rfl hx3 hσ (fun σ1 hσ1 => ?_)
  refine Rf_I (e_or rfl (e_shl (by decide) rfl)) (zr_to _) hσ1 (fun σ2 hσ2 => ?_)
  exact Rf_tail hR hσ2 (zrs_cons hx0 (zrs_cons hx1 (zrs_cons hx2 (zrs_cons hx3 (zrs_cons hx4 (zrs_cons hx5 zrs_nil)))))) (e_cons rfl (e_cons rfl (e_cons rfl (e_cons rfl (e_cons rfl (e_cons rfl rfl))))))
theorem rY_Mat_matches_48_p147 (rz : zF) (rm : mF) (hR : Rc rz rm) (β : Nat) (σ : zS) (hσ : zOK σ) (x0 x1 x2 x3 x4 x5 : Int) (hx0 : zr x0) (hx1 : zr x1) (hx2 : zr x2) (hx3 : zr x3) (hx4 : zr x4) (hx5 : zr x5) : Rf (kY_Mat_matches_48_p147 rz β σ x0 x1 x2 x3 x4 x5) (kC_Mat_matches_48_p147 rm (cv σ) (i32 x0) (i32 x1) (i32 x2) (i32 x3) (i32 x4) (i32 x5)) β := by
  unfold kY_Mat_matches_48_p147 kC_Mat_matches_48_p147
  refine Rf_bnd hR hσ (zrs_cons hx3 zrs_nil) (e_cons rfl rfl) (fun σ1 r1 hσ1 hr1 => ?_)
  exact Rf_tail hR hσ1 (zrs_cons hx0 (zrs_cons hx1 (zrs_cons hx2 (zrs_cons hr1 (zrs_cons hx4 zrs_nil))))) (e_cons rfl (e_cons rfl (e_cons rfl (e_cons rfl (e_cons rfl rfl)))))
theorem rY_Mat_matches_48_p159 (rz : zF) (rm : mF) (hR : Rc rz rm) (β : Nat) (σ : zS) (hσ : zOK σ) (x0 x1 x2 x3 x4 : Int) (hx0 : zr x0) (hx1 : zr x1) (hx2 : zr x2) (hx3 : zr x3) (hx4 : zr x4) : Rf (kY_Mat_matches_48_p159 rz β σ x0 x1 x2 x3 x4) (kC_Mat_matches_48_p159 rm (cv σ) (i32 x0) (i32 x1) (i32 x2) (i32 x3) (i32 x4)) β := by
  unfold kY_Mat_matches_48_p159 kC_Mat_matches_48_p159
  refine Rf_g (fun hg1 => ?_)
  exact Rf_tail hR hσ (zrs_cons hx0 (zrs_cons hx1 (zrs_cons hx2 (zrs_cons hx3 (zrs_cons hg1 zrs_nil))))) (e_cons rfl (e_cons rfl (e_cons rfl (e_cons rfl (e_cons (e_add rfl (by decide)) rfl)))))
theorem rY_Mat_rewriteFirst_r57 (rz : zF) (rm : mF) (hR : Rc rz rm) (β : Nat) (σ : zS) (hσ : zOK σ) : Rf (kY_Mat_rewriteFirst_r57 rz β σ) (kC_Mat_rewriteFirst_r57 rm (cv σ)) β := by
  unfold kY_Mat_rewriteFirst_r57 kC_Mat_rewriteFirst_r57
  exact Rf_tail hR hσ (zrs_cons (by decide) zrs_nil) (e_cons (by decide) rfl)
theorem rY_Mat_rewriteFirst_r57_p2 (rz : zF) (rm : mF) (hR : Rc rz rm) (β : Nat) (σ : zS) (hσ : zOK σ) (x0 : Int) (hx0 : zr x0) : Rf (kY_Mat_rewriteFirst_r57_p2 rz β σ x0) (kC_Mat_rewriteFirst_r57_p2 rm (cv σ) (i32 x0)) β := by
  unfold kY_Mat_rewriteFirst_r57_p2 kC_Mat_rewriteFirst_r57_p2
  refine Rf_le rfl rfl (hσ.1 3904) hx0 (fun _ => ?_) (fun _ => ?_)
  · exact Rf_some hσ (by decide) (by decide)
  · exact Rf_tail hR hσ (zrs_cons hx0 (zrs_cons (by decide) zrs_nil)) (e_cons rfl (e_cons (by decide) rfl))
theorem rY_Mat_rewriteFirst_r57_p13 (rz : zF) (rm : mF) (hR : Rc rz rm) (β : Nat) (σ : zS) (hσ : zOK σ) (x0 x1 : Int) (hx0 : zr x0) (hx1 : zr x1) : Rf (kY_Mat_rewriteFirst_r57_p13 rz β σ x0 x1) (kC_Mat_rewriteFirst_r57_p13 rm (cv σ) (i32 x0) (i32 x1)) β := by
  unfold kY_Mat_rewriteFirst_r57_p13 kC_Mat_rewriteFirst_r57_p13
  refine Rf_rd rfl hx0 (fun hb1 => ?_)
  refine Rf_lt (e_rd rfl hb1) (by decide) (hσ.2.1 _ _) (by decide) (fun _ => ?_) (fun _ => ?_)
  · exact Rf_tail hR hσ (zrs_cons hx0 (zrs_cons hx1 zrs_nil)) (e_cons rfl (e_cons rfl rfl))
  · refine Rf_le rfl rfl (hσ.1 5701) hx1 (fun _ => ?_) (fun _ => ?_)
    · exact Rf_tail hR hσ (zrs_cons hx0 (zrs_cons hx1 zrs_nil)) (e_cons rfl (e_cons rfl rfl))
    · refine Rf_rd rfl hx1 (fun hb2 => ?_)
      refine Rf_bnd hR hσ (zrs_cons (hσ.2.1 _ _) (zrs_cons (by decide) (zrs_cons hx0 zrs_nil))) (e_cons (e_rd rfl hb2) (e_cons (by decide) (e_cons rfl rfl))) (fun σ1 r1 hσ1 hr1 => ?_)
      refine Rf_eq rfl (by decide) hr1 (by decide) (fun _ => ?_) (fun _ => ?_)
      · refine Rf_bnd hR hσ1 (zrs_cons (hσ.2.1 _ _) (zrs_cons (by decide) (zrs_cons hx0 zrs_nil))) (e_cons (e_rd rfl hb2) (e_cons (by decide) (e_cons rfl rfl))) (fun σ2 r2 hσ2 hr2 => ?_)
        refine Rf_eq rfl (by decide) hr2 (by decide) (fun _ => ?_) (fun _ => ?_)
        · refine Rf_g (fun hg3 => ?_)
          exact Rf_tail hR hσ2 (zrs_cons hx0 (zrs_cons hg3 zrs_nil)) (e_cons rfl (e_cons (e_add rfl (by decide)) rfl))
        · exact Rf_tail hR hσ2 (zrs_cons hx0 (zrs_cons hx1 (zrs_cons (hσ.2.1 _ _) zrs_nil))) (e_cons rfl (e_cons rfl (e_cons (e_rd rfl hb2) rfl)))
      · exact Rf_tail hR hσ1 (zrs_cons hx0 (zrs_cons hx1 (zrs_cons (hσ.2.1 _ _) zrs_nil))) (e_cons rfl (e_cons rfl (e_cons (e_rd rfl hb2) rfl)))
theorem rY_Mat_rewriteFirst_r57_p70 (rz : zF) (rm : mF) (hR : Rc rz rm) (β : Nat) (σ : zS) (hσ : zOK σ) (x0 x1 x2 : Int) (hx0 : zr x0) (hx1 : zr x1) (hx2 : zr x2) : Rf (kY_Mat_rewriteFirst_r57_p70 rz β σ x0 x1 x2) (kC_Mat_rewriteFirst_r57_p70 rm (cv σ) (i32 x0) (i32 x1) (i32 x2)) β := by
  unfold kY_Mat_rewriteFirst_r57_p70 kC_Mat_rewriteFirst_r57_p70
  refine Rf_bnd hR hσ (zrs_cons hx0 (zrs_cons (hσ.1 6605) zrs_nil)) (e_cons rfl (e_cons rfl rfl)) (fun σ1 r1 hσ1 hr1 => ?_)
  exact Rf_some hσ1 hx2 rfl
theorem rY_Mat_rewriteFirst_r57_p92 (rz : zF) (rm : mF) (hR : Rc rz rm) (β : Nat) (σ : zS) (hσ : zOK σ) (x0 x1 : Int) (hx0 : zr x0) (hx1 : zr x1) : Rf (kY_Mat_rewriteFirst_r57_p92 rz β σ x0 x1) (kC_Mat_rewriteFirst_r57_p92 rm (cv σ) (i32 x0) (i32 x1)) β := by
  unfold kY_Mat_rewriteFirst_r57_p92 kC_Mat_rewriteFirst_r57_p92
  refine Rf_g (fun hg1 => ?_)
  exact Rf_tail hR hσ (zrs_cons hg1 zrs_nil) (e_cons (e_add rfl (by decide)) rfl)
theorem rY_Mat_rewrites_40 (rz : zF) (rm : mF) (hR : Rc rz rm) (β : Nat) (σ : zS) (hσ : zOK σ) (x0 x1 x2 : Int) (hx0 : zr x0) (hx1 : zr x1) (hx2 : zr x2) : Rf (kY_Mat_rewrites_40 rz β σ x0 x1 x2) (kC_Mat_rewrites_40 rm (cv σ) (i32 x0) (i32 x1) (i32 x2)) β := by
  unfold kY_Mat_rewrites_40 kC_Mat_rewrites_40
  refine Rf_bnd hR hσ (zrs_cons hx0 (zrs_cons (by decide) zrs_nil)) (e_cons rfl (e_cons (by decide) rfl)) (fun σ1 r1 hσ1 hr1 => ?_)
  refine Rf_bnd hR hσ1 (zrs_cons hr1 (zrs_cons hx1 zrs_nil)) (e_cons rfl (e_cons rfl rfl)) (fun σ2 r2 hσ2 hr2 => ?_)
  refine Rf_rd rfl hr2 (fun hb1 => ?_)
  refine Rf_lt (e_rd rfl hb1) (by decide) (hσ2.2.1 _ _) (by decide) (fun _ => ?_) (fun _ => ?_)
  · exact Rf_tail hR hσ2 (zrs_cons hx0 (zrs_cons hx1 (zrs_cons hx2 (zrs_cons hr1 (zrs_cons hr2 (zrs_cons (hσ2.2.1 _ _) zrs_nil)))))) (e_cons rfl (e_cons rfl (e_cons rfl (e_cons rfl (e_cons rfl (e_cons (e_rd rfl hb1) rfl))))))
  · refine Rf_rd rfl hx2 (fun hb2 => ?_)
    refine Rf_eq (e_rd rfl hb1) (e_rd rfl hb2) (hσ2.2.1 _ _) (hσ2.2.1 _ _) (fun _ => ?_) (fun _ => ?_)
    · exact Rf_tail hR hσ2 (zrs_cons hx0 (zrs_cons hx1 (zrs_cons hx2 (zrs_cons hr1 (zrs_cons hr2 (zrs_cons (hσ2.2.1 _ _) zrs_nil)))))) (e_cons rfl (e_cons rfl (e_cons rfl (e_cons rfl (e_cons rfl (e_cons (e_rd rfl hb1) rfl))))))
    · exact Rf_some hσ2 (by decide) (by decide)
theorem rY_Mat_rewrites_40_p55 (rz : zF) (rm : mF) (hR : Rc rz rm) (β : Nat) (σ : zS) (hσ : zOK σ) (x0 x1 x2 x3 x4 x5 : Int) (hx0 : zr x0) (hx1 : zr x1) (hx2 : zr x2) (hx3 : zr x3) (hx4 : zr x4) (hx5 : zr x5) : Rf (kY_Mat_rewrites_40_p55 rz β σ x0 x1 x2 x3 x4 x5) (kC_Mat_rewrites_40_p55 rm (cv σ) (i32 x0) (i32 x1) (i32 x2) (i32 x3) (i32 x4) (i32 x5)) β := by
  unfold kY_Mat_rewrites_40_p55 kC_Mat_rewrites_40_p55
  refine Rf_I (by decide) (by decide) hσ (fun σ1 hσ1 => ?_)
  refine Rf_bnd hR hσ1 (zrs_cons hx3 (zrs_cons hx1 zrs_nil)) (e_cons rfl (e_cons rfl rfl)) (fun σ2 r2 hσ2 hr2 => ?_)
  refine Rf_bnd hR hσ2 (zrs_cons hx4 (zrs_cons hr2 (zrs_cons hx2 zrs_nil))) (e_cons rfl (e_cons rfl (e_cons rfl rfl))) (fun σ3 r3 hσ3 hr3 => ?_)
  refine Rf_eq rfl (by decide) hr3 (by decide) (fun _ => ?_) (fun _ => ?_)
  · exact Rf_some hσ3 (by decide) (by decide)
  · refine Rf_g (fun hg1 => ?_)
    refine Rf_bnd hR hσ3 (zrs_cons hx3 (zrs_cons hg1 zrs_nil)) (e_cons rfl (e_cons (e_sub (by decide) rfl) rfl)) (fun σ4 r4 hσ4 hr4 => ?_)
    refine Rf_bnd hR hσ4 (zrs_cons hx2 zrs_nil) (e_cons rfl rfl) (fun σ5 r5 hσ5 hr5 => ?_)
    refine Rf_bnd hR hσ5 (zrs_cons hx3 (zrs_cons hg1 zrs_nil)) (e_cons rfl (e_cons (e_sub (by decide) rfl) rfl)) (fun σ6 r6 hσ6 hr6 => ?_)
    refine Rf_g (fun hg2 => ?_)
    refine Rf_bnd hR hσ6 (zrs_cons hr4 (zrs_cons hr6 (zrs_cons hg2 zrs_nil))) (e_cons rfl (e_cons rfl (e_cons (e_sub rfl rfl) rfl))) (fun σ7 r7 hσ7 hr7 => ?_)
    refine Rf_eq rfl (by decide) hr7 (by decide) (fun _ => ?_) (fun _ => ?_)
    · exact Rf_tail hR hσ7 (zrs_cons hx0 (zrs_cons hx1 (zrs_cons hx2 (zrs_cons hx3 (zrs_cons hx4 (zrs_cons hx5 (zrs_cons hr4 (zrs_cons hg2 zrs_nil)))))))) (e_cons rfl (e_cons rfl (e_cons rfl (e_cons rfl (e_cons rfl (e_cons rfl (e_cons rfl (e_cons (e_sub rfl rfl) rfl))))))))
    · refine Rf_bnd hR hσ7 (zrs_cons hx2 (zrs_cons (by decide) zrs_nil)) (e_cons rfl (e_cons (by decide) rfl)) (fun σ8 r8 hσ8 hr8 => ?_)
      refine Rf_eq rfl (by decide) hr8 (by decide) (fun _ => ?_) (fun _ => ?_)
      · exact Rf_tail hR hσ8 (zrs_cons hx0 (zrs_cons hx1 (zrs_cons hx2 (zrs_cons hx3 (zrs_cons hx4 (zrs_cons hx5 (zrs_cons hr4 (zrs_cons hg2 zrs_nil)))))))) (e_cons rfl (e_cons rfl (e_cons rfl (e_cons rfl (e_cons rfl (e_cons rfl (e_cons rfl (e_cons (e_sub rfl rfl) rfl))))))))
      · exact Rf_tail hR hσ8 (zrs_cons hx0 (zrs_cons hx1 (zrs_cons hx2 (zrs_cons hx3 (zrs_cons hx4 (zrs_cons hx5 (zrs_cons hr4 (zrs_cons hg2 (zrs_cons (by decide) zrs_nil))))))))) (e_cons rfl (e_cons rfl (e_cons rfl (e_cons rfl (e_cons rfl (e_cons rfl (e_cons rfl (e_cons (e_sub rfl rfl) (e_cons (by decide) rfl)))))))))
theorem rY_Mat_rewrites_40_p159 (rz : zF) (rm : mF) (hR : Rc rz rm) (β : Nat) (σ : zS) (hσ : zOK σ) (x0 x1 x2 x3 x4 x5 x6 x7 : Int) (hx0 : zr x0) (hx1 : zr x1) (hx2 : zr x2) (hx3 : zr x3) (hx4 : zr x4) (hx5 : zr x5) (hx6 : zr x6) (hx7 : zr x7) : Rf (kY_Mat_rewrites_40_p159 rz β σ x0 x1 x2 x3 x4 x5 x6 x7) (kC_Mat_rewrites_40_p159 rm (cv σ) (i32 x0) (i32 x1) (i32 x2) (i32 x3) (i32 x4) (i32 x5) (i32 x6) (i32 x7)) β := by
  unfold kY_Mat_rewrites_40_p159 kC_Mat_rewrites_40_p159
  exact Rf_tail hR hσ (zrs_cons hx0 (zrs_cons hx1 (zrs_cons hx2 (zrs_cons hx3 (zrs_cons hx4 (zrs_cons hx5 (zrs_cons hx6 (zrs_cons hx7 (zrs_cons (by decide) zrs_nil))))))))) (e_cons rfl (e_cons rfl (e_cons rfl (e_cons rfl (e_cons rfl (e_cons rfl (e_cons rfl (e_cons rfl (e_cons (by decide) rfl)))))))))
theorem rY_Mat_rewrites_40_p160 (rz : zF) (rm : mF) (hR : Rc rz rm) (β : Nat) (σ : zS) (hσ : zOK σ) (x0 x1 x2 x3 x4 x5 x6 x7 x8 : Int) (hx0 : zr x0) (hx1 : zr x1) (hx2 : zr x2) (hx3 : zr x3) (hx4 : zr x4) (hx5 : zr x5) (hx6 : zr x6) (hx7 : zr x7) (hx8 : zr x8) : Rf (kY_Mat_rewrites_40_p160 rz β σ x0 x1 x2 x3 x4 x5 x6 x7 x8) (kC_Mat_rewrites_40_p160 rm (cv σ) (i32 x0) (i32 x1) (i32 x2) (i32 x3) (i32 x4) (i32 x5) (i32 x6) (i32 x7) (i32 x8)) β := by
  unfold kY_Mat_rewrites_40_p160 kC_Mat_rewrites_40_p160
  refine Rf_01 rfl hx8 (fun hb1 => ?_)
  exact Rf_some hσ hx8 rfl
theorem rY_Mat_rewrites_48 (rz : zF) (rm : mF) (hR : Rc rz rm) (β : Nat) (σ : zS) (hσ : zOK σ) (x0 x1 x2 : Int) (hx0 : zr x0) (hx1 : zr x1) (hx2 : zr x2) : Rf (kY_Mat_rewrites_48 rz β σ x0 x1 x2) (kC_Mat_rewrites_48 rm (cv σ) (i32 x0) (i32 x1) (i32 x2)) β := by
  unfold kY_Mat_rewrites_48 kC_Mat_rewrites_48
  refine Rf_bnd hR hσ (zrs_cons hx0 (zrs_cons (by decide) zrs_nil)) (e_cons rfl (e_cons (by decide) rfl)) (fun σ1 r1 hσ1 hr1 => ?_)
  refine Rf_bnd hR hσ1 (zrs_cons hr1 (zrs_cons hx1 zrs_nil)) (e_cons rfl (e_cons rfl rfl)) (fun σ2 r2 hσ2 hr2 => ?_)
  refine Rf_rd rfl hr2 (fun hb1 => ?_)
  refine Rf_lt (e_rd rfl hb1) (by decide) (hσ2.2.1 _ _) (by decide) (fun _ => ?_) (fun _ => ?_)
  · exact Rf_tail hR hσ2 (zrs_cons hx0 (zrs_cons hx1 (zrs_cons hx2 (zrs_cons hr1 (zrs_cons hr2 (zrs_cons (hσ2.2.1 _ _) zrs_nil)))))) (e_cons rfl (e_cons rfl (e_cons rfl (e_cons rfl (e_cons rfl (e_cons (e_rd rfl hb1) rfl))))))
  · refine Rf_rd rfl hx2 (fun hb2 => ?_)
    refine Rf_eq (e_rd rfl hb1) (e_rd rfl hb2) (hσ2.2.1 _ _) (hσ2.2.1 _ _) (fun _ => ?_) (fun _ => ?_)
    · exact Rf_tail hR hσ2 (zrs_cons hx0 (zrs_cons hx1 (zrs_cons hx2 (zrs_cons hr1 (zrs_cons hr2 (zrs_cons (hσ2.2.1 _ _) zrs_nil)))))) (e_cons rfl (e_cons rfl (e_cons rfl (e_cons rfl (e_cons rfl (e_cons (e_rd rfl hb1) rfl))))))
    · exact Rf_some hσ2 (by decide) (by decide)
theorem rY_Mat_rewrites_48_p55 (rz : zF) (rm : mF) (hR : Rc rz rm) (β : Nat) (σ : zS) (hσ : zOK σ) (x0 x1 x2 x3 x4 x5 : Int) (hx0 : zr x0) (hx1 : zr x1) (hx2 : zr x2) (hx3 : zr x3) (hx4 : zr x4) (hx5 : zr x5) : Rf (kY_Mat_rewrites_48_p55 rz β σ x0 x1 x2 x3 x4 x5) (kC_Mat_rewrites_48_p55 rm (cv σ) (i32 x0) (i32 x1) (i32 x2) (i32 x3) (i32 x4) (i32 x5)) β := by
  unfold kY_Mat_rewrites_48_p55 kC_Mat_rewrites_48_p55
  refine Rf_I (by decide) (by decide) hσ (fun σ1 hσ1 => ?_)
  refine Rf_bnd hR hσ1 (zrs_cons hx3 (zrs_cons hx1 zrs_nil)) (e_cons rfl (e_cons rfl rfl)) (fun σ2 r2 hσ2 hr2 => ?_)
  refine Rf_bnd hR hσ2 (zrs_cons hx4 (zrs_cons hr2 (zrs_cons hx2 zrs_nil))) (e_cons rfl (e_cons rfl (e_cons rfl rfl))) (fun σ3 r3 hσ3 hr3 => ?_)
  refine Rf_eq rfl (by decide) hr3 (by decide) (fun _ => ?_) (fun _ => ?_)
  · exact Rf_some hσ3 (by decide) (by decide)
  · refine Rf_g (fun hg1 => ?_)
    refine Rf_bnd hR hσ3 (zrs_cons hx3 (zrs_cons hg1 zrs_nil)) (e_cons rfl (e_cons (e_sub (by decide) rfl) rfl)) (fun σ4 r4 hσ4 hr4 => ?_)
    refine Rf_bnd hR hσ4 (zrs_cons hx2 zrs_nil) (e_cons rfl rfl) (fun σ5 r5 hσ5 hr5 => ?_)
    refine Rf_bnd hR hσ5 (zrs_cons hx3 (zrs_cons hg1 zrs_nil)) (e_cons rfl (e_cons (e_sub (by decide) rfl) rfl)) (fun σ6 r6 hσ6 hr6 => ?_)
    refine Rf_g (fun hg2 => ?_)
    refine Rf_bnd hR hσ6 (zrs_cons hr4 (zrs_cons hr6 (zrs_cons hg2 zrs_nil))) (e_cons rfl (e_cons rfl (e_cons (e_sub rfl rfl) rfl))) (fun σ7 r7 hσ7 hr7 => ?_)
    refine Rf_eq rfl (by decide) hr7 (by decide) (fun _ => ?_) (fun _ => ?_)
    · exact Rf_tail hR hσ7 (zrs_cons hx0 (zrs_cons hx1 (zrs_cons hx2 (zrs_cons hx3 (zrs_cons hx4 (zrs_cons hx5 (zrs_cons hr4 (zrs_cons hg2 zrs_nil)))))))) (e_cons rfl (e_cons rfl (e_cons rfl (e_cons rfl (e_cons rfl (e_cons rfl (e_cons rfl (e_cons (e_sub rfl rfl) rfl))))))))
    · refine Rf_bnd hR hσ7 (zrs_cons hx2 (zrs_cons (by decide) zrs_nil)) (e_cons rfl (e_cons (by decide) rfl)) (fun σ8 r8 hσ8 hr8 => ?_)
      refine Rf_eq rfl (by decide) hr8 (by decide) (fun _ => ?_) (fun _ => ?_)
      · exact Rf_tail hR hσ8 (zrs_cons hx0 (zrs_cons hx1 (zrs_cons hx2 (zrs_cons hx3 (zrs_cons hx4 (zrs_cons hx5 (zrs_cons hr4 (zrs_cons hg2 zrs_nil)))))))) (e_cons rfl (e_cons rfl (e_cons rfl (e_cons rfl (e_cons rfl (e_cons rfl (e_cons rfl (e_cons (e_sub rfl rfl) rfl))))))))
      · exact Rf_tail hR hσ8 (zrs_cons hx0 (zrs_cons hx1 (zrs_cons hx2 (zrs_cons hx3 (zrs_cons hx4 (zrs_cons hx5 (zrs_cons hr4 (zrs_cons hg2 (zrs_cons (by decide) zrs_nil))))))))) (e_cons rfl (e_cons rfl (e_cons rfl (e_cons rfl (e_cons rfl (e_cons rfl (e_cons rfl (e_cons (e_sub rfl rfl) (e_cons (by decide) rfl)))))))))
theorem rY_Mat_rewrites_48_p159 (rz : zF) (rm : mF) (hR : Rc rz rm) (β : Nat) (σ : zS) (hσ : zOK σ) (x0 x1 x2 x3 x4 x5 x6 x7 : Int) (hx0 : zr x0) (hx1 : zr x1) (hx2 : zr x2) (hx3 : zr x3) (hx4 : zr x4) (hx5 : zr x5) (hx6 : zr x6) (hx7 : zr x7) : Rf (kY_Mat_rewrites_48_p159 rz β σ x0 x1 x2 x3 x4 x5 x6 x7) (kC_Mat_rewrites_48_p159 rm (cv σ) (i32 x0) (i32 x1) (i32 x2) (i32 x3) (i32 x4) (i32 x5) (i32 x6) (i32 x7)) β := by
  unfold kY_Mat_rewrites_48_p159 kC_Mat_rewrites_48_p159
  exact Rf_tail hR hσ (zrs_cons hx0 (zrs_cons hx1 (zrs_cons hx2 (zrs_cons hx3 (zrs_cons hx4 (zrs_cons hx5 (zrs_cons hx6 (zrs_cons hx7 (zrs_cons (by decide) zrs_nil))))))))) (e_cons rfl (e_cons rfl (e_cons rfl (e_cons rfl (e_cons rfl (e_cons rfl (e_cons rfl (e_cons rfl (e_cons (by decide) rfl)))))))))
theorem rY_Mat_rewrites_48_p160 (rz : zF) (rm : mF) (hR : Rc rz rm) (β : Nat) (σ : zS) (hσ : zOK σ) (x0 x1 x2 x3 x4 x5 x6 x7 x8 : Int) (hx0 : zr x0) (hx1 : zr x1) (hx2 : zr x2) (hx3 : zr x3) (hx4 : zr x4) (hx5 : zr x5) (hx6 : zr x6) (hx7 : zr x7) (hx8 : zr x8) : Rf (kY_Mat_rewrites_48_p160 rz β σ x0 x1 x2 x3 x4 x5 x6 x7 x8) (kC_Mat_rewrites_48_p160 rm (cv σ) (i32 x0) (i32 x1) (i32 x2) (i32 x3) (i32 x4) (i32 x5) (i32 x6) (i32 x7) (i32 x8)) β := by
  unfold kY_Mat_rewrites_48_p160 kC_Mat_rewrites_48_p160
  refine Rf_01 rfl hx8 (fun hb1 => ?_)
  exact Rf_some hσ hx8 rfl
theorem rY_Mat_rewritesIn (rz : zF) (rm : mF) (hR : Rc rz rm) (β : Nat) (σ : zS) (hσ : zOK σ) (x0 x1 : Int) (hx0 : zr x0) (hx1 : zr x1) : Rf (kY_Mat_rewritesIn rz β σ x0 x1) (kC_Mat_rewritesIn rm (cv σ) (i32 x0) (i32 x1)) β := by
  unfold kY_Mat_rewritesIn kC_Mat_rewritesIn
  refine Rf_bnd hR hσ (zrs_cons hx1 (zrs_cons (by decide) zrs_nil)) (e_cons rfl (e_cons (by decide) rfl)) (fun σ1 r1 hσ1 hr1 => ?_)
  exact Rf_tail hR hσ1 (zrs_cons hx0 (zrs_cons hx1 (zrs_cons hr1 (zrs_cons (by decide) zrs_nil)))) (e_cons rfl (e_cons rfl (e_cons rfl (e_cons (by decide) rfl))))
theorem rY_Mat_rewritesIn_p26 (rz : zF) (rm : mF) (hR : Rc rz rm) (β : Nat) (σ : zS) (hσ : zOK σ) (x0 x1 x2 x3 : Int) (hx0 : zr x0) (hx1 : zr x1) (hx2 : zr x2) (hx3 : zr x3) : Rf (kY_Mat_rewritesIn_p26 rz β σ x0 x1 x2 x3) (kC_Mat_rewritesIn_p26 rm (cv σ) (i32 x0) (i32 x1) (i32 x2) (i32 x3)) β := by
  unfold kY_Mat_rewritesIn_p26 kC_Mat_rewritesIn_p26
  refine Rf_bnd hR hσ (zrs_cons hx1 (zrs_cons (by decide) zrs_nil)) (e_cons rfl (e_cons (by decide) rfl)) (fun σ1 r1 hσ1 hr1 => ?_)
  refine Rf_le rfl rfl hr1 hx3 (fun _ => ?_) (fun _ => ?_)
  · exact Rf_some hσ1 (by decide) (by decide)
  · refine Rf_bnd hR hσ1 (zrs_cons hx2 zrs_nil) (e_cons rfl rfl) (fun σ2 r2 hσ2 hr2 => ?_)
    refine Rf_bnd hR hσ2 (zrs_cons hx2 (zrs_cons (by decide) zrs_nil)) (e_cons rfl (e_cons (by decide) rfl)) (fun σ3 r3 hσ3 hr3 => ?_)
    exact Rf_tail hR hσ3 (zrs_cons hx0 (zrs_cons hx1 (zrs_cons hx2 (zrs_cons hx3 (zrs_cons hr2 (zrs_cons hr3 zrs_nil)))))) (e_cons rfl (e_cons rfl (e_cons rfl (e_cons rfl (e_cons rfl (e_cons rfl rfl))))))
theorem rY_Mat_rewritesIn_p61 (rz : zF) (rm : mF) (hR : Rc rz rm) (β : Nat) (σ : zS) (hσ : zOK σ) (x0 x1 x2 x3 x4 x5 : Int) (hx0 : zr x0) (hx1 : zr x1) (hx2 : zr x2) (hx3 : zr x3) (hx4 : zr x4) (hx5 : zr x5) : Rf (kY_Mat_rewritesIn_p61 rz β σ x0 x1 x2 x3 x4 x5) (kC_Mat_rewritesIn_p61 rm (cv σ) (i32 x0) (i32 x1) (i32 x2) (i32 x3) (i32 x4) (i32 x5)) β := by
  unfold kY_Mat_rewritesIn_p61 kC_Mat_rewritesIn_p61
  refine Rf_le rfl rfl hx4 hx5 (fun _ => ?_) (fun _ => ?_)
  · refine Rf_g (fun hg1 => ?_)
    exact Rf_tail hR hσ (zrs_cons hx0 (zrs_cons hx1 (zrs_cons hx4 (zrs_cons hg1 zrs_nil)))) (e_cons rfl (e_cons rfl (e_cons rfl (e_cons (e_add rfl (by decide)) rfl))))
  · refine Rf_rd rfl hx5 (fun hb2 => ?_)
    refine Rf_lt (e_rd rfl hb2) (by decide) (hσ.2.1 _ _) (by decide) (fun _ => ?_) (fun _ => ?_)
    · exact Rf_tail hR hσ (zrs_cons hx0 (zrs_cons hx1 (zrs_cons hx2 (zrs_cons hx3 (zrs_cons hx4 (zrs_cons hx5 zrs_nil)))))) (e_cons rfl (e_cons rfl (e_cons rfl (e_cons rfl (e_cons rfl (e_cons rfl rfl))))))
    · refine Rf_bnd hR hσ (zrs_cons hx0 (zrs_cons (by decide) (zrs_cons hx5 zrs_nil))) (e_cons rfl (e_cons (by decide) (e_cons rfl rfl))) (fun σ1 r1 hσ1 hr1 => ?_)
      refine Rf_eq rfl (by decide) hr1 (by decide) (fun _ => ?_) (fun _ => ?_)
      · refine Rf_bnd hR hσ1 (zrs_cons hx0 (zrs_cons (by decide) (zrs_cons hx5 zrs_nil))) (e_cons rfl (e_cons (by decide) (e_cons rfl rfl))) (fun σ2 r2 hσ2 hr2 => ?_)
        refine Rf_eq rfl (by decide) hr2 (by decide) (fun _ => ?_) (fun _ => ?_)
        · exact Rf_tail hR hσ2 (zrs_cons hx0 (zrs_cons hx1 (zrs_cons hx2 (zrs_cons hx3 (zrs_cons hx4 (zrs_cons hx5 zrs_nil)))))) (e_cons rfl (e_cons rfl (e_cons rfl (e_cons rfl (e_cons rfl (e_cons rfl rfl))))))
        · exact Rf_tail hR hσ2 (zrs_cons hx0 (zrs_cons hx1 (zrs_cons hx2 (zrs_cons hx3 (zrs_cons hx4 (zrs_cons hx5 zrs_nil)))))) (e_cons rfl (e_cons rfl (e_cons rfl (e_cons rfl (e_cons rfl (e_cons rfl rfl))))))
      · exact Rf_tail hR hσ1 (zrs_cons hx0 (zrs_cons hx1 (zrs_cons hx2 (zrs_cons hx3 (zrs_cons hx4 (zrs_cons hx5 zrs_nil)))))) (e_cons rfl (e_cons rfl (e_cons rfl (e_cons rfl (e_cons rfl (e_cons rfl rfl))))))
theorem rY_Mat_rewritesIn_p102 (rz : zF) (rm : mF) (hR : Rc rz rm) (β : Nat) (σ : zS) (hσ : zOK σ) (x0 x1 x2 x3 x4 x5 : Int) (hx0 : zr x0) (hx1 : zr x1) (hx2 : zr x2) (hx3 : zr x3) (hx4 : zr x4) (hx5 : zr x5) : Rf (kY_Mat_rewritesIn_p102 rz β σ x0 x1 x2 x3 x4 x5) (kC_Mat_rewritesIn_p102 rm (cv σ) (i32 x0) (i32 x1) (i32 x2) (i32 x3) (i32 x4) (i32 x5)) β := by
  unfold kY_Mat_rewritesIn_p102 kC_Mat_rewritesIn_p102
  exact Rf_some hσ (by decide) (by decide)
theorem rY_Mat_rewritesIn_p104 (rz : zF) (rm : mF) (hR : Rc rz rm) (β : Nat) (σ : zS) (hσ : zOK σ) (x0 x1 x2 x3 x4 x5 : Int) (hx0 : zr x0) (hx1 : zr x1) (hx2 : zr x2) (hx3 : zr x3) (hx4 : zr x4) (hx5 : zr x5) : Rf (kY_Mat_rewritesIn_p104 rz β σ x0 x1 x2 x3 x4 x5) (kC_Mat_rewritesIn_p104 rm (cv σ) (i32 x0) (i32 x1) (i32 x2) (i32 x3) (i32 x4) (i32 x5)) β := by
  unfold kY_Mat_rewritesIn_p104 kC_Mat_rewritesIn_p104
  refine Rf_g (fun hg1 => ?_)
  exact Rf_tail hR hσ (zrs_cons hx0 (zrs_cons hx1 (zrs_cons hx2 (zrs_cons hx3 (zrs_cons hx4 (zrs_cons hg1 zrs_nil)))))) (e_cons rfl (e_cons rfl (e_cons rfl (e_cons rfl (e_cons rfl (e_cons (e_add rfl (by decide)) rfl))))))
theorem rY_Mat_subsumes (rz : zF) (rm : mF) (hR : Rc rz rm) (β : Nat) (σ : zS) (hσ : zOK σ) (x0 x1 : Int) (hx0 : zr x0) (hx1 : zr x1) : Rf (kY_Mat_subsumes rz β σ x0 x1) (kC_Mat_subsumes rm (cv σ) (i32 x0) (i32 x1)) β := by
  unfold kY_Mat_subsumes kC_Mat_subsumes
  refine Rf_bnd hR hσ (zrs_cons hx0 (zrs_cons (by decide) zrs_nil)) (e_cons rfl (e_cons (by decide) rfl)) (fun σ1 r1 hσ1 hr1 => ?_)
  refine Rf_bnd hR hσ1 (zrs_cons hx1 (zrs_cons (by decide) zrs_nil)) (e_cons rfl (e_cons (by decide) rfl)) (fun σ2 r2 hσ2 hr2 => ?_)
  refine Rf_lt rfl rfl hr2 hr1 (fun _ => ?_) (fun _ => ?_)
  · exact Rf_tail hR hσ2 (zrs_cons hx0 (zrs_cons hx1 (zrs_cons hr1 (zrs_cons (by decide) zrs_nil)))) (e_cons rfl (e_cons rfl (e_cons rfl (e_cons (by decide) rfl))))
  · exact Rf_tail hR hσ2 (zrs_cons hx0 (zrs_cons hx1 (zrs_cons hr1 (zrs_cons (by decide) zrs_nil)))) (e_cons rfl (e_cons rfl (e_cons rfl (e_cons (by decide) rfl))))
theorem rY_Mat_subsumes_p28 (rz : zF) (rm : mF) (hR : Rc rz rm) (β : Nat) (σ : zS) (hσ : zOK σ) (x0 x1 x2 x3 : Int) (hx0 : zr x0) (hx1 : zr x1) (hx2 : zr x2) (hx3 : zr x3) : Rf (kY_Mat_subsumes_p28 rz β σ x0 x1 x2 x3) (kC_Mat_subsumes_p28 rm (cv σ) (i32 x0) (i32 x1) (i32 x2) (i32 x3)) β := by
  unfold kY_Mat_subsumes_p28 kC_Mat_subsumes_p28
  refine Rf_bnd hR hσ (zrs_cons hx0 (zrs_cons (by decide) zrs_nil)) (e_cons rfl (e_cons (by decide) rfl)) (fun σ1 r1 hσ1 hr1 => ?_)
  exact Rf_tail hR hσ1 (zrs_cons hx0 (zrs_cons hx1 (zrs_cons hx2 (zrs_cons hx3 (zrs_cons hr1 (zrs_cons (by decide) zrs_nil)))))) (e_cons rfl (e_cons rfl (e_cons rfl (e_cons rfl (e_cons rfl (e_cons (by decide) rfl))))))
theorem rY_Mat_subsumes_p45 (rz : zF) (rm : mF) (hR : Rc rz rm) (β : Nat) (σ : zS) (hσ : zOK σ) (x0 x1 x2 x3 x4 x5 : Int) (hx0 : zr x0) (hx1 : zr x1) (hx2 : zr x2) (hx3 : zr x3) (hx4 : zr x4) (hx5 : zr x5) : Rf (kY_Mat_subsumes_p45 rz β σ x0 x1 x2 x3 x4 x5) (kC_Mat_subsumes_p45 rm (cv σ) (i32 x0) (i32 x1) (i32 x2) (i32 x3) (i32 x4) (i32 x5)) β := by
  unfold kY_Mat_subsumes_p45 kC_Mat_subsumes_p45
  refine Rf_le rfl rfl hx2 hx5 (fun _ => ?_) (fun _ => ?_)
  · exact Rf_tail hR hσ (zrs_cons hx0 (zrs_cons hx1 (zrs_cons hx2 (zrs_cons hx3 (zrs_cons hx4 (zrs_cons hx5 zrs_nil)))))) (e_cons rfl (e_cons rfl (e_cons rfl (e_cons rfl (e_cons rfl (e_cons rfl rfl))))))
  · refine Rf_eq rfl (by decide) hx3 (by decide) (fun _ => ?_) (fun _ => ?_)
    · exact Rf_tail hR hσ (zrs_cons hx0 (zrs_cons hx1 (zrs_cons hx2 (zrs_cons hx3 (zrs_cons hx4 (zrs_cons hx5 zrs_nil)))))) (e_cons rfl (e_cons rfl (e_cons rfl (e_cons rfl (e_cons rfl (e_cons rfl rfl))))))
    · refine Rf_I (by decide) (by decide) hσ (fun σ1 hσ1 => ?_)
      refine Rf_bnd hR hσ1 (zrs_cons hx4 (zrs_cons (by decide) (zrs_cons hx1 zrs_nil))) (e_cons rfl (e_cons (by decide) (e_cons rfl rfl))) (fun σ2 r2 hσ2 hr2 => ?_)
      refine Rf_bnd hR hσ2 (zrs_cons hx4 zrs_nil) (e_cons rfl rfl) (fun σ3 r3 hσ3 hr3 => ?_)
      refine Rf_g (fun hg1 => ?_)
      exact Rf_tail hR hσ3 (zrs_cons hx0 (zrs_cons hx1 (zrs_cons hx2 (zrs_cons hr2 (zrs_cons hr3 (zrs_cons hg1 zrs_nil)))))) (e_cons rfl (e_cons rfl (e_cons rfl (e_cons rfl (e_cons rfl (e_cons (e_add rfl (by decide)) rfl))))))
theorem rY_Mat_subsumes_p88 (rz : zF) (rm : mF) (hR : Rc rz rm) (β : Nat) (σ : zS) (hσ : zOK σ) (x0 x1 x2 x3 x4 x5 : Int) (hx0 : zr x0) (hx1 : zr x1) (hx2 : zr x2) (hx3 : zr x3) (hx4 : zr x4) (hx5 : zr x5) : Rf (kY_Mat_subsumes_p88 rz β σ x0 x1 x2 x3 x4 x5) (kC_Mat_subsumes_p88 rm (cv σ) (i32 x0) (i32 x1) (i32 x2) (i32 x3) (i32 x4) (i32 x5)) β := by
  unfold kY_Mat_subsumes_p88 kC_Mat_subsumes_p88
  refine Rf_I (by decide) (by decide) hσ (fun σ1 hσ1 => ?_)
  refine Rf_eq rfl (by decide) hx3 (by decide) (fun _ => ?_) (fun _ => ?_)
  · exact Rf_tail hR hσ1 (zrs_cons hx0 (zrs_cons hx1 (zrs_cons hx2 (zrs_cons hx3 (zrs_cons hx4 (zrs_cons hx5 zrs_nil)))))) (e_cons rfl (e_cons rfl (e_cons rfl (e_cons rfl (e_cons rfl (e_cons rfl rfl))))))
  · refine Rf_eq rfl (by decide) hx2 (by decide) (fun _ => ?_) (fun _ => ?_)
    · exact Rf_tail hR hσ1 (zrs_cons hx0 (zrs_cons hx1 (zrs_cons hx2 (zrs_cons hx3 (zrs_cons hx4 (zrs_cons hx5 zrs_nil)))))) (e_cons rfl (e_cons rfl (e_cons rfl (e_cons rfl (e_cons rfl (e_cons rfl rfl))))))
    · refine Rf_bnd hR hσ1 (zrs_cons hx0 (zrs_cons (by decide) zrs_nil)) (e_cons rfl (e_cons (by decide) rfl)) (fun σ2 r2 hσ2 hr2 => ?_)
      refine Rf_bnd hR hσ2 (zrs_cons hr2 (zrs_cons hx2 (zrs_cons hx1 zrs_nil))) (e_cons rfl (e_cons rfl (e_cons rfl rfl))) (fun σ3 r3 hσ3 hr3 => ?_)
      refine Rf_eq rfl (by decide) hr3 (by decide) (fun _ => ?_) (fun _ => ?_)
      · exact Rf_tail hR hσ3 (zrs_cons hx0 (zrs_cons hx1 (zrs_cons hx2 (zrs_cons hx3 (zrs_cons hx4 (zrs_cons hx5 zrs_nil)))))) (e_cons rfl (e_cons rfl (e_cons rfl (e_cons rfl (e_cons rfl (e_cons rfl rfl))))))
      · exact Rf_tail hR hσ3 (zrs_cons hx0 (zrs_cons hx1 (zrs_cons hx2 (zrs_cons hx3 (zrs_cons hx4 (zrs_cons hx5 zrs_nil)))))) (e_cons rfl (e_cons rfl (e_cons rfl (e_cons rfl (e_cons rfl (e_cons rfl rfl))))))
theorem rY_Mat_subsumes_p122 (rz : zF) (rm : mF) (hR : Rc rz rm) (β : Nat) (σ : zS) (hσ : zOK σ) (x0 x1 x2 x3 x4 x5 : Int) (hx0 : zr x0) (hx1 : zr x1) (hx2 : zr x2) (hx3 : zr x3) (hx4 : zr x4) (hx5 : zr x5) : Rf (kY_Mat_subsumes_p122 rz β σ x0 x1 x2 x3 x4 x5) (kC_Mat_subsumes_p122 rm (cv σ) (i32 x0) (i32 x1) (i32 x2) (i32 x3) (i32 x4) (i32 x5)) β := by
  unfold kY_Mat_subsumes_p122 kC_Mat_subsumes_p122
  exact Rf_tail hR hσ (zrs_cons hx0 (zrs_cons hx1 (zrs_cons hx2 (zrs_cons hx3 (zrs_cons hx4 (zrs_cons hx5 (zrs_cons (by decide) zrs_nil))))))) (e_cons rfl (e_cons rfl (e_cons rfl (e_cons rfl (e_cons rfl (e_cons rfl (e_cons (by decide) rfl)))))))
theorem rY_Mat_subsumes_p126 (rz : zF) (rm : mF) (hR : Rc rz rm) (β : Nat) (σ : zS) (hσ : zOK σ) (x0 x1 x2 x3 x4 x5 : Int) (hx0 : zr x0) (hx1 : zr x1) (hx2 : zr x2) (hx3 : zr x3) (hx4 : zr x4) (hx5 : zr x5) : Rf (kY_Mat_subsumes_p126 rz β σ x0 x1 x2 x3 x4 x5) (kC_Mat_subsumes_p126 rm (cv σ) (i32 x0) (i32 x1) (i32 x2) (i32 x3) (i32 x4) (i32 x5)) β := by
  unfold kY_Mat_subsumes_p126 kC_Mat_subsumes_p126
  exact Rf_tail hR hσ (zrs_cons hx0 (zrs_cons hx1 (zrs_cons hx2 (zrs_cons hx3 (zrs_cons hx4 (zrs_cons hx5 (zrs_cons (by decide) zrs_nil))))))) (e_cons rfl (e_cons rfl (e_cons rfl (e_cons rfl (e_cons rfl (e_cons rfl (e_cons (by decide) rfl)))))))
theorem rY_Mat_subsumes_p127 (rz : zF) (rm : mF) (hR : Rc rz rm) (β : Nat) (σ : zS) (hσ : zOK σ) (x0 x1 x2 x3 x4 x5 x6 : Int) (hx0 : zr x0) (hx1 : zr x1) (hx2 : zr x2) (hx3 : zr x3) (hx4 : zr x4) (hx5 : zr x5) (hx6 : zr x6) : Rf (kY_Mat_subsumes_p127 rz β σ x0 x1 x2 x3 x4 x5 x6) (kC_Mat_subsumes_p127 rm (cv σ) (i32 x0) (i32 x1) (i32 x2) (i32 x3) (i32 x4) (i32 x5) (i32 x6)) β := by
  unfold kY_Mat_subsumes_p127 kC_Mat_subsumes_p127
  refine Rf_01 rfl hx6 (fun hb1 => ?_)
  exact Rf_some hσ hx6 rfl
theorem rY_Mod_apply (rz : zF) (rm : mF) (hR : Rc rz rm) (β : Nat) (σ : zS) (hσ : zOK σ) (x0 x1 : Int) (hx0 : zr x0) (hx1 : zr x1) : Rf (kY_Mod_apply rz β σ x0 x1) (kC_Mod_apply rm (cv σ) (i32 x0) (i32 x1)) β := by
  unfold kY_Mod_apply kC_Mod_apply
  refine Rf_bnd hR hσ (zrs_cons (hσ.1 6904) (zrs_cons hx0 zrs_nil)) (e_cons rfl (e_cons rfl rfl)) (fun σ1 r1 hσ1 hr1 => ?_)
  refine Rf_rd rfl hx0 (fun hb1 => ?_)
  refine Rf_g (fun hg2 => ?_)
  refine Rf_g (fun hg3 => ?_)
  exact Rf_tail hR hσ1 (zrs_cons hx0 (zrs_cons hx1 (zrs_cons hr1 (zrs_cons hg3 zrs_nil)))) (e_cons rfl (e_cons rfl (e_cons rfl (e_cons (e_sub (e_add rfl (e_rd rfl hb1)) (by decide)) rfl))))
theorem rY_Mod_apply_p24 (rz : zF) (rm : mF) (hR : Rc rz rm) (β : Nat) (σ : zS) (hσ : zOK σ) (x0 x1 x2 x3 : Int) (hx0 : zr x0) (hx1 : zr x1) (hx2 : zr x2) (hx3 : zr x3) : Rf (kY_Mod_apply_p24 rz β σ x0 x1 x2 x3) (kC_Mod_apply_p24 rm (cv σ) (i32 x0) (i32 x1) (i32 x2) (i32 x3)) β := by
  unfold kY_Mod_apply_p24 kC_Mod_apply_p24
  refine Rf_lt rfl rfl hx3 hx1 (fun _ => ?_) (fun _ => ?_)
  · refine Rf_bnd hR hσ (zrs_cons hx0 zrs_nil) (e_cons rfl rfl) (fun σ1 r1 hσ1 hr1 => ?_)
    refine Rf_eq rfl (by decide) hr1 (by decide) (fun _ => ?_) (fun _ => ?_)
    · refine Rf_z rfl (hσ1.1 6905) (fun hz1 => ?_)
      exact Rf_tail hR hσ1 (zrs_cons hx0 (zrs_cons hx1 (zrs_cons (zr_to _) (zrs_cons hx3 (zrs_cons (zr_tmod (zr_to _) _) zrs_nil))))) (e_cons rfl (e_cons rfl (e_cons (e_xor (e_wmul (e_xor rfl (e_ushr rfl (by decide))) (by decide)) (e_ushr (e_wmul (e_xor rfl (e_ushr rfl (by decide))) (by decide)) (by decide))) (e_cons rfl (e_cons (e_mod (e_and (e_xor (e_wmul (e_xor rfl (e_ushr rfl (by decide))) (by decide)) (e_ushr (e_wmul (e_xor rfl (e_ushr rfl (by decide))) (by decide)) (by decide))) (by decide)) rfl (zr_to _) (hσ1.1 6905)) rfl)))))
    · exact Rf_tail hR hσ1 (zrs_cons hx0 (zrs_cons hx1 (zrs_cons (zr_to _) (zrs_cons hx3 (zrs_cons (zr_to _) zrs_nil))))) (e_cons rfl (e_cons rfl (e_cons (e_xor (e_wmul (e_xor rfl (e_ushr rfl (by decide))) (by decide)) (e_ushr (e_wmul (e_xor rfl (e_ushr rfl (by decide))) (by decide)) (by decide))) (e_cons rfl (e_cons (e_and (e_xor (e_wmul (e_xor rfl (e_ushr rfl (by decide))) (by decide)) (e_ushr (e_wmul (e_xor rfl (e_ushr rfl (by decide))) (by decide)) (by decide))) (by decide)) rfl)))))
  · refine Rf_rd rfl hx3 (fun hb2 => ?_)
    refine Rf_bnd hR hσ (zrs_cons hx2 (zrs_cons (hσ.2.1 _ _) zrs_nil)) (e_cons rfl (e_cons (e_rd rfl hb2) rfl)) (fun σ2 r2 hσ2 hr2 => ?_)
    refine Rf_g (fun hg3 => ?_)
    exact Rf_tail hR hσ2 (zrs_cons hx0 (zrs_cons hx1 (zrs_cons hr2 (zrs_cons hg3 zrs_nil)))) (e_cons rfl (e_cons rfl (e_cons rfl (e_cons (e_add rfl (by decide)) rfl))))
theorem rY_Mod_apply_p91 (rz : zF) (rm : mF) (hR : Rc rz rm) (β : Nat) (σ : zS) (hσ : zOK σ) (x0 x1 x2 x3 x4 : Int) (hx0 : zr x0) (hx1 : zr x1) (hx2 : zr x2) (hx3 : zr x3) (hx4 : zr x4) : Rf (kY_Mod_apply_p91 rz β σ x0 x1 x2 x3 x4) (kC_Mod_apply_p91 rm (cv σ) (i32 x0) (i32 x1) (i32 x2) (i32 x3) (i32 x4)) β := by
  unfold kY_Mod_apply_p91 kC_Mod_apply_p91
  exact Rf_some hσ hx4 rfl
theorem rY_Mod_holds (rz : zF) (rm : mF) (hR : Rc rz rm) (β : Nat) (σ : zS) (hσ : zOK σ) (x0 : Int) (hx0 : zr x0) : Rf (kY_Mod_holds rz β σ x0) (kC_Mod_holds rm (cv σ) (i32 x0)) β := by
  unfold kY_Mod_holds kC_Mod_holds
  refine Rf_bnd hR hσ (zrs_cons hx0 (zrs_cons (by decide) zrs_nil)) (e_cons rfl (e_cons (by decide) rfl)) (fun σ1 r1 hσ1 hr1 => ?_)
  exact Rf_tail hR hσ1 (zrs_cons hx0 (zrs_cons hr1 (zrs_cons (by decide) zrs_nil))) (e_cons rfl (e_cons rfl (e_cons (by decide) rfl)))
theorem rY_Mod_holds_p13 (rz : zF) (rm : mF) (hR : Rc rz rm) (β : Nat) (σ : zS) (hσ : zOK σ) (x0 x1 x2 : Int) (hx0 : zr x0) (hx1 : zr x1) (hx2 : zr x2) : Rf (kY_Mod_holds_p13 rz β σ x0 x1 x2) (kC_Mod_holds_p13 rm (cv σ) (i32 x0) (i32 x1) (i32 x2)) β := by
  unfold kY_Mod_holds_p13 kC_Mod_holds_p13
  refine Rf_bnd hR hσ (zrs_cons hx0 (zrs_cons (by decide) zrs_nil)) (e_cons rfl (e_cons (by decide) rfl)) (fun σ1 r1 hσ1 hr1 => ?_)
  refine Rf_le rfl rfl hr1 hx2 (fun _ => ?_) (fun _ => ?_)
  · exact Rf_some hσ1 (by decide) (by decide)
  · refine Rf_bnd hR hσ1 (zrs_cons hx1 (zrs_cons (by decide) zrs_nil)) (e_cons rfl (e_cons (by decide) rfl)) (fun σ2 r2 hσ2 hr2 => ?_)
    refine Rf_bnd hR hσ2 (zrs_cons hx1 (zrs_cons (by decide) zrs_nil)) (e_cons rfl (e_cons (by decide) rfl)) (fun σ3 r3 hσ3 hr3 => ?_)
    refine Rf_bnd hR hσ3 (zrs_cons hx1 zrs_nil) (e_cons rfl rfl) (fun σ4 r4 hσ4 hr4 => ?_)
    refine Rf_bnd hR hσ4 (zrs_cons hr2 (zrs_cons hr3 zrs_nil)) (e_cons rfl (e_cons rfl rfl)) (fun σ5 r5 hσ5 hr5 => ?_)
    refine Rf_bnd hR hσ5 (zrs_cons hr3 (zrs_cons hr4 zrs_nil)) (e_cons rfl (e_cons rfl rfl)) (fun σ6 r6 hσ6 hr6 => ?_)
    refine Rf_eq rfl rfl hr5 hr6 (fun _ => ?_) (fun _ => ?_)
    · exact Rf_tail hR hσ6 (zrs_cons hx0 (zrs_cons hx1 (zrs_cons hx2 (zrs_cons hr2 (zrs_cons hr3 (zrs_cons hr4 (zrs_cons (by decide) zrs_nil))))))) (e_cons rfl (e_cons rfl (e_cons rfl (e_cons rfl (e_cons rfl (e_cons rfl (e_cons (by decide) rfl)))))))
    · exact Rf_tail hR hσ6 (zrs_cons hx0 (zrs_cons hx1 (zrs_cons hx2 (zrs_cons hr2 (zrs_cons hr3 (zrs_cons hr4 (zrs_cons (by decide) zrs_nil))))))) (e_cons rfl (e_cons rfl (e_cons rfl (e_cons rfl (e_cons rfl (e_cons rfl (e_cons (by decide) rfl)))))))
theorem rY_Mod_holds_p82 (rz : zF) (rm : mF) (hR : Rc rz rm) (β : Nat) (σ : zS) (hσ : zOK σ) (x0 x1 x2 x3 x4 x5 x6 : Int) (hx0 : zr x0) (hx1 : zr x1) (hx2 : zr x2) (hx3 : zr x3) (hx4 : zr x4) (hx5 : zr x5) (hx6 : zr x6) : Rf (kY_Mod_holds_p82 rz β σ x0 x1 x2 x3 x4 x5 x6) (kC_Mod_holds_p82 rm (cv σ) (i32 x0) (i32 x1) (i32 x2) (i32 x3) (i32 x4) (i32 x5) (i32 x6)) β := by
  unfold kY_Mod_holds_p82 kC_Mod_holds_p82
  refine Rf_bnd hR hσ (zrs_cons hx1 zrs_nil) (e_cons rfl rfl) (fun σ1 r1 hσ1 hr1 => ?_)
  refine Rf_eq rfl rfl hx6 hr1 (fun _ => ?_) (fun _ => ?_)
  · exact Rf_some hσ1 (by decide) (by decide)
  · refine Rf_g (fun hg1 => ?_)
    exact Rf_tail hR hσ1 (zrs_cons hx0 (zrs_cons hx5 (zrs_cons hg1 zrs_nil))) (e_cons rfl (e_cons rfl (e_cons (e_add rfl (by decide)) rfl)))
theorem rY_Mod_makesTrue (rz : zF) (rm : mF) (hR : Rc rz rm) (β : Nat) (σ : zS) (hσ : zOK σ) (x0 : Int) (hx0 : zr x0) : Rf (kY_Mod_makesTrue rz β σ x0) (kC_Mod_makesTrue rm (cv σ) (i32 x0)) β := by
  unfold kY_Mod_makesTrue kC_Mod_makesTrue
  refine Rf_bnd hR hσ (zrs_cons hx0 (zrs_cons (by decide) zrs_nil)) (e_cons rfl (e_cons (by decide) rfl)) (fun σ1 r1 hσ1 hr1 => ?_)
  exact Rf_tail hR hσ1 (zrs_cons hx0 (zrs_cons hr1 (zrs_cons (by decide) (zrs_cons (by decide) zrs_nil)))) (e_cons rfl (e_cons rfl (e_cons (by decide) (e_cons (by decide) rfl))))
theorem rY_Mod_makesTrue_p15 (rz : zF) (rm : mF) (hR : Rc rz rm) (β : Nat) (σ : zS) (hσ : zOK σ) (x0 x1 x2 x3 : Int) (hx0 : zr x0) (hx1 : zr x1) (hx2 : zr x2) (hx3 : zr x3) : Rf (kY_Mod_makesTrue_p15 rz β σ x0 x1 x2 x3) (kC_Mod_makesTrue_p15 rm (cv σ) (i32 x0) (i32 x1) (i32 x2) (i32 x3)) β := by
  unfold kY_Mod_makesTrue_p15 kC_Mod_makesTrue_p15
  refine Rf_le rfl rfl hx1 hx3 (fun _ => ?_) (fun _ => ?_)
  · exact Rf_tail hR hσ (zrs_cons hx0 (zrs_cons hx1 (zrs_cons hx2 (zrs_cons (by decide) zrs_nil)))) (e_cons rfl (e_cons rfl (e_cons rfl (e_cons (by decide) rfl))))
  · refine Rf_rd rfl hx3 (fun hb1 => ?_)
    refine Rf_A rfl hb1 (by decide) (by decide) hσ (fun σ1 hσ1 => ?_)
    refine Rf_g (fun hg2 => ?_)
    refine Rf_g (fun hg3 => ?_)
    exact Rf_tail hR hσ1 (zrs_cons hx0 (zrs_cons hx1 (zrs_cons hg2 (zrs_cons hg3 zrs_nil)))) (e_cons rfl (e_cons rfl (e_cons (e_mul rfl rfl) (e_cons (e_add rfl (by decide)) rfl))))
theorem rY_Mod_makesTrue_p45 (rz : zF) (rm : mF) (hR : Rc rz rm) (β : Nat) (σ : zS) (hσ : zOK σ) (x0 x1 x2 x3 : Int) (hx0 : zr x0) (hx1 : zr x1) (hx2 : zr x2) (hx3 : zr x3) : Rf (kY_Mod_makesTrue_p45 rz β σ x0 x1 x2 x3) (kC_Mod_makesTrue_p45 rm (cv σ) (i32 x0) (i32 x1) (i32 x2) (i32 x3)) β := by
  unfold kY_Mod_makesTrue_p45 kC_Mod_makesTrue_p45
  refine Rf_le rfl rfl hx2 hx3 (fun _ => ?_) (fun _ => ?_)
  · exact Rf_some hσ (by decide) (by decide)
  · refine Rf_bnd hR hσ (zrs_cons hx0 zrs_nil) (e_cons rfl rfl) (fun σ1 r1 hσ1 hr1 => ?_)
    refine Rf_eq rfl (by decide) hr1 (by decide) (fun _ => ?_) (fun _ => ?_)
    · exact Rf_some hσ1 (by decide) (by decide)
    · refine Rf_bnd hR hσ1 (zrs_cons hx1 zrs_nil) (e_cons rfl rfl) (fun σ2 r2 hσ2 hr2 => ?_)
      refine Rf_g (fun hg1 => ?_)
      exact Rf_tail hR hσ2 (zrs_cons hx0 (zrs_cons hx1 (zrs_cons hx2 (zrs_cons hg1 zrs_nil)))) (e_cons rfl (e_cons rfl (e_cons rfl (e_cons (e_add rfl (by decide)) rfl))))
theorem rY_Mod_mix (rz : zF) (rm : mF) (hR : Rc rz rm) (β : Nat) (σ : zS) (hσ : zOK σ) (x0 x1 : Int) (hx0 : zr x0) (hx1 : zr x1) : Rf (kY_Mod_mix rz β σ x0 x1) (kC_Mod_mix rm (cv σ) (i32 x0) (i32 x1)) β := by
  unfold kY_Mod_mix kC_Mod_mix
  exact Rf_some hσ (zr_to _) (e_wadd (e_wadd (e_wmul (by decide) (e_xor rfl (e_ushr rfl (by decide)))) rfl) (by decide))
theorem rY_Mod_nextElements (rz : zF) (rm : mF) (hR : Rc rz rm) (β : Nat) (σ : zS) (hσ : zOK σ) (x0 : Int) (hx0 : zr x0) : Rf (kY_Mod_nextElements rz β σ x0) (kC_Mod_nextElements rm (cv σ) (i32 x0)) β := by
  unfold kY_Mod_nextElements kC_Mod_nextElements
  exact Rf_tail hR hσ (zrs_cons hx0 (zrs_cons (by decide) zrs_nil)) (e_cons rfl (e_cons (by decide) rfl))
theorem rY_Mod_nextElements_p2 (rz : zF) (rm : mF) (hR : Rc rz rm) (β : Nat) (σ : zS) (hσ : zOK σ) (x0 x1 : Int) (hx0 : zr x0) (hx1 : zr x1) : Rf (kY_Mod_nextElements_p2 rz β σ x0 x1) (kC_Mod_nextElements_p2 rm (cv σ) (i32 x0) (i32 x1)) β := by
  unfold kY_Mod_nextElements_p2 kC_Mod_nextElements_p2
  refine Rf_le rfl rfl hx0 hx1 (fun _ => ?_) (fun _ => ?_)
  · exact Rf_some hσ (by decide) (by decide)
  · refine Rf_rd rfl hx1 (fun hb1 => ?_)
    refine Rf_rd2 rfl hb1 ?_
    refine Rf_g (fun hg2 => ?_)
    refine Rf_A rfl hb1 (e_add (e_rd rfl hb1) (by decide)) hg2 hσ (fun σ1 hσ1 => ?_)
    refine Rf_rd2 rfl hb1 ?_
    refine Rf_le rfl (e_rd rfl hb1) (hσ1.1 6905) (hσ1.2.1 _ _) (fun _ => ?_) (fun _ => ?_)
    · refine Rf_rd2 rfl hb1 ?_
      refine Rf_A rfl hb1 (by decide) (by decide) hσ1 (fun σ2 hσ2 => ?_)
      refine Rf_g (fun hg3 => ?_)
      exact Rf_tail hR hσ2 (zrs_cons hx0 (zrs_cons hg3 zrs_nil)) (e_cons rfl (e_cons (e_add rfl (by decide)) rfl))
    · exact Rf_some hσ1 (by decide) (by decide)
theorem rY_Mod_suitsText (rz : zF) (rm : mF) (hR : Rc rz rm) (β : Nat) (σ : zS) (hσ : zOK σ) (x0 x1 : Int) (hx0 : zr x0) (hx1 : zr x1) : Rf (kY_Mod_suitsText rz β σ x0 x1) (kC_Mod_suitsText rm (cv σ) (i32 x0) (i32 x1)) β := by
  unfold kY_Mod_suitsText kC_Mod_suitsText
  refine Rf_I rfl hx0 hσ (fun σ1 hσ1 => ?_)
  refine Rf_I rfl hx1 hσ1 (fun σ2 hσ2 => ?_)
  exact Rf_tail hR hσ2 (zrs_cons hx0 (zrs_cons hx1 (zrs_cons (by decide) zrs_nil))) (e_cons rfl (e_cons rfl (e_cons (by decide) rfl)))
theorem rY_Mod_suitsText_p12 (rz : zF) (rm : mF) (hR : Rc rz rm) (β : Nat) (σ : zS) (hσ : zOK σ) (x0 x1 x2 : Int) (hx0 : zr x0) (hx1 : zr x1) (hx2 : zr x2) : Rf (kY_Mod_suitsText_p12 rz β σ x0 x1 x2) (kC_Mod_suitsText_p12 rm (cv σ) (i32 x0) (i32 x1) (i32 x2)) β := by
  unfold kY_Mod_suitsText_p12 kC_Mod_suitsText_p12
  refine Rf_le rfl rfl (hσ.1 5403) hx2 (fun _ => ?_) (fun _ => ?_)
  · exact Rf_some hσ (by decide) (by decide)
  · refine Rf_bnd hR hσ (zrs_cons hx2 zrs_nil) (e_cons rfl rfl) (fun σ1 r1 hσ1 hr1 => ?_)
    refine Rf_eq rfl (by decide) hr1 (by decide) (fun _ => ?_) (fun _ => ?_)
    · exact Rf_some hσ1 (by decide) (by decide)
    · refine Rf_g (fun hg1 => ?_)
      exact Rf_tail hR hσ1 (zrs_cons hx0 (zrs_cons hx1 (zrs_cons hg1 zrs_nil))) (e_cons rfl (e_cons rfl (e_cons (e_add rfl (by decide)) rfl)))
theorem rY_Mod_valueOf (rz : zF) (rm : mF) (hR : Rc rz rm) (β : Nat) (σ : zS) (hσ : zOK σ) (x0 x1 : Int) (hx0 : zr x0) (hx1 : zr x1) : Rf (kY_Mod_valueOf rz β σ x0 x1) (kC_Mod_valueOf rm (cv σ) (i32 x0) (i32 x1)) β := by
  unfold kY_Mod_valueOf kC_Mod_valueOf
  refine Rf_g (fun hg1 => ?_)
  exact Rf_tail hR hσ (zrs_cons hx0 (zrs_cons hx1 (zrs_cons (by decide) (zrs_cons hg1 zrs_nil)))) (e_cons rfl (e_cons rfl (e_cons (by decide) (e_cons (e_sub rfl (by decide)) rfl))))
theorem rY_Mod_valueOf_p7 (rz : zF) (rm : mF) (hR : Rc rz rm) (β : Nat) (σ : zS) (hσ : zOK σ) (x0 x1 x2 x3 : Int) (hx0 : zr x0) (hx1 : zr x1) (hx2 : zr x2) (hx3 : zr x3) : Rf (kY_Mod_valueOf_p7 rz β σ x0 x1 x2 x3) (kC_Mod_valueOf_p7 rm (cv σ) (i32 x0) (i32 x1) (i32 x2) (i32 x3)) β := by
  unfold kY_Mod_valueOf_p7 kC_Mod_valueOf_p7
  refine Rf_lt rfl rfl hx3 hx0 (fun _ => ?_) (fun _ => ?_)
  · refine Rf_rd (by decide) (by decide) (fun hb1 => ?_)
    exact Rf_some hσ (hσ.2.1 _ _) (e_rd (by decide) hb1)
  · refine Rf_rd rfl hx3 (fun hb2 => ?_)
    refine Rf_le (by decide) (e_rd rfl hb2) (by decide) (hσ.2.1 _ _) (fun _ => ?_) (fun _ => ?_)
    · refine Rf_eq (e_rd rfl hb2) (by decide) (hσ.2.1 _ _) (by decide) (fun _ => ?_) (fun _ => ?_)
      · refine Rf_rd rfl hx2 (fun hb3 => ?_)
        refine Rf_A rfl hb3 (by decide) (by decide) hσ (fun σ3 hσ3 => ?_)
        refine Rf_g (fun hg4 => ?_)
        exact Rf_tail hR hσ3 (zrs_cons hx0 (zrs_cons hx1 (zrs_cons hg4 (zrs_cons hx3 (zrs_cons (hσ.2.1 _ _) zrs_nil))))) (e_cons rfl (e_cons rfl (e_cons (e_add rfl (by decide)) (e_cons rfl (e_cons (e_rd rfl hb2) rfl)))))
      · refine Rf_rd (e_rd rfl hb2) (hσ.2.1 _ _) (fun hb5 => ?_)
        refine Rf_g (fun hg6 => ?_)
        refine Rf_bnd hR hσ (zrs_cons (hσ.2.1 _ _) (zrs_cons hg6 zrs_nil)) (e_cons (e_rd rfl hb2) (e_cons (e_sub rfl (e_rd (e_rd rfl hb2) hb5)) rfl)) (fun σ1 r1 hσ1 hr1 => ?_)
        refine Rf_rd (e_sub rfl (e_rd (e_rd rfl hb2) hb5)) hg6 (fun hb7 => ?_)
        refine Rf_A (e_sub rfl (e_rd (e_rd rfl hb2) hb5)) hb7 rfl hr1 hσ1 (fun σ2 hσ2 => ?_)
        refine Rf_g (fun hg8 => ?_)
        exact Rf_tail hR hσ2 (zrs_cons hx0 (zrs_cons hx1 (zrs_cons hg8 (zrs_cons hx3 (zrs_cons (hσ.2.1 _ _) zrs_nil))))) (e_cons rfl (e_cons rfl (e_cons (e_add (e_sub rfl (e_rd (e_rd rfl hb2) hb5)) (by decide)) (e_cons rfl (e_cons (e_rd rfl hb2) rfl)))))
    · refine Rf_rd (e_not (e_rd rfl hb2)) (zr_not (hσ.2.1 _ _)) (fun hb9 => ?_)
      refine Rf_rd rfl hx2 (fun hb10 => ?_)
      refine Rf_A rfl hb10 (e_rd (e_not (e_rd rfl hb2)) hb9) (hσ.2.1 _ _) hσ (fun σ4 hσ4 => ?_)
      refine Rf_g (fun hg11 => ?_)
      exact Rf_tail hR hσ4 (zrs_cons hx0 (zrs_cons hx1 (zrs_cons hg11 (zrs_cons hx3 (zrs_cons (hσ.2.1 _ _) zrs_nil))))) (e_cons rfl (e_cons rfl (e_cons (e_add rfl (by decide)) (e_cons rfl (e_cons (e_rd rfl hb2) rfl)))))
theorem rY_Mod_valueOf_p101 (rz : zF) (rm : mF) (hR : Rc rz rm) (β : Nat) (σ : zS) (hσ : zOK σ) (x0 x1 x2 x3 x4 : Int) (hx0 : zr x0) (hx1 : zr x1) (hx2 : zr x2) (hx3 : zr x3) (hx4 : zr x4) : Rf (kY_Mod_valueOf_p101 rz β σ x0 x1 x2 x3 x4) (kC_Mod_valueOf_p101 rm (cv σ) (i32 x0) (i32 x1) (i32 x2) (i32 x3) (i32 x4)) β := by
  unfold kY_Mod_valueOf_p101 kC_Mod_valueOf_p101
  refine Rf_g (fun hg1 => ?_)
  exact Rf_tail hR hσ (zrs_cons hx0 (zrs_cons hx1 (zrs_cons hx2 (zrs_cons hg1 zrs_nil)))) (e_cons rfl (e_cons rfl (e_cons rfl (e_cons (e_add rfl (by decide)) rfl))))
theorem rY_Par_fail (rz : zF) (rm : mF) (hR : Rc rz rm) (β : Nat) (σ : zS) (hσ : zOK σ) (x0 x1 : Int) (hx0 : zr x0) (hx1 : zr x1) : Rf (kY_Par_fail rz β σ x0 x1) (kC_Par_fail rm (cv σ) (i32 x0) (i32 x1)) β := by
  unfold kY_Par_fail kC_Par_fail
  refine Rf_I rfl hx0 hσ (fun σ1 hσ1 => ?_)
  refine Rf_I rfl hx1 hσ1 (fun σ2 hσ2 => ?_)
  exact Rf_some hσ2 (by decide) (by decide)
theorem rY_Par_isNest (rz : zF) (rm : mF) (hR : Rc rz rm) (β : Nat) (σ : zS) (hσ : zOK σ) (x0 : Int) (hx0 : zr x0) : Rf (kY_Par_isNest rz β σ x0) (kC_Par_isNest rm (cv σ) (i32 x0)) β := by
  unfold kY_Par_isNest kC_Par_isNest
  refine Rf_eq rfl (by decide) hx0 (by decide) (fun _ => ?_) (fun _ => ?_)
  · exact Rf_tail hR hσ (zrs_cons hx0 zrs_nil) (e_cons rfl rfl)
  · refine Rf_eq rfl (by decide) hx0 (by decide) (fun _ => ?_) (fun _ => ?_)
    · exact Rf_tail hR hσ (zrs_cons hx0 zrs_nil) (e_cons rfl rfl)
    · refine Rf_eq rfl (by decide) hx0 (by decide) (fun _ => ?_) (fun _ => ?_)
      · exact Rf_tail hR hσ (zrs_cons hx0 zrs_nil) (e_cons rfl rfl)
      · refine Rf_eq rfl (by decide) hx0 (by decide) (fun _ => ?_) (fun _ => ?_)
        · exact Rf_tail hR hσ (zrs_cons hx0 zrs_nil) (e_cons rfl rfl)
        · refine Rf_eq rfl (by decide) hx0 (by decide) (fun _ => ?_) (fun _ => ?_)
          · exact Rf_tail hR hσ (zrs_cons hx0 zrs_nil) (e_cons rfl rfl)
          · exact Rf_tail hR hσ (zrs_cons hx0 (zrs_cons (by decide) zrs_nil)) (e_cons rfl (e_cons (by decide) rfl))
theorem rY_Par_isNest_p29 (rz : zF) (rm : mF) (hR : Rc rz rm) (β : Nat) (σ : zS) (hσ : zOK σ) (x0 : Int) (hx0 : zr x0) : Rf (kY_Par_isNest_p29 rz β σ x0) (kC_Par_isNest_p29 rm (cv σ) (i32 x0)) β := by
  unfold kY_Par_isNest_p29 kC_Par_isNest_p29
  exact Rf_tail hR hσ (zrs_cons hx0 (zrs_cons (by decide) zrs_nil)) (e_cons rfl (e_cons (by decide) rfl))
theorem rY_Par_isNest_p34 (rz : zF) (rm : mF) (hR : Rc rz rm) (β : Nat) (σ : zS) (hσ : zOK σ) (x0 x1 : Int) (hx0 : zr x0) (hx1 : zr x1) : Rf (kY_Par_isNest_p34 rz β σ x0 x1) (kC_Par_isNest_p34 rm (cv σ) (i32 x0) (i32 x1)) β := by
  unfold kY_Par_isNest_p34 kC_Par_isNest_p34
  refine Rf_01 rfl hx1 (fun hb1 => ?_)
  exact Rf_some hσ hx1 rfl
theorem rY_Par_pop (rz : zF) (rm : mF) (hR : Rc rz rm) (β : Nat) (σ : zS) (hσ : zOK σ) : Rf (kY_Par_pop rz β σ) (kC_Par_pop rm (cv σ)) β := by
  unfold kY_Par_pop kC_Par_pop
  refine Rf_bnd hR hσ zrs_nil rfl (fun σ1 r1 hσ1 hr1 => ?_)
  refine Rf_bnd hR hσ1 (zrs_cons hr1 zrs_nil) (e_cons rfl rfl) (fun σ2 r2 hσ2 hr2 => ?_)
  refine Rf_eq rfl (by decide) hr2 (by decide) (fun _ => ?_) (fun _ => ?_)
  · exact Rf_tail hR hσ2 (zrs_cons (by decide) (zrs_cons (hσ.1 3108) zrs_nil)) (e_cons (by decide) (e_cons rfl rfl))
  · exact Rf_tail hR hσ2 (zrs_cons (by decide) (zrs_cons (hσ.1 3108) zrs_nil)) (e_cons (by decide) (e_cons rfl rfl))
theorem rY_Par_pop_p20 (rz : zF) (rm : mF) (hR : Rc rz rm) (β : Nat) (σ : zS) (hσ : zOK σ) (x0 x1 : Int) (hx0 : zr x0) (hx1 : zr x1) : Rf (kY_Par_pop_p20 rz β σ x0 x1) (kC_Par_pop_p20 rm (cv σ) (i32 x0) (i32 x1)) β := by
  unfold kY_Par_pop_p20 kC_Par_pop_p20
  refine Rf_g (fun hg1 => ?_)
  refine Rf_I (e_sub rfl rfl) hg1 hσ (fun σ1 hσ1 => ?_)
  refine Rf_g (fun hg2 => ?_)
  refine Rf_I (e_sub rfl (by decide)) hg2 hσ1 (fun σ2 hσ2 => ?_)
  refine Rf_g (fun hg3 => ?_)
  refine Rf_I (e_sub rfl (by decide)) hg3 hσ2 (fun σ3 hσ3 => ?_)
  exact Rf_some hσ3 (by decide) (by decide)
theorem rY_Par_refuse (rz : zF) (rm : mF) (hR : Rc rz rm) (β : Nat) (σ : zS) (hσ : zOK σ) : Rf (kY_Par_refuse rz β σ) (kC_Par_refuse rm (cv σ)) β := by
  unfold kY_Par_refuse kC_Par_refuse
  refine Rf_eq rfl (by decide) (hσ.1 3205) (by decide) (fun _ => ?_) (fun _ => ?_)
  · exact Rf_tail hR hσ (zrs_cons (by decide) zrs_nil) (e_cons (by decide) rfl)
  · exact Rf_tail hR hσ (zrs_cons (by decide) zrs_nil) (e_cons (by decide) rfl)
theorem rY_Par_refuse_p16 (rz : zF) (rm : mF) (hR : Rc rz rm) (β : Nat) (σ : zS) (hσ : zOK σ) (x0 : Int) (hx0 : zr x0) : Rf (kY_Par_refuse_p16 rz β σ x0) (kC_Par_refuse_p16 rm (cv σ) (i32 x0)) β := by
  unfold kY_Par_refuse_p16 kC_Par_refuse_p16
  refine Rf_bnd hR hσ (zrs_cons hx0 (zrs_cons (hσ.1 3203) zrs_nil)) (e_cons rfl (e_cons rfl rfl)) (fun σ1 r1 hσ1 hr1 => ?_)
  exact Rf_some hσ1 (by decide) (by decide)
theorem rY_Par_settle (rz : zF) (rm : mF) (hR : Rc rz rm) (β : Nat) (σ : zS) (hσ : zOK σ) (x0 x1 x2 x3 : Int) (hx0 : zr x0) (hx1 : zr x1) (hx2 : zr x2) (hx3 : zr x3) : Rf (kY_Par_settle rz β σ x0 x1 x2 x3) (kC_Par_settle rm (cv σ) (i32 x0) (i32 x1) (i32 x2) (i32 x3)) β := by
  unfold kY_Par_settle kC_Par_settle
  refine Rf_eq rfl (by decide) (hσ.1 3100) (by decide) (fun _ => ?_) (fun _ => ?_)
  · refine Rf_bnd hR hσ (zrs_cons hx0 (zrs_cons hx1 (zrs_cons hx2 zrs_nil))) (e_cons rfl (e_cons rfl (e_cons rfl rfl))) (fun σ1 r1 hσ1 hr1 => ?_)
    refine Rf_eq rfl (by decide) hr1 (by decide) (fun _ => ?_) (fun _ => ?_)
    · refine Rf_bnd hR hσ1 (zrs_cons (by decide) (zrs_cons hx3 zrs_nil)) (e_cons (by decide) (e_cons rfl rfl)) (fun σ2 r2 hσ2 hr2 => ?_)
      exact Rf_tail hR hσ2 (zrs_cons hx0 (zrs_cons hx1 (zrs_cons hx2 (zrs_cons hx3 zrs_nil)))) (e_cons rfl (e_cons rfl (e_cons rfl (e_cons rfl rfl))))
    · exact Rf_tail hR hσ1 (zrs_cons hx0 (zrs_cons hx1 (zrs_cons hx2 (zrs_cons hx3 zrs_nil)))) (e_cons rfl (e_cons rfl (e_cons rfl (e_cons rfl rfl))))
  · exact Rf_tail hR hσ (zrs_cons hx0 (zrs_cons hx1 (zrs_cons hx2 (zrs_cons hx3 zrs_nil)))) (e_cons rfl (e_cons rfl (e_cons rfl (e_cons rfl rfl))))
theorem rY_Par_settle_p27 (rz : zF) (rm : mF) (hR : Rc rz rm) (β : Nat) (σ : zS) (hσ : zOK σ) (x0 x1 x2 x3 : Int) (hx0 : zr x0) (hx1 : zr x1) (hx2 : zr x2) (hx3 : zr x3) : Rf (kY_Par_settle_p27 rz β σ x0 x1 x2 x3) (kC_Par_settle_p27 rm (cv σ) (i32 x0) (i32 x1) (i32 x2) (i32 x3)) β := by
  unfold kY_Par_settle_p27 kC_Par_settle_p27
  exact Rf_some hσ (by decide) (by decide)
theorem rY_Par_strength (rz : zF) (rm : mF) (hR : Rc rz rm) (β : Nat) (σ : zS) (hσ : zOK σ) (x0 : Int) (hx0 : zr x0) : Rf (kY_Par_strength rz β σ x0) (kC_Par_strength rm (cv σ) (i32 x0)) β := by
  unfold kY_Par_strength kC_Par_strength
  refine Rf_out rfl hx0 (fun _ => ?_) (fun _ => ?_)
  · exact Rf_some hσ (by decide) (by decide)
  · refine Rf_eq rfl (by decide) hx0 (by decide) (fun _ => ?_) (fun _ => ?_)
    · exact Rf_some hσ (by decide) (by decide)
    · refine Rf_eq rfl (by decide) hx0 (by decide) (fun _ => ?_) (fun _ => ?_)
      · exact Rf_some hσ (by decide) (by decide)
      · refine Rf_eq rfl (by decide) hx0 (by decide) (fun _ => ?_) (fun _ => ?_)
        · exact Rf_some hσ (by decide) (by decide)
        · refine Rf_eq rfl (by decide) hx0 (by decide) (fun _ => ?_) (fun _ => ?_)
          · exact Rf_some hσ (by decide) (by decide)
          · refine Rf_eq rfl (by decide) hx0 (by decide) (fun _ => ?_) (fun _ => ?_)
            · exact Rf_some hσ (by decide) (by decide)
            · refine Rf_eq rfl (by decide) hx0 (by decide) (fun _ => ?_) (fun _ => ?_)
              · exact Rf_some hσ (by decide) (by decide)
              · exact Rf_some hσ (by decide) (by decide)
theorem rY_Par_top (rz : zF) (rm : mF) (hR : Rc rz rm) (β : Nat) (σ : zS) (hσ : zOK σ) : Rf (kY_Par_top rz β σ) (kC_Par_top rm (cv σ)) β := by
  unfold kY_Par_top kC_Par_top
  refine Rf_eq rfl (by decide) (hσ.1 3301) (by decide) (fun _ => ?_) (fun _ => ?_)
  · exact Rf_tail hR hσ (zrs_cons (by decide) zrs_nil) (e_cons (by decide) rfl)
  · refine Rf_g (fun hg1 => ?_)
    refine Rf_rd (e_sub rfl (by decide)) hg1 (fun hb2 => ?_)
    exact Rf_tail hR hσ (zrs_cons (hσ.2.1 _ _) zrs_nil) (e_cons (e_rd (e_sub rfl (by decide)) hb2) rfl)
theorem rY_Par_top_p31 (rz : zF) (rm : mF) (hR : Rc rz rm) (β : Nat) (σ : zS) (hσ : zOK σ) (x0 : Int) (hx0 : zr x0) : Rf (kY_Par_top_p31 rz β σ x0) (kC_Par_top_p31 rm (cv σ) (i32 x0)) β := by
  unfold kY_Par_top_p31 kC_Par_top_p31
  exact Rf_some hσ hx0 rfl
theorem rY_Sat_choose (rz : zF) (rm : mF) (hR : Rc rz rm) (β : Nat) (σ : zS) (hσ : zOK σ) : Rf (kY_Sat_choose rz β σ) (kC_Sat_choose rm (cv σ)) β := by
  unfold kY_Sat_choose kC_Sat_choose
  refine Rf_nz (by decide) ?_
  refine Rf_eq (e_mod (e_wadd rfl (by decide)) (by decide) (zr_to _) (by decide)) (by decide) (zr_tmod (zr_to _) _) (by decide) (fun _ => ?_) (fun _ => ?_)
  · exact Rf_tail hR hσ (zrs_cons (by decide) zrs_nil) (e_cons (by decide) rfl)
  · exact Rf_tail hR hσ (zrs_cons (by decide) zrs_nil) (e_cons (by decide) rfl)
theorem rY_Sat_choose_p16 (rz : zF) (rm : mF) (hR : Rc rz rm) (β : Nat) (σ : zS) (hσ : zOK σ) (x0 : Int) (hx0 : zr x0) : Rf (kY_Sat_choose_p16 rz β σ x0) (kC_Sat_choose_p16 rm (cv σ) (i32 x0)) β := by
  unfold kY_Sat_choose_p16 kC_Sat_choose_p16
  exact Rf_tail hR hσ (zrs_cons hx0 (zrs_cons (by decide) (zrs_cons (by decide) zrs_nil))) (e_cons rfl (e_cons (by decide) (e_cons (by decide) rfl)))
theorem rY_Sat_choose_p21 (rz : zF) (rm : mF) (hR : Rc rz rm) (β : Nat) (σ : zS) (hσ : zOK σ) (x0 x1 x2 : Int) (hx0 : zr x0) (hx1 : zr x1) (hx2 : zr x2) : Rf (kY_Sat_choose_p21 rz β σ x0 x1 x2) (kC_Sat_choose_p21 rm (cv σ) (i32 x0) (i32 x1) (i32 x2)) β := by
  unfold kY_Sat_choose_p21 kC_Sat_choose_p21
  refine Rf_le rfl rfl (hσ.1 5402) hx2 (fun _ => ?_) (fun _ => ?_)
  · exact Rf_some hσ hx1 rfl
  · refine Rf_bnd hR hσ (zrs_cons hx2 (zrs_cons (by decide) zrs_nil)) (e_cons rfl (e_cons (by decide) rfl)) (fun σ1 r1 hσ1 hr1 => ?_)
    refine Rf_eq rfl (by decide) hr1 (by decide) (fun _ => ?_) (fun _ => ?_)
    · refine Rf_eq rfl (by decide) hx0 (by decide) (fun _ => ?_) (fun _ => ?_)
      · refine Rf_eq rfl (by decide) hx1 (by decide) (fun _ => ?_) (fun _ => ?_)
        · exact Rf_tail hR hσ1 (zrs_cons hx0 (zrs_cons hx1 (zrs_cons hx2 zrs_nil))) (e_cons rfl (e_cons rfl (e_cons rfl rfl)))
        · refine Rf_bnd hR hσ1 (zrs_cons hx2 (zrs_cons (by decide) zrs_nil)) (e_cons rfl (e_cons (by decide) rfl)) (fun σ2 r2 hσ2 hr2 => ?_)
          refine Rf_bnd hR hσ2 (zrs_cons hx1 (zrs_cons (by decide) zrs_nil)) (e_cons rfl (e_cons (by decide) rfl)) (fun σ3 r3 hσ3 hr3 => ?_)
          refine Rf_le rfl rfl hr3 hr2 (fun _ => ?_) (fun _ => ?_)
          · exact Rf_tail hR hσ3 (zrs_cons hx0 (zrs_cons hx1 (zrs_cons hx2 zrs_nil))) (e_cons rfl (e_cons rfl (e_cons rfl rfl)))
          · exact Rf_tail hR hσ3 (zrs_cons hx0 (zrs_cons hx1 (zrs_cons hx2 zrs_nil))) (e_cons rfl (e_cons rfl (e_cons rfl rfl)))
      · exact Rf_some hσ1 hx2 rfl
    · exact Rf_tail hR hσ1 (zrs_cons hx0 (zrs_cons hx1 (zrs_cons hx2 zrs_nil))) (e_cons rfl (e_cons rfl (e_cons rfl rfl)))
theorem rY_Sat_choose_p77 (rz : zF) (rm : mF) (hR : Rc rz rm) (β : Nat) (σ : zS) (hσ : zOK σ) (x0 x1 x2 : Int) (hx0 : zr x0) (hx1 : zr x1) (hx2 : zr x2) : Rf (kY_Sat_choose_p77 rz β σ x0 x1 x2) (kC_Sat_choose_p77 rm (cv σ) (i32 x0) (i32 x1) (i32 x2)) β := by
  unfold kY_Sat_choose_p77 kC_Sat_choose_p77
  exact Rf_tail hR hσ (zrs_cons hx0 (zrs_cons hx2 (zrs_cons hx2 zrs_nil))) (e_cons rfl (e_cons rfl (e_cons rfl rfl)))
theorem rY_Sat_choose_p79 (rz : zF) (rm : mF) (hR : Rc rz rm) (β : Nat) (σ : zS) (hσ : zOK σ) (x0 x1 x2 : Int) (hx0 : zr x0) (hx1 : zr x1) (hx2 : zr x2) : Rf (kY_Sat_choose_p79 rz β σ x0 x1 x2) (kC_Sat_choose_p79 rm (cv σ) (i32 x0) (i32 x1) (i32 x2)) β := by
  unfold kY_Sat_choose_p79 kC_Sat_choose_p79
  refine Rf_g (fun hg1 => ?_)
  exact Rf_tail hR hσ (zrs_cons hx0 (zrs_cons hx1 (zrs_cons hg1 zrs_nil))) (e_cons rfl (e_cons rfl (e_cons (e_add rfl (by decide)) rfl)))
theorem rY_Sat_clear (rz : zF) (rm : mF) (hR : Rc rz rm) (β : Nat) (σ : zS) (hσ : zOK σ) : Rf (kY_Sat_clear rz β σ) (kC_Sat_clear rm (cv σ)) β := by
  unfold kY_Sat_clear kC_Sat_clear
  refine Rf_I (by decide) (by decide) hσ (fun σ1 hσ1 => ?_)
  refine Rf_I (by decide) (by decide) hσ1 (fun σ2 hσ2 => ?_)
  refine Rf_I (by decide) (by decide) hσ2 (fun σ3 hσ3 => ?_)
  refine Rf_I (by decide) (by decide) hσ3 (fun σ4 hσ4 => ?_)
  refine Rf_I (by decide) (by decide) hσ4 (fun σ5 hσ5 => ?_)
  refine Rf_I (by decide) (by decide) hσ5 (fun σ6 hσ6 => ?_)
  refine Rf_I (by decide) (by decide) hσ6 (fun σ7 hσ7 => ?_)
  refine Rf_I (by decide) (by decide) hσ7 (fun σ8 hσ8 => ?_)
  exact Rf_some hσ8 (by decide) (by decide)
theorem rY_Sat_clearAway (rz : zF) (rm : mF) (hR : Rc rz rm) (β : Nat) (σ : zS) (hσ : zOK σ) (x0 : Int) (hx0 : zr x0) : Rf (kY_Sat_clearAway rz β σ x0) (kC_Sat_clearAway rm (cv σ) (i32 x0)) β := by
  unfold kY_Sat_clearAway kC_Sat_clearAway
  refine Rf_bnd hR hσ (zrs_cons hx0 zrs_nil) (e_cons rfl rfl) (fun σ1 r1 hσ1 hr1 => ?_)
  exact Rf_tail hR hσ1 (zrs_cons hx0 (zrs_cons hr1 (zrs_cons (by decide) zrs_nil))) (e_cons rfl (e_cons rfl (e_cons (by decide) rfl)))
theorem rY_Sat_clearAway_p8 (rz : zF) (rm : mF) (hR : Rc rz rm) (β : Nat) (σ : zS) (hσ : zOK σ) (x0 x1 x2 : Int) (hx0 : zr x0) (hx1 : zr x1) (hx2 : zr x2) : Rf (kY_Sat_clearAway_p8 rz β σ x0 x1 x2) (kC_Sat_clearAway_p8 rm (cv σ) (i32 x0) (i32 x1) (i32 x2)) β := by
  unfold kY_Sat_clearAway_p8 kC_Sat_clearAway_p8
  refine Rf_le rfl rfl (hσ.1 5402) hx2 (fun _ => ?_) (fun _ => ?_)
  · exact Rf_some hσ (by decide) (by decide)
  · refine Rf_bnd hR hσ (zrs_cons hx2 zrs_nil) (e_cons rfl rfl) (fun σ1 r1 hσ1 hr1 => ?_)
    refine Rf_eq rfl (by decide) hr1 (by decide) (fun _ => ?_) (fun _ => ?_)
    · exact Rf_tail hR hσ1 (zrs_cons hx0 (zrs_cons hx1 (zrs_cons hx2 zrs_nil))) (e_cons rfl (e_cons rfl (e_cons rfl rfl)))
    · refine Rf_bnd hR hσ1 (zrs_cons hx0 (zrs_cons hx2 zrs_nil)) (e_cons rfl (e_cons rfl rfl)) (fun σ2 r2 hσ2 hr2 => ?_)
      refine Rf_eq rfl (by decide) hr2 (by decide) (fun _ => ?_) (fun _ => ?_)
      · refine Rf_eq rfl (by decide) hx1 (by decide) (fun _ => ?_) (fun _ => ?_)
        · exact Rf_tail hR hσ2 (zrs_cons hx0 (zrs_cons hx1 (zrs_cons hx2 zrs_nil))) (e_cons rfl (e_cons rfl (e_cons rfl rfl)))
        · refine Rf_bnd hR hσ2 (zrs_cons hx0 (zrs_cons hx2 zrs_nil)) (e_cons rfl (e_cons rfl rfl)) (fun σ3 r3 hσ3 hr3 => ?_)
          refine Rf_eq rfl (by decide) hr3 (by decide) (fun _ => ?_) (fun _ => ?_)
          · exact Rf_tail hR hσ3 (zrs_cons hx0 (zrs_cons hx1 (zrs_cons hx2 zrs_nil))) (e_cons rfl (e_cons rfl (e_cons rfl rfl)))
          · refine Rf_bnd hR hσ3 (zrs_cons hx2 (zrs_cons (by decide) (zrs_cons (by decide) zrs_nil))) (e_cons rfl (e_cons (by decide) (e_cons (by decide) rfl))) (fun σ4 r4 hσ4 hr4 => ?_)
            exact Rf_tail hR hσ4 (zrs_cons hx0 (zrs_cons hx1 (zrs_cons hx2 zrs_nil))) (e_cons rfl (e_cons rfl (e_cons rfl rfl)))
      · refine Rf_bnd hR hσ2 (zrs_cons hx2 (zrs_cons (by decide) (zrs_cons (by decide) zrs_nil))) (e_cons rfl (e_cons (by decide) (e_cons (by decide) rfl))) (fun σ5 r5 hσ5 hr5 => ?_)
        refine Rf_I (e_wadd rfl (by decide)) (zr_to _) hσ5 (fun σ6 hσ6 => ?_)
        exact Rf_tail hR hσ6 (zrs_cons hx0 (zrs_cons hx1 (zrs_cons hx2 zrs_nil))) (e_cons rfl (e_cons rfl (e_cons rfl rfl)))
theorem rY_Sat_clearAway_p90 (rz : zF) (rm : mF) (hR : Rc rz rm) (β : Nat) (σ : zS) (hσ : zOK σ) (x0 x1 x2 : Int) (hx0 : zr x0) (hx1 : zr x1) (hx2 : zr x2) : Rf (kY_Sat_clearAway_p90 rz β σ x0 x1 x2) (kC_Sat_clearAway_p90 rm (cv σ) (i32 x0) (i32 x1) (i32 x2)) β := by
  unfold kY_Sat_clearAway_p90 kC_Sat_clearAway_p90
  refine Rf_g (fun hg1 => ?_)
  exact Rf_tail hR hσ (zrs_cons hx0 (zrs_cons hx1 (zrs_cons hg1 zrs_nil))) (e_cons rfl (e_cons rfl (e_cons (e_add rfl (by decide)) rfl)))
theorem rY_Sat_isProcessed (rz : zF) (rm : mF) (hR : Rc rz rm) (β : Nat) (σ : zS) (hσ : zOK σ) (x0 : Int) (hx0 : zr x0) : Rf (kY_Sat_isProcessed rz β σ x0) (kC_Sat_isProcessed rm (cv σ) (i32 x0)) β := by
  unfold kY_Sat_isProcessed kC_Sat_isProcessed
  refine Rf_bnd hR hσ (zrs_cons hx0 (zrs_cons (by decide) zrs_nil)) (e_cons rfl (e_cons (by decide) rfl)) (fun σ1 r1 hσ1 hr1 => ?_)
  refine Rf_eq rfl (by decide) hr1 (by decide) (fun _ => ?_) (fun _ => ?_)
  · exact Rf_tail hR hσ1 (zrs_cons hx0 (zrs_cons (by decide) zrs_nil)) (e_cons rfl (e_cons (by decide) rfl))
  · exact Rf_tail hR hσ1 (zrs_cons hx0 (zrs_cons (by decide) zrs_nil)) (e_cons rfl (e_cons (by decide) rfl))
theorem rY_Sat_isProcessed_p19 (rz : zF) (rm : mF) (hR : Rc rz rm) (β : Nat) (σ : zS) (hσ : zOK σ) (x0 x1 : Int) (hx0 : zr x0) (hx1 : zr x1) : Rf (kY_Sat_isProcessed_p19 rz β σ x0 x1) (kC_Sat_isProcessed_p19 rm (cv σ) (i32 x0) (i32 x1)) β := by
  unfold kY_Sat_isProcessed_p19 kC_Sat_isProcessed_p19
  refine Rf_01 rfl hx1 (fun hb1 => ?_)
  exact Rf_some hσ hx1 rfl
theorem rY_Sat_isSingle (rz : zF) (rm : mF) (hR : Rc rz rm) (β : Nat) (σ : zS) (hσ : zOK σ) (x0 : Int) (hx0 : zr x0) : Rf (kY_Sat_isSingle rz β σ x0) (kC_Sat_isSingle rm (cv σ) (i32 x0)) β := by
  unfold kY_Sat_isSingle kC_Sat_isSingle
  refine Rf_bnd hR hσ (zrs_cons hx0 (zrs_cons (by decide) zrs_nil)) (e_cons rfl (e_cons (by decide) rfl)) (fun σ1 r1 hσ1 hr1 => ?_)
  refine Rf_eq rfl (by decide) hr1 (by decide) (fun _ => ?_) (fun _ => ?_)
  · refine Rf_bnd hR hσ1 (zrs_cons hx0 (zrs_cons (by decide) zrs_nil)) (e_cons rfl (e_cons (by decide) rfl)) (fun σ2 r2 hσ2 hr2 => ?_)
    refine Rf_bnd hR hσ2 (zrs_cons hr2 zrs_nil) (e_cons rfl rfl) (fun σ3 r3 hσ3 hr3 => ?_)
    refine Rf_eq rfl (by decide) hr3 (by decide) (fun _ => ?_) (fun _ => ?_)
    · exact Rf_tail hR hσ3 (zrs_cons hx0 zrs_nil) (e_cons rfl rfl)
    · exact Rf_tail hR hσ3 (zrs_cons hx0 (zrs_cons (by decide) zrs_nil)) (e_cons rfl (e_cons (by decide) rfl))
  · exact Rf_tail hR hσ1 (zrs_cons hx0 zrs_nil) (e_cons rfl rfl)
theorem rY_Sat_isSingle_p37 (rz : zF) (rm : mF) (hR : Rc rz rm) (β : Nat) (σ : zS) (hσ : zOK σ) (x0 : Int) (hx0 : zr x0) : Rf (kY_Sat_isSingle_p37 rz β σ x0) (kC_Sat_isSingle_p37 rm (cv σ) (i32 x0)) β := by
  unfold kY_Sat_isSingle_p37 kC_Sat_isSingle_p37
  exact Rf_tail hR hσ (zrs_cons hx0 (zrs_cons (by decide) zrs_nil)) (e_cons rfl (e_cons (by decide) rfl))
theorem rY_Sat_isSingle_p38 (rz : zF) (rm : mF) (hR : Rc rz rm) (β : Nat) (σ : zS) (hσ : zOK σ) (x0 x1 : Int) (hx0 : zr x0) (hx1 : zr x1) : Rf (kY_Sat_isSingle_p38 rz β σ x0 x1) (kC_Sat_isSingle_p38 rm (cv σ) (i32 x0) (i32 x1)) β := by
  unfold kY_Sat_isSingle_p38 kC_Sat_isSingle_p38
  refine Rf_01 rfl hx1 (fun hb1 => ?_)
  exact Rf_some hσ hx1 rfl
theorem rY_Sat_isSubsumed (rz : zF) (rm : mF) (hR : Rc rz rm) (β : Nat) (σ : zS) (hσ : zOK σ) (x0 : Int) (hx0 : zr x0) : Rf (kY_Sat_isSubsumed rz β σ x0) (kC_Sat_isSubsumed rm (cv σ) (i32 x0)) β := by
  unfold kY_Sat_isSubsumed kC_Sat_isSubsumed
  exact Rf_tail hR hσ (zrs_cons hx0 (zrs_cons (by decide) zrs_nil)) (e_cons rfl (e_cons (by decide) rfl))
theorem rY_Sat_isSubsumed_p2 (rz : zF) (rm : mF) (hR : Rc rz rm) (β : Nat) (σ : zS) (hσ : zOK σ) (x0 x1 : Int) (hx0 : zr x0) (hx1 : zr x1) : Rf (kY_Sat_isSubsumed_p2 rz β σ x0 x1) (kC_Sat_isSubsumed_p2 rm (cv σ) (i32 x0) (i32 x1)) β := by
  unfold kY_Sat_isSubsumed_p2 kC_Sat_isSubsumed_p2
  refine Rf_le rfl rfl (hσ.1 5402) hx1 (fun _ => ?_) (fun _ => ?_)
  · exact Rf_some hσ (by decide) (by decide)
  · refine Rf_bnd hR hσ (zrs_cons hx1 zrs_nil) (e_cons rfl rfl) (fun σ1 r1 hσ1 hr1 => ?_)
    refine Rf_eq rfl (by decide) hr1 (by decide) (fun _ => ?_) (fun _ => ?_)
    · exact Rf_tail hR hσ1 (zrs_cons hx0 (zrs_cons hx1 zrs_nil)) (e_cons rfl (e_cons rfl rfl))
    · refine Rf_bnd hR hσ1 (zrs_cons hx1 (zrs_cons hx0 zrs_nil)) (e_cons rfl (e_cons rfl rfl)) (fun σ2 r2 hσ2 hr2 => ?_)
      refine Rf_eq rfl (by decide) hr2 (by decide) (fun _ => ?_) (fun _ => ?_)
      · exact Rf_tail hR hσ2 (zrs_cons hx0 (zrs_cons hx1 zrs_nil)) (e_cons rfl (e_cons rfl rfl))
      · exact Rf_some hσ2 (by decide) (by decide)
theorem rY_Sat_isSubsumed_p35 (rz : zF) (rm : mF) (hR : Rc rz rm) (β : Nat) (σ : zS) (hσ : zOK σ) (x0 x1 : Int) (hx0 : zr x0) (hx1 : zr x1) : Rf (kY_Sat_isSubsumed_p35 rz β σ x0 x1) (kC_Sat_isSubsumed_p35 rm (cv σ) (i32 x0) (i32 x1)) β := by
  unfold kY_Sat_isSubsumed_p35 kC_Sat_isSubsumed_p35
  refine Rf_g (fun hg1 => ?_)
  exact Rf_tail hR hσ (zrs_cons hx0 (zrs_cons hg1 zrs_nil)) (e_cons rfl (e_cons (e_add rfl (by decide)) rfl))
theorem rY_Sat_markProof (rz : zF) (rm : mF) (hR : Rc rz rm) (β : Nat) (σ : zS) (hσ : zOK σ) (x0 : Int) (hx0 : zr x0) : Rf (kY_Sat_markProof rz β σ x0) (kC_Sat_markProof rm (cv σ) (i32 x0)) β := by
  unfold kY_Sat_markProof kC_Sat_markProof
  refine Rf_bnd hR hσ (zrs_cons hx0 zrs_nil) (e_cons rfl rfl) (fun σ1 r1 hσ1 hr1 => ?_)
  refine Rf_eq rfl (by decide) hr1 (by decide) (fun _ => ?_) (fun _ => ?_)
  · exact Rf_tail hR hσ1 (zrs_cons hx0 zrs_nil) (e_cons rfl rfl)
  · refine Rf_bnd hR hσ1 (zrs_cons hx0 (zrs_cons (by decide) (zrs_cons (by decide) zrs_nil))) (e_cons rfl (e_cons (by decide) (e_cons (by decide) rfl))) (fun σ2 r2 hσ2 hr2 => ?_)
    exact Rf_tail hR hσ2 (zrs_cons hx0 zrs_nil) (e_cons rfl rfl)
theorem rY_Sat_markProof_p22 (rz : zF) (rm : mF) (hR : Rc rz rm) (β : Nat) (σ : zS) (hσ : zOK σ) (x0 : Int) (hx0 : zr x0) : Rf (kY_Sat_markProof_p22 rz β σ x0) (kC_Sat_markProof_p22 rm (cv σ) (i32 x0)) β := by
  unfold kY_Sat_markProof_p22 kC_Sat_markProof_p22
  exact Rf_some hσ (by decide) (by decide)
theorem rY_Sat_writeOthers (rz : zF) (rm : mF) (hR : Rc rz rm) (β : Nat) (σ : zS) (hσ : zOK σ) (x0 x1 x2 x3 : Int) (hx0 : zr x0) (hx1 : zr x1) (hx2 : zr x2) (hx3 : zr x3) : Rf (kY_Sat_writeOthers rz β σ x0 x1 x2 x3) (kC_Sat_writeOthers rm (cv σ) (i32 x0) (i32 x1) (i32 x2) (i32 x3)) β := by
  unfold kY_Sat_writeOthers kC_Sat_writeOthers
  refine Rf_bnd hR hσ (zrs_cons hx0 (zrs_cons (by decide) zrs_nil)) (e_cons rfl (e_cons (by decide) rfl)) (fun σ1 r1 hσ1 hr1 => ?_)
  exact Rf_tail hR hσ1 (zrs_cons hx0 (zrs_cons hx1 (zrs_cons hx2 (zrs_cons hx3 (zrs_cons hr1 (zrs_cons (by decide) zrs_nil)))))) (e_cons rfl (e_cons rfl (e_cons rfl (e_cons rfl (e_cons rfl (e_cons (by decide) rfl))))))
theorem rY_Sat_writeOthers_p15 (rz : zF) (rm : mF) (hR : Rc rz rm) (β : Nat) (σ : zS) (hσ : zOK σ) (x0 x1 x2 x3 x4 x5 : Int) (hx0 : zr x0) (hx1 : zr x1) (hx2 : zr x2) (hx3 : zr x3) (hx4 : zr x4) (hx5 : zr x5) : Rf (kY_Sat_writeOthers_p15 rz β σ x0 x1 x2 x3 x4 x5) (kC_Sat_writeOthers_p15 rm (cv σ) (i32 x0) (i32 x1) (i32 x2) (i32 x3) (i32 x4) (i32 x5)) β := by
  unfold kY_Sat_writeOthers_p15 kC_Sat_writeOthers_p15
  refine Rf_bnd hR hσ (zrs_cons hx0 (zrs_cons (by decide) zrs_nil)) (e_cons rfl (e_cons (by decide) rfl)) (fun σ1 r1 hσ1 hr1 => ?_)
  refine Rf_le rfl rfl hr1 hx5 (fun _ => ?_) (fun _ => ?_)
  · exact Rf_some hσ1 (by decide) (by decide)
  · refine Rf_eq rfl rfl hx4 hx1 (fun _ => ?_) (fun _ => ?_)
    · exact Rf_tail hR hσ1 (zrs_cons hx0 (zrs_cons hx1 (zrs_cons hx2 (zrs_cons hx3 (zrs_cons hx4 (zrs_cons hx5 zrs_nil)))))) (e_cons rfl (e_cons rfl (e_cons rfl (e_cons rfl (e_cons rfl (e_cons rfl rfl))))))
    · refine Rf_eq rfl rfl hx4 hx2 (fun _ => ?_) (fun _ => ?_)
      · exact Rf_tail hR hσ1 (zrs_cons hx0 (zrs_cons hx1 (zrs_cons hx2 (zrs_cons hx3 (zrs_cons hx4 (zrs_cons hx5 zrs_nil)))))) (e_cons rfl (e_cons rfl (e_cons rfl (e_cons rfl (e_cons rfl (e_cons rfl rfl))))))
      · refine Rf_bnd hR hσ1 (zrs_cons hx4 (zrs_cons (by decide) zrs_nil)) (e_cons rfl (e_cons (by decide) rfl)) (fun σ2 r2 hσ2 hr2 => ?_)
        refine Rf_bnd hR hσ2 (zrs_cons hx4 zrs_nil) (e_cons rfl rfl) (fun σ3 r3 hσ3 hr3 => ?_)
        refine Rf_bnd hR hσ3 (zrs_cons hr3 zrs_nil) (e_cons rfl rfl) (fun σ4 r4 hσ4 hr4 => ?_)
        refine Rf_bnd hR hσ4 (zrs_cons hx4 (zrs_cons (by decide) zrs_nil)) (e_cons rfl (e_cons (by decide) rfl)) (fun σ5 r5 hσ5 hr5 => ?_)
        refine Rf_bnd hR hσ5 (zrs_cons hr5 (zrs_cons hr2 (zrs_cons hx3 (zrs_cons (by decide) zrs_nil)))) (e_cons rfl (e_cons rfl (e_cons rfl (e_cons (by decide) rfl)))) (fun σ6 r6 hσ6 hr6 => ?_)
        refine Rf_bnd hR hσ6 zrs_nil rfl (fun σ7 r7 hσ7 hr7 => ?_)
        refine Rf_bnd hR hσ7 (zrs_cons hx4 zrs_nil) (e_cons rfl rfl) (fun σ8 r8 hσ8 hr8 => ?_)
        refine Rf_bnd hR hσ8 (zrs_cons hr2 (zrs_cons hr8 (zrs_cons hx3 (zrs_cons (by decide) zrs_nil)))) (e_cons rfl (e_cons rfl (e_cons rfl (e_cons (by decide) rfl)))) (fun σ9 r9 hσ9 hr9 => ?_)
        refine Rf_bnd hR hσ9 zrs_nil rfl (fun σ10 r10 hσ10 hr10 => ?_)
        exact Rf_tail hR hσ10 (zrs_cons hx0 (zrs_cons hx1 (zrs_cons hx2 (zrs_cons hx3 (zrs_cons hx4 (zrs_cons hx5 zrs_nil)))))) (e_cons rfl (e_cons rfl (e_cons rfl (e_cons rfl (e_cons rfl (e_cons rfl rfl))))))
theorem rY_Sat_writeOthers_p134 (rz : zF) (rm : mF) (hR : Rc rz rm) (β : Nat) (σ : zS) (hσ : zOK σ) (x0 x1 x2 x3 x4 x5 : Int) (hx0 : zr x0) (hx1 : zr x1) (hx2 : zr x2) (hx3 : zr x3) (hx4 : zr x4) (hx5 : zr x5) : Rf (kY_Sat_writeOthers_p134 rz β σ x0 x1 x2 x3 x4 x5) (kC_Sat_writeOthers_p134 rm (cv σ) (i32 x0) (i32 x1) (i32 x2) (i32 x3) (i32 x4) (i32 x5)) β := by
  unfold kY_Sat_writeOthers_p134 kC_Sat_writeOthers_p134
  refine Rf_bnd hR hσ (zrs_cons hx4 zrs_nil) (e_cons rfl rfl) (fun σ1 r1 hσ1 hr1 => ?_)
  refine Rf_g (fun hg1 => ?_)
  exact Rf_tail hR hσ1 (zrs_cons hx0 (zrs_cons hx1 (zrs_cons hx2 (zrs_cons hx3 (zrs_cons hr1 (zrs_cons hg1 zrs_nil)))))) (e_cons rfl (e_cons rfl (e_cons rfl (e_cons rfl (e_cons rfl (e_cons (e_add rfl (by decide)) rfl))))))
theorem rY_Sat_writePair (rz : zF) (rm : mF) (hR : Rc rz rm) (β : Nat) (σ : zS) (hσ : zOK σ) (x0 x1 x2 x3 x4 : Int) (hx0 : zr x0) (hx1 : zr x1) (hx2 : zr x2) (hx3 : zr x3) (hx4 : zr x4) : Rf (kY_Sat_writePair rz β σ x0 x1 x2 x3 x4) (kC_Sat_writePair rm (cv σ) (i32 x0) (i32 x1) (i32 x2) (i32 x3) (i32 x4)) β := by
  unfold kY_Sat_writePair kC_Sat_writePair
  refine Rf_bnd hR hσ (zrs_cons hx1 (zrs_cons hx2 zrs_nil)) (e_cons rfl (e_cons rfl rfl)) (fun σ1 r1 hσ1 hr1 => ?_)
  refine Rf_bnd hR hσ1 (zrs_cons hx3 (zrs_cons hx4 zrs_nil)) (e_cons rfl (e_cons rfl rfl)) (fun σ2 r2 hσ2 hr2 => ?_)
  refine Rf_bnd hR hσ2 (zrs_cons hx0 zrs_nil) (e_cons rfl rfl) (fun σ3 r3 hσ3 hr3 => ?_)
  refine Rf_bnd hR hσ3 (zrs_cons hx1 (zrs_cons hx2 zrs_nil)) (e_cons rfl (e_cons rfl rfl)) (fun σ4 r4 hσ4 hr4 => ?_)
  refine Rf_g (fun hg1 => ?_)
  refine Rf_bnd hR hσ4 (zrs_cons hr1 (zrs_cons hg1 (zrs_cons (by decide) (zrs_cons (by decide) zrs_nil)))) (e_cons rfl (e_cons (e_add rfl rfl) (e_cons (by decide) (e_cons (by decide) rfl)))) (fun σ5 r5 hσ5 hr5 => ?_)
  refine Rf_bnd hR hσ5 zrs_nil rfl (fun σ6 r6 hσ6 hr6 => ?_)
  refine Rf_bnd hR hσ6 (zrs_cons hx3 (zrs_cons hx4 zrs_nil)) (e_cons rfl (e_cons rfl rfl)) (fun σ7 r7 hσ7 hr7 => ?_)
  refine Rf_g (fun hg2 => ?_)
  refine Rf_bnd hR hσ7 (zrs_cons hr2 (zrs_cons hg2 (zrs_cons (by decide) (zrs_cons (by decide) zrs_nil)))) (e_cons rfl (e_cons (e_add rfl rfl) (e_cons (by decide) (e_cons (by decide) rfl)))) (fun σ8 r8 hσ8 hr8 => ?_)
  refine Rf_bnd hR hσ8 zrs_nil rfl (fun σ9 r9 hσ9 hr9 => ?_)
  exact Rf_some hσ9 (by decide) (by decide)
theorem rY_Sat_writeRange (rz : zF) (rm : mF) (hR : Rc rz rm) (β : Nat) (σ : zS) (hσ : zOK σ) (x0 x1 x2 x3 x4 : Int) (hx0 : zr x0) (hx1 : zr x1) (hx2 : zr x2) (hx3 : zr x3) (hx4 : zr x4) : Rf (kY_Sat_writeRange rz β σ x0 x1 x2 x3 x4) (kC_Sat_writeRange rm (cv σ) (i32 x0) (i32 x1) (i32 x2) (i32 x3) (i32 x4)) β := by
  unfold kY_Sat_writeRange kC_Sat_writeRange
  refine Rf_lt rfl rfl hx2 hx0 (fun _ => ?_) (fun _ => ?_)
  · exact Rf_tail hR hσ (zrs_cons hx0 (zrs_cons hx1 (zrs_cons hx2 (zrs_cons hx3 (zrs_cons hx4 zrs_nil))))) (e_cons rfl (e_cons rfl (e_cons rfl (e_cons rfl (e_cons rfl rfl)))))
  · refine Rf_lt rfl rfl hx2 hx1 (fun _ => ?_) (fun _ => ?_)
    · refine Rf_bnd hR hσ (zrs_cons hx3 (zrs_cons hx4 zrs_nil)) (e_cons rfl (e_cons rfl rfl)) (fun σ1 r1 hσ1 hr1 => ?_)
      refine Rf_bnd hR hσ1 (zrs_cons hx0 (zrs_cons hx2 (zrs_cons (by decide) (zrs_cons (by decide) zrs_nil)))) (e_cons rfl (e_cons rfl (e_cons (by decide) (e_cons (by decide) rfl)))) (fun σ2 r2 hσ2 hr2 => ?_)
      refine Rf_bnd hR hσ2 (zrs_cons hx3 (zrs_cons hx4 zrs_nil)) (e_cons rfl (e_cons rfl rfl)) (fun σ3 r3 hσ3 hr3 => ?_)
      refine Rf_g (fun hg1 => ?_)
      refine Rf_bnd hR hσ3 (zrs_cons hr1 (zrs_cons hg1 (zrs_cons (by decide) (zrs_cons (by decide) zrs_nil)))) (e_cons rfl (e_cons (e_add rfl rfl) (e_cons (by decide) (e_cons (by decide) rfl)))) (fun σ4 r4 hσ4 hr4 => ?_)
      refine Rf_bnd hR hσ4 (zrs_cons hx2 zrs_nil) (e_cons rfl rfl) (fun σ5 r5 hσ5 hr5 => ?_)
      refine Rf_bnd hR hσ5 (zrs_cons hr5 (zrs_cons hx1 (zrs_cons (by decide) (zrs_cons (by decide) zrs_nil)))) (e_cons rfl (e_cons rfl (e_cons (by decide) (e_cons (by decide) rfl)))) (fun σ6 r6 hσ6 hr6 => ?_)
      exact Rf_some hσ6 (by decide) (by decide)
    · exact Rf_tail hR hσ (zrs_cons hx0 (zrs_cons hx1 (zrs_cons hx2 (zrs_cons hx3 (zrs_cons hx4 zrs_nil))))) (e_cons rfl (e_cons rfl (e_cons rfl (e_cons rfl (e_cons rfl rfl)))))
theorem rY_Sat_writeRange_p10 (rz : zF) (rm : mF) (hR : Rc rz rm) (β : Nat) (σ : zS) (hσ : zOK σ) (x0 x1 x2 x3 x4 : Int) (hx0 : zr x0) (hx1 : zr x1) (hx2 : zr x2) (hx3 : zr x3) (hx4 : zr x4) : Rf (kY_Sat_writeRange_p10 rz β σ x0 x1 x2 x3 x4) (kC_Sat_writeRange_p10 rm (cv σ) (i32 x0) (i32 x1) (i32 x2) (i32 x3) (i32 x4)) β := by
  unfold kY_Sat_writeRange_p10 kC_Sat_writeRange_p10
  refine Rf_bnd hR hσ (zrs_cons hx0 (zrs_cons hx1 (zrs_cons (by decide) (zrs_cons (by decide) zrs_nil)))) (e_cons rfl (e_cons rfl (e_cons (by decide) (e_cons (by decide) rfl)))) (fun σ1 r1 hσ1 hr1 => ?_)
  exact Rf_some hσ1 (by decide) (by decide)
theorem rY_Sat_writeReplaced (rz : zF) (rm : mF) (hR : Rc rz rm) (β : Nat) (σ : zS) (hσ : zOK σ) (x0 x1 x2 x3 : Int) (hx0 : zr x0) (hx1 : zr x1) (hx2 : zr x2) (hx3 : zr x3) : Rf (kY_Sat_writeReplaced rz β σ x0 x1 x2 x3) (kC_Sat_writeReplaced rm (cv σ) (i32 x0) (i32 x1) (i32 x2) (i32 x3)) β := by
  unfold kY_Sat_writeReplaced kC_Sat_writeReplaced
  refine Rf_bnd hR hσ (zrs_cons hx0 (zrs_cons (by decide) zrs_nil)) (e_cons rfl (e_cons (by decide) rfl)) (fun σ1 r1 hσ1 hr1 => ?_)
  exact Rf_tail hR hσ1 (zrs_cons hx0 (zrs_cons hx1 (zrs_cons hx2 (zrs_cons hx3 (zrs_cons hr1 (zrs_cons (by decide) zrs_nil)))))) (e_cons rfl (e_cons rfl (e_cons rfl (e_cons rfl (e_cons rfl (e_cons (by decide) rfl))))))
theorem rY_Sat_writeReplaced_p15 (rz : zF) (rm : mF) (hR : Rc rz rm) (β : Nat) (σ : zS) (hσ : zOK σ) (x0 x1 x2 x3 x4 x5 : Int) (hx0 : zr x0) (hx1 : zr x1) (hx2 : zr x2) (hx3 : zr x3) (hx4 : zr x4) (hx5 : zr x5) : Rf (kY_Sat_writeReplaced_p15 rz β σ x0 x1 x2 x3 x4 x5) (kC_Sat_writeReplaced_p15 rm (cv σ) (i32 x0) (i32 x1) (i32 x2) (i32 x3) (i32 x4) (i32 x5)) β := by
  unfold kY_Sat_writeReplaced_p15 kC_Sat_writeReplaced_p15
  refine Rf_bnd hR hσ (zrs_cons hx0 (zrs_cons (by decide) zrs_nil)) (e_cons rfl (e_cons (by decide) rfl)) (fun σ1 r1 hσ1 hr1 => ?_)
  refine Rf_le rfl rfl hr1 hx5 (fun _ => ?_) (fun _ => ?_)
  · exact Rf_some hσ1 (by decide) (by decide)
  · refine Rf_bnd hR hσ1 (zrs_cons hx4 (zrs_cons (by decide) zrs_nil)) (e_cons rfl (e_cons (by decide) rfl)) (fun σ2 r2 hσ2 hr2 => ?_)
    refine Rf_bnd hR hσ2 (zrs_cons hx4 zrs_nil) (e_cons rfl rfl) (fun σ3 r3 hσ3 hr3 => ?_)
    refine Rf_bnd hR hσ3 (zrs_cons hr3 zrs_nil) (e_cons rfl rfl) (fun σ4 r4 hσ4 hr4 => ?_)
    refine Rf_bnd hR hσ4 (zrs_cons hx4 (zrs_cons (by decide) zrs_nil)) (e_cons rfl (e_cons (by decide) rfl)) (fun σ5 r5 hσ5 hr5 => ?_)
    refine Rf_bnd hR hσ5 (zrs_cons hr5 (zrs_cons hr2 (zrs_cons hx1 (zrs_cons hx2 (zrs_cons hx3 zrs_nil))))) (e_cons rfl (e_cons rfl (e_cons rfl (e_cons rfl (e_cons rfl rfl))))) (fun σ6 r6 hσ6 hr6 => ?_)
    refine Rf_bnd hR hσ6 zrs_nil rfl (fun σ7 r7 hσ7 hr7 => ?_)
    refine Rf_bnd hR hσ7 (zrs_cons hx4 zrs_nil) (e_cons rfl rfl) (fun σ8 r8 hσ8 hr8 => ?_)
    refine Rf_bnd hR hσ8 (zrs_cons hr2 (zrs_cons hr8 (zrs_cons hx1 (zrs_cons hx2 (zrs_cons hx3 zrs_nil))))) (e_cons rfl (e_cons rfl (e_cons rfl (e_cons rfl (e_cons rfl rfl))))) (fun σ9 r9 hσ9 hr9 => ?_)
    refine Rf_bnd hR hσ9 zrs_nil rfl (fun σ10 r10 hσ10 hr10 => ?_)
    refine Rf_bnd hR hσ10 (zrs_cons hx4 zrs_nil) (e_cons rfl rfl) (fun σ11 r11 hσ11 hr11 => ?_)
    refine Rf_g (fun hg1 => ?_)
    exact Rf_tail hR hσ11 (zrs_cons hx0 (zrs_cons hx1 (zrs_cons hx2 (zrs_cons hx3 (zrs_cons hr11 (zrs_cons hg1 zrs_nil)))))) (e_cons rfl (e_cons rfl (e_cons rfl (e_cons rfl (e_cons rfl (e_cons (e_add rfl (by decide)) rfl))))))
theorem rY_Sto_behind (rz : zF) (rm : mF) (hR : Rc rz rm) (β : Nat) (σ : zS) (hσ : zOK σ) (x0 : Int) (hx0 : zr x0) : Rf (kY_Sto_behind rz β σ x0) (kC_Sto_behind rm (cv σ) (i32 x0)) β := by
  unfold kY_Sto_behind kC_Sto_behind
  refine Rf_g (fun hg1 => ?_)
  refine Rf_rd (e_add rfl (by decide)) hg1 (fun hb2 => ?_)
  refine Rf_g (fun hg3 => ?_)
  refine Rf_rd (e_add rfl (by decide)) hg3 (fun hb4 => ?_)
  refine Rf_g (fun hg5 => ?_)
  refine Rf_g (fun hg6 => ?_)
  refine Rf_g (fun hg7 => ?_)
  exact Rf_some hσ hg7 (e_add (e_add (e_add rfl (by decide)) (e_rd (e_add rfl (by decide)) hb2)) (e_rd (e_add rfl (by decide)) hb4))
theorem rY_Sto_clear (rz : zF) (rm : mF) (hR : Rc rz rm) (β : Nat) (σ : zS) (hσ : zOK σ) : Rf (kY_Sto_clear rz β σ) (kC_Sto_clear rm (cv σ)) β := by
  unfold kY_Sto_clear kC_Sto_clear
  refine Rf_I (by decide) (by decide) hσ (fun σ1 hσ1 => ?_)
  refine Rf_I (by decide) (by decide) hσ1 (fun σ2 hσ2 => ?_)
  refine Rf_I (by decide) (by decide) hσ2 (fun σ3 hσ3 => ?_)
  refine Rf_I (by decide) (by decide) hσ3 (fun σ4 hσ4 => ?_)
  refine Rf_I (by decide) (by decide) hσ4 (fun σ5 hσ5 => ?_)
  exact Rf_some hσ5 (by decide) (by decide)
theorem rY_Sto_fact (rz : zF) (rm : mF) (hR : Rc rz rm) (β : Nat) (σ : zS) (hσ : zOK σ) (x0 x1 : Int) (hx0 : zr x0) (hx1 : zr x1) : Rf (kY_Sto_fact rz β σ x0 x1) (kC_Sto_fact rm (cv σ) (i32 x0) (i32 x1)) β := by
  unfold kY_Sto_fact kC_Sto_fact
  refine Rf_g (fun hg1 => ?_)
  refine Rf_g (fun hg2 => ?_)
  refine Rf_rd (e_add (e_mul rfl (by decide)) rfl) hg2 (fun hb3 => ?_)
  exact Rf_some hσ (hσ.2.1 _ _) (e_rd (e_add (e_mul rfl (by decide)) rfl) hb3)
theorem rY_Sto_has (rz : zF) (rm : mF) (hR : Rc rz rm) (β : Nat) (σ : zS) (hσ : zOK σ) (x0 : Int) (hx0 : zr x0) : Rf (kY_Sto_has rz β σ x0) (kC_Sto_has rm (cv σ) (i32 x0)) β := by
  unfold kY_Sto_has kC_Sto_has
  refine Rf_lt rfl (by decide) hx0 (by decide) (fun _ => ?_) (fun _ => ?_)
  · exact Rf_tail hR hσ (zrs_cons hx0 zrs_nil) (e_cons rfl rfl)
  · refine Rf_le rfl rfl (hσ.1 5402) hx0 (fun _ => ?_) (fun _ => ?_)
    · exact Rf_tail hR hσ (zrs_cons hx0 zrs_nil) (e_cons rfl rfl)
    · exact Rf_tail hR hσ (zrs_cons hx0 (zrs_cons (by decide) zrs_nil)) (e_cons rfl (e_cons (by decide) rfl))
theorem rY_Sto_has_p16 (rz : zF) (rm : mF) (hR : Rc rz rm) (β : Nat) (σ : zS) (hσ : zOK σ) (x0 : Int) (hx0 : zr x0) : Rf (kY_Sto_has_p16 rz β σ x0) (kC_Sto_has_p16 rm (cv σ) (i32 x0)) β := by
  unfold kY_Sto_has_p16 kC_Sto_has_p16
  exact Rf_tail hR hσ (zrs_cons hx0 (zrs_cons (by decide) zrs_nil)) (e_cons rfl (e_cons (by decide) rfl))
theorem rY_Sto_has_p17 (rz : zF) (rm : mF) (hR : Rc rz rm) (β : Nat) (σ : zS) (hσ : zOK σ) (x0 x1 : Int) (hx0 : zr x0) (hx1 : zr x1) : Rf (kY_Sto_has_p17 rz β σ x0 x1) (kC_Sto_has_p17 rm (cv σ) (i32 x0) (i32 x1)) β := by
  unfold kY_Sto_has_p17 kC_Sto_has_p17
  refine Rf_01 rfl hx1 (fun hb1 => ?_)
  exact Rf_some hσ hx1 rfl
theorem rY_Sto_headOf (rz : zF) (rm : mF) (hR : Rc rz rm) (β : Nat) (σ : zS) (hσ : zOK σ) (x0 x1 : Int) (hx0 : zr x0) (hx1 : zr x1) : Rf (kY_Sto_headOf rz β σ x0 x1) (kC_Sto_headOf rm (cv σ) (i32 x0) (i32 x1)) β := by
  unfold kY_Sto_headOf kC_Sto_headOf
  refine Rf_bnd hR hσ (zrs_cons hx0 (zrs_cons (by decide) zrs_nil)) (e_cons rfl (e_cons (by decide) rfl)) (fun σ1 r1 hσ1 hr1 => ?_)
  exact Rf_tail hR hσ1 (zrs_cons hx0 (zrs_cons hx1 (zrs_cons hr1 (zrs_cons (by decide) zrs_nil)))) (e_cons rfl (e_cons rfl (e_cons rfl (e_cons (by decide) rfl))))
theorem rY_Sto_headOf_p11 (rz : zF) (rm : mF) (hR : Rc rz rm) (β : Nat) (σ : zS) (hσ : zOK σ) (x0 x1 x2 x3 : Int) (hx0 : zr x0) (hx1 : zr x1) (hx2 : zr x2) (hx3 : zr x3) : Rf (kY_Sto_headOf_p11 rz β σ x0 x1 x2 x3) (kC_Sto_headOf_p11 rm (cv σ) (i32 x0) (i32 x1) (i32 x2) (i32 x3)) β := by
  unfold kY_Sto_headOf_p11 kC_Sto_headOf_p11
  refine Rf_le rfl rfl hx1 hx3 (fun _ => ?_) (fun _ => ?_)
  · exact Rf_some hσ hx2 rfl
  · refine Rf_bnd hR hσ (zrs_cons hx2 zrs_nil) (e_cons rfl rfl) (fun σ1 r1 hσ1 hr1 => ?_)
    refine Rf_g (fun hg1 => ?_)
    exact Rf_tail hR hσ1 (zrs_cons hx0 (zrs_cons hx1 (zrs_cons hr1 (zrs_cons hg1 zrs_nil)))) (e_cons rfl (e_cons rfl (e_cons rfl (e_cons (e_add rfl (by decide)) rfl))))
theorem rY_Sto_howMany (rz : zF) (rm : mF) (hR : Rc rz rm) (β : Nat) (σ : zS) (hσ : zOK σ) (x0 : Int) (hx0 : zr x0) : Rf (kY_Sto_howMany rz β σ x0) (kC_Sto_howMany rm (cv σ) (i32 x0)) β := by
  unfold kY_Sto_howMany kC_Sto_howMany
  exact Rf_tail hR hσ (zrs_cons hx0 (zrs_cons (by decide) (zrs_cons (by decide) zrs_nil))) (e_cons rfl (e_cons (by decide) (e_cons (by decide) rfl)))
theorem rY_Sto_howMany_p4 (rz : zF) (rm : mF) (hR : Rc rz rm) (β : Nat) (σ : zS) (hσ : zOK σ) (x0 x1 x2 : Int) (hx0 : zr x0) (hx1 : zr x1) (hx2 : zr x2) : Rf (kY_Sto_howMany_p4 rz β σ x0 x1 x2) (kC_Sto_howMany_p4 rm (cv σ) (i32 x0) (i32 x1) (i32 x2)) β := by
  unfold kY_Sto_howMany_p4 kC_Sto_howMany_p4
  refine Rf_le rfl rfl (hσ.1 5402) hx2 (fun _ => ?_) (fun _ => ?_)
  · exact Rf_some hσ hx1 rfl
  · refine Rf_bnd hR hσ (zrs_cons hx2 (zrs_cons (by decide) zrs_nil)) (e_cons rfl (e_cons (by decide) rfl)) (fun σ1 r1 hσ1 hr1 => ?_)
    refine Rf_eq rfl rfl hr1 hx0 (fun _ => ?_) (fun _ => ?_)
    · exact Rf_tail hR hσ1 (zrs_cons hx0 (zrs_cons hx1 (zrs_cons hx2 (zrs_cons (by decide) (zrs_cons hx1 zrs_nil))))) (e_cons rfl (e_cons rfl (e_cons rfl (e_cons (by decide) (e_cons rfl rfl)))))
    · exact Rf_tail hR hσ1 (zrs_cons hx0 (zrs_cons hx1 (zrs_cons hx2 (zrs_cons (by decide) (zrs_cons hx1 zrs_nil))))) (e_cons rfl (e_cons rfl (e_cons rfl (e_cons (by decide) (e_cons rfl rfl)))))
theorem rY_Sto_howMany_p29 (rz : zF) (rm : mF) (hR : Rc rz rm) (β : Nat) (σ : zS) (hσ : zOK σ) (x0 x1 x2 x3 x4 : Int) (hx0 : zr x0) (hx1 : zr x1) (hx2 : zr x2) (hx3 : zr x3) (hx4 : zr x4) : Rf (kY_Sto_howMany_p29 rz β σ x0 x1 x2 x3 x4) (kC_Sto_howMany_p29 rm (cv σ) (i32 x0) (i32 x1) (i32 x2) (i32 x3) (i32 x4)) β := by
  unfold kY_Sto_howMany_p29 kC_Sto_howMany_p29
  refine Rf_g (fun hg1 => ?_)
  refine Rf_g (fun hg2 => ?_)
  exact Rf_tail hR hσ (zrs_cons hx0 (zrs_cons hg1 (zrs_cons hg2 zrs_nil))) (e_cons rfl (e_cons (e_add rfl rfl) (e_cons (e_add rfl (by decide)) rfl)))
theorem rY_Sto_isEligible (rz : zF) (rm : mF) (hR : Rc rz rm) (β : Nat) (σ : zS) (hσ : zOK σ) (x0 : Int) (hx0 : zr x0) : Rf (kY_Sto_isEligible rz β σ x0) (kC_Sto_isEligible rm (cv σ) (i32 x0)) β := by
  unfold kY_Sto_isEligible kC_Sto_isEligible
  refine Rf_g (fun hg1 => ?_)
  refine Rf_rd (e_add rfl (by decide)) hg1 (fun hb2 => ?_)
  refine Rf_eq (e_rd (e_add rfl (by decide)) hb2) (by decide) (hσ.2.1 _ _) (by decide) (fun _ => ?_) (fun _ => ?_)
  · exact Rf_tail hR hσ (zrs_cons hx0 (zrs_cons (by decide) zrs_nil)) (e_cons rfl (e_cons (by decide) rfl))
  · exact Rf_tail hR hσ (zrs_cons hx0 (zrs_cons (by decide) zrs_nil)) (e_cons rfl (e_cons (by decide) rfl))
theorem rY_Sto_isEligible_p20 (rz : zF) (rm : mF) (hR : Rc rz rm) (β : Nat) (σ : zS) (hσ : zOK σ) (x0 x1 : Int) (hx0 : zr x0) (hx1 : zr x1) : Rf (kY_Sto_isEligible_p20 rz β σ x0 x1) (kC_Sto_isEligible_p20 rm (cv σ) (i32 x0) (i32 x1)) β := by
  unfold kY_Sto_isEligible_p20 kC_Sto_isEligible_p20
  refine Rf_01 rfl hx1 (fun hb1 => ?_)
  exact Rf_some hσ hx1 rfl
theorem rY_Sto_isGreater (rz : zF) (rm : mF) (hR : Rc rz rm) (β : Nat) (σ : zS) (hσ : zOK σ) (x0 x1 : Int) (hx0 : zr x0) (hx1 : zr x1) : Rf (kY_Sto_isGreater rz β σ x0 x1) (kC_Sto_isGreater rm (cv σ) (i32 x0) (i32 x1)) β := by
  unfold kY_Sto_isGreater kC_Sto_isGreater
  exact Rf_tail hR hσ (zrs_cons hx0 (zrs_cons hx1 (zrs_cons (by decide) (zrs_cons (by decide) (zrs_cons (by decide) zrs_nil))))) (e_cons rfl (e_cons rfl (e_cons (by decide) (e_cons (by decide) (e_cons (by decide) rfl)))))
theorem rY_Sto_isGreater_p8 (rz : zF) (rm : mF) (hR : Rc rz rm) (β : Nat) (σ : zS) (hσ : zOK σ) (x0 x1 x2 x3 x4 : Int) (hx0 : zr x0) (hx1 : zr x1) (hx2 : zr x2) (hx3 : zr x3) (hx4 : zr x4) : Rf (kY_Sto_isGreater_p8 rz β σ x0 x1 x2 x3 x4) (kC_Sto_isGreater_p8 rm (cv σ) (i32 x0) (i32 x1) (i32 x2) (i32 x3) (i32 x4)) β := by
  unfold kY_Sto_isGreater_p8 kC_Sto_isGreater_p8
  refine Rf_le (by decide) rfl (by decide) hx4 (fun _ => ?_) (fun _ => ?_)
  · exact Rf_tail hR hσ (zrs_cons hx0 (zrs_cons hx1 (zrs_cons hx2 (zrs_cons hx3 (zrs_cons (by decide) zrs_nil))))) (e_cons rfl (e_cons rfl (e_cons rfl (e_cons rfl (e_cons (by decide) rfl)))))
  · exact Rf_tail hR hσ (zrs_cons hx0 (zrs_cons hx1 (zrs_cons hx2 (zrs_cons hx3 (zrs_cons hx4 (zrs_cons (by decide) zrs_nil)))))) (e_cons rfl (e_cons rfl (e_cons rfl (e_cons rfl (e_cons rfl (e_cons (by decide) rfl))))))
theorem rY_Sto_isGreater_p17 (rz : zF) (rm : mF) (hR : Rc rz rm) (β : Nat) (σ : zS) (hσ : zOK σ) (x0 x1 x2 x3 x4 x5 : Int) (hx0 : zr x0) (hx1 : zr x1) (hx2 : zr x2) (hx3 : zr x3) (hx4 : zr x4) (hx5 : zr x5) : Rf (kY_Sto_isGreater_p17 rz β σ x0 x1 x2 x3 x4 x5) (kC_Sto_isGreater_p17 rm (cv σ) (i32 x0) (i32 x1) (i32 x2) (i32 x3) (i32 x4) (i32 x5)) β := by
  unfold kY_Sto_isGreater_p17 kC_Sto_isGreater_p17
  refine Rf_le (by decide) rfl (by decide) hx5 (fun _ => ?_) (fun _ => ?_)
  · refine Rf_g (fun hg1 => ?_)
    exact Rf_tail hR hσ (zrs_cons hx0 (zrs_cons hx1 (zrs_cons hx2 (zrs_cons hx3 (zrs_cons hg1 zrs_nil))))) (e_cons rfl (e_cons rfl (e_cons rfl (e_cons rfl (e_cons (e_add rfl (by decide)) rfl)))))
  · refine Rf_eq (e_and (e_shr rfl rfl) (by decide)) (by decide) (zr_to _) (by decide) (fun _ => ?_) (fun _ => ?_)
    · refine Rf_eq (e_and (e_shr rfl rfl) (by decide)) (by decide) (zr_to _) (by decide) (fun _ => ?_) (fun _ => ?_)
      · exact Rf_tail hR hσ (zrs_cons hx0 (zrs_cons hx1 (zrs_cons hx2 (zrs_cons hx3 (zrs_cons hx4 (zrs_cons hx5 (zrs_cons (by decide) zrs_nil))))))) (e_cons rfl (e_cons rfl (e_cons rfl (e_cons rfl (e_cons rfl (e_cons rfl (e_cons (by decide) rfl)))))))
      · exact Rf_tail hR hσ (zrs_cons hx0 (zrs_cons hx1 (zrs_cons hx2 (zrs_cons hx3 (zrs_cons hx4 (zrs_cons hx5 zrs_nil)))))) (e_cons rfl (e_cons rfl (e_cons rfl (e_cons rfl (e_cons rfl (e_cons rfl rfl))))))
    · exact Rf_tail hR hσ (zrs_cons hx0 (zrs_cons hx1 (zrs_cons hx2 (zrs_cons hx3 (zrs_cons hx4 (zrs_cons hx5 zrs_nil)))))) (e_cons rfl (e_cons rfl (e_cons rfl (e_cons rfl (e_cons rfl (e_cons rfl rfl))))))
theorem rY_Sto_isGreater_p48 (rz : zF) (rm : mF) (hR : Rc rz rm) (β : Nat) (σ : zS) (hσ : zOK σ) (x0 x1 x2 x3 x4 x5 : Int) (hx0 : zr x0) (hx1 : zr x1) (hx2 : zr x2) (hx3 : zr x3) (hx4 : zr x4) (hx5 : zr x5) : Rf (kY_Sto_isGreater_p48 rz β σ x0 x1 x2 x3 x4 x5) (kC_Sto_isGreater_p48 rm (cv σ) (i32 x0) (i32 x1) (i32 x2) (i32 x3) (i32 x4) (i32 x5)) β := by
  unfold kY_Sto_isGreater_p48 kC_Sto_isGreater_p48
  exact Rf_tail hR hσ (zrs_cons hx0 (zrs_cons hx1 (zrs_cons hx2 (zrs_cons hx3 (zrs_cons hx4 (zrs_cons hx5 (zrs_cons (by decide) zrs_nil))))))) (e_cons rfl (e_cons rfl (e_cons rfl (e_cons rfl (e_cons rfl (e_cons rfl (e_cons (by decide) rfl)))))))
theorem rY_Sto_isGreater_p49 (rz : zF) (rm : mF) (hR : Rc rz rm) (β : Nat) (σ : zS) (hσ : zOK σ) (x0 x1 x2 x3 x4 x5 x6 : Int) (hx0 : zr x0) (hx1 : zr x1) (hx2 : zr x2) (hx3 : zr x3) (hx4 : zr x4) (hx5 : zr x5) (hx6 : zr x6) : Rf (kY_Sto_isGreater_p49 rz β σ x0 x1 x2 x3 x4 x5 x6) (kC_Sto_isGreater_p49 rm (cv σ) (i32 x0) (i32 x1) (i32 x2) (i32 x3) (i32 x4) (i32 x5) (i32 x6)) β := by
  unfold kY_Sto_isGreater_p49 kC_Sto_isGreater_p49
  refine Rf_eq rfl (by decide) hx6 (by decide) (fun _ => ?_) (fun _ => ?_)
  · exact Rf_tail hR hσ (zrs_cons hx0 (zrs_cons hx1 (zrs_cons hx2 (zrs_cons hx3 (zrs_cons hx4 (zrs_cons hx5 (zrs_cons hx6 zrs_nil))))))) (e_cons rfl (e_cons rfl (e_cons rfl (e_cons rfl (e_cons rfl (e_cons rfl (e_cons rfl rfl)))))))
  · refine Rf_bnd hR hσ (zrs_cons hx0 (zrs_cons hx4 zrs_nil)) (e_cons rfl (e_cons rfl rfl)) (fun σ1 r1 hσ1 hr1 => ?_)
    refine Rf_bnd hR hσ1 (zrs_cons hx1 (zrs_cons hx5 zrs_nil)) (e_cons rfl (e_cons rfl rfl)) (fun σ2 r2 hσ2 hr2 => ?_)
    refine Rf_bnd hR hσ2 (zrs_cons hr1 (zrs_cons hr2 zrs_nil)) (e_cons rfl (e_cons rfl rfl)) (fun σ3 r3 hσ3 hr3 => ?_)
    refine Rf_eq rfl (by decide) hr3 (by decide) (fun _ => ?_) (fun _ => ?_)
    · exact Rf_tail hR hσ3 (zrs_cons hx0 (zrs_cons hx1 (zrs_cons hx2 (zrs_cons hx3 (zrs_cons hx4 (zrs_cons hx5 (zrs_cons hx6 zrs_nil))))))) (e_cons rfl (e_cons rfl (e_cons rfl (e_cons rfl (e_cons rfl (e_cons rfl (e_cons rfl rfl)))))))
    · exact Rf_tail hR hσ3 (zrs_cons hx0 (zrs_cons hx1 (zrs_cons (zr_to _) (zrs_cons (zr_to _) (zrs_cons hx4 (zrs_cons hx5 (zrs_cons hx6 zrs_nil))))))) (e_cons rfl (e_cons rfl (e_cons (e_and rfl (e_not (e_shl (by decide) rfl))) (e_cons (e_and rfl (e_not (e_shl (by decide) rfl))) (e_cons rfl (e_cons rfl (e_cons rfl rfl)))))))
theorem rY_Sto_isGreater_p114 (rz : zF) (rm : mF) (hR : Rc rz rm) (β : Nat) (σ : zS) (hσ : zOK σ) (x0 x1 x2 x3 x4 x5 x6 : Int) (hx0 : zr x0) (hx1 : zr x1) (hx2 : zr x2) (hx3 : zr x3) (hx4 : zr x4) (hx5 : zr x5) (hx6 : zr x6) : Rf (kY_Sto_isGreater_p114 rz β σ x0 x1 x2 x3 x4 x5 x6) (kC_Sto_isGreater_p114 rm (cv σ) (i32 x0) (i32 x1) (i32 x2) (i32 x3) (i32 x4) (i32 x5) (i32 x6)) β := by
  unfold kY_Sto_isGreater_p114 kC_Sto_isGreater_p114
  refine Rf_g (fun hg1 => ?_)
  exact Rf_tail hR hσ (zrs_cons hx0 (zrs_cons hx1 (zrs_cons hx2 (zrs_cons hx3 (zrs_cons hx4 (zrs_cons hg1 zrs_nil)))))) (e_cons rfl (e_cons rfl (e_cons rfl (e_cons rfl (e_cons rfl (e_cons (e_add rfl (by decide)) rfl))))))
theorem rY_Sto_isGreater_p129 (rz : zF) (rm : mF) (hR : Rc rz rm) (β : Nat) (σ : zS) (hσ : zOK σ) (x0 x1 x2 x3 x4 : Int) (hx0 : zr x0) (hx1 : zr x1) (hx2 : zr x2) (hx3 : zr x3) (hx4 : zr x4) : Rf (kY_Sto_isGreater_p129 rz β σ x0 x1 x2 x3 x4) (kC_Sto_isGreater_p129 rm (cv σ) (i32 x0) (i32 x1) (i32 x2) (i32 x3) (i32 x4)) β := by
  unfold kY_Sto_isGreater_p129 kC_Sto_isGreater_p129
  refine Rf_le (by decide) rfl (by decide) hx4 (fun _ => ?_) (fun _ => ?_)
  · refine Rf_eq rfl (by decide) hx2 (by decide) (fun _ => ?_) (fun _ => ?_)
    · exact Rf_tail hR hσ (zrs_cons hx0 (zrs_cons hx1 (zrs_cons hx2 (zrs_cons hx3 (zrs_cons hx4 (zrs_cons (by decide) zrs_nil)))))) (e_cons rfl (e_cons rfl (e_cons rfl (e_cons rfl (e_cons rfl (e_cons (by decide) rfl))))))
    · exact Rf_tail hR hσ (zrs_cons hx0 (zrs_cons hx1 (zrs_cons hx2 (zrs_cons hx3 (zrs_cons hx4 (zrs_cons (by decide) zrs_nil)))))) (e_cons rfl (e_cons rfl (e_cons rfl (e_cons rfl (e_cons rfl (e_cons (by decide) rfl))))))
  · refine Rf_eq (e_and (e_shr rfl rfl) (by decide)) (by decide) (zr_to _) (by decide) (fun _ => ?_) (fun _ => ?_)
    · exact Rf_tail hR hσ (zrs_cons hx0 (zrs_cons hx1 (zrs_cons hx2 (zrs_cons hx3 (zrs_cons hx4 (zrs_cons (by decide) zrs_nil)))))) (e_cons rfl (e_cons rfl (e_cons rfl (e_cons rfl (e_cons rfl (e_cons (by decide) rfl))))))
    · exact Rf_tail hR hσ (zrs_cons hx0 (zrs_cons hx1 (zrs_cons hx2 (zrs_cons hx3 (zrs_cons hx4 (zrs_cons (by decide) zrs_nil)))))) (e_cons rfl (e_cons rfl (e_cons rfl (e_cons rfl (e_cons rfl (e_cons (by decide) rfl))))))
theorem rY_Sto_isGreater_p150 (rz : zF) (rm : mF) (hR : Rc rz rm) (β : Nat) (σ : zS) (hσ : zOK σ) (x0 x1 x2 x3 x4 x5 : Int) (hx0 : zr x0) (hx1 : zr x1) (hx2 : zr x2) (hx3 : zr x3) (hx4 : zr x4) (hx5 : zr x5) : Rf (kY_Sto_isGreater_p150 rz β σ x0 x1 x2 x3 x4 x5) (kC_Sto_isGreater_p150 rm (cv σ) (i32 x0) (i32 x1) (i32 x2) (i32 x3) (i32 x4) (i32 x5)) β := by
  unfold kY_Sto_isGreater_p150 kC_Sto_isGreater_p150
  exact Rf_tail hR hσ (zrs_cons hx0 (zrs_cons hx1 (zrs_cons hx2 (zrs_cons hx3 (zrs_cons hx4 (zrs_cons hx5 (zrs_cons (by decide) zrs_nil))))))) (e_cons rfl (e_cons rfl (e_cons rfl (e_cons rfl (e_cons rfl (e_cons rfl (e_cons (by decide) rfl)))))))
theorem rY_Sto_isGreater_p155 (rz : zF) (rm : mF) (hR : Rc rz rm) (β : Nat) (σ : zS) (hσ : zOK σ) (x0 x1 x2 x3 x4 x5 x6 : Int) (hx0 : zr x0) (hx1 : zr x1) (hx2 : zr x2) (hx3 : zr x3) (hx4 : zr x4) (hx5 : zr x5) (hx6 : zr x6) : Rf (kY_Sto_isGreater_p155 rz β σ x0 x1 x2 x3 x4 x5 x6) (kC_Sto_isGreater_p155 rm (cv σ) (i32 x0) (i32 x1) (i32 x2) (i32 x3) (i32 x4) (i32 x5) (i32 x6)) β := by
  unfold kY_Sto_isGreater_p155 kC_Sto_isGreater_p155
  refine Rf_le (by decide) rfl (by decide) hx6 (fun _ => ?_) (fun _ => ?_)
  · exact Rf_tail hR hσ (zrs_cons hx0 (zrs_cons hx1 (zrs_cons hx2 (zrs_cons hx3 (zrs_cons hx4 (zrs_cons hx5 (zrs_cons hx6 zrs_nil))))))) (e_cons rfl (e_cons rfl (e_cons rfl (e_cons rfl (e_cons rfl (e_cons rfl (e_cons rfl rfl)))))))
  · refine Rf_eq rfl (by decide) hx5 (by decide) (fun _ => ?_) (fun _ => ?_)
    · refine Rf_eq (e_and (e_shr rfl rfl) (by decide)) (by decide) (zr_to _) (by decide) (fun _ => ?_) (fun _ => ?_)
      · refine Rf_bnd hR hσ (zrs_cons hx0 (zrs_cons hx6 zrs_nil)) (e_cons rfl (e_cons rfl rfl)) (fun σ1 r1 hσ1 hr1 => ?_)
        refine Rf_bnd hR hσ1 (zrs_cons hx1 (zrs_cons hx4 zrs_nil)) (e_cons rfl (e_cons rfl rfl)) (fun σ2 r2 hσ2 hr2 => ?_)
        refine Rf_bnd hR hσ2 (zrs_cons hr1 (zrs_cons hr2 zrs_nil)) (e_cons rfl (e_cons rfl rfl)) (fun σ3 r3 hσ3 hr3 => ?_)
        refine Rf_eq rfl (by decide) hr3 (by decide) (fun _ => ?_) (fun _ => ?_)
        · exact Rf_tail hR hσ3 (zrs_cons hx0 (zrs_cons hx1 (zrs_cons hx2 (zrs_cons hx3 (zrs_cons hx4 (zrs_cons hx5 (zrs_cons hx6 zrs_nil))))))) (e_cons rfl (e_cons rfl (e_cons rfl (e_cons rfl (e_cons rfl (e_cons rfl (e_cons rfl rfl)))))))
        · exact Rf_tail hR hσ3 (zrs_cons hx0 (zrs_cons hx1 (zrs_cons hx2 (zrs_cons hx3 (zrs_cons hx4 (zrs_cons hx5 (zrs_cons hx6 (zrs_cons (by decide) zrs_nil)))))))) (e_cons rfl (e_cons rfl (e_cons rfl (e_cons rfl (e_cons rfl (e_cons rfl (e_cons rfl (e_cons (by decide) rfl))))))))
      · exact Rf_tail hR hσ (zrs_cons hx0 (zrs_cons hx1 (zrs_cons hx2 (zrs_cons hx3 (zrs_cons hx4 (zrs_cons hx5 (zrs_cons hx6 zrs_nil))))))) (e_cons rfl (e_cons rfl (e_cons rfl (e_cons rfl (e_cons rfl (e_cons rfl (e_cons rfl rfl)))))))
    · exact Rf_tail hR hσ (zrs_cons hx0 (zrs_cons hx1 (zrs_cons hx2 (zrs_cons hx3 (zrs_cons hx4 (zrs_cons hx5 (zrs_cons hx6 zrs_nil))))))) (e_cons rfl (e_cons rfl (e_cons rfl (e_cons rfl (e_cons rfl (e_cons rfl (e_cons rfl rfl)))))))
theorem rY_Sto_isGreater_p218 (rz : zF) (rm : mF) (hR : Rc rz rm) (β : Nat) (σ : zS) (hσ : zOK σ) (x0 x1 x2 x3 x4 x5 x6 : Int) (hx0 : zr x0) (hx1 : zr x1) (hx2 : zr x2) (hx3 : zr x3) (hx4 : zr x4) (hx5 : zr x5) (hx6 : zr x6) : Rf (kY_Sto_isGreater_p218 rz β σ x0 x1 x2 x3 x4 x5 x6) (kC_Sto_isGreater_p218 rm (cv σ) (i32 x0) (i32 x1) (i32 x2) (i32 x3) (i32 x4) (i32 x5) (i32 x6)) β := by
  unfold kY_Sto_isGreater_p218 kC_Sto_isGreater_p218
  exact Rf_tail hR hσ (zrs_cons hx0 (zrs_cons hx1 (zrs_cons hx2 (zrs_cons hx3 (zrs_cons hx4 (zrs_cons hx5 (zrs_cons hx6 (zrs_cons (by decide) zrs_nil)))))))) (e_cons rfl (e_cons rfl (e_cons rfl (e_cons rfl (e_cons rfl (e_cons rfl (e_cons rfl (e_cons (by decide) rfl))))))))
theorem rY_Sto_isGreater_p219 (rz : zF) (rm : mF) (hR : Rc rz rm) (β : Nat) (σ : zS) (hσ : zOK σ) (x0 x1 x2 x3 x4 x5 x6 x7 : Int) (hx0 : zr x0) (hx1 : zr x1) (hx2 : zr x2) (hx3 : zr x3) (hx4 : zr x4) (hx5 : zr x5) (hx6 : zr x6) (hx7 : zr x7) : Rf (kY_Sto_isGreater_p219 rz β σ x0 x1 x2 x3 x4 x5 x6 x7) (kC_Sto_isGreater_p219 rm (cv σ) (i32 x0) (i32 x1) (i32 x2) (i32 x3) (i32 x4) (i32 x5) (i32 x6) (i32 x7)) β := by
  unfold kY_Sto_isGreater_p219 kC_Sto_isGreater_p219
  refine Rf_g (fun hg1 => ?_)
  exact Rf_tail hR hσ (zrs_cons hx0 (zrs_cons hx1 (zrs_cons hx2 (zrs_cons hx3 (zrs_cons hx4 (zrs_cons hx7 (zrs_cons hg1 zrs_nil))))))) (e_cons rfl (e_cons rfl (e_cons rfl (e_cons rfl (e_cons rfl (e_cons rfl (e_cons (e_add rfl (by decide)) rfl)))))))
theorem rY_Sto_isGreater_p227 (rz : zF) (rm : mF) (hR : Rc rz rm) (β : Nat) (σ : zS) (hσ : zOK σ) (x0 x1 x2 x3 x4 x5 x6 : Int) (hx0 : zr x0) (hx1 : zr x1) (hx2 : zr x2) (hx3 : zr x3) (hx4 : zr x4) (hx5 : zr x5) (hx6 : zr x6) : Rf (kY_Sto_isGreater_p227 rz β σ x0 x1 x2 x3 x4 x5 x6) (kC_Sto_isGreater_p227 rm (cv σ) (i32 x0) (i32 x1) (i32 x2) (i32 x3) (i32 x4) (i32 x5) (i32 x6)) β := by
  unfold kY_Sto_isGreater_p227 kC_Sto_isGreater_p227
  refine Rf_eq rfl (by decide) hx5 (by decide) (fun _ => ?_) (fun _ => ?_)
  · exact Rf_some hσ (by decide) (by decide)
  · refine Rf_g (fun hg1 => ?_)
    exact Rf_tail hR hσ (zrs_cons hx0 (zrs_cons hx1 (zrs_cons hx2 (zrs_cons hx3 (zrs_cons hg1 zrs_nil))))) (e_cons rfl (e_cons rfl (e_cons rfl (e_cons rfl (e_cons (e_add rfl (by decide)) rfl)))))
theorem rY_Sto_isGreater_p249 (rz : zF) (rm : mF) (hR : Rc rz rm) (β : Nat) (σ : zS) (hσ : zOK σ) (x0 x1 x2 x3 x4 x5 : Int) (hx0 : zr x0) (hx1 : zr x1) (hx2 : zr x2) (hx3 : zr x3) (hx4 : zr x4) (hx5 : zr x5) : Rf (kY_Sto_isGreater_p249 rz β σ x0 x1 x2 x3 x4 x5) (kC_Sto_isGreater_p249 rm (cv σ) (i32 x0) (i32 x1) (i32 x2) (i32 x3) (i32 x4) (i32 x5)) β := by
  unfold kY_Sto_isGreater_p249 kC_Sto_isGreater_p249
  refine Rf_01 rfl hx5 (fun hb1 => ?_)
  exact Rf_some hσ hx5 rfl
theorem rY_Sto_isPositive (rz : zF) (rm : mF) (hR : Rc rz rm) (β : Nat) (σ : zS) (hσ : zOK σ) (x0 : Int) (hx0 : zr x0) : Rf (kY_Sto_isPositive rz β σ x0) (kC_Sto_isPositive rm (cv σ) (i32 x0)) β := by
  unfold kY_Sto_isPositive kC_Sto_isPositive
  refine Rf_g (fun hg1 => ?_)
  refine Rf_rd (e_add rfl (by decide)) hg1 (fun hb2 => ?_)
  refine Rf_eq (e_rd (e_add rfl (by decide)) hb2) (by decide) (hσ.2.1 _ _) (by decide) (fun _ => ?_) (fun _ => ?_)
  · exact Rf_tail hR hσ (zrs_cons hx0 (zrs_cons (by decide) zrs_nil)) (e_cons rfl (e_cons (by decide) rfl))
  · exact Rf_tail hR hσ (zrs_cons hx0 (zrs_cons (by decide) zrs_nil)) (e_cons rfl (e_cons (by decide) rfl))
theorem rY_Sto_isPositive_p20 (rz : zF) (rm : mF) (hR : Rc rz rm) (β : Nat) (σ : zS) (hσ : zOK σ) (x0 x1 : Int) (hx0 : zr x0) (hx1 : zr x1) : Rf (kY_Sto_isPositive_p20 rz β σ x0 x1) (kC_Sto_isPositive_p20 rm (cv σ) (i32 x0) (i32 x1)) β := by
  unfold kY_Sto_isPositive_p20 kC_Sto_isPositive_p20
  refine Rf_01 rfl hx1 (fun hb1 => ?_)
  exact Rf_some hσ hx1 rfl
theorem rY_Sto_isTopmost (rz : zF) (rm : mF) (hR : Rc rz rm) (β : Nat) (σ : zS) (hσ : zOK σ) (x0 x1 : Int) (hx0 : zr x0) (hx1 : zr x1) : Rf (kY_Sto_isTopmost rz β σ x0 x1) (kC_Sto_isTopmost rm (cv σ) (i32 x0) (i32 x1)) β := by
  unfold kY_Sto_isTopmost kC_Sto_isTopmost
  refine Rf_bnd hR hσ (zrs_cons hx0 (zrs_cons (by decide) zrs_nil)) (e_cons rfl (e_cons (by decide) rfl)) (fun σ1 r1 hσ1 hr1 => ?_)
  exact Rf_tail hR hσ1 (zrs_cons hx0 (zrs_cons hx1 (zrs_cons hr1 (zrs_cons (by decide) zrs_nil)))) (e_cons rfl (e_cons rfl (e_cons rfl (e_cons (by decide) rfl))))
theorem rY_Sto_isTopmost_p11 (rz : zF) (rm : mF) (hR : Rc rz rm) (β : Nat) (σ : zS) (hσ : zOK σ) (x0 x1 x2 x3 : Int) (hx0 : zr x0) (hx1 : zr x1) (hx2 : zr x2) (hx3 : zr x3) : Rf (kY_Sto_isTopmost_p11 rz β σ x0 x1 x2 x3) (kC_Sto_isTopmost_p11 rm (cv σ) (i32 x0) (i32 x1) (i32 x2) (i32 x3)) β := by
  unfold kY_Sto_isTopmost_p11 kC_Sto_isTopmost_p11
  refine Rf_bnd hR hσ (zrs_cons hx0 (zrs_cons (by decide) zrs_nil)) (e_cons rfl (e_cons (by decide) rfl)) (fun σ1 r1 hσ1 hr1 => ?_)
  refine Rf_le rfl rfl hr1 hx3 (fun _ => ?_) (fun _ => ?_)
  · exact Rf_some hσ1 (by decide) (by decide)
  · refine Rf_eq rfl rfl hx2 hx1 (fun _ => ?_) (fun _ => ?_)
    · exact Rf_tail hR hσ1 (zrs_cons hx0 (zrs_cons hx1 (zrs_cons hx2 (zrs_cons hx3 zrs_nil)))) (e_cons rfl (e_cons rfl (e_cons rfl (e_cons rfl rfl))))
    · refine Rf_bnd hR hσ1 (zrs_cons hx2 (zrs_cons hx1 zrs_nil)) (e_cons rfl (e_cons rfl rfl)) (fun σ2 r2 hσ2 hr2 => ?_)
      refine Rf_eq rfl (by decide) hr2 (by decide) (fun _ => ?_) (fun _ => ?_)
      · exact Rf_tail hR hσ2 (zrs_cons hx0 (zrs_cons hx1 (zrs_cons hx2 (zrs_cons hx3 zrs_nil)))) (e_cons rfl (e_cons rfl (e_cons rfl (e_cons rfl rfl))))
      · exact Rf_some hσ2 (by decide) (by decide)
theorem rY_Sto_isTopmost_p38 (rz : zF) (rm : mF) (hR : Rc rz rm) (β : Nat) (σ : zS) (hσ : zOK σ) (x0 x1 x2 x3 : Int) (hx0 : zr x0) (hx1 : zr x1) (hx2 : zr x2) (hx3 : zr x3) : Rf (kY_Sto_isTopmost_p38 rz β σ x0 x1 x2 x3) (kC_Sto_isTopmost_p38 rm (cv σ) (i32 x0) (i32 x1) (i32 x2) (i32 x3)) β := by
  unfold kY_Sto_isTopmost_p38 kC_Sto_isTopmost_p38
  refine Rf_bnd hR hσ (zrs_cons hx2 zrs_nil) (e_cons rfl rfl) (fun σ1 r1 hσ1 hr1 => ?_)
  refine Rf_g (fun hg1 => ?_)
  exact Rf_tail hR hσ1 (zrs_cons hx0 (zrs_cons hx1 (zrs_cons hr1 (zrs_cons hg1 zrs_nil)))) (e_cons rfl (e_cons rfl (e_cons rfl (e_cons (e_add rfl (by decide)) rfl))))
theorem rY_Sto_isUsable (rz : zF) (rm : mF) (hR : Rc rz rm) (β : Nat) (σ : zS) (hσ : zOK σ) (x0 x1 : Int) (hx0 : zr x0) (hx1 : zr x1) : Rf (kY_Sto_isUsable rz β σ x0 x1) (kC_Sto_isUsable rm (cv σ) (i32 x0) (i32 x1)) β := by
  unfold kY_Sto_isUsable kC_Sto_isUsable
  refine Rf_g (fun hg1 => ?_)
  refine Rf_rd (e_add rfl (by decide)) hg1 (fun hb2 => ?_)
  refine Rf_eq (e_rd (e_add rfl (by decide)) hb2) (by decide) (hσ.2.1 _ _) (by decide) (fun _ => ?_) (fun _ => ?_)
  · exact Rf_tail hR hσ (zrs_cons hx0 (zrs_cons hx1 (zrs_cons (hσ.2.1 _ _) zrs_nil))) (e_cons rfl (e_cons rfl (e_cons (e_rd (e_add rfl (by decide)) hb2) rfl)))
  · refine Rf_g (fun hg3 => ?_)
    refine Rf_eq (e_rd (e_add rfl (by decide)) hb2) (e_add rfl (by decide)) (hσ.2.1 _ _) hg3 (fun _ => ?_) (fun _ => ?_)
    · exact Rf_tail hR hσ (zrs_cons hx0 (zrs_cons hx1 (zrs_cons (hσ.2.1 _ _) zrs_nil))) (e_cons rfl (e_cons rfl (e_cons (e_rd (e_add rfl (by decide)) hb2) rfl)))
    · exact Rf_tail hR hσ (zrs_cons hx0 (zrs_cons hx1 (zrs_cons (hσ.2.1 _ _) (zrs_cons (by decide) zrs_nil)))) (e_cons rfl (e_cons rfl (e_cons (e_rd (e_add rfl (by decide)) hb2) (e_cons (by decide) rfl))))
theorem rY_Sto_isUsable_p23 (rz : zF) (rm : mF) (hR : Rc rz rm) (β : Nat) (σ : zS) (hσ : zOK σ) (x0 x1 x2 : Int) (hx0 : zr x0) (hx1 : zr x1) (hx2 : zr x2) : Rf (kY_Sto_isUsable_p23 rz β σ x0 x1 x2) (kC_Sto_isUsable_p23 rm (cv σ) (i32 x0) (i32 x1) (i32 x2)) β := by
  unfold kY_Sto_isUsable_p23 kC_Sto_isUsable_p23
  exact Rf_tail hR hσ (zrs_cons hx0 (zrs_cons hx1 (zrs_cons hx2 (zrs_cons (by decide) zrs_nil)))) (e_cons rfl (e_cons rfl (e_cons rfl (e_cons (by decide) rfl))))
theorem rY_Sto_isUsable_p28 (rz : zF) (rm : mF) (hR : Rc rz rm) (β : Nat) (σ : zS) (hσ : zOK σ) (x0 x1 x2 x3 : Int) (hx0 : zr x0) (hx1 : zr x1) (hx2 : zr x2) (hx3 : zr x3) : Rf (kY_Sto_isUsable_p28 rz β σ x0 x1 x2 x3) (kC_Sto_isUsable_p28 rm (cv σ) (i32 x0) (i32 x1) (i32 x2) (i32 x3)) β := by
  unfold kY_Sto_isUsable_p28 kC_Sto_isUsable_p28
  refine Rf_01 rfl hx3 (fun hb1 => ?_)
  exact Rf_some hσ hx3 rfl
theorem rY_Sto_judge (rz : zF) (rm : mF) (hR : Rc rz rm) (β : Nat) (σ : zS) (hσ : zOK σ) (x0 : Int) (hx0 : zr x0) : Rf (kY_Sto_judge rz β σ x0) (kC_Sto_judge rm (cv σ) (i32 x0)) β := by
  unfold kY_Sto_judge kC_Sto_judge
  refine Rf_bnd hR hσ (zrs_cons hx0 zrs_nil) (e_cons rfl rfl) (fun σ1 r1 hσ1 hr1 => ?_)
  refine Rf_bnd hR hσ1 (zrs_cons hx0 (zrs_cons (by decide) zrs_nil)) (e_cons rfl (e_cons (by decide) rfl)) (fun σ2 r2 hσ2 hr2 => ?_)
  exact Rf_tail hR hσ2 (zrs_cons hx0 (zrs_cons hr1 (zrs_cons hr2 (zrs_cons (by decide) zrs_nil)))) (e_cons rfl (e_cons rfl (e_cons rfl (e_cons (by decide) rfl))))
theorem rY_Sto_judge_p17 (rz : zF) (rm : mF) (hR : Rc rz rm) (β : Nat) (σ : zS) (hσ : zOK σ) (x0 x1 x2 x3 : Int) (hx0 : zr x0) (hx1 : zr x1) (hx2 : zr x2) (hx3 : zr x3) : Rf (kY_Sto_judge_p17 rz β σ x0 x1 x2 x3) (kC_Sto_judge_p17 rm (cv σ) (i32 x0) (i32 x1) (i32 x2) (i32 x3)) β := by
  unfold kY_Sto_judge_p17 kC_Sto_judge_p17
  refine Rf_bnd hR hσ (zrs_cons hx0 (zrs_cons (by decide) zrs_nil)) (e_cons rfl (e_cons (by decide) rfl)) (fun σ1 r1 hσ1 hr1 => ?_)
  refine Rf_le rfl rfl hr1 hx3 (fun _ => ?_) (fun _ => ?_)
  · exact Rf_some hσ1 (by decide) (by decide)
  · refine Rf_bnd hR hσ1 (zrs_cons hx2 (zrs_cons (by decide) zrs_nil)) (e_cons rfl (e_cons (by decide) rfl)) (fun σ2 r2 hσ2 hr2 => ?_)
    refine Rf_bnd hR hσ2 (zrs_cons hx2 (zrs_cons (by decide) zrs_nil)) (e_cons rfl (e_cons (by decide) rfl)) (fun σ3 r3 hσ3 hr3 => ?_)
    refine Rf_eq rfl (by decide) hx1 (by decide) (fun _ => ?_) (fun _ => ?_)
    · refine Rf_bnd hR hσ3 (zrs_cons hx0 (zrs_cons hx2 zrs_nil)) (e_cons rfl (e_cons rfl rfl)) (fun σ4 r4 hσ4 hr4 => ?_)
      exact Rf_tail hR hσ4 (zrs_cons hx0 (zrs_cons hx1 (zrs_cons hx2 (zrs_cons hx3 (zrs_cons hr2 (zrs_cons hr3 (zrs_cons hr4 zrs_nil))))))) (e_cons rfl (e_cons rfl (e_cons rfl (e_cons rfl (e_cons rfl (e_cons rfl (e_cons rfl rfl)))))))
    · refine Rf_eq rfl rfl hx1 hx2 (fun _ => ?_) (fun _ => ?_)
      · exact Rf_tail hR hσ3 (zrs_cons hx0 (zrs_cons hx1 (zrs_cons hx2 (zrs_cons hx3 (zrs_cons hr2 (zrs_cons hr3 (zrs_cons (by decide) zrs_nil))))))) (e_cons rfl (e_cons rfl (e_cons rfl (e_cons rfl (e_cons rfl (e_cons rfl (e_cons (by decide) rfl)))))))
      · exact Rf_tail hR hσ3 (zrs_cons hx0 (zrs_cons hx1 (zrs_cons hx2 (zrs_cons hx3 (zrs_cons hr2 (zrs_cons hr3 (zrs_cons (by decide) zrs_nil))))))) (e_cons rfl (e_cons rfl (e_cons rfl (e_cons rfl (e_cons rfl (e_cons rfl (e_cons (by decide) rfl)))))))
theorem rY_Sto_judge_p68 (rz : zF) (rm : mF) (hR : Rc rz rm) (β : Nat) (σ : zS) (hσ : zOK σ) (x0 x1 x2 x3 x4 x5 x6 : Int) (hx0 : zr x0) (hx1 : zr x1) (hx2 : zr x2) (hx3 : zr x3) (hx4 : zr x4) (hx5 : zr x5) (hx6 : zr x6) : Rf (kY_Sto_judge_p68 rz β σ x0 x1 x2 x3 x4 x5 x6) (kC_Sto_judge_p68 rm (cv σ) (i32 x0) (i32 x1) (i32 x2) (i32 x3) (i32 x4) (i32 x5) (i32 x6)) β := by
  unfold kY_Sto_judge_p68 kC_Sto_judge_p68
  refine Rf_bnd hR hσ (zrs_cons hx4 (zrs_cons hx5 zrs_nil)) (e_cons rfl (e_cons rfl rfl)) (fun σ1 r1 hσ1 hr1 => ?_)
  refine Rf_eq rfl (by decide) hr1 (by decide) (fun _ => ?_) (fun _ => ?_)
  · refine Rf_bnd hR hσ1 (zrs_cons hx5 (zrs_cons hx4 zrs_nil)) (e_cons rfl (e_cons rfl rfl)) (fun σ2 r2 hσ2 hr2 => ?_)
    refine Rf_eq rfl (by decide) hr2 (by decide) (fun _ => ?_) (fun _ => ?_)
    · refine Rf_g (fun hg1 => ?_)
      exact Rf_tail hR hσ2 (zrs_cons hx0 (zrs_cons hx1 (zrs_cons hx2 (zrs_cons hx3 (zrs_cons hx4 (zrs_cons hx5 (zrs_cons hx6 (zrs_cons (by decide) (zrs_cons hg1 zrs_nil))))))))) (e_cons rfl (e_cons rfl (e_cons rfl (e_cons rfl (e_cons rfl (e_cons rfl (e_cons rfl (e_cons (by decide) (e_cons (e_add rfl (by decide)) rfl)))))))))
    · refine Rf_g (fun hg2 => ?_)
      exact Rf_tail hR hσ2 (zrs_cons hx0 (zrs_cons hx1 (zrs_cons hx2 (zrs_cons hx3 (zrs_cons hx4 (zrs_cons hx5 (zrs_cons hx6 (zrs_cons (by decide) (zrs_cons hg2 zrs_nil))))))))) (e_cons rfl (e_cons rfl (e_cons rfl (e_cons rfl (e_cons rfl (e_cons rfl (e_cons rfl (e_cons (by decide) (e_cons (e_add rfl (by decide)) rfl)))))))))
  · refine Rf_g (fun hg3 => ?_)
    exact Rf_tail hR hσ1 (zrs_cons hx0 (zrs_cons hx1 (zrs_cons hx2 (zrs_cons hx3 (zrs_cons hx4 (zrs_cons hx5 (zrs_cons hx6 (zrs_cons (by decide) (zrs_cons hg3 zrs_nil))))))))) (e_cons rfl (e_cons rfl (e_cons rfl (e_cons rfl (e_cons rfl (e_cons rfl (e_cons rfl (e_cons (by decide) (e_cons (e_add rfl (by decide)) rfl)))))))))
theorem rY_Sto_judge_p145 (rz : zF) (rm : mF) (hR : Rc rz rm) (β : Nat) (σ : zS) (hσ : zOK σ) (x0 x1 x2 x3 x4 x5 x6 x7 x8 : Int) (hx0 : zr x0) (hx1 : zr x1) (hx2 : zr x2) (hx3 : zr x3) (hx4 : zr x4) (hx5 : zr x5) (hx6 : zr x6) (hx7 : zr x7) (hx8 : zr x8) : Rf (kY_Sto_judge_p145 rz β σ x0 x1 x2 x3 x4 x5 x6 x7 x8) (kC_Sto_judge_p145 rm (cv σ) (i32 x0) (i32 x1) (i32 x2) (i32 x3) (i32 x4) (i32 x5) (i32 x6) (i32 x7) (i32 x8)) β := by
  unfold kY_Sto_judge_p145 kC_Sto_judge_p145
  refine Rf_rd rfl hx8 (fun hb1 => ?_)
  refine Rf_A rfl hb1 rfl hx7 hσ (fun σ1 hσ1 => ?_)
  refine Rf_eq rfl (by decide) hx6 (by decide) (fun _ => ?_) (fun _ => ?_)
  · refine Rf_g (fun hg2 => ?_)
    exact Rf_tail hR hσ1 (zrs_cons hx0 (zrs_cons hx1 (zrs_cons hx2 (zrs_cons hx3 (zrs_cons hx4 (zrs_cons hx5 (zrs_cons hx6 (zrs_cons (by decide) (zrs_cons hg2 zrs_nil))))))))) (e_cons rfl (e_cons rfl (e_cons rfl (e_cons rfl (e_cons rfl (e_cons rfl (e_cons rfl (e_cons (by decide) (e_cons (e_add rfl (by decide)) rfl)))))))))
  · refine Rf_g (fun hg3 => ?_)
    exact Rf_tail hR hσ1 (zrs_cons hx0 (zrs_cons hx1 (zrs_cons hx2 (zrs_cons hx3 (zrs_cons hx4 (zrs_cons hx5 (zrs_cons hx6 (zrs_cons (by decide) (zrs_cons hg3 zrs_nil))))))))) (e_cons rfl (e_cons rfl (e_cons rfl (e_cons rfl (e_cons rfl (e_cons rfl (e_cons rfl (e_cons (by decide) (e_cons (e_add rfl (by decide)) rfl)))))))))
theorem rY_Sto_judge_p166 (rz : zF) (rm : mF) (hR : Rc rz rm) (β : Nat) (σ : zS) (hσ : zOK σ) (x0 x1 x2 x3 x4 x5 x6 x7 x8 : Int) (hx0 : zr x0) (hx1 : zr x1) (hx2 : zr x2) (hx3 : zr x3) (hx4 : zr x4) (hx5 : zr x5) (hx6 : zr x6) (hx7 : zr x7) (hx8 : zr x8) : Rf (kY_Sto_judge_p166 rz β σ x0 x1 x2 x3 x4 x5 x6 x7 x8) (kC_Sto_judge_p166 rm (cv σ) (i32 x0) (i32 x1) (i32 x2) (i32 x3) (i32 x4) (i32 x5) (i32 x6) (i32 x7) (i32 x8)) β := by
  unfold kY_Sto_judge_p166 kC_Sto_judge_p166
  refine Rf_rd rfl hx8 (fun hb1 => ?_)
  refine Rf_A rfl hb1 rfl hx7 hσ (fun σ1 hσ1 => ?_)
  refine Rf_bnd hR hσ1 (zrs_cons hx2 zrs_nil) (e_cons rfl rfl) (fun σ2 r2 hσ2 hr2 => ?_)
  refine Rf_g (fun hg2 => ?_)
  exact Rf_tail hR hσ2 (zrs_cons hx0 (zrs_cons hx1 (zrs_cons hr2 (zrs_cons hg2 zrs_nil)))) (e_cons rfl (e_cons rfl (e_cons rfl (e_cons (e_add rfl (by decide)) rfl))))
theorem rY_Sto_selectedOf (rz : zF) (rm : mF) (hR : Rc rz rm) (β : Nat) (σ : zS) (hσ : zOK σ) (x0 : Int) (hx0 : zr x0) : Rf (kY_Sto_selectedOf rz β σ x0) (kC_Sto_selectedOf rm (cv σ) (i32 x0)) β := by
  unfold kY_Sto_selectedOf kC_Sto_selectedOf
  refine Rf_bnd hR hσ (zrs_cons hx0 (zrs_cons (by decide) zrs_nil)) (e_cons rfl (e_cons (by decide) rfl)) (fun σ1 r1 hσ1 hr1 => ?_)
  exact Rf_tail hR hσ1 (zrs_cons hx0 (zrs_cons (by decide) (zrs_cons (by decide) (zrs_cons hr1 (zrs_cons (by decide) zrs_nil))))) (e_cons rfl (e_cons (by decide) (e_cons (by decide) (e_cons rfl (e_cons (by decide) rfl)))))
theorem rY_Sto_selectedOf_p16 (rz : zF) (rm : mF) (hR : Rc rz rm) (β : Nat) (σ : zS) (hσ : zOK σ) (x0 x1 x2 x3 x4 : Int) (hx0 : zr x0) (hx1 : zr x1) (hx2 : zr x2) (hx3 : zr x3) (hx4 : zr x4) : Rf (kY_Sto_selectedOf_p16 rz β σ x0 x1 x2 x3 x4) (kC_Sto_selectedOf_p16 rm (cv σ) (i32 x0) (i32 x1) (i32 x2) (i32 x3) (i32 x4)) β := by
  unfold kY_Sto_selectedOf_p16 kC_Sto_selectedOf_p16
  refine Rf_bnd hR hσ (zrs_cons hx0 (zrs_cons (by decide) zrs_nil)) (e_cons rfl (e_cons (by decide) rfl)) (fun σ1 r1 hσ1 hr1 => ?_)
  refine Rf_le rfl rfl hr1 hx4 (fun _ => ?_) (fun _ => ?_)
  · exact Rf_some hσ1 hx1 rfl
  · refine Rf_g (fun hg1 => ?_)
    refine Rf_rd (e_add rfl (by decide)) hg1 (fun hb2 => ?_)
    refine Rf_g (fun hg3 => ?_)
    refine Rf_rd (e_add rfl (by decide)) hg3 (fun hb4 => ?_)
    refine Rf_bnd hR hσ1 (zrs_cons hx3 zrs_nil) (e_cons rfl rfl) (fun σ2 r2 hσ2 hr2 => ?_)
    refine Rf_eq rfl (by decide) hr2 (by decide) (fun _ => ?_) (fun _ => ?_)
    · refine Rf_g (fun hg5 => ?_)
      refine Rf_le (e_add (e_rd (e_add rfl (by decide)) hb2) (e_rd (e_add rfl (by decide)) hb4)) rfl hg5 hx2 (fun _ => ?_) (fun _ => ?_)
      · exact Rf_tail hR hσ2 (zrs_cons hx0 (zrs_cons hx1 (zrs_cons hx2 (zrs_cons hx3 (zrs_cons hx4 (zrs_cons hg5 zrs_nil)))))) (e_cons rfl (e_cons rfl (e_cons rfl (e_cons rfl (e_cons rfl (e_cons (e_add (e_rd (e_add rfl (by decide)) hb2) (e_rd (e_add rfl (by decide)) hb4)) rfl))))))
      · exact Rf_tail hR hσ2 (zrs_cons hx0 (zrs_cons hx3 (zrs_cons hg5 (zrs_cons hx3 (zrs_cons hx4 (zrs_cons hg5 zrs_nil)))))) (e_cons rfl (e_cons rfl (e_cons (e_add (e_rd (e_add rfl (by decide)) hb2) (e_rd (e_add rfl (by decide)) hb4)) (e_cons rfl (e_cons rfl (e_cons (e_add (e_rd (e_add rfl (by decide)) hb2) (e_rd (e_add rfl (by decide)) hb4)) rfl))))))
    · refine Rf_g (fun hg6 => ?_)
      exact Rf_tail hR hσ2 (zrs_cons hx0 (zrs_cons hx1 (zrs_cons hx2 (zrs_cons hx3 (zrs_cons hx4 (zrs_cons hg6 zrs_nil)))))) (e_cons rfl (e_cons rfl (e_cons rfl (e_cons rfl (e_cons rfl (e_cons (e_add (e_rd (e_add rfl (by decide)) hb2) (e_rd (e_add rfl (by decide)) hb4)) rfl))))))
theorem rY_Sto_selectedOf_p75 (rz : zF) (rm : mF) (hR : Rc rz rm) (β : Nat) (σ : zS) (hσ : zOK σ) (x0 x1 x2 x3 x4 x5 : Int) (hx0 : zr x0) (hx1 : zr x1) (hx2 : zr x2) (hx3 : zr x3) (hx4 : zr x4) (hx5 : zr x5) : Rf (kY_Sto_selectedOf_p75 rz β σ x0 x1 x2 x3 x4 x5) (kC_Sto_selectedOf_p75 rm (cv σ) (i32 x0) (i32 x1) (i32 x2) (i32 x3) (i32 x4) (i32 x5)) β := by
  unfold kY_Sto_selectedOf_p75 kC_Sto_selectedOf_p75
  refine Rf_bnd hR hσ (zrs_cons hx3 zrs_nil) (e_cons rfl rfl) (fun σ1 r1 hσ1 hr1 => ?_)
  refine Rf_g (fun hg1 => ?_)
  exact Rf_tail hR hσ1 (zrs_cons hx0 (zrs_cons hx1 (zrs_cons hx2 (zrs_cons hr1 (zrs_cons hg1 zrs_nil))))) (e_cons rfl (e_cons rfl (e_cons rfl (e_cons rfl (e_cons (e_add rfl (by decide)) rfl)))))
theorem rY_Sto_setFact (rz : zF) (rm : mF) (hR : Rc rz rm) (β : Nat) (σ : zS) (hσ : zOK σ) (x0 x1 x2 : Int) (hx0 : zr x0) (hx1 : zr x1) (hx2 : zr x2) : Rf (kY_Sto_setFact rz β σ x0 x1 x2) (kC_Sto_setFact rm (cv σ) (i32 x0) (i32 x1) (i32 x2)) β := by
  unfold kY_Sto_setFact kC_Sto_setFact
  refine Rf_g (fun hg1 => ?_)
  refine Rf_g (fun hg2 => ?_)
  refine Rf_rd (e_add (e_mul rfl (by decide)) rfl) hg2 (fun hb3 => ?_)
  refine Rf_A (e_add (e_mul rfl (by decide)) rfl) hb3 rfl hx2 hσ (fun σ1 hσ1 => ?_)
  exact Rf_some hσ1 (by decide) (by decide)
theorem rY_Sto_sideAt (rz : zF) (rm : mF) (hR : Rc rz rm) (β : Nat) (σ : zS) (hσ : zOK σ) (x0 x1 : Int) (hx0 : zr x0) (hx1 : zr x1) : Rf (kY_Sto_sideAt rz β σ x0 x1) (kC_Sto_sideAt rm (cv σ) (i32 x0) (i32 x1)) β := by
  unfold kY_Sto_sideAt kC_Sto_sideAt
  refine Rf_eq rfl (by decide) hx1 (by decide) (fun _ => ?_) (fun _ => ?_)
  · refine Rf_g (fun hg1 => ?_)
    exact Rf_tail hR hσ (zrs_cons hx0 (zrs_cons hx1 (zrs_cons (by decide) (zrs_cons hg1 zrs_nil)))) (e_cons rfl (e_cons rfl (e_cons (by decide) (e_cons (e_add rfl (by decide)) rfl))))
  · refine Rf_g (fun hg2 => ?_)
    refine Rf_rd (e_add rfl (by decide)) hg2 (fun hb3 => ?_)
    refine Rf_g (fun hg4 => ?_)
    exact Rf_tail hR hσ (zrs_cons hx0 (zrs_cons hx1 (zrs_cons (hσ.2.1 _ _) (zrs_cons hg4 zrs_nil)))) (e_cons rfl (e_cons rfl (e_cons (e_rd (e_add rfl (by decide)) hb3) (e_cons (e_add rfl (by decide)) rfl))))
theorem rY_Sto_sideAt_p22 (rz : zF) (rm : mF) (hR : Rc rz rm) (β : Nat) (σ : zS) (hσ : zOK σ) (x0 x1 x2 x3 : Int) (hx0 : zr x0) (hx1 : zr x1) (hx2 : zr x2) (hx3 : zr x3) : Rf (kY_Sto_sideAt_p22 rz β σ x0 x1 x2 x3) (kC_Sto_sideAt_p22 rm (cv σ) (i32 x0) (i32 x1) (i32 x2) (i32 x3)) β := by
  unfold kY_Sto_sideAt_p22 kC_Sto_sideAt_p22
  refine Rf_g (fun hg1 => ?_)
  exact Rf_some hσ hg1 (e_add rfl rfl)
theorem rY_Sto_sideSize (rz : zF) (rm : mF) (hR : Rc rz rm) (β : Nat) (σ : zS) (hσ : zOK σ) (x0 x1 : Int) (hx0 : zr x0) (hx1 : zr x1) : Rf (kY_Sto_sideSize rz β σ x0 x1) (kC_Sto_sideSize rm (cv σ) (i32 x0) (i32 x1)) β := by
  unfold kY_Sto_sideSize kC_Sto_sideSize
  refine Rf_eq rfl (by decide) hx1 (by decide) (fun _ => ?_) (fun _ => ?_)
  · exact Rf_tail hR hσ (zrs_cons hx0 (zrs_cons hx1 (zrs_cons (by decide) (zrs_cons hx0 zrs_nil)))) (e_cons rfl (e_cons rfl (e_cons (by decide) (e_cons rfl rfl))))
  · exact Rf_tail hR hσ (zrs_cons hx0 (zrs_cons hx1 (zrs_cons (by decide) (zrs_cons hx0 zrs_nil)))) (e_cons rfl (e_cons rfl (e_cons (by decide) (e_cons rfl rfl))))
theorem rY_Sto_sideSize_p17 (rz : zF) (rm : mF) (hR : Rc rz rm) (β : Nat) (σ : zS) (hσ : zOK σ) (x0 x1 x2 x3 : Int) (hx0 : zr x0) (hx1 : zr x1) (hx2 : zr x2) (hx3 : zr x3) : Rf (kY_Sto_sideSize_p17 rz β σ x0 x1 x2 x3) (kC_Sto_sideSize_p17 rm (cv σ) (i32 x0) (i32 x1) (i32 x2) (i32 x3)) β := by
  unfold kY_Sto_sideSize_p17 kC_Sto_sideSize_p17
  refine Rf_g (fun hg1 => ?_)
  refine Rf_rd (e_add rfl rfl) hg1 (fun hb2 => ?_)
  exact Rf_some hσ (hσ.2.1 _ _) (e_rd (e_add rfl rfl) hb2)
theorem rY_Sym_addWitness (rz : zF) (rm : mF) (hR : Rc rz rm) (β : Nat) (σ : zS) (hσ : zOK σ) (x0 : Int) (hx0 : zr x0) : Rf (kY_Sym_addWitness rz β σ x0) (kC_Sym_addWitness rm (cv σ) (i32 x0)) β := by
  unfold kY_Sym_addWitness kC_Sym_addWitness
  refine Rf_eq rfl (by decide) (hσ.1 605) (by decide) (fun _ => ?_) (fun _ => ?_)
  · exact Rf_some hσ (by decide) (by decide)
  · refine Rf_rd rfl (hσ.1 605) (fun hb1 => ?_)
    refine Rf_A rfl hb1 (by decide) (by decide) hσ (fun σ1 hσ1 => ?_)
    refine Rf_rd rfl (hσ1.1 605) (fun hb2 => ?_)
    refine Rf_A rfl hb2 rfl hx0 hσ1 (fun σ2 hσ2 => ?_)
    refine Rf_g (fun hg3 => ?_)
    refine Rf_I (e_add rfl (by decide)) hg3 hσ2 (fun σ3 hσ3 => ?_)
    exact Rf_some hσ3 (hσ2.1 605) rfl
theorem rY_Sym_after_16 (rz : zF) (rm : mF) (hR : Rc rz rm) (β : Nat) (σ : zS) (hσ : zOK σ) (x0 : Int) (hx0 : zr x0) : Rf (kY_Sym_after_16 rz β σ x0) (kC_Sym_after_16 rm (cv σ) (i32 x0)) β := by
  unfold kY_Sym_after_16 kC_Sym_after_16
  exact Rf_tail hR hσ (zrs_cons hx0 (zrs_cons (by decide) (zrs_cons hx0 zrs_nil))) (e_cons rfl (e_cons (by decide) (e_cons rfl rfl)))
theorem rY_Sym_after_16_p5 (rz : zF) (rm : mF) (hR : Rc rz rm) (β : Nat) (σ : zS) (hσ : zOK σ) (x0 x1 x2 : Int) (hx0 : zr x0) (hx1 : zr x1) (hx2 : zr x2) : Rf (kY_Sym_after_16_p5 rz β σ x0 x1 x2) (kC_Sym_after_16_p5 rm (cv σ) (i32 x0) (i32 x1) (i32 x2)) β := by
  unfold kY_Sym_after_16_p5 kC_Sym_after_16_p5
  refine Rf_le (e_len hσ _) rfl (hσ.2.2 16) hx2 (fun _ => ?_) (fun _ => ?_)
  · exact Rf_tail hR hσ (zrs_cons hx0 (zrs_cons hx1 (zrs_cons hx2 zrs_nil))) (e_cons rfl (e_cons rfl (e_cons rfl rfl)))
  · refine Rf_le rfl (by decide) hx1 (by decide) (fun _ => ?_) (fun _ => ?_)
    · exact Rf_tail hR hσ (zrs_cons hx0 (zrs_cons hx1 (zrs_cons hx2 zrs_nil))) (e_cons rfl (e_cons rfl (e_cons rfl rfl)))
    · refine Rf_rd rfl hx2 (fun hb1 => ?_)
      refine Rf_le (by decide) (e_rd rfl hb1) (by decide) (hσ.2.1 _ _) (fun _ => ?_) (fun _ => ?_)
      · refine Rf_rd2 rfl hb1 ?_
        refine Rf_rd (e_rd rfl hb1) (hσ.2.1 _ _) (fun hb2 => ?_)
        refine Rf_g (fun hg3 => ?_)
        exact Rf_tail hR hσ (zrs_cons hx0 (zrs_cons hx1 (zrs_cons hx2 (zrs_cons hg3 (zrs_cons hx1 zrs_nil))))) (e_cons rfl (e_cons rfl (e_cons rfl (e_cons (e_sub (e_rd (e_rd rfl hb1) hb2) (by decide)) (e_cons rfl rfl)))))
      · exact Rf_tail hR hσ (zrs_cons hx0 (zrs_cons hx1 (zrs_cons hx2 (zrs_cons (by decide) (zrs_cons hx1 zrs_nil))))) (e_cons rfl (e_cons rfl (e_cons rfl (e_cons (by decide) (e_cons rfl rfl)))))
theorem rY_Sym_after_16_p39 (rz : zF) (rm : mF) (hR : Rc rz rm) (β : Nat) (σ : zS) (hσ : zOK σ) (x0 x1 x2 x3 x4 : Int) (hx0 : zr x0) (hx1 : zr x1) (hx2 : zr x2) (hx3 : zr x3) (hx4 : zr x4) : Rf (kY_Sym_after_16_p39 rz β σ x0 x1 x2 x3 x4) (kC_Sym_after_16_p39 rm (cv σ) (i32 x0) (i32 x1) (i32 x2) (i32 x3) (i32 x4)) β := by
  unfold kY_Sym_after_16_p39 kC_Sym_after_16_p39
  refine Rf_g (fun hg1 => ?_)
  refine Rf_g (fun hg2 => ?_)
  exact Rf_tail hR hσ (zrs_cons hx0 (zrs_cons hg1 (zrs_cons hg2 zrs_nil))) (e_cons rfl (e_cons (e_add rfl rfl) (e_cons (e_add rfl (by decide)) rfl)))
theorem rY_Sym_after_16_p47 (rz : zF) (rm : mF) (hR : Rc rz rm) (β : Nat) (σ : zS) (hσ : zOK σ) (x0 x1 x2 : Int) (hx0 : zr x0) (hx1 : zr x1) (hx2 : zr x2) : Rf (kY_Sym_after_16_p47 rz β σ x0 x1 x2) (kC_Sym_after_16_p47 rm (cv σ) (i32 x0) (i32 x1) (i32 x2)) β := by
  unfold kY_Sym_after_16_p47 kC_Sym_after_16_p47
  exact Rf_some hσ hx2 rfl
theorem rY_Sym_after_40 (rz : zF) (rm : mF) (hR : Rc rz rm) (β : Nat) (σ : zS) (hσ : zOK σ) (x0 : Int) (hx0 : zr x0) : Rf (kY_Sym_after_40 rz β σ x0) (kC_Sym_after_40 rm (cv σ) (i32 x0)) β := by
  unfold kY_Sym_after_40 kC_Sym_after_40
  exact Rf_tail hR hσ (zrs_cons hx0 (zrs_cons (by decide) (zrs_cons hx0 zrs_nil))) (e_cons rfl (e_cons (by decide) (e_cons rfl rfl)))
theorem rY_Sym_after_40_p5 (rz : zF) (rm : mF) (hR : Rc rz rm) (β : Nat) (σ : zS) (hσ : zOK σ) (x0 x1 x2 : Int) (hx0 : zr x0) (hx1 : zr x1) (hx2 : zr x2) : Rf (kY_Sym_after_40_p5 rz β σ x0 x1 x2) (kC_Sym_after_40_p5 rm (cv σ) (i32 x0) (i32 x1) (i32 x2)) β := by
  unfold kY_Sym_after_40_p5 kC_Sym_after_40_p5
  refine Rf_le (by decide) rfl (by decide) hx2 (fun _ => ?_) (fun _ => ?_)
  · exact Rf_tail hR hσ (zrs_cons hx0 (zrs_cons hx1 (zrs_cons hx2 zrs_nil))) (e_cons rfl (e_cons rfl (e_cons rfl rfl)))
  · refine Rf_le rfl (by decide) hx1 (by decide) (fun _ => ?_) (fun _ => ?_)
    · exact Rf_tail hR hσ (zrs_cons hx0 (zrs_cons hx1 (zrs_cons hx2 zrs_nil))) (e_cons rfl (e_cons rfl (e_cons rfl rfl)))
    · refine Rf_rd rfl hx2 (fun hb1 => ?_)
      refine Rf_le (by decide) (e_rd rfl hb1) (by decide) (hσ.2.1 _ _) (fun _ => ?_) (fun _ => ?_)
      · refine Rf_rd2 rfl hb1 ?_
        refine Rf_rd (e_rd rfl hb1) (hσ.2.1 _ _) (fun hb2 => ?_)
        refine Rf_g (fun hg3 => ?_)
        exact Rf_tail hR hσ (zrs_cons hx0 (zrs_cons hx1 (zrs_cons hx2 (zrs_cons hg3 (zrs_cons hx1 zrs_nil))))) (e_cons rfl (e_cons rfl (e_cons rfl (e_cons (e_sub (e_rd (e_rd rfl hb1) hb2) (by decide)) (e_cons rfl rfl)))))
      · exact Rf_tail hR hσ (zrs_cons hx0 (zrs_cons hx1 (zrs_cons hx2 (zrs_cons (by decide) (zrs_cons hx1 zrs_nil))))) (e_cons rfl (e_cons rfl (e_cons rfl (e_cons (by decide) (e_cons rfl rfl)))))
theorem rY_Sym_after_40_p39 (rz : zF) (rm : mF) (hR : Rc rz rm) (β : Nat) (σ : zS) (hσ : zOK σ) (x0 x1 x2 x3 x4 : Int) (hx0 : zr x0) (hx1 : zr x1) (hx2 : zr x2) (hx3 : zr x3) (hx4 : zr x4) : Rf (kY_Sym_after_40_p39 rz β σ x0 x1 x2 x3 x4) (kC_Sym_after_40_p39 rm (cv σ) (i32 x0) (i32 x1) (i32 x2) (i32 x3) (i32 x4)) β := by
  unfold kY_Sym_after_40_p39 kC_Sym_after_40_p39
  refine Rf_g (fun hg1 => ?_)
  refine Rf_g (fun hg2 => ?_)
  exact Rf_tail hR hσ (zrs_cons hx0 (zrs_cons hg1 (zrs_cons hg2 zrs_nil))) (e_cons rfl (e_cons (e_add rfl rfl) (e_cons (e_add rfl (by decide)) rfl)))
theorem rY_Sym_after_40_p47 (rz : zF) (rm : mF) (hR : Rc rz rm) (β : Nat) (σ : zS) (hσ : zOK σ) (x0 x1 x2 : Int) (hx0 : zr x0) (hx1 : zr x1) (hx2 : zr x2) : Rf (kY_Sym_after_40_p47 rz β σ x0 x1 x2) (kC_Sym_after_40_p47 rm (cv σ) (i32 x0) (i32 x1) (i32 x2)) β := by
  unfold kY_Sym_after_40_p47 kC_Sym_after_40_p47
  exact Rf_some hσ hx2 rfl
theorem rY_Sym_after_48 (rz : zF) (rm : mF) (hR : Rc rz rm) (β : Nat) (σ : zS) (hσ : zOK σ) (x0 : Int) (hx0 : zr x0) : Rf (kY_Sym_after_48 rz β σ x0) (kC_Sym_after_48 rm (cv σ) (i32 x0)) β := by
  unfold kY_Sym_after_48 kC_Sym_after_48
  exact Rf_tail hR hσ (zrs_cons hx0 (zrs_cons (by decide) (zrs_cons hx0 zrs_nil))) (e_cons rfl (e_cons (by decide) (e_cons rfl rfl)))
theorem rY_Sym_after_48_p5 (rz : zF) (rm : mF) (hR : Rc rz rm) (β : Nat) (σ : zS) (hσ : zOK σ) (x0 x1 x2 : Int) (hx0 : zr x0) (hx1 : zr x1) (hx2 : zr x2) : Rf (kY_Sym_after_48_p5 rz β σ x0 x1 x2) (kC_Sym_after_48_p5 rm (cv σ) (i32 x0) (i32 x1) (i32 x2)) β := by
  unfold kY_Sym_after_48_p5 kC_Sym_after_48_p5
  refine Rf_le (e_len hσ _) rfl (hσ.2.2 48) hx2 (fun _ => ?_) (fun _ => ?_)
  · exact Rf_tail hR hσ (zrs_cons hx0 (zrs_cons hx1 (zrs_cons hx2 zrs_nil))) (e_cons rfl (e_cons rfl (e_cons rfl rfl)))
  · refine Rf_le rfl (by decide) hx1 (by decide) (fun _ => ?_) (fun _ => ?_)
    · exact Rf_tail hR hσ (zrs_cons hx0 (zrs_cons hx1 (zrs_cons hx2 zrs_nil))) (e_cons rfl (e_cons rfl (e_cons rfl rfl)))
    · refine Rf_rd rfl hx2 (fun hb1 => ?_)
      refine Rf_le (by decide) (e_rd rfl hb1) (by decide) (hσ.2.1 _ _) (fun _ => ?_) (fun _ => ?_)
      · refine Rf_rd2 rfl hb1 ?_
        refine Rf_rd (e_rd rfl hb1) (hσ.2.1 _ _) (fun hb2 => ?_)
        refine Rf_g (fun hg3 => ?_)
        exact Rf_tail hR hσ (zrs_cons hx0 (zrs_cons hx1 (zrs_cons hx2 (zrs_cons hg3 (zrs_cons hx1 zrs_nil))))) (e_cons rfl (e_cons rfl (e_cons rfl (e_cons (e_sub (e_rd (e_rd rfl hb1) hb2) (by decide)) (e_cons rfl rfl)))))
      · exact Rf_tail hR hσ (zrs_cons hx0 (zrs_cons hx1 (zrs_cons hx2 (zrs_cons (by decide) (zrs_cons hx1 zrs_nil))))) (e_cons rfl (e_cons rfl (e_cons rfl (e_cons (by decide) (e_cons rfl rfl)))))
theorem rY_Sym_after_48_p39 (rz : zF) (rm : mF) (hR : Rc rz rm) (β : Nat) (σ : zS) (hσ : zOK σ) (x0 x1 x2 x3 x4 : Int) (hx0 : zr x0) (hx1 : zr x1) (hx2 : zr x2) (hx3 : zr x3) (hx4 : zr x4) : Rf (kY_Sym_after_48_p39 rz β σ x0 x1 x2 x3 x4) (kC_Sym_after_48_p39 rm (cv σ) (i32 x0) (i32 x1) (i32 x2) (i32 x3) (i32 x4)) β := by
  unfold kY_Sym_after_48_p39 kC_Sym_after_48_p39
  refine Rf_g (fun hg1 => ?_)
  refine Rf_g (fun hg2 => ?_)
  exact Rf_tail hR hσ (zrs_cons hx0 (zrs_cons hg1 (zrs_cons hg2 zrs_nil))) (e_cons rfl (e_cons (e_add rfl rfl) (e_cons (e_add rfl (by decide)) rfl)))
theorem rY_Sym_after_48_p47 (rz : zF) (rm : mF) (hR : Rc rz rm) (β : Nat) (σ : zS) (hσ : zOK σ) (x0 x1 x2 : Int) (hx0 : zr x0) (hx1 : zr x1) (hx2 : zr x2) : Rf (kY_Sym_after_48_p47 rz β σ x0 x1 x2) (kC_Sym_after_48_p47 rm (cv σ) (i32 x0) (i32 x1) (i32 x2)) β := by
  unfold kY_Sym_after_48_p47 kC_Sym_after_48_p47
  exact Rf_some hσ hx2 rfl
theorem rY_Sym_after_68 (rz : zF) (rm : mF) (hR : Rc rz rm) (β : Nat) (σ : zS) (hσ : zOK σ) (x0 : Int) (hx0 : zr x0) : Rf (kY_Sym_after_68 rz β σ x0) (kC_Sym_after_68 rm (cv σ) (i32 x0)) β := by
  unfold kY_Sym_after_68 kC_Sym_after_68
  exact Rf_tail hR hσ (zrs_cons hx0 (zrs_cons (by decide) (zrs_cons hx0 zrs_nil))) (e_cons rfl (e_cons (by decide) (e_cons rfl rfl)))
theorem rY_Sym_after_68_p5 (rz : zF) (rm : mF) (hR : Rc rz rm) (β : Nat) (σ : zS) (hσ : zOK σ) (x0 x1 x2 : Int) (hx0 : zr x0) (hx1 : zr x1) (hx2 : zr x2) : Rf (kY_Sym_after_68_p5 rz β σ x0 x1 x2) (kC_Sym_after_68_p5 rm (cv σ) (i32 x0) (i32 x1) (i32 x2)) β := by
  unfold kY_Sym_after_68_p5 kC_Sym_after_68_p5
  refine Rf_le (by decide) rfl (by decide) hx2 (fun _ => ?_) (fun _ => ?_)
  · exact Rf_tail hR hσ (zrs_cons hx0 (zrs_cons hx1 (zrs_cons hx2 zrs_nil))) (e_cons rfl (e_cons rfl (e_cons rfl rfl)))
  · refine Rf_le rfl (by decide) hx1 (by decide) (fun _ => ?_) (fun _ => ?_)
    · exact Rf_tail hR hσ (zrs_cons hx0 (zrs_cons hx1 (zrs_cons hx2 zrs_nil))) (e_cons rfl (e_cons rfl (e_cons rfl rfl)))
    · refine Rf_rd rfl hx2 (fun hb1 => ?_)
      refine Rf_le (by decide) (e_rd rfl hb1) (by decide) (hσ.2.1 _ _) (fun _ => ?_) (fun _ => ?_)
      · refine Rf_rd2 rfl hb1 ?_
        refine Rf_rd (e_rd rfl hb1) (hσ.2.1 _ _) (fun hb2 => ?_)
        refine Rf_g (fun hg3 => ?_)
        exact Rf_tail hR hσ (zrs_cons hx0 (zrs_cons hx1 (zrs_cons hx2 (zrs_cons hg3 (zrs_cons hx1 zrs_nil))))) (e_cons rfl (e_cons rfl (e_cons rfl (e_cons (e_sub (e_rd (e_rd rfl hb1) hb2) (by decide)) (e_cons rfl rfl)))))
      · exact Rf_tail hR hσ (zrs_cons hx0 (zrs_cons hx1 (zrs_cons hx2 (zrs_cons (by decide) (zrs_cons hx1 zrs_nil))))) (e_cons rfl (e_cons rfl (e_cons rfl (e_cons (by decide) (e_cons rfl rfl)))))
theorem rY_Sym_after_68_p39 (rz : zF) (rm : mF) (hR : Rc rz rm) (β : Nat) (σ : zS) (hσ : zOK σ) (x0 x1 x2 x3 x4 : Int) (hx0 : zr x0) (hx1 : zr x1) (hx2 : zr x2) (hx3 : zr x3) (hx4 : zr x4) : Rf (kY_Sym_after_68_p39 rz β σ x0 x1 x2 x3 x4) (kC_Sym_after_68_p39 rm (cv σ) (i32 x0) (i32 x1) (i32 x2) (i32 x3) (i32 x4)) β := by
  unfold kY_Sym_after_68_p39 kC_Sym_after_68_p39
  refine Rf_g (fun hg1 => ?_)
  refine Rf_g (fun hg2 => ?_)
  exact Rf_tail hR hσ (zrs_cons hx0 (zrs_cons hg1 (zrs_cons hg2 zrs_nil))) (e_cons rfl (e_cons (e_add rfl rfl) (e_cons (e_add rfl (by decide)) rfl)))
theorem rY_Sym_after_68_p47 (rz : zF) (rm : mF) (hR : Rc rz rm) (β : Nat) (σ : zS) (hσ : zOK σ) (x0 x1 x2 : Int) (hx0 : zr x0) (hx1 : zr x1) (hx2 : zr x2) : Rf (kY_Sym_after_68_p47 rz β σ x0 x1 x2) (kC_Sym_after_68_p47 rm (cv σ) (i32 x0) (i32 x1) (i32 x2)) β := by
  unfold kY_Sym_after_68_p47 kC_Sym_after_68_p47
  exact Rf_some hσ hx2 rfl
theorem rY_Sym_clear (rz : zF) (rm : mF) (hR : Rc rz rm) (β : Nat) (σ : zS) (hσ : zOK σ) : Rf (kY_Sym_clear rz β σ) (kC_Sym_clear rm (cv σ)) β := by
  unfold kY_Sym_clear kC_Sym_clear
  refine Rf_I (by decide) (by decide) hσ (fun σ1 hσ1 => ?_)
  refine Rf_I (by decide) (by decide) hσ1 (fun σ2 hσ2 => ?_)
  refine Rf_I (by decide) (by decide) hσ2 (fun σ3 hσ3 => ?_)
  exact Rf_some hσ3 (by decide) (by decide)
theorem rY_Sym_greater_40_68 (rz : zF) (rm : mF) (hR : Rc rz rm) (β : Nat) (σ : zS) (hσ : zOK σ) (x0 x1 : Int) (hx0 : zr x0) (hx1 : zr x1) : Rf (kY_Sym_greater_40_68 rz β σ x0 x1) (kC_Sym_greater_40_68 rm (cv σ) (i32 x0) (i32 x1)) β := by
  unfold kY_Sym_greater_40_68 kC_Sym_greater_40_68
  exact Rf_tail hR hσ (zrs_cons hx0 (zrs_cons hx1 (zrs_cons hx0 (zrs_cons hx1 (zrs_cons (by decide) zrs_nil))))) (e_cons rfl (e_cons rfl (e_cons rfl (e_cons rfl (e_cons (by decide) rfl)))))
theorem rY_Sym_greater_40_68_p10 (rz : zF) (rm : mF) (hR : Rc rz rm) (β : Nat) (σ : zS) (hσ : zOK σ) (x0 x1 x2 x3 x4 : Int) (hx0 : zr x0) (hx1 : zr x1) (hx2 : zr x2) (hx3 : zr x3) (hx4 : zr x4) : Rf (kY_Sym_greater_40_68_p10 rz β σ x0 x1 x2 x3 x4) (kC_Sym_greater_40_68_p10 rm (cv σ) (i32 x0) (i32 x1) (i32 x2) (i32 x3) (i32 x4)) β := by
  unfold kY_Sym_greater_40_68_p10 kC_Sym_greater_40_68_p10
  refine Rf_lt (by decide) rfl (by decide) hx4 (fun _ => ?_) (fun _ => ?_)
  · exact Rf_some hσ (by decide) (by decide)
  · refine Rf_bnd hR hσ (zrs_cons hx2 zrs_nil) (e_cons rfl rfl) (fun σ1 r1 hσ1 hr1 => ?_)
    refine Rf_bnd hR hσ1 (zrs_cons hx3 zrs_nil) (e_cons rfl rfl) (fun σ2 r2 hσ2 hr2 => ?_)
    refine Rf_rd rfl hx2 (fun hb1 => ?_)
    refine Rf_lt (e_rd rfl hb1) (by decide) (hσ2.2.1 _ _) (by decide) (fun _ => ?_) (fun _ => ?_)
    · refine Rf_g (fun hg2 => ?_)
      refine Rf_g (fun hg3 => ?_)
      exact Rf_tail hR hσ2 (zrs_cons hx0 (zrs_cons hx1 (zrs_cons hx2 (zrs_cons hx3 (zrs_cons hx4 (zrs_cons hg2 (zrs_cons hg3 zrs_nil))))))) (e_cons rfl (e_cons rfl (e_cons rfl (e_cons rfl (e_cons rfl (e_cons (e_sub rfl rfl) (e_cons (e_sub rfl rfl) rfl)))))))
    · refine Rf_g (fun hg4 => ?_)
      refine Rf_g (fun hg5 => ?_)
      refine Rf_lt (e_sub rfl rfl) (e_sub rfl rfl) hg4 hg5 (fun _ => ?_) (fun _ => ?_)
      · exact Rf_tail hR hσ2 (zrs_cons hx0 (zrs_cons hx1 (zrs_cons hx2 (zrs_cons hx3 (zrs_cons hx4 (zrs_cons hg4 (zrs_cons hg5 zrs_nil))))))) (e_cons rfl (e_cons rfl (e_cons rfl (e_cons rfl (e_cons rfl (e_cons (e_sub rfl rfl) (e_cons (e_sub rfl rfl) rfl)))))))
      · refine Rf_bnd hR hσ2 (zrs_cons hx2 (zrs_cons hg4 (zrs_cons hx3 (zrs_cons hg5 zrs_nil)))) (e_cons rfl (e_cons (e_sub rfl rfl) (e_cons rfl (e_cons (e_sub rfl rfl) rfl)))) (fun σ3 r3 hσ3 hr3 => ?_)
        refine Rf_eq rfl (by decide) hr3 (by decide) (fun _ => ?_) (fun _ => ?_)
        · exact Rf_tail hR hσ3 (zrs_cons hx0 (zrs_cons hx1 (zrs_cons hx2 (zrs_cons hx3 (zrs_cons hx4 (zrs_cons hg4 (zrs_cons hg5 zrs_nil))))))) (e_cons rfl (e_cons rfl (e_cons rfl (e_cons rfl (e_cons rfl (e_cons (e_sub rfl rfl) (e_cons (e_sub rfl rfl) rfl)))))))
        · refine Rf_le (e_sub rfl rfl) (e_sub rfl rfl) hg4 hg5 (fun _ => ?_) (fun _ => ?_)
          · refine Rf_rd2 rfl hb1 ?_
            refine Rf_rd rfl hx3 (fun hb6 => ?_)
            refine Rf_eq (e_rd rfl hb1) (e_rd rfl hb6) (hσ3.2.1 _ _) (hσ3.2.1 _ _) (fun _ => ?_) (fun _ => ?_)
            · refine Rf_bnd hR hσ3 (zrs_cons hx2 (zrs_cons hx3 (zrs_cons hg4 zrs_nil))) (e_cons rfl (e_cons rfl (e_cons (e_sub rfl rfl) rfl))) (fun σ4 r4 hσ4 hr4 => ?_)
              refine Rf_eq rfl (by decide) hr4 (by decide) (fun _ => ?_) (fun _ => ?_)
              · exact Rf_some hσ4 (by decide) (by decide)
              · refine Rf_g (fun hg7 => ?_)
                refine Rf_g (fun hg8 => ?_)
                refine Rf_g (fun hg9 => ?_)
                exact Rf_tail hR hσ4 (zrs_cons hx0 (zrs_cons hx1 (zrs_cons hg7 (zrs_cons hg8 (zrs_cons hg9 zrs_nil))))) (e_cons rfl (e_cons rfl (e_cons (e_add rfl rfl) (e_cons (e_add rfl rfl) (e_cons (e_add rfl (by decide)) rfl)))))
            · refine Rf_rd2 rfl hb1 ?_
              refine Rf_rd2 rfl hb6 ?_
              refine Rf_le (e_rd rfl hb1) (e_rd rfl hb6) (hσ3.2.1 _ _) (hσ3.2.1 _ _) (fun _ => ?_) (fun _ => ?_)
              · exact Rf_tail hR hσ3 (zrs_cons hx0 (zrs_cons hx1 (zrs_cons hx2 (zrs_cons hx3 (zrs_cons hx4 (zrs_cons hg4 (zrs_cons hg5 (zrs_cons (by decide) zrs_nil)))))))) (e_cons rfl (e_cons rfl (e_cons rfl (e_cons rfl (e_cons rfl (e_cons (e_sub rfl rfl) (e_cons (e_sub rfl rfl) (e_cons (by decide) rfl))))))))
              · exact Rf_tail hR hσ3 (zrs_cons hx0 (zrs_cons hx1 (zrs_cons hx2 (zrs_cons hx3 (zrs_cons hx4 (zrs_cons hg4 (zrs_cons hg5 (zrs_cons (by decide) zrs_nil)))))))) (e_cons rfl (e_cons rfl (e_cons rfl (e_cons rfl (e_cons rfl (e_cons (e_sub rfl rfl) (e_cons (e_sub rfl rfl) (e_cons (by decide) rfl))))))))
          · exact Rf_some hσ3 (by decide) (by decide)
theorem rY_Sym_greater_40_68_p72 (rz : zF) (rm : mF) (hR : Rc rz rm) (β : Nat) (σ : zS) (hσ : zOK σ) (x0 x1 x2 x3 x4 x5 x6 : Int) (hx0 : zr x0) (hx1 : zr x1) (hx2 : zr x2) (hx3 : zr x3) (hx4 : zr x4) (hx5 : zr x5) (hx6 : zr x6) : Rf (kY_Sym_greater_40_68_p72 rz β σ x0 x1 x2 x3 x4 x5 x6) (kC_Sym_greater_40_68_p72 rm (cv σ) (i32 x0) (i32 x1) (i32 x2) (i32 x3) (i32 x4) (i32 x5) (i32 x6)) β := by
  unfold kY_Sym_greater_40_68_p72 kC_Sym_greater_40_68_p72
  exact Rf_some hσ (by decide) (by decide)
theorem rY_Sym_greater_40_68_p110 (rz : zF) (rm : mF) (hR : Rc rz rm) (β : Nat) (σ : zS) (hσ : zOK σ) (x0 x1 x2 x3 x4 x5 x6 x7 : Int) (hx0 : zr x0) (hx1 : zr x1) (hx2 : zr x2) (hx3 : zr x3) (hx4 : zr x4) (hx5 : zr x5) (hx6 : zr x6) (hx7 : zr x7) : Rf (kY_Sym_greater_40_68_p110 rz β σ x0 x1 x2 x3 x4 x5 x6 x7) (kC_Sym_greater_40_68_p110 rm (cv σ) (i32 x0) (i32 x1) (i32 x2) (i32 x3) (i32 x4) (i32 x5) (i32 x6) (i32 x7)) β := by
  unfold kY_Sym_greater_40_68_p110 kC_Sym_greater_40_68_p110
  refine Rf_01 rfl hx7 (fun hb1 => ?_)
  exact Rf_some hσ hx7 rfl
theorem rY_Sym_greater_48_48 (rz : zF) (rm : mF) (hR : Rc rz rm) (β : Nat) (σ : zS) (hσ : zOK σ) (x0 x1 : Int) (hx0 : zr x0) (hx1 : zr x1) : Rf (kY_Sym_greater_48_48 rz β σ x0 x1) (kC_Sym_greater_48_48 rm (cv σ) (i32 x0) (i32 x1)) β := by
  unfold kY_Sym_greater_48_48 kC_Sym_greater_48_48
  exact Rf_tail hR hσ (zrs_cons hx0 (zrs_cons hx1 (zrs_cons hx0 (zrs_cons hx1 (zrs_cons (by decide) zrs_nil))))) (e_cons rfl (e_cons rfl (e_cons rfl (e_cons rfl (e_cons (by decide) rfl)))))
theorem rY_Sym_greater_48_48_p10 (rz : zF) (rm : mF) (hR : Rc rz rm) (β : Nat) (σ : zS) (hσ : zOK σ) (x0 x1 x2 x3 x4 : Int) (hx0 : zr x0) (hx1 : zr x1) (hx2 : zr x2) (hx3 : zr x3) (hx4 : zr x4) : Rf (kY_Sym_greater_48_48_p10 rz β σ x0 x1 x2 x3 x4) (kC_Sym_greater_48_48_p10 rm (cv σ) (i32 x0) (i32 x1) (i32 x2) (i32 x3) (i32 x4)) β := by
  unfold kY_Sym_greater_48_48_p10 kC_Sym_greater_48_48_p10
  refine Rf_lt (by decide) rfl (by decide) hx4 (fun _ => ?_) (fun _ => ?_)
  · exact Rf_some hσ (by decide) (by decide)
  · refine Rf_bnd hR hσ (zrs_cons hx2 zrs_nil) (e_cons rfl rfl) (fun σ1 r1 hσ1 hr1 => ?_)
    refine Rf_bnd hR hσ1 (zrs_cons hx3 zrs_nil) (e_cons rfl rfl) (fun σ2 r2 hσ2 hr2 => ?_)
    refine Rf_rd rfl hx2 (fun hb1 => ?_)
    refine Rf_lt (e_rd rfl hb1) (by decide) (hσ2.2.1 _ _) (by decide) (fun _ => ?_) (fun _ => ?_)
    · refine Rf_g (fun hg2 => ?_)
      refine Rf_g (fun hg3 => ?_)
      exact Rf_tail hR hσ2 (zrs_cons hx0 (zrs_cons hx1 (zrs_cons hx2 (zrs_cons hx3 (zrs_cons hx4 (zrs_cons hg2 (zrs_cons hg3 zrs_nil))))))) (e_cons rfl (e_cons rfl (e_cons rfl (e_cons rfl (e_cons rfl (e_cons (e_sub rfl rfl) (e_cons (e_sub rfl rfl) rfl)))))))
    · refine Rf_g (fun hg4 => ?_)
      refine Rf_g (fun hg5 => ?_)
      refine Rf_lt (e_sub rfl rfl) (e_sub rfl rfl) hg4 hg5 (fun _ => ?_) (fun _ => ?_)
      · exact Rf_tail hR hσ2 (zrs_cons hx0 (zrs_cons hx1 (zrs_cons hx2 (zrs_cons hx3 (zrs_cons hx4 (zrs_cons hg4 (zrs_cons hg5 zrs_nil))))))) (e_cons rfl (e_cons rfl (e_cons rfl (e_cons rfl (e_cons rfl (e_cons (e_sub rfl rfl) (e_cons (e_sub rfl rfl) rfl)))))))
      · refine Rf_bnd hR hσ2 (zrs_cons hx2 (zrs_cons hg4 (zrs_cons hx3 (zrs_cons hg5 zrs_nil)))) (e_cons rfl (e_cons (e_sub rfl rfl) (e_cons rfl (e_cons (e_sub rfl rfl) rfl)))) (fun σ3 r3 hσ3 hr3 => ?_)
        refine Rf_eq rfl (by decide) hr3 (by decide) (fun _ => ?_) (fun _ => ?_)
        · exact Rf_tail hR hσ3 (zrs_cons hx0 (zrs_cons hx1 (zrs_cons hx2 (zrs_cons hx3 (zrs_cons hx4 (zrs_cons hg4 (zrs_cons hg5 zrs_nil))))))) (e_cons rfl (e_cons rfl (e_cons rfl (e_cons rfl (e_cons rfl (e_cons (e_sub rfl rfl) (e_cons (e_sub rfl rfl) rfl)))))))
        · refine Rf_le (e_sub rfl rfl) (e_sub rfl rfl) hg4 hg5 (fun _ => ?_) (fun _ => ?_)
          · refine Rf_rd rfl hx2 (fun hb6 => ?_)
            refine Rf_rd rfl hx3 (fun hb7 => ?_)
            refine Rf_eq (e_rd rfl hb6) (e_rd rfl hb7) (hσ3.2.1 _ _) (hσ3.2.1 _ _) (fun _ => ?_) (fun _ => ?_)
            · refine Rf_bnd hR hσ3 (zrs_cons hx2 (zrs_cons hx3 (zrs_cons hg4 zrs_nil))) (e_cons rfl (e_cons rfl (e_cons (e_sub rfl rfl) rfl))) (fun σ4 r4 hσ4 hr4 => ?_)
              refine Rf_eq rfl (by decide) hr4 (by decide) (fun _ => ?_) (fun _ => ?_)
              · exact Rf_some hσ4 (by decide) (by decide)
              · refine Rf_g (fun hg8 => ?_)
                refine Rf_g (fun hg9 => ?_)
                refine Rf_g (fun hg10 => ?_)
                exact Rf_tail hR hσ4 (zrs_cons hx0 (zrs_cons hx1 (zrs_cons hg8 (zrs_cons hg9 (zrs_cons hg10 zrs_nil))))) (e_cons rfl (e_cons rfl (e_cons (e_add rfl rfl) (e_cons (e_add rfl rfl) (e_cons (e_add rfl (by decide)) rfl)))))
            · refine Rf_rd2 rfl hb6 ?_
              refine Rf_rd2 rfl hb7 ?_
              refine Rf_le (e_rd rfl hb6) (e_rd rfl hb7) (hσ3.2.1 _ _) (hσ3.2.1 _ _) (fun _ => ?_) (fun _ => ?_)
              · exact Rf_tail hR hσ3 (zrs_cons hx0 (zrs_cons hx1 (zrs_cons hx2 (zrs_cons hx3 (zrs_cons hx4 (zrs_cons hg4 (zrs_cons hg5 (zrs_cons (by decide) zrs_nil)))))))) (e_cons rfl (e_cons rfl (e_cons rfl (e_cons rfl (e_cons rfl (e_cons (e_sub rfl rfl) (e_cons (e_sub rfl rfl) (e_cons (by decide) rfl))))))))
              · exact Rf_tail hR hσ3 (zrs_cons hx0 (zrs_cons hx1 (zrs_cons hx2 (zrs_cons hx3 (zrs_cons hx4 (zrs_cons hg4 (zrs_cons hg5 (zrs_cons (by decide) zrs_nil)))))))) (e_cons rfl (e_cons rfl (e_cons rfl (e_cons rfl (e_cons rfl (e_cons (e_sub rfl rfl) (e_cons (e_sub rfl rfl) (e_cons (by decide) rfl))))))))
          · exact Rf_some hσ3 (by decide) (by decide)
theorem rY_Sym_greater_48_48_p72 (rz : zF) (rm : mF) (hR : Rc rz rm) (β : Nat) (σ : zS) (hσ : zOK σ) (x0 x1 x2 x3 x4 x5 x6 : Int) (hx0 : zr x0) (hx1 : zr x1) (hx2 : zr x2) (hx3 : zr x3) (hx4 : zr x4) (hx5 : zr x5) (hx6 : zr x6) : Rf (kY_Sym_greater_48_48_p72 rz β σ x0 x1 x2 x3 x4 x5 x6) (kC_Sym_greater_48_48_p72 rm (cv σ) (i32 x0) (i32 x1) (i32 x2) (i32 x3) (i32 x4) (i32 x5) (i32 x6)) β := by
  unfold kY_Sym_greater_48_48_p72 kC_Sym_greater_48_48_p72
  exact Rf_some hσ (by decide) (by decide)
theorem rY_Sym_greater_48_48_p110 (rz : zF) (rm : mF) (hR : Rc rz rm) (β : Nat) (σ : zS) (hσ : zOK σ) (x0 x1 x2 x3 x4 x5 x6 x7 : Int) (hx0 : zr x0) (hx1 : zr x1) (hx2 : zr x2) (hx3 : zr x3) (hx4 : zr x4) (hx5 : zr x5) (hx6 : zr x6) (hx7 : zr x7) : Rf (kY_Sym_greater_48_48_p110 rz β σ x0 x1 x2 x3 x4 x5 x6 x7) (kC_Sym_greater_48_48_p110 rm (cv σ) (i32 x0) (i32 x1) (i32 x2) (i32 x3) (i32 x4) (i32 x5) (i32 x6) (i32 x7)) β := by
  unfold kY_Sym_greater_48_48_p110 kC_Sym_greater_48_48_p110
  refine Rf_01 rfl hx7 (fun hb1 => ?_)
  exact Rf_some hσ hx7 rfl
theorem rY_Sym_greater_48_68 (rz : zF) (rm : mF) (hR : Rc rz rm) (β : Nat) (σ : zS) (hσ : zOK σ) (x0 x1 : Int) (hx0 : zr x0) (hx1 : zr x1) : Rf (kY_Sym_greater_48_68 rz β σ x0 x1) (kC_Sym_greater_48_68 rm (cv σ) (i32 x0) (i32 x1)) β := by
  unfold kY_Sym_greater_48_68 kC_Sym_greater_48_68
  exact Rf_tail hR hσ (zrs_cons hx0 (zrs_cons hx1 (zrs_cons hx0 (zrs_cons hx1 (zrs_cons (by decide) zrs_nil))))) (e_cons rfl (e_cons rfl (e_cons rfl (e_cons rfl (e_cons (by decide) rfl)))))
theorem rY_Sym_greater_48_68_p10 (rz : zF) (rm : mF) (hR : Rc rz rm) (β : Nat) (σ : zS) (hσ : zOK σ) (x0 x1 x2 x3 x4 : Int) (hx0 : zr x0) (hx1 : zr x1) (hx2 : zr x2) (hx3 : zr x3) (hx4 : zr x4) : Rf (kY_Sym_greater_48_68_p10 rz β σ x0 x1 x2 x3 x4) (kC_Sym_greater_48_68_p10 rm (cv σ) (i32 x0) (i32 x1) (i32 x2) (i32 x3) (i32 x4)) β := by
  unfold kY_Sym_greater_48_68_p10 kC_Sym_greater_48_68_p10
  refine Rf_lt (by decide) rfl (by decide) hx4 (fun _ => ?_) (fun _ => ?_)
  · exact Rf_some hσ (by decide) (by decide)
  · refine Rf_bnd hR hσ (zrs_cons hx2 zrs_nil) (e_cons rfl rfl) (fun σ1 r1 hσ1 hr1 => ?_)
    refine Rf_bnd hR hσ1 (zrs_cons hx3 zrs_nil) (e_cons rfl rfl) (fun σ2 r2 hσ2 hr2 => ?_)
    refine Rf_rd rfl hx2 (fun hb1 => ?_)
    refine Rf_lt (e_rd rfl hb1) (by decide) (hσ2.2.1 _ _) (by decide) (fun _ => ?_) (fun _ => ?_)
    · refine Rf_g (fun hg2 => ?_)
      refine Rf_g (fun hg3 => ?_)
      exact Rf_tail hR hσ2 (zrs_cons hx0 (zrs_cons hx1 (zrs_cons hx2 (zrs_cons hx3 (zrs_cons hx4 (zrs_cons hg2 (zrs_cons hg3 zrs_nil))))))) (e_cons rfl (e_cons rfl (e_cons rfl (e_cons rfl (e_cons rfl (e_cons (e_sub rfl rfl) (e_cons (e_sub rfl rfl) rfl)))))))
    · refine Rf_g (fun hg4 => ?_)
      refine Rf_g (fun hg5 => ?_)
      refine Rf_lt (e_sub rfl rfl) (e_sub rfl rfl) hg4 hg5 (fun _ => ?_) (fun _ => ?_)
      · exact Rf_tail hR hσ2 (zrs_cons hx0 (zrs_cons hx1 (zrs_cons hx2 (zrs_cons hx3 (zrs_cons hx4 (zrs_cons hg4 (zrs_cons hg5 zrs_nil))))))) (e_cons rfl (e_cons rfl (e_cons rfl (e_cons rfl (e_cons rfl (e_cons (e_sub rfl rfl) (e_cons (e_sub rfl rfl) rfl)))))))
      · refine Rf_bnd hR hσ2 (zrs_cons hx2 (zrs_cons hg4 (zrs_cons hx3 (zrs_cons hg5 zrs_nil)))) (e_cons rfl (e_cons (e_sub rfl rfl) (e_cons rfl (e_cons (e_sub rfl rfl) rfl)))) (fun σ3 r3 hσ3 hr3 => ?_)
        refine Rf_eq rfl (by decide) hr3 (by decide) (fun _ => ?_) (fun _ => ?_)
        · exact Rf_tail hR hσ3 (zrs_cons hx0 (zrs_cons hx1 (zrs_cons hx2 (zrs_cons hx3 (zrs_cons hx4 (zrs_cons hg4 (zrs_cons hg5 zrs_nil))))))) (e_cons rfl (e_cons rfl (e_cons rfl (e_cons rfl (e_cons rfl (e_cons (e_sub rfl rfl) (e_cons (e_sub rfl rfl) rfl)))))))
        · refine Rf_le (e_sub rfl rfl) (e_sub rfl rfl) hg4 hg5 (fun _ => ?_) (fun _ => ?_)
          · refine Rf_rd rfl hx2 (fun hb6 => ?_)
            refine Rf_rd rfl hx3 (fun hb7 => ?_)
            refine Rf_eq (e_rd rfl hb6) (e_rd rfl hb7) (hσ3.2.1 _ _) (hσ3.2.1 _ _) (fun _ => ?_) (fun _ => ?_)
            · refine Rf_bnd hR hσ3 (zrs_cons hx2 (zrs_cons hx3 (zrs_cons hg4 zrs_nil))) (e_cons rfl (e_cons rfl (e_cons (e_sub rfl rfl) rfl))) (fun σ4 r4 hσ4 hr4 => ?_)
              refine Rf_eq rfl (by decide) hr4 (by decide) (fun _ => ?_) (fun _ => ?_)
              · exact Rf_some hσ4 (by decide) (by decide)
              · refine Rf_g (fun hg8 => ?_)
                refine Rf_g (fun hg9 => ?_)
                refine Rf_g (fun hg10 => ?_)
                exact Rf_tail hR hσ4 (zrs_cons hx0 (zrs_cons hx1 (zrs_cons hg8 (zrs_cons hg9 (zrs_cons hg10 zrs_nil))))) (e_cons rfl (e_cons rfl (e_cons (e_add rfl rfl) (e_cons (e_add rfl rfl) (e_cons (e_add rfl (by decide)) rfl)))))
            · refine Rf_rd2 rfl hb6 ?_
              refine Rf_rd2 rfl hb7 ?_
              refine Rf_le (e_rd rfl hb6) (e_rd rfl hb7) (hσ3.2.1 _ _) (hσ3.2.1 _ _) (fun _ => ?_) (fun _ => ?_)
              · exact Rf_tail hR hσ3 (zrs_cons hx0 (zrs_cons hx1 (zrs_cons hx2 (zrs_cons hx3 (zrs_cons hx4 (zrs_cons hg4 (zrs_cons hg5 (zrs_cons (by decide) zrs_nil)))))))) (e_cons rfl (e_cons rfl (e_cons rfl (e_cons rfl (e_cons rfl (e_cons (e_sub rfl rfl) (e_cons (e_sub rfl rfl) (e_cons (by decide) rfl))))))))
              · exact Rf_tail hR hσ3 (zrs_cons hx0 (zrs_cons hx1 (zrs_cons hx2 (zrs_cons hx3 (zrs_cons hx4 (zrs_cons hg4 (zrs_cons hg5 (zrs_cons (by decide) zrs_nil)))))))) (e_cons rfl (e_cons rfl (e_cons rfl (e_cons rfl (e_cons rfl (e_cons (e_sub rfl rfl) (e_cons (e_sub rfl rfl) (e_cons (by decide) rfl))))))))
          · exact Rf_some hσ3 (by decide) (by decide)
theorem rY_Sym_greater_48_68_p72 (rz : zF) (rm : mF) (hR : Rc rz rm) (β : Nat) (σ : zS) (hσ : zOK σ) (x0 x1 x2 x3 x4 x5 x6 : Int) (hx0 : zr x0) (hx1 : zr x1) (hx2 : zr x2) (hx3 : zr x3) (hx4 : zr x4) (hx5 : zr x5) (hx6 : zr x6) : Rf (kY_Sym_greater_48_68_p72 rz β σ x0 x1 x2 x3 x4 x5 x6) (kC_Sym_greater_48_68_p72 rm (cv σ) (i32 x0) (i32 x1) (i32 x2) (i32 x3) (i32 x4) (i32 x5) (i32 x6)) β := by
  unfold kY_Sym_greater_48_68_p72 kC_Sym_greater_48_68_p72
  exact Rf_some hσ (by decide) (by decide)
theorem rY_Sym_greater_48_68_p110 (rz : zF) (rm : mF) (hR : Rc rz rm) (β : Nat) (σ : zS) (hσ : zOK σ) (x0 x1 x2 x3 x4 x5 x6 x7 : Int) (hx0 : zr x0) (hx1 : zr x1) (hx2 : zr x2) (hx3 : zr x3) (hx4 : zr x4) (hx5 : zr x5) (hx6 : zr x6) (hx7 : zr x7) : Rf (kY_Sym_greater_48_68_p110 rz β σ x0 x1 x2 x3 x4 x5 x6 x7) (kC_Sym_greater_48_68_p110 rm (cv σ) (i32 x0) (i32 x1) (i32 x2) (i32 x3) (i32 x4) (i32 x5) (i32 x6) (i32 x7)) β := by
  unfold kY_Sym_greater_48_68_p110 kC_Sym_greater_48_68_p110
  refine Rf_01 rfl hx7 (fun hb1 => ?_)
  exact Rf_some hσ hx7 rfl
theorem rY_Sym_hasAllVariables_40_68 (rz : zF) (rm : mF) (hR : Rc rz rm) (β : Nat) (σ : zS) (hσ : zOK σ) (x0 x1 x2 x3 : Int) (hx0 : zr x0) (hx1 : zr x1) (hx2 : zr x2) (hx3 : zr x3) : Rf (kY_Sym_hasAllVariables_40_68 rz β σ x0 x1 x2 x3) (kC_Sym_hasAllVariables_40_68 rm (cv σ) (i32 x0) (i32 x1) (i32 x2) (i32 x3)) β := by
  unfold kY_Sym_hasAllVariables_40_68 kC_Sym_hasAllVariables_40_68
  refine Rf_Fl (by decide) (by decide) hσ (fun σ1 hσ1 => ?_)
  exact Rf_tail hR hσ1 (zrs_cons hx0 (zrs_cons hx1 (zrs_cons hx2 (zrs_cons hx3 (zrs_cons hx0 zrs_nil))))) (e_cons rfl (e_cons rfl (e_cons rfl (e_cons rfl (e_cons rfl rfl)))))
theorem rY_Sym_hasAllVariables_40_68_p11 (rz : zF) (rm : mF) (hR : Rc rz rm) (β : Nat) (σ : zS) (hσ : zOK σ) (x0 x1 x2 x3 x4 : Int) (hx0 : zr x0) (hx1 : zr x1) (hx2 : zr x2) (hx3 : zr x3) (hx4 : zr x4) : Rf (kY_Sym_hasAllVariables_40_68_p11 rz β σ x0 x1 x2 x3 x4) (kC_Sym_hasAllVariables_40_68_p11 rm (cv σ) (i32 x0) (i32 x1) (i32 x2) (i32 x3) (i32 x4)) β := by
  unfold kY_Sym_hasAllVariables_40_68_p11 kC_Sym_hasAllVariables_40_68_p11
  refine Rf_g (fun hg1 => ?_)
  refine Rf_le (e_add rfl rfl) rfl hg1 hx4 (fun _ => ?_) (fun _ => ?_)
  · exact Rf_tail hR hσ (zrs_cons hx0 (zrs_cons hx1 (zrs_cons hx2 (zrs_cons hx3 (zrs_cons hx2 zrs_nil))))) (e_cons rfl (e_cons rfl (e_cons rfl (e_cons rfl (e_cons rfl rfl)))))
  · refine Rf_rd rfl hx4 (fun hb2 => ?_)
    refine Rf_le (by decide) (e_rd rfl hb2) (by decide) (hσ.2.1 _ _) (fun _ => ?_) (fun _ => ?_)
    · exact Rf_tail hR hσ (zrs_cons hx0 (zrs_cons hx1 (zrs_cons hx2 (zrs_cons hx3 (zrs_cons hx4 zrs_nil))))) (e_cons rfl (e_cons rfl (e_cons rfl (e_cons rfl (e_cons rfl rfl)))))
    · refine Rf_rd2 rfl hb2 ?_
      refine Rf_rd (e_not (e_rd rfl hb2)) (zr_not (hσ.2.1 _ _)) (fun hb3 => ?_)
      refine Rf_rd2 (e_not (e_rd rfl hb2)) hb3 ?_
      refine Rf_g (fun hg4 => ?_)
      refine Rf_A (e_not (e_rd rfl hb2)) hb3 (e_add (e_rd (e_not (e_rd rfl hb2)) hb3) (by decide)) hg4 hσ (fun σ1 hσ1 => ?_)
      exact Rf_tail hR hσ1 (zrs_cons hx0 (zrs_cons hx1 (zrs_cons hx2 (zrs_cons hx3 (zrs_cons hx4 zrs_nil))))) (e_cons rfl (e_cons rfl (e_cons rfl (e_cons rfl (e_cons rfl rfl)))))
theorem rY_Sym_hasAllVariables_40_68_p41 (rz : zF) (rm : mF) (hR : Rc rz rm) (β : Nat) (σ : zS) (hσ : zOK σ) (x0 x1 x2 x3 x4 : Int) (hx0 : zr x0) (hx1 : zr x1) (hx2 : zr x2) (hx3 : zr x3) (hx4 : zr x4) : Rf (kY_Sym_hasAllVariables_40_68_p41 rz β σ x0 x1 x2 x3 x4) (kC_Sym_hasAllVariables_40_68_p41 rm (cv σ) (i32 x0) (i32 x1) (i32 x2) (i32 x3) (i32 x4)) β := by
  unfold kY_Sym_hasAllVariables_40_68_p41 kC_Sym_hasAllVariables_40_68_p41
  refine Rf_g (fun hg1 => ?_)
  exact Rf_tail hR hσ (zrs_cons hx0 (zrs_cons hx1 (zrs_cons hx2 (zrs_cons hx3 (zrs_cons hg1 zrs_nil))))) (e_cons rfl (e_cons rfl (e_cons rfl (e_cons rfl (e_cons (e_add rfl (by decide)) rfl)))))
theorem rY_Sym_hasAllVariables_40_68_p51 (rz : zF) (rm : mF) (hR : Rc rz rm) (β : Nat) (σ : zS) (hσ : zOK σ) (x0 x1 x2 x3 x4 : Int) (hx0 : zr x0) (hx1 : zr x1) (hx2 : zr x2) (hx3 : zr x3) (hx4 : zr x4) : Rf (kY_Sym_hasAllVariables_40_68_p51 rz β σ x0 x1 x2 x3 x4) (kC_Sym_hasAllVariables_40_68_p51 rm (cv σ) (i32 x0) (i32 x1) (i32 x2) (i32 x3) (i32 x4)) β := by
  unfold kY_Sym_hasAllVariables_40_68_p51 kC_Sym_hasAllVariables_40_68_p51
  refine Rf_g (fun hg1 => ?_)
  refine Rf_le (e_add rfl rfl) rfl hg1 hx4 (fun _ => ?_) (fun _ => ?_)
  · exact Rf_some hσ (by decide) (by decide)
  · refine Rf_rd rfl hx4 (fun hb2 => ?_)
    refine Rf_le (by decide) (e_rd rfl hb2) (by decide) (hσ.2.1 _ _) (fun _ => ?_) (fun _ => ?_)
    · exact Rf_tail hR hσ (zrs_cons hx0 (zrs_cons hx1 (zrs_cons hx2 (zrs_cons hx3 (zrs_cons hx4 zrs_nil))))) (e_cons rfl (e_cons rfl (e_cons rfl (e_cons rfl (e_cons rfl rfl)))))
    · refine Rf_rd2 rfl hb2 ?_
      refine Rf_rd (e_not (e_rd rfl hb2)) (zr_not (hσ.2.1 _ _)) (fun hb3 => ?_)
      refine Rf_rd2 (e_not (e_rd rfl hb2)) hb3 ?_
      refine Rf_g (fun hg4 => ?_)
      refine Rf_A (e_not (e_rd rfl hb2)) hb3 (e_sub (e_rd (e_not (e_rd rfl hb2)) hb3) (by decide)) hg4 hσ (fun σ1 hσ1 => ?_)
      refine Rf_le (by decide) (e_sub (e_rd (e_not (e_rd rfl hb2)) hb3) (by decide)) (by decide) hg4 (fun _ => ?_) (fun _ => ?_)
      · exact Rf_tail hR hσ1 (zrs_cons hx0 (zrs_cons hx1 (zrs_cons hx2 (zrs_cons hx3 (zrs_cons hx4 zrs_nil))))) (e_cons rfl (e_cons rfl (e_cons rfl (e_cons rfl (e_cons rfl rfl)))))
      · exact Rf_some hσ1 (by decide) (by decide)
theorem rY_Sym_hasAllVariables_40_68_p91 (rz : zF) (rm : mF) (hR : Rc rz rm) (β : Nat) (σ : zS) (hσ : zOK σ) (x0 x1 x2 x3 x4 : Int) (hx0 : zr x0) (hx1 : zr x1) (hx2 : zr x2) (hx3 : zr x3) (hx4 : zr x4) : Rf (kY_Sym_hasAllVariables_40_68_p91 rz β σ x0 x1 x2 x3 x4) (kC_Sym_hasAllVariables_40_68_p91 rm (cv σ) (i32 x0) (i32 x1) (i32 x2) (i32 x3) (i32 x4)) β := by
  unfold kY_Sym_hasAllVariables_40_68_p91 kC_Sym_hasAllVariables_40_68_p91
  refine Rf_g (fun hg1 => ?_)
  exact Rf_tail hR hσ (zrs_cons hx0 (zrs_cons hx1 (zrs_cons hx2 (zrs_cons hx3 (zrs_cons hg1 zrs_nil))))) (e_cons rfl (e_cons rfl (e_cons rfl (e_cons rfl (e_cons (e_add rfl (by decide)) rfl)))))
theorem rY_Sym_hasAllVariables_48_48 (rz : zF) (rm : mF) (hR : Rc rz rm) (β : Nat) (σ : zS) (hσ : zOK σ) (x0 x1 x2 x3 : Int) (hx0 : zr x0) (hx1 : zr x1) (hx2 : zr x2) (hx3 : zr x3) : Rf (kY_Sym_hasAllVariables_48_48 rz β σ x0 x1 x2 x3) (kC_Sym_hasAllVariables_48_48 rm (cv σ) (i32 x0) (i32 x1) (i32 x2) (i32 x3)) β := by
  unfold kY_Sym_hasAllVariables_48_48 kC_Sym_hasAllVariables_48_48
  refine Rf_Fl (by decide) (by decide) hσ (fun σ1 hσ1 => ?_)
  exact Rf_tail hR hσ1 (zrs_cons hx0 (zrs_cons hx1 (zrs_cons hx2 (zrs_cons hx3 (zrs_cons hx0 zrs_nil))))) (e_cons rfl (e_cons rfl (e_cons rfl (e_cons rfl (e_cons rfl rfl)))))
theorem rY_Sym_hasAllVariables_48_48_p11 (rz : zF) (rm : mF) (hR : Rc rz rm) (β : Nat) (σ : zS) (hσ : zOK σ) (x0 x1 x2 x3 x4 : Int) (hx0 : zr x0) (hx1 : zr x1) (hx2 : zr x2) (hx3 : zr x3) (hx4 : zr x4) : Rf (kY_Sym_hasAllVariables_48_48_p11 rz β σ x0 x1 x2 x3 x4) (kC_Sym_hasAllVariables_48_48_p11 rm (cv σ) (i32 x0) (i32 x1) (i32 x2) (i32 x3) (i32 x4)) β := by
  unfold kY_Sym_hasAllVariables_48_48_p11 kC_Sym_hasAllVariables_48_48_p11
  refine Rf_g (fun hg1 => ?_)
  refine Rf_le (e_add rfl rfl) rfl hg1 hx4 (fun _ => ?_) (fun _ => ?_)
  · exact Rf_tail hR hσ (zrs_cons hx0 (zrs_cons hx1 (zrs_cons hx2 (zrs_cons hx3 (zrs_cons hx2 zrs_nil))))) (e_cons rfl (e_cons rfl (e_cons rfl (e_cons rfl (e_cons rfl rfl)))))
  · refine Rf_rd rfl hx4 (fun hb2 => ?_)
    refine Rf_le (by decide) (e_rd rfl hb2) (by decide) (hσ.2.1 _ _) (fun _ => ?_) (fun _ => ?_)
    · exact Rf_tail hR hσ (zrs_cons hx0 (zrs_cons hx1 (zrs_cons hx2 (zrs_cons hx3 (zrs_cons hx4 zrs_nil))))) (e_cons rfl (e_cons rfl (e_cons rfl (e_cons rfl (e_cons rfl rfl)))))
    · refine Rf_rd2 rfl hb2 ?_
      refine Rf_rd (e_not (e_rd rfl hb2)) (zr_not (hσ.2.1 _ _)) (fun hb3 => ?_)
      refine Rf_rd2 (e_not (e_rd rfl hb2)) hb3 ?_
      refine Rf_g (fun hg4 => ?_)
      refine Rf_A (e_not (e_rd rfl hb2)) hb3 (e_add (e_rd (e_not (e_rd rfl hb2)) hb3) (by decide)) hg4 hσ (fun σ1 hσ1 => ?_)
      exact Rf_tail hR hσ1 (zrs_cons hx0 (zrs_cons hx1 (zrs_cons hx2 (zrs_cons hx3 (zrs_cons hx4 zrs_nil))))) (e_cons rfl (e_cons rfl (e_cons rfl (e_cons rfl (e_cons rfl rfl)))))
theorem rY_Sym_hasAllVariables_48_48_p41 (rz : zF) (rm : mF) (hR : Rc rz rm) (β : Nat) (σ : zS) (hσ : zOK σ) (x0 x1 x2 x3 x4 : Int) (hx0 : zr x0) (hx1 : zr x1) (hx2 : zr x2) (hx3 : zr x3) (hx4 : zr x4) : Rf (kY_Sym_hasAllVariables_48_48_p41 rz β σ x0 x1 x2 x3 x4) (kC_Sym_hasAllVariables_48_48_p41 rm (cv σ) (i32 x0) (i32 x1) (i32 x2) (i32 x3) (i32 x4)) β := by
  unfold kY_Sym_hasAllVariables_48_48_p41 kC_Sym_hasAllVariables_48_48_p41
  refine Rf_g (fun hg1 => ?_)
  exact Rf_tail hR hσ (zrs_cons hx0 (zrs_cons hx1 (zrs_cons hx2 (zrs_cons hx3 (zrs_cons hg1 zrs_nil))))) (e_cons rfl (e_cons rfl (e_cons rfl (e_cons rfl (e_cons (e_add rfl (by decide)) rfl)))))
theorem rY_Sym_hasAllVariables_48_48_p51 (rz : zF) (rm : mF) (hR : Rc rz rm) (β : Nat) (σ : zS) (hσ : zOK σ) (x0 x1 x2 x3 x4 : Int) (hx0 : zr x0) (hx1 : zr x1) (hx2 : zr x2) (hx3 : zr x3) (hx4 : zr x4) : Rf (kY_Sym_hasAllVariables_48_48_p51 rz β σ x0 x1 x2 x3 x4) (kC_Sym_hasAllVariables_48_48_p51 rm (cv σ) (i32 x0) (i32 x1) (i32 x2) (i32 x3) (i32 x4)) β := by
  unfold kY_Sym_hasAllVariables_48_48_p51 kC_Sym_hasAllVariables_48_48_p51
  refine Rf_g (fun hg1 => ?_)
  refine Rf_le (e_add rfl rfl) rfl hg1 hx4 (fun _ => ?_) (fun _ => ?_)
  · exact Rf_some hσ (by decide) (by decide)
  · refine Rf_rd rfl hx4 (fun hb2 => ?_)
    refine Rf_le (by decide) (e_rd rfl hb2) (by decide) (hσ.2.1 _ _) (fun _ => ?_) (fun _ => ?_)
    · exact Rf_tail hR hσ (zrs_cons hx0 (zrs_cons hx1 (zrs_cons hx2 (zrs_cons hx3 (zrs_cons hx4 zrs_nil))))) (e_cons rfl (e_cons rfl (e_cons rfl (e_cons rfl (e_cons rfl rfl)))))
    · refine Rf_rd2 rfl hb2 ?_
      refine Rf_rd (e_not (e_rd rfl hb2)) (zr_not (hσ.2.1 _ _)) (fun hb3 => ?_)
      refine Rf_rd2 (e_not (e_rd rfl hb2)) hb3 ?_
      refine Rf_g (fun hg4 => ?_)
      refine Rf_A (e_not (e_rd rfl hb2)) hb3 (e_sub (e_rd (e_not (e_rd rfl hb2)) hb3) (by decide)) hg4 hσ (fun σ1 hσ1 => ?_)
      refine Rf_le (by decide) (e_sub (e_rd (e_not (e_rd rfl hb2)) hb3) (by decide)) (by decide) hg4 (fun _ => ?_) (fun _ => ?_)
      · exact Rf_tail hR hσ1 (zrs_cons hx0 (zrs_cons hx1 (zrs_cons hx2 (zrs_cons hx3 (zrs_cons hx4 zrs_nil))))) (e_cons rfl (e_cons rfl (e_cons rfl (e_cons rfl (e_cons rfl rfl)))))
      · exact Rf_some hσ1 (by decide) (by decide)
theorem rY_Sym_hasAllVariables_48_48_p91 (rz : zF) (rm : mF) (hR : Rc rz rm) (β : Nat) (σ : zS) (hσ : zOK σ) (x0 x1 x2 x3 x4 : Int) (hx0 : zr x0) (hx1 : zr x1) (hx2 : zr x2) (hx3 : zr x3) (hx4 : zr x4) : Rf (kY_Sym_hasAllVariables_48_48_p91 rz β σ x0 x1 x2 x3 x4) (kC_Sym_hasAllVariables_48_48_p91 rm (cv σ) (i32 x0) (i32 x1) (i32 x2) (i32 x3) (i32 x4)) β := by
  unfold kY_Sym_hasAllVariables_48_48_p91 kC_Sym_hasAllVariables_48_48_p91
  refine Rf_g (fun hg1 => ?_)
  exact Rf_tail hR hσ (zrs_cons hx0 (zrs_cons hx1 (zrs_cons hx2 (zrs_cons hx3 (zrs_cons hg1 zrs_nil))))) (e_cons rfl (e_cons rfl (e_cons rfl (e_cons rfl (e_cons (e_add rfl (by decide)) rfl)))))
theorem rY_Sym_hasAllVariables_48_68 (rz : zF) (rm : mF) (hR : Rc rz rm) (β : Nat) (σ : zS) (hσ : zOK σ) (x0 x1 x2 x3 : Int) (hx0 : zr x0) (hx1 : zr x1) (hx2 : zr x2) (hx3 : zr x3) : Rf (kY_Sym_hasAllVariables_48_68 rz β σ x0 x1 x2 x3) (kC_Sym_hasAllVariables_48_68 rm (cv σ) (i32 x0) (i32 x1) (i32 x2) (i32 x3)) β := by
  unfold kY_Sym_hasAllVariables_48_68 kC_Sym_hasAllVariables_48_68
  refine Rf_Fl (by decide) (by decide) hσ (fun σ1 hσ1 => ?_)
  exact Rf_tail hR hσ1 (zrs_cons hx0 (zrs_cons hx1 (zrs_cons hx2 (zrs_cons hx3 (zrs_cons hx0 zrs_nil))))) (e_cons rfl (e_cons rfl (e_cons rfl (e_cons rfl (e_cons rfl rfl)))))
theorem rY_Sym_hasAllVariables_48_68_p11 (rz : zF) (rm : mF) (hR : Rc rz rm) (β : Nat) (σ : zS) (hσ : zOK σ) (x0 x1 x2 x3 x4 : Int) (hx0 : zr x0) (hx1 : zr x1) (hx2 : zr x2) (hx3 : zr x3) (hx4 : zr x4) : Rf (kY_Sym_hasAllVariables_48_68_p11 rz β σ x0 x1 x2 x3 x4) (kC_Sym_hasAllVariables_48_68_p11 rm (cv σ) (i32 x0) (i32 x1) (i32 x2) (i32 x3) (i32 x4)) β := by
  unfold kY_Sym_hasAllVariables_48_68_p11 kC_Sym_hasAllVariables_48_68_p11
  refine Rf_g (fun hg1 => ?_)
  refine Rf_le (e_add rfl rfl) rfl hg1 hx4 (fun _ => ?_) (fun _ => ?_)
  · exact Rf_tail hR hσ (zrs_cons hx0 (zrs_cons hx1 (zrs_cons hx2 (zrs_cons hx3 (zrs_cons hx2 zrs_nil))))) (e_cons rfl (e_cons rfl (e_cons rfl (e_cons rfl (e_cons rfl rfl)))))
  · refine Rf_rd rfl hx4 (fun hb2 => ?_)
    refine Rf_le (by decide) (e_rd rfl hb2) (by decide) (hσ.2.1 _ _) (fun _ => ?_) (fun _ => ?_)
    · exact Rf_tail hR hσ (zrs_cons hx0 (zrs_cons hx1 (zrs_cons hx2 (zrs_cons hx3 (zrs_cons hx4 zrs_nil))))) (e_cons rfl (e_cons rfl (e_cons rfl (e_cons rfl (e_cons rfl rfl)))))
    · refine Rf_rd2 rfl hb2 ?_
      refine Rf_rd (e_not (e_rd rfl hb2)) (zr_not (hσ.2.1 _ _)) (fun hb3 => ?_)
      refine Rf_rd2 (e_not (e_rd rfl hb2)) hb3 ?_
      refine Rf_g (fun hg4 => ?_)
      refine Rf_A (e_not (e_rd rfl hb2)) hb3 (e_add (e_rd (e_not (e_rd rfl hb2)) hb3) (by decide)) hg4 hσ (fun σ1 hσ1 => ?_)
      exact Rf_tail hR hσ1 (zrs_cons hx0 (zrs_cons hx1 (zrs_cons hx2 (zrs_cons hx3 (zrs_cons hx4 zrs_nil))))) (e_cons rfl (e_cons rfl (e_cons rfl (e_cons rfl (e_cons rfl rfl)))))
theorem rY_Sym_hasAllVariables_48_68_p41 (rz : zF) (rm : mF) (hR : Rc rz rm) (β : Nat) (σ : zS) (hσ : zOK σ) (x0 x1 x2 x3 x4 : Int) (hx0 : zr x0) (hx1 : zr x1) (hx2 : zr x2) (hx3 : zr x3) (hx4 : zr x4) : Rf (kY_Sym_hasAllVariables_48_68_p41 rz β σ x0 x1 x2 x3 x4) (kC_Sym_hasAllVariables_48_68_p41 rm (cv σ) (i32 x0) (i32 x1) (i32 x2) (i32 x3) (i32 x4)) β := by
  unfold kY_Sym_hasAllVariables_48_68_p41 kC_Sym_hasAllVariables_48_68_p41
  refine Rf_g (fun hg1 => ?_)
  exact Rf_tail hR hσ (zrs_cons hx0 (zrs_cons hx1 (zrs_cons hx2 (zrs_cons hx3 (zrs_cons hg1 zrs_nil))))) (e_cons rfl (e_cons rfl (e_cons rfl (e_cons rfl (e_cons (e_add rfl (by decide)) rfl)))))
theorem rY_Sym_hasAllVariables_48_68_p51 (rz : zF) (rm : mF) (hR : Rc rz rm) (β : Nat) (σ : zS) (hσ : zOK σ) (x0 x1 x2 x3 x4 : Int) (hx0 : zr x0) (hx1 : zr x1) (hx2 : zr x2) (hx3 : zr x3) (hx4 : zr x4) : Rf (kY_Sym_hasAllVariables_48_68_p51 rz β σ x0 x1 x2 x3 x4) (kC_Sym_hasAllVariables_48_68_p51 rm (cv σ) (i32 x0) (i32 x1) (i32 x2) (i32 x3) (i32 x4)) β := by
  unfold kY_Sym_hasAllVariables_48_68_p51 kC_Sym_hasAllVariables_48_68_p51
  refine Rf_g (fun hg1 => ?_)
  refine Rf_le (e_add rfl rfl) rfl hg1 hx4 (fun _ => ?_) (fun _ => ?_)
  · exact Rf_some hσ (by decide) (by decide)
  · refine Rf_rd rfl hx4 (fun hb2 => ?_)
    refine Rf_le (by decide) (e_rd rfl hb2) (by decide) (hσ.2.1 _ _) (fun _ => ?_) (fun _ => ?_)
    · exact Rf_tail hR hσ (zrs_cons hx0 (zrs_cons hx1 (zrs_cons hx2 (zrs_cons hx3 (zrs_cons hx4 zrs_nil))))) (e_cons rfl (e_cons rfl (e_cons rfl (e_cons rfl (e_cons rfl rfl)))))
    · refine Rf_rd2 rfl hb2 ?_
      refine Rf_rd (e_not (e_rd rfl hb2)) (zr_not (hσ.2.1 _ _)) (fun hb3 => ?_)
      refine Rf_rd2 (e_not (e_rd rfl hb2)) hb3 ?_
      refine Rf_g (fun hg4 => ?_)
      refine Rf_A (e_not (e_rd rfl hb2)) hb3 (e_sub (e_rd (e_not (e_rd rfl hb2)) hb3) (by decide)) hg4 hσ (fun σ1 hσ1 => ?_)
      refine Rf_le (by decide) (e_sub (e_rd (e_not (e_rd rfl hb2)) hb3) (by decide)) (by decide) hg4 (fun _ => ?_) (fun _ => ?_)
      · exact Rf_tail hR hσ1 (zrs_cons hx0 (zrs_cons hx1 (zrs_cons hx2 (zrs_cons hx3 (zrs_cons hx4 zrs_nil))))) (e_cons rfl (e_cons rfl (e_cons rfl (e_cons rfl (e_cons rfl rfl)))))
      · exact Rf_some hσ1 (by decide) (by decide)
theorem rY_Sym_hasAllVariables_48_68_p91 (rz : zF) (rm : mF) (hR : Rc rz rm) (β : Nat) (σ : zS) (hσ : zOK σ) (x0 x1 x2 x3 x4 : Int) (hx0 : zr x0) (hx1 : zr x1) (hx2 : zr x2) (hx3 : zr x3) (hx4 : zr x4) : Rf (kY_Sym_hasAllVariables_48_68_p91 rz β σ x0 x1 x2 x3 x4) (kC_Sym_hasAllVariables_48_68_p91 rm (cv σ) (i32 x0) (i32 x1) (i32 x2) (i32 x3) (i32 x4)) β := by
  unfold kY_Sym_hasAllVariables_48_68_p91 kC_Sym_hasAllVariables_48_68_p91
  refine Rf_g (fun hg1 => ?_)
  exact Rf_tail hR hσ (zrs_cons hx0 (zrs_cons hx1 (zrs_cons hx2 (zrs_cons hx3 (zrs_cons hg1 zrs_nil))))) (e_cons rfl (e_cons rfl (e_cons rfl (e_cons rfl (e_cons (e_add rfl (by decide)) rfl)))))
theorem rY_Sym_isPredicate (rz : zF) (rm : mF) (hR : Rc rz rm) (β : Nat) (σ : zS) (hσ : zOK σ) (x0 : Int) (hx0 : zr x0) : Rf (kY_Sym_isPredicate rz β σ x0) (kC_Sym_isPredicate rm (cv σ) (i32 x0)) β := by
  unfold kY_Sym_isPredicate kC_Sym_isPredicate
  refine Rf_rd rfl hx0 (fun hb1 => ?_)
  refine Rf_eq (e_rd rfl hb1) (by decide) (hσ.2.1 _ _) (by decide) (fun _ => ?_) (fun _ => ?_)
  · exact Rf_tail hR hσ (zrs_cons hx0 (zrs_cons (by decide) zrs_nil)) (e_cons rfl (e_cons (by decide) rfl))
  · exact Rf_tail hR hσ (zrs_cons hx0 (zrs_cons (by decide) zrs_nil)) (e_cons rfl (e_cons (by decide) rfl))
theorem rY_Sym_isPredicate_p15 (rz : zF) (rm : mF) (hR : Rc rz rm) (β : Nat) (σ : zS) (hσ : zOK σ) (x0 x1 : Int) (hx0 : zr x0) (hx1 : zr x1) : Rf (kY_Sym_isPredicate_p15 rz β σ x0 x1) (kC_Sym_isPredicate_p15 rm (cv σ) (i32 x0) (i32 x1)) β := by
  unfold kY_Sym_isPredicate_p15 kC_Sym_isPredicate_p15
  refine Rf_01 rfl hx1 (fun hb1 => ?_)
  exact Rf_some hσ hx1 rfl
theorem rY_Sym_isWitness (rz : zF) (rm : mF) (hR : Rc rz rm) (β : Nat) (σ : zS) (hσ : zOK σ) (x0 : Int) (hx0 : zr x0) : Rf (kY_Sym_isWitness rz β σ x0) (kC_Sym_isWitness rm (cv σ) (i32 x0)) β := by
  unfold kY_Sym_isWitness kC_Sym_isWitness
  refine Rf_le rfl rfl hx0 (hσ.1 604) (fun _ => ?_) (fun _ => ?_)
  · exact Rf_tail hR hσ (zrs_cons hx0 (zrs_cons (by decide) zrs_nil)) (e_cons rfl (e_cons (by decide) rfl))
  · exact Rf_tail hR hσ (zrs_cons hx0 (zrs_cons (by decide) zrs_nil)) (e_cons rfl (e_cons (by decide) rfl))
theorem rY_Sym_isWitness_p13 (rz : zF) (rm : mF) (hR : Rc rz rm) (β : Nat) (σ : zS) (hσ : zOK σ) (x0 x1 : Int) (hx0 : zr x0) (hx1 : zr x1) : Rf (kY_Sym_isWitness_p13 rz β σ x0 x1) (kC_Sym_isWitness_p13 rm (cv σ) (i32 x0) (i32 x1)) β := by
  unfold kY_Sym_isWitness_p13 kC_Sym_isWitness_p13
  refine Rf_01 rfl hx1 (fun hb1 => ?_)
  exact Rf_some hσ hx1 rfl
theorem rY_Sym_same_40_40 (rz : zF) (rm : mF) (hR : Rc rz rm) (β : Nat) (σ : zS) (hσ : zOK σ) (x0 x1 : Int) (hx0 : zr x0) (hx1 : zr x1) : Rf (kY_Sym_same_40_40 rz β σ x0 x1) (kC_Sym_same_40_40 rm (cv σ) (i32 x0) (i32 x1)) β := by
  unfold kY_Sym_same_40_40 kC_Sym_same_40_40
  refine Rf_bnd hR hσ (zrs_cons hx0 zrs_nil) (e_cons rfl rfl) (fun σ1 r1 hσ1 hr1 => ?_)
  refine Rf_g (fun hg1 => ?_)
  refine Rf_g (fun hg2 => ?_)
  refine Rf_le (e_add rfl (e_sub rfl rfl)) (by decide) hg2 (by decide) (fun _ => ?_) (fun _ => ?_)
  · exact Rf_tail hR hσ1 (zrs_cons hx0 (zrs_cons hx1 (zrs_cons hg1 (zrs_cons (by decide) zrs_nil)))) (e_cons rfl (e_cons rfl (e_cons (e_sub rfl rfl) (e_cons (by decide) rfl))))
  · exact Rf_some hσ1 (by decide) (by decide)
theorem rY_Sym_same_40_40_p25 (rz : zF) (rm : mF) (hR : Rc rz rm) (β : Nat) (σ : zS) (hσ : zOK σ) (x0 x1 x2 x3 : Int) (hx0 : zr x0) (hx1 : zr x1) (hx2 : zr x2) (hx3 : zr x3) : Rf (kY_Sym_same_40_40_p25 rz β σ x0 x1 x2 x3) (kC_Sym_same_40_40_p25 rm (cv σ) (i32 x0) (i32 x1) (i32 x2) (i32 x3)) β := by
  unfold kY_Sym_same_40_40_p25 kC_Sym_same_40_40_p25
  refine Rf_le rfl rfl hx2 hx3 (fun _ => ?_) (fun _ => ?_)
  · exact Rf_some hσ (by decide) (by decide)
  · refine Rf_g (fun hg1 => ?_)
    refine Rf_rd (e_add rfl rfl) hg1 (fun hb2 => ?_)
    refine Rf_g (fun hg3 => ?_)
    refine Rf_rd (e_add rfl rfl) hg3 (fun hb4 => ?_)
    refine Rf_eq (e_rd (e_add rfl rfl) hb2) (e_rd (e_add rfl rfl) hb4) (hσ.2.1 _ _) (hσ.2.1 _ _) (fun _ => ?_) (fun _ => ?_)
    · refine Rf_g (fun hg5 => ?_)
      exact Rf_tail hR hσ (zrs_cons hx0 (zrs_cons hx1 (zrs_cons hx2 (zrs_cons hg5 zrs_nil)))) (e_cons rfl (e_cons rfl (e_cons rfl (e_cons (e_add rfl (by decide)) rfl))))
    · exact Rf_some hσ (by decide) (by decide)
theorem rY_Sym_same_48_48 (rz : zF) (rm : mF) (hR : Rc rz rm) (β : Nat) (σ : zS) (hσ : zOK σ) (x0 x1 : Int) (hx0 : zr x0) (hx1 : zr x1) : Rf (kY_Sym_same_48_48 rz β σ x0 x1) (kC_Sym_same_48_48 rm (cv σ) (i32 x0) (i32 x1)) β := by
  unfold kY_Sym_same_48_48 kC_Sym_same_48_48
  refine Rf_bnd hR hσ (zrs_cons hx0 zrs_nil) (e_cons rfl rfl) (fun σ1 r1 hσ1 hr1 => ?_)
  refine Rf_g (fun hg1 => ?_)
  refine Rf_g (fun hg2 => ?_)
  refine Rf_le (e_add rfl (e_sub rfl rfl)) (e_len hσ1 _) hg2 (hσ1.2.2 48) (fun _ => ?_) (fun _ => ?_)
  · exact Rf_tail hR hσ1 (zrs_cons hx0 (zrs_cons hx1 (zrs_cons hg1 (zrs_cons (by decide) zrs_nil)))) (e_cons rfl (e_cons rfl (e_cons (e_sub rfl rfl) (e_cons (by decide) rfl))))
  · exact Rf_some hσ1 (by decide) (by decide)
theorem rY_Sym_same_48_48_p25 (rz : zF) (rm : mF) (hR : Rc rz rm) (β : Nat) (σ : zS) (hσ : zOK σ) (x0 x1 x2 x3 : Int) (hx0 : zr x0) (hx1 : zr x1) (hx2 : zr x2) (hx3 : zr x3) : Rf (kY_Sym_same_48_48_p25 rz β σ x0 x1 x2 x3) (kC_Sym_same_48_48_p25 rm (cv σ) (i32 x0) (i32 x1) (i32 x2) (i32 x3)) β := by
  unfold kY_Sym_same_48_48_p25 kC_Sym_same_48_48_p25
  refine Rf_le rfl rfl hx2 hx3 (fun _ => ?_) (fun _ => ?_)
  · exact Rf_some hσ (by decide) (by decide)
  · refine Rf_g (fun hg1 => ?_)
    refine Rf_rd (e_add rfl rfl) hg1 (fun hb2 => ?_)
    refine Rf_g (fun hg3 => ?_)
    refine Rf_rd (e_add rfl rfl) hg3 (fun hb4 => ?_)
    refine Rf_eq (e_rd (e_add rfl rfl) hb2) (e_rd (e_add rfl rfl) hb4) (hσ.2.1 _ _) (hσ.2.1 _ _) (fun _ => ?_) (fun _ => ?_)
    · refine Rf_g (fun hg5 => ?_)
      exact Rf_tail hR hσ (zrs_cons hx0 (zrs_cons hx1 (zrs_cons hx2 (zrs_cons hg5 zrs_nil)))) (e_cons rfl (e_cons rfl (e_cons rfl (e_cons (e_add rfl (by decide)) rfl))))
    · exact Rf_some hσ (by decide) (by decide)
theorem rY_Sym_settles (rz : zF) (rm : mF) (hR : Rc rz rm) (β : Nat) (σ : zS) (hσ : zOK σ) (x0 x1 x2 : Int) (hx0 : zr x0) (hx1 : zr x1) (hx2 : zr x2) : Rf (kY_Sym_settles rz β σ x0 x1 x2) (kC_Sym_settles rm (cv σ) (i32 x0) (i32 x1) (i32 x2)) β := by
  unfold kY_Sym_settles kC_Sym_settles
  refine Rf_rd rfl hx0 (fun hb1 => ?_)
  refine Rf_eq (e_rd rfl hb1) (by decide) (hσ.2.1 _ _) (by decide) (fun _ => ?_) (fun _ => ?_)
  · refine Rf_rd2 rfl hb1 ?_
    refine Rf_A rfl hb1 rfl hx1 hσ (fun σ1 hσ1 => ?_)
    refine Rf_rd2 rfl hb1 ?_
    refine Rf_A rfl hb1 rfl hx2 hσ1 (fun σ2 hσ2 => ?_)
    exact Rf_tail hR hσ2 (zrs_cons hx0 (zrs_cons hx1 (zrs_cons hx2 zrs_nil))) (e_cons rfl (e_cons rfl (e_cons rfl rfl)))
  · exact Rf_tail hR hσ (zrs_cons hx0 (zrs_cons hx1 (zrs_cons hx2 zrs_nil))) (e_cons rfl (e_cons rfl (e_cons rfl rfl)))
theorem rY_Sym_settles_p23 (rz : zF) (rm : mF) (hR : Rc rz rm) (β : Nat) (σ : zS) (hσ : zOK σ) (x0 x1 x2 : Int) (hx0 : zr x0) (hx1 : zr x1) (hx2 : zr x2) : Rf (kY_Sym_settles_p23 rz β σ x0 x1 x2) (kC_Sym_settles_p23 rm (cv σ) (i32 x0) (i32 x1) (i32 x2)) β := by
  unfold kY_Sym_settles_p23 kC_Sym_settles_p23
  refine Rf_rd rfl hx0 (fun hb1 => ?_)
  refine Rf_eq (e_rd rfl hb1) rfl (hσ.2.1 _ _) hx1 (fun _ => ?_) (fun _ => ?_)
  · refine Rf_rd2 rfl hb1 ?_
    refine Rf_eq (e_rd rfl hb1) rfl (hσ.2.1 _ _) hx2 (fun _ => ?_) (fun _ => ?_)
    · exact Rf_tail hR hσ (zrs_cons hx0 (zrs_cons hx1 (zrs_cons hx2 (zrs_cons (by decide) zrs_nil)))) (e_cons rfl (e_cons rfl (e_cons rfl (e_cons (by decide) rfl))))
    · exact Rf_tail hR hσ (zrs_cons hx0 (zrs_cons hx1 (zrs_cons hx2 zrs_nil))) (e_cons rfl (e_cons rfl (e_cons rfl rfl)))
  · exact Rf_tail hR hσ (zrs_cons hx0 (zrs_cons hx1 (zrs_cons hx2 zrs_nil))) (e_cons rfl (e_cons rfl (e_cons rfl rfl)))
theorem rY_Sym_settles_p47 (rz : zF) (rm : mF) (hR : Rc rz rm) (β : Nat) (σ : zS) (hσ : zOK σ) (x0 x1 x2 : Int) (hx0 : zr x0) (hx1 : zr x1) (hx2 : zr x2) : Rf (kY_Sym_settles_p47 rz β σ x0 x1 x2) (kC_Sym_settles_p47 rm (cv σ) (i32 x0) (i32 x1) (i32 x2)) β := by
  unfold kY_Sym_settles_p47 kC_Sym_settles_p47
  exact Rf_tail hR hσ (zrs_cons hx0 (zrs_cons hx1 (zrs_cons hx2 (zrs_cons (by decide) zrs_nil)))) (e_cons rfl (e_cons rfl (e_cons rfl (e_cons (by decide) rfl))))
theorem rY_Sym_settles_p48 (rz : zF) (rm : mF) (hR : Rc rz rm) (β : Nat) (σ : zS) (hσ : zOK σ) (x0 x1 x2 x3 : Int) (hx0 : zr x0) (hx1 : zr x1) (hx2 : zr x2) (hx3 : zr x3) : Rf (kY_Sym_settles_p48 rz β σ x0 x1 x2 x3) (kC_Sym_settles_p48 rm (cv σ) (i32 x0) (i32 x1) (i32 x2) (i32 x3)) β := by
  unfold kY_Sym_settles_p48 kC_Sym_settles_p48
  refine Rf_01 rfl hx3 (fun hb1 => ?_)
  exact Rf_some hσ hx3 rfl
theorem rY_Sym_toDifference_40_68 (rz : zF) (rm : mF) (hR : Rc rz rm) (β : Nat) (σ : zS) (hσ : zOK σ) (x0 x1 x2 : Int) (hx0 : zr x0) (hx1 : zr x1) (hx2 : zr x2) : Rf (kY_Sym_toDifference_40_68 rz β σ x0 x1 x2) (kC_Sym_toDifference_40_68 rm (cv σ) (i32 x0) (i32 x1) (i32 x2)) β := by
  unfold kY_Sym_toDifference_40_68 kC_Sym_toDifference_40_68
  exact Rf_tail hR hσ (zrs_cons hx0 (zrs_cons hx1 (zrs_cons hx2 (zrs_cons (by decide) zrs_nil)))) (e_cons rfl (e_cons rfl (e_cons rfl (e_cons (by decide) rfl))))
theorem rY_Sym_toDifference_40_68_p3 (rz : zF) (rm : mF) (hR : Rc rz rm) (β : Nat) (σ : zS) (hσ : zOK σ) (x0 x1 x2 x3 : Int) (hx0 : zr x0) (hx1 : zr x1) (hx2 : zr x2) (hx3 : zr x3) : Rf (kY_Sym_toDifference_40_68_p3 rz β σ x0 x1 x2 x3) (kC_Sym_toDifference_40_68_p3 rm (cv σ) (i32 x0) (i32 x1) (i32 x2) (i32 x3)) β := by
  unfold kY_Sym_toDifference_40_68_p3 kC_Sym_toDifference_40_68_p3
  refine Rf_le rfl rfl hx2 hx3 (fun _ => ?_) (fun _ => ?_)
  · exact Rf_tail hR hσ (zrs_cons hx0 (zrs_cons hx1 (zrs_cons hx2 (zrs_cons hx3 zrs_nil)))) (e_cons rfl (e_cons rfl (e_cons rfl (e_cons rfl rfl))))
  · refine Rf_g (fun hg1 => ?_)
    refine Rf_rd (e_add rfl rfl) hg1 (fun hb2 => ?_)
    refine Rf_g (fun hg3 => ?_)
    refine Rf_rd (e_add rfl rfl) hg3 (fun hb4 => ?_)
    refine Rf_eq (e_rd (e_add rfl rfl) hb2) (e_rd (e_add rfl rfl) hb4) (hσ.2.1 _ _) (hσ.2.1 _ _) (fun _ => ?_) (fun _ => ?_)
    · refine Rf_g (fun hg5 => ?_)
      exact Rf_tail hR hσ (zrs_cons hx0 (zrs_cons hx1 (zrs_cons hx2 (zrs_cons hg5 zrs_nil)))) (e_cons rfl (e_cons rfl (e_cons rfl (e_cons (e_add rfl (by decide)) rfl))))
    · exact Rf_tail hR hσ (zrs_cons hx0 (zrs_cons hx1 (zrs_cons hx2 (zrs_cons hx3 zrs_nil)))) (e_cons rfl (e_cons rfl (e_cons rfl (e_cons rfl rfl))))
theorem rY_Sym_toDifference_40_68_p32 (rz : zF) (rm : mF) (hR : Rc rz rm) (β : Nat) (σ : zS) (hσ : zOK σ) (x0 x1 x2 x3 : Int) (hx0 : zr x0) (hx1 : zr x1) (hx2 : zr x2) (hx3 : zr x3) : Rf (kY_Sym_toDifference_40_68_p32 rz β σ x0 x1 x2 x3) (kC_Sym_toDifference_40_68_p32 rm (cv σ) (i32 x0) (i32 x1) (i32 x2) (i32 x3)) β := by
  unfold kY_Sym_toDifference_40_68_p32 kC_Sym_toDifference_40_68_p32
  exact Rf_tail hR hσ (zrs_cons hx0 (zrs_cons hx1 (zrs_cons hx2 (zrs_cons hx3 (zrs_cons (by decide) zrs_nil))))) (e_cons rfl (e_cons rfl (e_cons rfl (e_cons rfl (e_cons (by decide) rfl)))))
theorem rY_Sym_toDifference_40_68_p35 (rz : zF) (rm : mF) (hR : Rc rz rm) (β : Nat) (σ : zS) (hσ : zOK σ) (x0 x1 x2 x3 x4 : Int) (hx0 : zr x0) (hx1 : zr x1) (hx2 : zr x2) (hx3 : zr x3) (hx4 : zr x4) : Rf (kY_Sym_toDifference_40_68_p35 rz β σ x0 x1 x2 x3 x4) (kC_Sym_toDifference_40_68_p35 rm (cv σ) (i32 x0) (i32 x1) (i32 x2) (i32 x3) (i32 x4)) β := by
  unfold kY_Sym_toDifference_40_68_p35 kC_Sym_toDifference_40_68_p35
  refine Rf_le rfl rfl hx2 hx3 (fun _ => ?_) (fun _ => ?_)
  · exact Rf_tail hR hσ (zrs_cons hx0 (zrs_cons hx1 (zrs_cons hx2 (zrs_cons hx3 (zrs_cons hx4 zrs_nil))))) (e_cons rfl (e_cons rfl (e_cons rfl (e_cons rfl (e_cons rfl rfl)))))
  · refine Rf_le rfl rfl hx2 hx4 (fun _ => ?_) (fun _ => ?_)
    · exact Rf_tail hR hσ (zrs_cons hx0 (zrs_cons hx1 (zrs_cons hx2 (zrs_cons hx3 (zrs_cons hx4 zrs_nil))))) (e_cons rfl (e_cons rfl (e_cons rfl (e_cons rfl (e_cons rfl rfl)))))
    · refine Rf_g (fun hg1 => ?_)
      refine Rf_bnd hR hσ (zrs_cons hg1 zrs_nil) (e_cons (e_add rfl rfl) rfl) (fun σ1 r1 hσ1 hr1 => ?_)
      refine Rf_g (fun hg2 => ?_)
      refine Rf_le (e_sub rfl rfl) rfl hg2 hx3 (fun _ => ?_) (fun _ => ?_)
      · exact Rf_tail hR hσ1 (zrs_cons hx0 (zrs_cons hx1 (zrs_cons hx2 (zrs_cons hx3 (zrs_cons hg2 zrs_nil))))) (e_cons rfl (e_cons rfl (e_cons rfl (e_cons rfl (e_cons (e_sub rfl rfl) rfl)))))
      · exact Rf_some hσ1 hx4 rfl
theorem rY_Sym_toDifference_40_68_p79 (rz : zF) (rm : mF) (hR : Rc rz rm) (β : Nat) (σ : zS) (hσ : zOK σ) (x0 x1 x2 x3 x4 : Int) (hx0 : zr x0) (hx1 : zr x1) (hx2 : zr x2) (hx3 : zr x3) (hx4 : zr x4) : Rf (kY_Sym_toDifference_40_68_p79 rz β σ x0 x1 x2 x3 x4) (kC_Sym_toDifference_40_68_p79 rm (cv σ) (i32 x0) (i32 x1) (i32 x2) (i32 x3) (i32 x4)) β := by
  unfold kY_Sym_toDifference_40_68_p79 kC_Sym_toDifference_40_68_p79
  exact Rf_some hσ (by decide) (by decide)
theorem rY_Sym_toDifference_48_48 (rz : zF) (rm : mF) (hR : Rc rz rm) (β : Nat) (σ : zS) (hσ : zOK σ) (x0 x1 x2 : Int) (hx0 : zr x0) (hx1 : zr x1) (hx2 : zr x2) : Rf (kY_Sym_toDifference_48_48 rz β σ x0 x1 x2) (kC_Sym_toDifference_48_48 rm (cv σ) (i32 x0) (i32 x1) (i32 x2)) β := by
  unfold kY_Sym_toDifference_48_48 kC_Sym_toDifference_48_48
  exact Rf_tail hR hσ (zrs_cons hx0 (zrs_cons hx1 (zrs_cons hx2 (zrs_cons (by decide) zrs_nil)))) (e_cons rfl (e_cons rfl (e_cons rfl (e_cons (by decide) rfl))))
theorem rY_Sym_toDifference_48_48_p3 (rz : zF) (rm : mF) (hR : Rc rz rm) (β : Nat) (σ : zS) (hσ : zOK σ) (x0 x1 x2 x3 : Int) (hx0 : zr x0) (hx1 : zr x1) (hx2 : zr x2) (hx3 : zr x3) : Rf (kY_Sym_toDifference_48_48_p3 rz β σ x0 x1 x2 x3) (kC_Sym_toDifference_48_48_p3 rm (cv σ) (i32 x0) (i32 x1) (i32 x2) (i32 x3)) β := by
  unfold kY_Sym_toDifference_48_48_p3 kC_Sym_toDifference_48_48_p3
  refine Rf_le rfl rfl hx2 hx3 (fun _ => ?_) (fun _ => ?_)
  · exact Rf_tail hR hσ (zrs_cons hx0 (zrs_cons hx1 (zrs_cons hx2 (zrs_cons hx3 zrs_nil)))) (e_cons rfl (e_cons rfl (e_cons rfl (e_cons rfl rfl))))
  · refine Rf_g (fun hg1 => ?_)
    refine Rf_rd (e_add rfl rfl) hg1 (fun hb2 => ?_)
    refine Rf_g (fun hg3 => ?_)
    refine Rf_rd (e_add rfl rfl) hg3 (fun hb4 => ?_)
    refine Rf_eq (e_rd (e_add rfl rfl) hb2) (e_rd (e_add rfl rfl) hb4) (hσ.2.1 _ _) (hσ.2.1 _ _) (fun _ => ?_) (fun _ => ?_)
    · refine Rf_g (fun hg5 => ?_)
      exact Rf_tail hR hσ (zrs_cons hx0 (zrs_cons hx1 (zrs_cons hx2 (zrs_cons hg5 zrs_nil)))) (e_cons rfl (e_cons rfl (e_cons rfl (e_cons (e_add rfl (by decide)) rfl))))
    · exact Rf_tail hR hσ (zrs_cons hx0 (zrs_cons hx1 (zrs_cons hx2 (zrs_cons hx3 zrs_nil)))) (e_cons rfl (e_cons rfl (e_cons rfl (e_cons rfl rfl))))
theorem rY_Sym_toDifference_48_48_p32 (rz : zF) (rm : mF) (hR : Rc rz rm) (β : Nat) (σ : zS) (hσ : zOK σ) (x0 x1 x2 x3 : Int) (hx0 : zr x0) (hx1 : zr x1) (hx2 : zr x2) (hx3 : zr x3) : Rf (kY_Sym_toDifference_48_48_p32 rz β σ x0 x1 x2 x3) (kC_Sym_toDifference_48_48_p32 rm (cv σ) (i32 x0) (i32 x1) (i32 x2) (i32 x3)) β := by
  unfold kY_Sym_toDifference_48_48_p32 kC_Sym_toDifference_48_48_p32
  exact Rf_tail hR hσ (zrs_cons hx0 (zrs_cons hx1 (zrs_cons hx2 (zrs_cons hx3 (zrs_cons (by decide) zrs_nil))))) (e_cons rfl (e_cons rfl (e_cons rfl (e_cons rfl (e_cons (by decide) rfl)))))
theorem rY_Sym_toDifference_48_48_p35 (rz : zF) (rm : mF) (hR : Rc rz rm) (β : Nat) (σ : zS) (hσ : zOK σ) (x0 x1 x2 x3 x4 : Int) (hx0 : zr x0) (hx1 : zr x1) (hx2 : zr x2) (hx3 : zr x3) (hx4 : zr x4) : Rf (kY_Sym_toDifference_48_48_p35 rz β σ x0 x1 x2 x3 x4) (kC_Sym_toDifference_48_48_p35 rm (cv σ) (i32 x0) (i32 x1) (i32 x2) (i32 x3) (i32 x4)) β := by
  unfold kY_Sym_toDifference_48_48_p35 kC_Sym_toDifference_48_48_p35
  refine Rf_le rfl rfl hx2 hx3 (fun _ => ?_) (fun _ => ?_)
  · exact Rf_tail hR hσ (zrs_cons hx0 (zrs_cons hx1 (zrs_cons hx2 (zrs_cons hx3 (zrs_cons hx4 zrs_nil))))) (e_cons rfl (e_cons rfl (e_cons rfl (e_cons rfl (e_cons rfl rfl)))))
  · refine Rf_le rfl rfl hx2 hx4 (fun _ => ?_) (fun _ => ?_)
    · exact Rf_tail hR hσ (zrs_cons hx0 (zrs_cons hx1 (zrs_cons hx2 (zrs_cons hx3 (zrs_cons hx4 zrs_nil))))) (e_cons rfl (e_cons rfl (e_cons rfl (e_cons rfl (e_cons rfl rfl)))))
    · refine Rf_g (fun hg1 => ?_)
      refine Rf_bnd hR hσ (zrs_cons hg1 zrs_nil) (e_cons (e_add rfl rfl) rfl) (fun σ1 r1 hσ1 hr1 => ?_)
      refine Rf_g (fun hg2 => ?_)
      refine Rf_le (e_sub rfl rfl) rfl hg2 hx3 (fun _ => ?_) (fun _ => ?_)
      · exact Rf_tail hR hσ1 (zrs_cons hx0 (zrs_cons hx1 (zrs_cons hx2 (zrs_cons hx3 (zrs_cons hg2 zrs_nil))))) (e_cons rfl (e_cons rfl (e_cons rfl (e_cons rfl (e_cons (e_sub rfl rfl) rfl)))))
      · exact Rf_some hσ1 hx4 rfl
theorem rY_Sym_toDifference_48_48_p79 (rz : zF) (rm : mF) (hR : Rc rz rm) (β : Nat) (σ : zS) (hσ : zOK σ) (x0 x1 x2 x3 x4 : Int) (hx0 : zr x0) (hx1 : zr x1) (hx2 : zr x2) (hx3 : zr x3) (hx4 : zr x4) : Rf (kY_Sym_toDifference_48_48_p79 rz β σ x0 x1 x2 x3 x4) (kC_Sym_toDifference_48_48_p79 rm (cv σ) (i32 x0) (i32 x1) (i32 x2) (i32 x3) (i32 x4)) β := by
  unfold kY_Sym_toDifference_48_48_p79 kC_Sym_toDifference_48_48_p79
  exact Rf_some hσ (by decide) (by decide)
theorem rY_Sym_toDifference_48_68 (rz : zF) (rm : mF) (hR : Rc rz rm) (β : Nat) (σ : zS) (hσ : zOK σ) (x0 x1 x2 : Int) (hx0 : zr x0) (hx1 : zr x1) (hx2 : zr x2) : Rf (kY_Sym_toDifference_48_68 rz β σ x0 x1 x2) (kC_Sym_toDifference_48_68 rm (cv σ) (i32 x0) (i32 x1) (i32 x2)) β := by
  unfold kY_Sym_toDifference_48_68 kC_Sym_toDifference_48_68
  exact Rf_tail hR hσ (zrs_cons hx0 (zrs_cons hx1 (zrs_cons hx2 (zrs_cons (by decide) zrs_nil)))) (e_cons rfl (e_cons rfl (e_cons rfl (e_cons (by decide) rfl))))
theorem rY_Sym_toDifference_48_68_p3 (rz : zF) (rm : mF) (hR : Rc rz rm) (β : Nat) (σ : zS) (hσ : zOK σ) (x0 x1 x2 x3 : Int) (hx0 : zr x0) (hx1 : zr x1) (hx2 : zr x2) (hx3 : zr x3) : Rf (kY_Sym_toDifference_48_68_p3 rz β σ x0 x1 x2 x3) (kC_Sym_toDifference_48_68_p3 rm (cv σ) (i32 x0) (i32 x1) (i32 x2) (i32 x3)) β := by
  unfold kY_Sym_toDifference_48_68_p3 kC_Sym_toDifference_48_68_p3
  refine Rf_le rfl rfl hx2 hx3 (fun _ => ?_) (fun _ => ?_)
  · exact Rf_tail hR hσ (zrs_cons hx0 (zrs_cons hx1 (zrs_cons hx2 (zrs_cons hx3 zrs_nil)))) (e_cons rfl (e_cons rfl (e_cons rfl (e_cons rfl rfl))))
  · refine Rf_g (fun hg1 => ?_)
    refine Rf_rd (e_add rfl rfl) hg1 (fun hb2 => ?_)
    refine Rf_g (fun hg3 => ?_)
    refine Rf_rd (e_add rfl rfl) hg3 (fun hb4 => ?_)
    refine Rf_eq (e_rd (e_add rfl rfl) hb2) (e_rd (e_add rfl rfl) hb4) (hσ.2.1 _ _) (hσ.2.1 _ _) (fun _ => ?_) (fun _ => ?_)
    · refine Rf_g (fun hg5 => ?_)
      exact Rf_tail hR hσ (zrs_cons hx0 (zrs_cons hx1 (zrs_cons hx2 (zrs_cons hg5 zrs_nil)))) (e_cons rfl (e_cons rfl (e_cons rfl (e_cons (e_add rfl (by decide)) rfl))))
    · exact Rf_tail hR hσ (zrs_cons hx0 (zrs_cons hx1 (zrs_cons hx2 (zrs_cons hx3 zrs_nil)))) (e_cons rfl (e_cons rfl (e_cons rfl (e_cons rfl rfl))))
theorem rY_Sym_toDifference_48_68_p32 (rz : zF) (rm : mF) (hR : Rc rz rm) (β : Nat) (σ : zS) (hσ : zOK σ) (x0 x1 x2 x3 : Int) (hx0 : zr x0) (hx1 : zr x1) (hx2 : zr x2) (hx3 : zr x3) : Rf (kY_Sym_toDifference_48_68_p32 rz β σ x0 x1 x2 x3) (kC_Sym_toDifference_48_68_p32 rm (cv σ) (i32 x0) (i32 x1) (i32 x2) (i32 x3)) β := by
  unfold kY_Sym_toDifference_48_68_p32 kC_Sym_toDifference_48_68_p32
  exact Rf_tail hR hσ (zrs_cons hx0 (zrs_cons hx1 (zrs_cons hx2 (zrs_cons hx3 (zrs_cons (by decide) zrs_nil))))) (e_cons rfl (e_cons rfl (e_cons rfl (e_cons rfl (e_cons (by decide) rfl)))))
theorem rY_Sym_toDifference_48_68_p35 (rz : zF) (rm : mF) (hR : Rc rz rm) (β : Nat) (σ : zS) (hσ : zOK σ) (x0 x1 x2 x3 x4 : Int) (hx0 : zr x0) (hx1 : zr x1) (hx2 : zr x2) (hx3 : zr x3) (hx4 : zr x4) : Rf (kY_Sym_toDifference_48_68_p35 rz β σ x0 x1 x2 x3 x4) (kC_Sym_toDifference_48_68_p35 rm (cv σ) (i32 x0) (i32 x1) (i32 x2) (i32 x3) (i32 x4)) β := by
  unfold kY_Sym_toDifference_48_68_p35 kC_Sym_toDifference_48_68_p35
  refine Rf_le rfl rfl hx2 hx3 (fun _ => ?_) (fun _ => ?_)
  · exact Rf_tail hR hσ (zrs_cons hx0 (zrs_cons hx1 (zrs_cons hx2 (zrs_cons hx3 (zrs_cons hx4 zrs_nil))))) (e_cons rfl (e_cons rfl (e_cons rfl (e_cons rfl (e_cons rfl rfl)))))
  · refine Rf_le rfl rfl hx2 hx4 (fun _ => ?_) (fun _ => ?_)
    · exact Rf_tail hR hσ (zrs_cons hx0 (zrs_cons hx1 (zrs_cons hx2 (zrs_cons hx3 (zrs_cons hx4 zrs_nil))))) (e_cons rfl (e_cons rfl (e_cons rfl (e_cons rfl (e_cons rfl rfl)))))
    · refine Rf_g (fun hg1 => ?_)
      refine Rf_bnd hR hσ (zrs_cons hg1 zrs_nil) (e_cons (e_add rfl rfl) rfl) (fun σ1 r1 hσ1 hr1 => ?_)
      refine Rf_g (fun hg2 => ?_)
      refine Rf_le (e_sub rfl rfl) rfl hg2 hx3 (fun _ => ?_) (fun _ => ?_)
      · exact Rf_tail hR hσ1 (zrs_cons hx0 (zrs_cons hx1 (zrs_cons hx2 (zrs_cons hx3 (zrs_cons hg2 zrs_nil))))) (e_cons rfl (e_cons rfl (e_cons rfl (e_cons rfl (e_cons (e_sub rfl rfl) rfl)))))
      · exact Rf_some hσ1 hx4 rfl
theorem rY_Sym_toDifference_48_68_p79 (rz : zF) (rm : mF) (hR : Rc rz rm) (β : Nat) (σ : zS) (hσ : zOK σ) (x0 x1 x2 x3 x4 : Int) (hx0 : zr x0) (hx1 : zr x1) (hx2 : zr x2) (hx3 : zr x3) (hx4 : zr x4) : Rf (kY_Sym_toDifference_48_68_p79 rz β σ x0 x1 x2 x3 x4) (kC_Sym_toDifference_48_68_p79 rm (cv σ) (i32 x0) (i32 x1) (i32 x2) (i32 x3) (i32 x4)) β := by
  unfold kY_Sym_toDifference_48_68_p79 kC_Sym_toDifference_48_68_p79
  exact Rf_some hσ (by decide) (by decide)
theorem rY_Uni_clear (rz : zF) (rm : mF) (hR : Rc rz rm) (β : Nat) (σ : zS) (hσ : zOK σ) (x0 x1 : Int) (hx0 : zr x0) (hx1 : zr x1) : Rf (kY_Uni_clear rz β σ x0 x1) (kC_Uni_clear rm (cv σ) (i32 x0) (i32 x1)) β := by
  unfold kY_Uni_clear kC_Uni_clear
  exact Rf_tail hR hσ (zrs_cons hx0 (zrs_cons hx1 (zrs_cons (by decide) zrs_nil))) (e_cons rfl (e_cons rfl (e_cons (by decide) rfl)))
theorem rY_Uni_clear_p2 (rz : zF) (rm : mF) (hR : Rc rz rm) (β : Nat) (σ : zS) (hσ : zOK σ) (x0 x1 x2 : Int) (hx0 : zr x0) (hx1 : zr x1) (hx2 : zr x2) : Rf (kY_Uni_clear_p2 rz β σ x0 x1 x2) (kC_Uni_clear_p2 rm (cv σ) (i32 x0) (i32 x1) (i32 x2)) β := by
  unfold kY_Uni_clear_p2 kC_Uni_clear_p2
  refine Rf_le (by decide) rfl (by decide) hx2 (fun _ => ?_) (fun _ => ?_)
  · refine Rf_I (by decide) (by decide) hσ (fun σ1 hσ1 => ?_)
    refine Rf_I rfl hx0 hσ1 (fun σ2 hσ2 => ?_)
    refine Rf_I rfl hx1 hσ2 (fun σ3 hσ3 => ?_)
    exact Rf_tail hR hσ3 (zrs_cons hx0 (zrs_cons hx1 (zrs_cons (by decide) zrs_nil))) (e_cons rfl (e_cons rfl (e_cons (by decide) rfl)))
  · refine Rf_rd rfl hx2 (fun hb1 => ?_)
    refine Rf_A rfl hb1 rfl hx2 hσ (fun σ4 hσ4 => ?_)
    refine Rf_rd2 rfl hb1 ?_
    refine Rf_A rfl hb1 (by decide) (by decide) hσ4 (fun σ5 hσ5 => ?_)
    refine Rf_g (fun hg2 => ?_)
    exact Rf_tail hR hσ5 (zrs_cons hx0 (zrs_cons hx1 (zrs_cons hg2 zrs_nil))) (e_cons rfl (e_cons rfl (e_cons (e_add rfl (by decide)) rfl)))
theorem rY_Uni_clear_p45 (rz : zF) (rm : mF) (hR : Rc rz rm) (β : Nat) (σ : zS) (hσ : zOK σ) (x0 x1 x2 : Int) (hx0 : zr x0) (hx1 : zr x1) (hx2 : zr x2) : Rf (kY_Uni_clear_p45 rz β σ x0 x1 x2) (kC_Uni_clear_p45 rm (cv σ) (i32 x0) (i32 x1) (i32 x2)) β := by
  unfold kY_Uni_clear_p45 kC_Uni_clear_p45
  refine Rf_le rfl rfl (hσ.1 6401) hx2 (fun _ => ?_) (fun _ => ?_)
  · refine Rf_I (by decide) (by decide) hσ (fun σ1 hσ1 => ?_)
    exact Rf_some hσ1 (by decide) (by decide)
  · refine Rf_rd rfl hx2 (fun hb1 => ?_)
    refine Rf_rd (e_rd rfl hb1) (hσ.2.1 _ _) (fun hb2 => ?_)
    have hg3 : (0 : Int) = 0 ∨ (0 : Int) = 1 := by decide
    refine Rf_A (e_rd rfl hb1) hb2 (e_bool (by decide) hg3) (by decide) hσ (fun σ2 hσ2 => ?_)
    refine Rf_g (fun hg4 => ?_)
    exact Rf_tail hR hσ2 (zrs_cons hx0 (zrs_cons hx1 (zrs_cons hg4 zrs_nil))) (e_cons rfl (e_cons rfl (e_cons (e_add rfl (by decide)) rfl)))
theorem rY_Uni_occurs (rz : zF) (rm : mF) (hR : Rc rz rm) (β : Nat) (σ : zS) (hσ : zOK σ) (x0 x1 x2 : Int) (hx0 : zr x0) (hx1 : zr x1) (hx2 : zr x2) : Rf (kY_Uni_occurs rz β σ x0 x1 x2) (kC_Uni_occurs rm (cv σ) (i32 x0) (i32 x1) (i32 x2)) β := by
  unfold kY_Uni_occurs kC_Uni_occurs
  exact Rf_tail hR hσ (zrs_cons hx0 (zrs_cons hx1 (zrs_cons hx2 (zrs_cons (by decide) (zrs_cons (by decide) (zrs_cons hx1 (zrs_cons hx2 (zrs_cons (by decide) zrs_nil)))))))) (e_cons rfl (e_cons rfl (e_cons rfl (e_cons (by decide) (e_cons (by decide) (e_cons rfl (e_cons rfl (e_cons (by decide) rfl))))))))
theorem rY_Uni_occurs_p15 (rz : zF) (rm : mF) (hR : Rc rz rm) (β : Nat) (σ : zS) (hσ : zOK σ) (x0 x1 x2 x3 x4 x5 x6 x7 : Int) (hx0 : zr x0) (hx1 : zr x1) (hx2 : zr x2) (hx3 : zr x3) (hx4 : zr x4) (hx5 : zr x5) (hx6 : zr x6) (hx7 : zr x7) : Rf (kY_Uni_occurs_p15 rz β σ x0 x1 x2 x3 x4 x5 x6 x7) (kC_Uni_occurs_p15 rm (cv σ) (i32 x0) (i32 x1) (i32 x2) (i32 x3) (i32 x4) (i32 x5) (i32 x6) (i32 x7)) β := by
  unfold kY_Uni_occurs_p15 kC_Uni_occurs_p15
  refine Rf_lt (by decide) rfl (by decide) hx7 (fun _ => ?_) (fun _ => ?_)
  · exact Rf_tail hR hσ (zrs_cons hx0 (zrs_cons hx1 (zrs_cons hx2 (zrs_cons hx3 (zrs_cons hx4 (zrs_cons hx5 (zrs_cons hx6 (zrs_cons hx7 zrs_nil)))))))) (e_cons rfl (e_cons rfl (e_cons rfl (e_cons rfl (e_cons rfl (e_cons rfl (e_cons rfl (e_cons rfl rfl))))))))
  · exact Rf_tail hR hσ (zrs_cons hx0 (zrs_cons hx1 (zrs_cons hx2 (zrs_cons hx3 (zrs_cons hx4 (zrs_cons hx5 (zrs_cons hx6 (zrs_cons hx7 (zrs_cons (by decide) (zrs_cons hx5 zrs_nil)))))))))) (e_cons rfl (e_cons rfl (e_cons rfl (e_cons rfl (e_cons rfl (e_cons rfl (e_cons rfl (e_cons rfl (e_cons (by decide) (e_cons rfl rfl))))))))))
theorem rY_Uni_occurs_p29 (rz : zF) (rm : mF) (hR : Rc rz rm) (β : Nat) (σ : zS) (hσ : zOK σ) (x0 x1 x2 x3 x4 x5 x6 x7 x8 x9 : Int) (hx0 : zr x0) (hx1 : zr x1) (hx2 : zr x2) (hx3 : zr x3) (hx4 : zr x4) (hx5 : zr x5) (hx6 : zr x6) (hx7 : zr x7) (hx8 : zr x8) (hx9 : zr x9) : Rf (kY_Uni_occurs_p29 rz β σ x0 x1 x2 x3 x4 x5 x6 x7 x8 x9) (kC_Uni_occurs_p29 rm (cv σ) (i32 x0) (i32 x1) (i32 x2) (i32 x3) (i32 x4) (i32 x5) (i32 x6) (i32 x7) (i32 x8) (i32 x9)) β := by
  unfold kY_Uni_occurs_p29 kC_Uni_occurs_p29
  refine Rf_le rfl (by decide) hx8 (by decide) (fun _ => ?_) (fun _ => ?_)
  · exact Rf_tail hR hσ (zrs_cons hx0 (zrs_cons hx1 (zrs_cons hx2 (zrs_cons hx3 (zrs_cons hx4 (zrs_cons hx5 (zrs_cons hx6 (zrs_cons hx7 (zrs_cons hx8 (zrs_cons hx9 zrs_nil)))))))))) (e_cons rfl (e_cons rfl (e_cons rfl (e_cons rfl (e_cons rfl (e_cons rfl (e_cons rfl (e_cons rfl (e_cons rfl (e_cons rfl rfl))))))))))
  · refine Rf_le rfl rfl (hσ.1 4701) hx9 (fun _ => ?_) (fun _ => ?_)
    · exact Rf_tail hR hσ (zrs_cons hx0 (zrs_cons hx1 (zrs_cons hx2 (zrs_cons hx3 (zrs_cons hx4 (zrs_cons hx5 (zrs_cons hx6 (zrs_cons hx7 (zrs_cons hx8 (zrs_cons hx9 zrs_nil)))))))))) (e_cons rfl (e_cons rfl (e_cons rfl (e_cons rfl (e_cons rfl (e_cons rfl (e_cons rfl (e_cons rfl (e_cons rfl (e_cons rfl rfl))))))))))
    · refine Rf_rd rfl hx9 (fun hb1 => ?_)
      refine Rf_le (by decide) (e_rd rfl hb1) (by decide) (hσ.2.1 _ _) (fun _ => ?_) (fun _ => ?_)
      · refine Rf_rd (e_rd rfl hb1) (hσ.2.1 _ _) (fun hb2 => ?_)
        refine Rf_g (fun hg3 => ?_)
        exact Rf_tail hR hσ (zrs_cons hx0 (zrs_cons hx1 (zrs_cons hx2 (zrs_cons hx3 (zrs_cons hx4 (zrs_cons hx5 (zrs_cons hx6 (zrs_cons hx7 (zrs_cons hx8 (zrs_cons hx9 (zrs_cons (hσ.2.1 _ _) (zrs_cons hg3 (zrs_cons hx8 zrs_nil))))))))))))) (e_cons rfl (e_cons rfl (e_cons rfl (e_cons rfl (e_cons rfl (e_cons rfl (e_cons rfl (e_cons rfl (e_cons rfl (e_cons rfl (e_cons (e_rd rfl hb1) (e_cons (e_sub (e_rd (e_rd rfl hb1) hb2) (by decide)) (e_cons rfl rfl)))))))))))))
      · exact Rf_tail hR hσ (zrs_cons hx0 (zrs_cons hx1 (zrs_cons hx2 (zrs_cons hx3 (zrs_cons hx4 (zrs_cons hx5 (zrs_cons hx6 (zrs_cons hx7 (zrs_cons hx8 (zrs_cons hx9 (zrs_cons (hσ.2.1 _ _) (zrs_cons (by decide) (zrs_cons hx8 zrs_nil))))))))))))) (e_cons rfl (e_cons rfl (e_cons rfl (e_cons rfl (e_cons rfl (e_cons rfl (e_cons rfl (e_cons rfl (e_cons rfl (e_cons rfl (e_cons (e_rd rfl hb1) (e_cons (by decide) (e_cons rfl rfl)))))))))))))
theorem rY_Uni_occurs_p81 (rz : zF) (rm : mF) (hR : Rc rz rm) (β : Nat) (σ : zS) (hσ : zOK σ) (x0 x1 x2 x3 x4 x5 x6 x7 x8 x9 x10 x11 x12 : Int) (hx0 : zr x0) (hx1 : zr x1) (hx2 : zr x2) (hx3 : zr x3) (hx4 : zr x4) (hx5 : zr x5) (hx6 : zr x6) (hx7 : zr x7) (hx8 : zr x8) (hx9 : zr x9) (hx10 : zr x10) (hx11 : zr x11) (hx12 : zr x12) : Rf (kY_Uni_occurs_p81 rz β σ x0 x1 x2 x3 x4 x5 x6 x7 x8 x9 x10 x11 x12) (kC_Uni_occurs_p81 rm (cv σ) (i32 x0) (i32 x1) (i32 x2) (i32 x3) (i32 x4) (i32 x5) (i32 x6) (i32 x7) (i32 x8) (i32 x9) (i32 x10) (i32 x11) (i32 x12)) β := by
  unfold kY_Uni_occurs_p81 kC_Uni_occurs_p81
  refine Rf_le (by decide) rfl (by decide) hx10 (fun _ => ?_) (fun _ => ?_)
  · refine Rf_g (fun hg1 => ?_)
    exact Rf_tail hR hσ (zrs_cons hx0 (zrs_cons hx1 (zrs_cons hx2 (zrs_cons hx3 (zrs_cons hx4 (zrs_cons hx5 (zrs_cons hx6 (zrs_cons hx7 (zrs_cons hg1 (zrs_cons hx9 (zrs_cons hx10 (zrs_cons (by decide) (zrs_cons hx3 zrs_nil))))))))))))) (e_cons rfl (e_cons rfl (e_cons rfl (e_cons rfl (e_cons rfl (e_cons rfl (e_cons rfl (e_cons rfl (e_cons (e_add rfl rfl) (e_cons rfl (e_cons rfl (e_cons (by decide) (e_cons rfl rfl)))))))))))))
  · refine Rf_g (fun hg2 => ?_)
    refine Rf_rd (e_add (e_not rfl) rfl) hg2 (fun hb3 => ?_)
    refine Rf_g (fun hg4 => ?_)
    exact Rf_tail hR hσ (zrs_cons hx0 (zrs_cons hx1 (zrs_cons hx2 (zrs_cons hx3 (zrs_cons hx4 (zrs_cons hx5 (zrs_cons hx6 (zrs_cons hx7 (zrs_cons hg4 (zrs_cons hx9 (zrs_cons hx10 (zrs_cons (zr_to _) (zrs_cons hx3 zrs_nil))))))))))))) (e_cons rfl (e_cons rfl (e_cons rfl (e_cons rfl (e_cons rfl (e_cons rfl (e_cons rfl (e_cons rfl (e_cons (e_add rfl rfl) (e_cons rfl (e_cons rfl (e_cons (e_shl (by decide) (e_rd (e_add (e_not rfl) rfl) hb3)) (e_cons rfl rfl)))))))))))))
theorem rY_Uni_occurs_p109 (rz : zF) (rm : mF) (hR : Rc rz rm) (β : Nat) (σ : zS) (hσ : zOK σ) (x0 x1 x2 x3 x4 x5 x6 x7 x8 x9 x10 x11 x12 : Int) (hx0 : zr x0) (hx1 : zr x1) (hx2 : zr x2) (hx3 : zr x3) (hx4 : zr x4) (hx5 : zr x5) (hx6 : zr x6) (hx7 : zr x7) (hx8 : zr x8) (hx9 : zr x9) (hx10 : zr x10) (hx11 : zr x11) (hx12 : zr x12) : Rf (kY_Uni_occurs_p109 rz β σ x0 x1 x2 x3 x4 x5 x6 x7 x8 x9 x10 x11 x12) (kC_Uni_occurs_p109 rm (cv σ) (i32 x0) (i32 x1) (i32 x2) (i32 x3) (i32 x4) (i32 x5) (i32 x6) (i32 x7) (i32 x8) (i32 x9) (i32 x10) (i32 x11) (i32 x12)) β := by
  unfold kY_Uni_occurs_p109 kC_Uni_occurs_p109
  refine Rf_g (fun hg1 => ?_)
  exact Rf_tail hR hσ (zrs_cons hx0 (zrs_cons hx1 (zrs_cons hx2 (zrs_cons (zr_to _) (zrs_cons hx4 (zrs_cons hx5 (zrs_cons hx6 (zrs_cons hx7 (zrs_cons hx8 (zrs_cons hg1 zrs_nil)))))))))) (e_cons rfl (e_cons rfl (e_cons rfl (e_cons (e_or rfl rfl) (e_cons rfl (e_cons rfl (e_cons rfl (e_cons rfl (e_cons rfl (e_cons (e_add rfl (by decide)) rfl))))))))))
theorem rY_Uni_occurs_p118 (rz : zF) (rm : mF) (hR : Rc rz rm) (β : Nat) (σ : zS) (hσ : zOK σ) (x0 x1 x2 x3 x4 x5 x6 x7 x8 x9 : Int) (hx0 : zr x0) (hx1 : zr x1) (hx2 : zr x2) (hx3 : zr x3) (hx4 : zr x4) (hx5 : zr x5) (hx6 : zr x6) (hx7 : zr x7) (hx8 : zr x8) (hx9 : zr x9) : Rf (kY_Uni_occurs_p118 rz β σ x0 x1 x2 x3 x4 x5 x6 x7 x8 x9) (kC_Uni_occurs_p118 rm (cv σ) (i32 x0) (i32 x1) (i32 x2) (i32 x3) (i32 x4) (i32 x5) (i32 x6) (i32 x7) (i32 x8) (i32 x9)) β := by
  unfold kY_Uni_occurs_p118 kC_Uni_occurs_p118
  refine Rf_eq (e_and (e_shr rfl rfl) (by decide)) (by decide) (zr_to _) (by decide) (fun _ => ?_) (fun _ => ?_)
  · exact Rf_tail hR hσ (zrs_cons hx0 (zrs_cons hx1 (zrs_cons hx2 (zrs_cons hx3 (zrs_cons hx4 (zrs_cons hx5 (zrs_cons hx6 (zrs_cons hx7 zrs_nil)))))))) (e_cons rfl (e_cons rfl (e_cons rfl (e_cons rfl (e_cons rfl (e_cons rfl (e_cons rfl (e_cons rfl rfl))))))))
  · refine Rf_eq (e_and (e_and rfl rfl) (e_not rfl)) (by decide) (zr_to _) (by decide) (fun _ => ?_) (fun _ => ?_)
    · exact Rf_tail hR hσ (zrs_cons hx0 (zrs_cons hx1 (zrs_cons hx2 (zrs_cons hx3 (zrs_cons hx4 (zrs_cons hx5 (zrs_cons hx6 (zrs_cons hx7 zrs_nil)))))))) (e_cons rfl (e_cons rfl (e_cons rfl (e_cons rfl (e_cons rfl (e_cons rfl (e_cons rfl (e_cons rfl rfl))))))))
    · refine Rf_bnd hR hσ (zrs_cons (zr_to _) zrs_nil) (e_cons (e_and (e_and rfl rfl) (e_not rfl)) rfl) (fun σ1 r1 hσ1 hr1 => ?_)
      refine Rf_rd rfl hr1 (fun hb1 => ?_)
      refine Rf_rd2 rfl hb1 ?_
      refine Rf_g (fun hg2 => ?_)
      exact Rf_tail hR hσ1 (zrs_cons hx0 (zrs_cons hx1 (zrs_cons hx2 (zrs_cons hx3 (zrs_cons (zr_to _) (zrs_cons (hσ1.2.1 _ _) (zrs_cons (hσ1.2.1 _ _) (zrs_cons hg2 zrs_nil)))))))) (e_cons rfl (e_cons rfl (e_cons rfl (e_cons rfl (e_cons (e_or rfl (e_shl (by decide) rfl)) (e_cons (e_rd rfl hb1) (e_cons (e_rd rfl hb1) (e_cons (e_add rfl (by decide)) rfl))))))))
theorem rY_Uni_occurs_p190 (rz : zF) (rm : mF) (hR : Rc rz rm) (β : Nat) (σ : zS) (hσ : zOK σ) (x0 x1 x2 x3 x4 x5 x6 x7 : Int) (hx0 : zr x0) (hx1 : zr x1) (hx2 : zr x2) (hx3 : zr x3) (hx4 : zr x4) (hx5 : zr x5) (hx6 : zr x6) (hx7 : zr x7) : Rf (kY_Uni_occurs_p190 rz β σ x0 x1 x2 x3 x4 x5 x6 x7) (kC_Uni_occurs_p190 rm (cv σ) (i32 x0) (i32 x1) (i32 x2) (i32 x3) (i32 x4) (i32 x5) (i32 x6) (i32 x7)) β := by
  unfold kY_Uni_occurs_p190 kC_Uni_occurs_p190
  refine Rf_eq (e_and (e_shr rfl rfl) (by decide)) (by decide) (zr_to _) (by decide) (fun _ => ?_) (fun _ => ?_)
  · exact Rf_tail hR hσ (zrs_cons hx0 (zrs_cons hx1 (zrs_cons hx2 (zrs_cons hx3 (zrs_cons hx4 (zrs_cons hx5 (zrs_cons hx6 (zrs_cons hx7 (zrs_cons (by decide) zrs_nil))))))))) (e_cons rfl (e_cons rfl (e_cons rfl (e_cons rfl (e_cons rfl (e_cons rfl (e_cons rfl (e_cons rfl (e_cons (by decide) rfl)))))))))
  · exact Rf_tail hR hσ (zrs_cons hx0 (zrs_cons hx1 (zrs_cons hx2 (zrs_cons hx3 (zrs_cons hx4 (zrs_cons hx5 (zrs_cons hx6 (zrs_cons hx7 (zrs_cons (by decide) zrs_nil))))))))) (e_cons rfl (e_cons rfl (e_cons rfl (e_cons rfl (e_cons rfl (e_cons rfl (e_cons rfl (e_cons rfl (e_cons (by decide) rfl)))))))))
theorem rY_Uni_occurs_p205 (rz : zF) (rm : mF) (hR : Rc rz rm) (β : Nat) (σ : zS) (hσ : zOK σ) (x0 x1 x2 x3 x4 x5 x6 x7 x8 : Int) (hx0 : zr x0) (hx1 : zr x1) (hx2 : zr x2) (hx3 : zr x3) (hx4 : zr x4) (hx5 : zr x5) (hx6 : zr x6) (hx7 : zr x7) (hx8 : zr x8) : Rf (kY_Uni_occurs_p205 rz β σ x0 x1 x2 x3 x4 x5 x6 x7 x8) (kC_Uni_occurs_p205 rm (cv σ) (i32 x0) (i32 x1) (i32 x2) (i32 x3) (i32 x4) (i32 x5) (i32 x6) (i32 x7) (i32 x8)) β := by
  unfold kY_Uni_occurs_p205 kC_Uni_occurs_p205
  refine Rf_01 rfl hx8 (fun hb1 => ?_)
  exact Rf_some hσ hx8 rfl
theorem rY_Uni_write (rz : zF) (rm : mF) (hR : Rc rz rm) (β : Nat) (σ : zS) (hσ : zOK σ) (x0 x1 x2 x3 : Int) (hx0 : zr x0) (hx1 : zr x1) (hx2 : zr x2) (hx3 : zr x3) : Rf (kY_Uni_write rz β σ x0 x1 x2 x3) (kC_Uni_write rm (cv σ) (i32 x0) (i32 x1) (i32 x2) (i32 x3)) β := by
  unfold kY_Uni_write kC_Uni_write
  exact Rf_tail hR hσ (zrs_cons hx0 (zrs_cons hx1 (zrs_cons hx2 (zrs_cons hx3 (zrs_cons hx0 zrs_nil))))) (e_cons rfl (e_cons rfl (e_cons rfl (e_cons rfl (e_cons rfl rfl)))))
theorem rY_Uni_write_p3 (rz : zF) (rm : mF) (hR : Rc rz rm) (β : Nat) (σ : zS) (hσ : zOK σ) (x0 x1 x2 x3 x4 : Int) (hx0 : zr x0) (hx1 : zr x1) (hx2 : zr x2) (hx3 : zr x3) (hx4 : zr x4) : Rf (kY_Uni_write_p3 rz β σ x0 x1 x2 x3 x4) (kC_Uni_write_p3 rm (cv σ) (i32 x0) (i32 x1) (i32 x2) (i32 x3) (i32 x4)) β := by
  unfold kY_Uni_write_p3 kC_Uni_write_p3
  refine Rf_le rfl rfl hx1 hx4 (fun _ => ?_) (fun _ => ?_)
  · exact Rf_tail hR hσ (zrs_cons hx0 (zrs_cons hx1 (zrs_cons hx2 (zrs_cons hx3 (zrs_cons hx4 zrs_nil))))) (e_cons rfl (e_cons rfl (e_cons rfl (e_cons rfl (e_cons rfl rfl)))))
  · refine Rf_eq rfl (by decide) (hσ.1 3907) (by decide) (fun _ => ?_) (fun _ => ?_)
    · refine Rf_lt (by decide) rfl (by decide) hx3 (fun _ => ?_) (fun _ => ?_)
      · exact Rf_tail hR hσ (zrs_cons hx0 (zrs_cons hx1 (zrs_cons hx2 (zrs_cons hx3 (zrs_cons hx4 zrs_nil))))) (e_cons rfl (e_cons rfl (e_cons rfl (e_cons rfl (e_cons rfl rfl)))))
      · refine Rf_rd rfl hx4 (fun hb1 => ?_)
        refine Rf_le (by decide) (e_rd rfl hb1) (by decide) (hσ.2.1 _ _) (fun _ => ?_) (fun _ => ?_)
        · exact Rf_tail hR hσ (zrs_cons hx0 (zrs_cons hx1 (zrs_cons hx2 (zrs_cons hx3 (zrs_cons hx4 (zrs_cons (hσ.2.1 _ _) (zrs_cons (by decide) zrs_nil))))))) (e_cons rfl (e_cons rfl (e_cons rfl (e_cons rfl (e_cons rfl (e_cons (e_rd rfl hb1) (e_cons (by decide) rfl)))))))
        · refine Rf_g (fun hg2 => ?_)
          refine Rf_rd (e_add (e_not (e_rd rfl hb1)) rfl) hg2 (fun hb3 => ?_)
          exact Rf_tail hR hσ (zrs_cons hx0 (zrs_cons hx1 (zrs_cons hx2 (zrs_cons hx3 (zrs_cons hx4 (zrs_cons (hσ.2.1 _ _) (zrs_cons (hσ.2.1 _ _) zrs_nil))))))) (e_cons rfl (e_cons rfl (e_cons rfl (e_cons rfl (e_cons rfl (e_cons (e_rd rfl hb1) (e_cons (e_rd (e_add (e_not (e_rd rfl hb1)) rfl) hb3) rfl)))))))
    · exact Rf_tail hR hσ (zrs_cons hx0 (zrs_cons hx1 (zrs_cons hx2 (zrs_cons hx3 (zrs_cons hx4 zrs_nil))))) (e_cons rfl (e_cons rfl (e_cons rfl (e_cons rfl (e_cons rfl rfl)))))
theorem rY_Uni_write_p56 (rz : zF) (rm : mF) (hR : Rc rz rm) (β : Nat) (σ : zS) (hσ : zOK σ) (x0 x1 x2 x3 x4 x5 x6 : Int) (hx0 : zr x0) (hx1 : zr x1) (hx2 : zr x2) (hx3 : zr x3) (hx4 : zr x4) (hx5 : zr x5) (hx6 : zr x6) : Rf (kY_Uni_write_p56 rz β σ x0 x1 x2 x3 x4 x5 x6) (kC_Uni_write_p56 rm (cv σ) (i32 x0) (i32 x1) (i32 x2) (i32 x3) (i32 x4) (i32 x5) (i32 x6)) β := by
  unfold kY_Uni_write_p56 kC_Uni_write_p56
  refine Rf_eq rfl (by decide) hx6 (by decide) (fun _ => ?_) (fun _ => ?_)
  · refine Rf_bnd hR hσ (zrs_cons hx5 zrs_nil) (e_cons rfl rfl) (fun σ5 r5 hσ5 hr5 => ?_)
    exact Rf_tail hR hσ5 (zrs_cons hx0 (zrs_cons hx1 (zrs_cons hx2 (zrs_cons hx3 (zrs_cons hx4 (zrs_cons hx5 (zrs_cons hx6 zrs_nil))))))) (e_cons rfl (e_cons rfl (e_cons rfl (e_cons rfl (e_cons rfl (e_cons rfl (e_cons rfl rfl)))))))
  · refine Rf_rd rfl hx6 (fun hb1 => ?_)
    refine Rf_eq (e_rd rfl hb1) (by decide) (hσ.2.1 _ _) (by decide) (fun _ => ?_) (fun _ => ?_)
    · refine Rf_bnd hR hσ (zrs_cons hx6 zrs_nil) (e_cons rfl rfl) (fun σ3 r3 hσ3 hr3 => ?_)
      refine Rf_bnd hR hσ3 (zrs_cons hr3 zrs_nil) (e_cons rfl rfl) (fun σ4 r4 hσ4 hr4 => ?_)
      exact Rf_tail hR hσ4 (zrs_cons hx0 (zrs_cons hx1 (zrs_cons hx2 (zrs_cons hx3 (zrs_cons hx4 (zrs_cons hx5 (zrs_cons hx6 zrs_nil))))))) (e_cons rfl (e_cons rfl (e_cons rfl (e_cons rfl (e_cons rfl (e_cons rfl (e_cons rfl rfl)))))))
    · refine Rf_rd2 rfl hb1 ?_
      refine Rf_rd2 rfl hb1 ?_
      refine Rf_bnd hR hσ (zrs_cons (hσ.2.1 _ _) zrs_nil) (e_cons (e_rd rfl hb1) rfl) (fun σ1 r1 hσ1 hr1 => ?_)
      refine Rf_rd2 rfl hb1 ?_
      refine Rf_g (fun hg2 => ?_)
      refine Rf_bnd hR hσ1 (zrs_cons (hσ.2.1 _ _) (zrs_cons hr1 (zrs_cons (hσ1.2.1 _ _) (zrs_cons hg2 zrs_nil)))) (e_cons (e_rd rfl hb1) (e_cons rfl (e_cons (e_rd rfl hb1) (e_cons (e_add rfl (by decide)) rfl)))) (fun σ2 r2 hσ2 hr2 => ?_)
      exact Rf_tail hR hσ2 (zrs_cons hx0 (zrs_cons hx1 (zrs_cons hx2 (zrs_cons hx3 (zrs_cons hx4 (zrs_cons hx5 (zrs_cons hx6 zrs_nil))))))) (e_cons rfl (e_cons rfl (e_cons rfl (e_cons rfl (e_cons rfl (e_cons rfl (e_cons rfl rfl)))))))
theorem rY_Uni_write_p141 (rz : zF) (rm : mF) (hR : Rc rz rm) (β : Nat) (σ : zS) (hσ : zOK σ) (x0 x1 x2 x3 x4 x5 x6 : Int) (hx0 : zr x0) (hx1 : zr x1) (hx2 : zr x2) (hx3 : zr x3) (hx4 : zr x4) (hx5 : zr x5) (hx6 : zr x6) : Rf (kY_Uni_write_p141 rz β σ x0 x1 x2 x3 x4 x5 x6) (kC_Uni_write_p141 rm (cv σ) (i32 x0) (i32 x1) (i32 x2) (i32 x3) (i32 x4) (i32 x5) (i32 x6)) β := by
  unfold kY_Uni_write_p141 kC_Uni_write_p141
  refine Rf_g (fun hg1 => ?_)
  exact Rf_tail hR hσ (zrs_cons hx0 (zrs_cons hx1 (zrs_cons hx2 (zrs_cons hx3 (zrs_cons hg1 zrs_nil))))) (e_cons rfl (e_cons rfl (e_cons rfl (e_cons rfl (e_cons (e_add rfl (by decide)) rfl)))))
theorem rY_Uni_write_p147 (rz : zF) (rm : mF) (hR : Rc rz rm) (β : Nat) (σ : zS) (hσ : zOK σ) (x0 x1 x2 x3 x4 : Int) (hx0 : zr x0) (hx1 : zr x1) (hx2 : zr x2) (hx3 : zr x3) (hx4 : zr x4) : Rf (kY_Uni_write_p147 rz β σ x0 x1 x2 x3 x4) (kC_Uni_write_p147 rm (cv σ) (i32 x0) (i32 x1) (i32 x2) (i32 x3) (i32 x4)) β := by
  unfold kY_Uni_write_p147 kC_Uni_write_p147
  exact Rf_some hσ (by decide) (by decide)
theorem rY_Wds_advance (rz : zF) (rm : mF) (hR : Rc rz rm) (β : Nat) (σ : zS) (hσ : zOK σ) : Rf (kY_Wds_advance rz β σ) (kC_Wds_advance rm (cv σ)) β := by
  unfold kY_Wds_advance kC_Wds_advance
  refine Rf_bnd hR hσ zrs_nil rfl (fun σ1 r1 hσ1 hr1 => ?_)
  refine Rf_I rfl (hσ1.1 3206) hσ1 (fun σ2 hσ2 => ?_)
  refine Rf_I (by decide) (by decide) hσ2 (fun σ3 hσ3 => ?_)
  refine Rf_I (by decide) (by decide) hσ3 (fun σ4 hσ4 => ?_)
  refine Rf_I (by decide) (by decide) hσ4 (fun σ5 hσ5 => ?_)
  refine Rf_lt rfl rfl (hσ5.1 3206) (hσ5.1 3201) (fun _ => ?_) (fun _ => ?_)
  · refine Rf_g (fun hg1 => ?_)
    refine Rf_I (e_add rfl (by decide)) hg1 hσ5 (fun σ6 hσ6 => ?_)
    refine Rf_le rfl (by decide) (hσ6.1 3207) (by decide) (fun _ => ?_) (fun _ => ?_)
    · exact Rf_tail hR hσ6 (zrs_cons (by decide) zrs_nil) (e_cons (by decide) rfl)
    · exact Rf_tail hR hσ6 (zrs_cons (by decide) zrs_nil) (e_cons (by decide) rfl)
  · exact Rf_some hσ5 (by decide) (by decide)
theorem rY_Wds_advance_p65 (rz : zF) (rm : mF) (hR : Rc rz rm) (β : Nat) (σ : zS) (hσ : zOK σ) (x0 : Int) (hx0 : zr x0) : Rf (kY_Wds_advance_p65 rz β σ x0) (kC_Wds_advance_p65 rm (cv σ) (i32 x0)) β := by
  unfold kY_Wds_advance_p65 kC_Wds_advance_p65
  refine Rf_01 rfl hx0 (fun hb1 => ?_)
  refine Rf_I rfl hx0 hσ (fun σ1 hσ1 => ?_)
  refine Rf_rd rfl (hσ1.1 3206) (fun hb2 => ?_)
  refine Rf_lt (e_or (e_rd rfl hb2) (by decide)) (by decide) (zr_to _) (by decide) (fun _ => ?_) (fun _ => ?_)
  · exact Rf_tail hR hσ1 zrs_nil rfl
  · refine Rf_rd2 rfl hb2 ?_
    refine Rf_lt (by decide) (e_or (e_rd rfl hb2) (by decide)) (by decide) (zr_to _) (fun _ => ?_) (fun _ => ?_)
    · exact Rf_tail hR hσ1 zrs_nil rfl
    · refine Rf_bnd hR hσ1 zrs_nil rfl (fun σ2 r2 hσ2 hr2 => ?_)
      exact Rf_tail hR hσ2 zrs_nil rfl
theorem rY_Wds_advance_p109 (rz : zF) (rm : mF) (hR : Rc rz rm) (β : Nat) (σ : zS) (hσ : zOK σ) : Rf (kY_Wds_advance_p109 rz β σ) (kC_Wds_advance_p109 rm (cv σ)) β := by
  unfold kY_Wds_advance_p109 kC_Wds_advance_p109
  refine Rf_g (fun hg1 => ?_)
  refine Rf_le rfl (e_add rfl (by decide)) (hσ.1 3201) hg1 (fun _ => ?_) (fun _ => ?_)
  · exact Rf_tail hR hσ (zrs_cons (by decide) zrs_nil) (e_cons (by decide) rfl)
  · refine Rf_rd (e_add rfl (by decide)) hg1 (fun hb2 => ?_)
    exact Rf_tail hR hσ (zrs_cons (hσ.2.1 _ _) zrs_nil) (e_cons (e_rd (e_add rfl (by decide)) hb2) rfl)
theorem rY_Wds_advance_p138 (rz : zF) (rm : mF) (hR : Rc rz rm) (β : Nat) (σ : zS) (hσ : zOK σ) (x0 : Int) (hx0 : zr x0) : Rf (kY_Wds_advance_p138 rz β σ x0) (kC_Wds_advance_p138 rm (cv σ) (i32 x0)) β := by
  unfold kY_Wds_advance_p138 kC_Wds_advance_p138
  refine Rf_g (fun hg1 => ?_)
  refine Rf_le rfl (e_add rfl (by decide)) (hσ.1 3201) hg1 (fun _ => ?_) (fun _ => ?_)
  · exact Rf_tail hR hσ (zrs_cons (by decide) (zrs_cons hx0 zrs_nil)) (e_cons (by decide) (e_cons rfl rfl))
  · refine Rf_rd (e_add rfl (by decide)) hg1 (fun hb2 => ?_)
    exact Rf_tail hR hσ (zrs_cons (hσ.2.1 _ _) (zrs_cons hx0 zrs_nil)) (e_cons (e_rd (e_add rfl (by decide)) hb2) (e_cons rfl rfl))
theorem rY_Wds_advance_p166 (rz : zF) (rm : mF) (hR : Rc rz rm) (β : Nat) (σ : zS) (hσ : zOK σ) (x0 x1 : Int) (hx0 : zr x0) (hx1 : zr x1) : Rf (kY_Wds_advance_p166 rz β σ x0 x1) (kC_Wds_advance_p166 rm (cv σ) (i32 x0) (i32 x1)) β := by
  unfold kY_Wds_advance_p166 kC_Wds_advance_p166
  refine Rf_bnd hR hσ (zrs_cons hx1 (zrs_cons hx0 zrs_nil)) (e_cons rfl (e_cons rfl rfl)) (fun σ1 r1 hσ1 hr1 => ?_)
  exact Rf_tail hR hσ1 zrs_nil rfl
theorem rY_Wds_advance_p169 (rz : zF) (rm : mF) (hR : Rc rz rm) (β : Nat) (σ : zS) (hσ : zOK σ) : Rf (kY_Wds_advance_p169 rz β σ) (kC_Wds_advance_p169 rm (cv σ)) β := by
  unfold kY_Wds_advance_p169 kC_Wds_advance_p169
  refine Rf_g (fun hg1 => ?_)
  refine Rf_I (e_add rfl rfl) hg1 hσ (fun σ1 hσ1 => ?_)
  exact Rf_some hσ1 (by decide) (by decide)
theorem rY_Wds_isNow (rz : zF) (rm : mF) (hR : Rc rz rm) (β : Nat) (σ : zS) (hσ : zOK σ) (x0 : Int) (hx0 : zr x0) : Rf (kY_Wds_isNow rz β σ x0) (kC_Wds_isNow rm (cv σ) (i32 x0)) β := by
  unfold kY_Wds_isNow kC_Wds_isNow
  refine Rf_eq rfl rfl (hσ.1 3202) hx0 (fun _ => ?_) (fun _ => ?_)
  · refine Rf_eq rfl (by decide) (hσ.1 3205) (by decide) (fun _ => ?_) (fun _ => ?_)
    · exact Rf_tail hR hσ (zrs_cons hx0 (zrs_cons (by decide) zrs_nil)) (e_cons rfl (e_cons (by decide) rfl))
    · exact Rf_tail hR hσ (zrs_cons hx0 zrs_nil) (e_cons rfl rfl)
  · exact Rf_tail hR hσ (zrs_cons hx0 zrs_nil) (e_cons rfl rfl)
theorem rY_Wds_isNow_p19 (rz : zF) (rm : mF) (hR : Rc rz rm) (β : Nat) (σ : zS) (hσ : zOK σ) (x0 : Int) (hx0 : zr x0) : Rf (kY_Wds_isNow_p19 rz β σ x0) (kC_Wds_isNow_p19 rm (cv σ) (i32 x0)) β := by
  unfold kY_Wds_isNow_p19 kC_Wds_isNow_p19
  exact Rf_tail hR hσ (zrs_cons hx0 (zrs_cons (by decide) zrs_nil)) (e_cons rfl (e_cons (by decide) rfl))
theorem rY_Wds_isNow_p20 (rz : zF) (rm : mF) (hR : Rc rz rm) (β : Nat) (σ : zS) (hσ : zOK σ) (x0 x1 : Int) (hx0 : zr x0) (hx1 : zr x1) : Rf (kY_Wds_isNow_p20 rz β σ x0 x1) (kC_Wds_isNow_p20 rm (cv σ) (i32 x0) (i32 x1)) β := by
  unfold kY_Wds_isNow_p20 kC_Wds_isNow_p20
  refine Rf_01 rfl hx1 (fun hb1 => ?_)
  exact Rf_some hσ hx1 rfl
theorem rY_Wds_isProve (rz : zF) (rm : mF) (hR : Rc rz rm) (β : Nat) (σ : zS) (hσ : zOK σ) : Rf (kY_Wds_isProve rz β σ) (kC_Wds_isProve rm (cv σ)) β := by
  unfold kY_Wds_isProve kC_Wds_isProve
  refine Rf_bnd hR hσ (zrs_cons (by decide) zrs_nil) (e_cons (by decide) rfl) (fun σ1 r1 hσ1 hr1 => ?_)
  refine Rf_eq rfl (by decide) hr1 (by decide) (fun _ => ?_) (fun _ => ?_)
  · exact Rf_tail hR hσ1 zrs_nil rfl
  · refine Rf_eq rfl (by decide) (hσ1.1 3204) (by decide) (fun _ => ?_) (fun _ => ?_)
    · refine Rf_rd rfl (hσ1.1 3203) (fun hb1 => ?_)
      refine Rf_eq (e_rd rfl hb1) (by decide) (hσ1.2.1 _ _) (by decide) (fun _ => ?_) (fun _ => ?_)
      · refine Rf_g (fun hg2 => ?_)
        refine Rf_rd (e_add rfl (by decide)) hg2 (fun hb3 => ?_)
        refine Rf_eq (e_rd (e_add rfl (by decide)) hb3) (by decide) (hσ1.2.1 _ _) (by decide) (fun _ => ?_) (fun _ => ?_)
        · refine Rf_g (fun hg4 => ?_)
          refine Rf_rd (e_add rfl (by decide)) hg4 (fun hb5 => ?_)
          refine Rf_eq (e_rd (e_add rfl (by decide)) hb5) (by decide) (hσ1.2.1 _ _) (by decide) (fun _ => ?_) (fun _ => ?_)
          · refine Rf_g (fun hg6 => ?_)
            refine Rf_rd (e_add rfl (by decide)) hg6 (fun hb7 => ?_)
            refine Rf_eq (e_rd (e_add rfl (by decide)) hb7) (by decide) (hσ1.2.1 _ _) (by decide) (fun _ => ?_) (fun _ => ?_)
            · refine Rf_g (fun hg8 => ?_)
              refine Rf_rd (e_add rfl (by decide)) hg8 (fun hb9 => ?_)
              refine Rf_eq (e_rd (e_add rfl (by decide)) hb9) (by decide) (hσ1.2.1 _ _) (by decide) (fun _ => ?_) (fun _ => ?_)
              · exact Rf_tail hR hσ1 (zrs_cons (by decide) zrs_nil) (e_cons (by decide) rfl)
              · exact Rf_tail hR hσ1 zrs_nil rfl
            · exact Rf_tail hR hσ1 zrs_nil rfl
          · exact Rf_tail hR hσ1 zrs_nil rfl
        · exact Rf_tail hR hσ1 zrs_nil rfl
      · exact Rf_tail hR hσ1 zrs_nil rfl
    · exact Rf_tail hR hσ1 zrs_nil rfl
theorem rY_Wds_isProve_p98 (rz : zF) (rm : mF) (hR : Rc rz rm) (β : Nat) (σ : zS) (hσ : zOK σ) : Rf (kY_Wds_isProve_p98 rz β σ) (kC_Wds_isProve_p98 rm (cv σ)) β := by
  unfold kY_Wds_isProve_p98 kC_Wds_isProve_p98
  exact Rf_tail hR hσ (zrs_cons (by decide) zrs_nil) (e_cons (by decide) rfl)
theorem rY_Wds_isProve_p99 (rz : zF) (rm : mF) (hR : Rc rz rm) (β : Nat) (σ : zS) (hσ : zOK σ) (x0 : Int) (hx0 : zr x0) : Rf (kY_Wds_isProve_p99 rz β σ x0) (kC_Wds_isProve_p99 rm (cv σ) (i32 x0)) β := by
  unfold kY_Wds_isProve_p99 kC_Wds_isProve_p99
  refine Rf_01 rfl hx0 (fun hb1 => ?_)
  exact Rf_some hσ hx0 rfl
theorem rY_Wds_skipBlanks (rz : zF) (rm : mF) (hR : Rc rz rm) (β : Nat) (σ : zS) (hσ : zOK σ) : Rf (kY_Wds_skipBlanks rz β σ) (kC_Wds_skipBlanks rm (cv σ)) β := by
  unfold kY_Wds_skipBlanks kC_Wds_skipBlanks
  exact Rf_tail hR hσ (zrs_cons (by decide) zrs_nil) (e_cons (by decide) rfl)
theorem rY_Wds_skipBlanks_p2 (rz : zF) (rm : mF) (hR : Rc rz rm) (β : Nat) (σ : zS) (hσ : zOK σ) (x0 : Int) (hx0 : zr x0) : Rf (kY_Wds_skipBlanks_p2 rz β σ x0) (kC_Wds_skipBlanks_p2 rm (cv σ) (i32 x0)) β := by
  unfold kY_Wds_skipBlanks_p2 kC_Wds_skipBlanks_p2
  refine Rf_le rfl rfl (hσ.1 3201) (hσ.1 3206) (fun _ => ?_) (fun _ => ?_)
  · exact Rf_some hσ (by decide) (by decide)
  · refine Rf_rd rfl (hσ.1 3206) (fun hb1 => ?_)
    refine Rf_eq (e_rd rfl hb1) (by decide) (hσ.2.1 _ _) (by decide) (fun _ => ?_) (fun _ => ?_)
    · exact Rf_tail hR hσ (zrs_cons (by decide) (zrs_cons (hσ.2.1 _ _) zrs_nil)) (e_cons (by decide) (e_cons (e_rd rfl hb1) rfl))
    · refine Rf_eq (e_rd rfl hb1) (by decide) (hσ.2.1 _ _) (by decide) (fun _ => ?_) (fun _ => ?_)
      · exact Rf_tail hR hσ (zrs_cons (by decide) (zrs_cons (hσ.2.1 _ _) zrs_nil)) (e_cons (by decide) (e_cons (e_rd rfl hb1) rfl))
      · refine Rf_eq rfl (by decide) hx0 (by decide) (fun _ => ?_) (fun _ => ?_)
        · refine Rf_eq (e_rd rfl hb1) (by decide) (hσ.2.1 _ _) (by decide) (fun _ => ?_) (fun _ => ?_)
          · exact Rf_tail hR hσ (zrs_cons hx0 (zrs_cons (hσ.2.1 _ _) zrs_nil)) (e_cons rfl (e_cons (e_rd rfl hb1) rfl))
          · refine Rf_eq (e_rd rfl hb1) (by decide) (hσ.2.1 _ _) (by decide) (fun _ => ?_) (fun _ => ?_)
            · exact Rf_tail hR hσ (zrs_cons hx0 (zrs_cons (hσ.2.1 _ _) zrs_nil)) (e_cons rfl (e_cons (e_rd rfl hb1) rfl))
            · refine Rf_eq (e_rd rfl hb1) (by decide) (hσ.2.1 _ _) (by decide) (fun _ => ?_) (fun _ => ?_)
              · exact Rf_tail hR hσ (zrs_cons hx0 (zrs_cons (hσ.2.1 _ _) zrs_nil)) (e_cons rfl (e_cons (e_rd rfl hb1) rfl))
              · exact Rf_some hσ (by decide) (by decide)
        · exact Rf_tail hR hσ (zrs_cons hx0 (zrs_cons (hσ.2.1 _ _) zrs_nil)) (e_cons rfl (e_cons (e_rd rfl hb1) rfl))
theorem rY_Wds_skipBlanks_p68 (rz : zF) (rm : mF) (hR : Rc rz rm) (β : Nat) (σ : zS) (hσ : zOK σ) (x0 x1 : Int) (hx0 : zr x0) (hx1 : zr x1) : Rf (kY_Wds_skipBlanks_p68 rz β σ x0 x1) (kC_Wds_skipBlanks_p68 rm (cv σ) (i32 x0) (i32 x1)) β := by
  unfold kY_Wds_skipBlanks_p68 kC_Wds_skipBlanks_p68
  refine Rf_g (fun hg1 => ?_)
  refine Rf_I (e_add rfl (by decide)) hg1 hσ (fun σ1 hσ1 => ?_)
  exact Rf_tail hR hσ1 (zrs_cons hx0 zrs_nil) (e_cons rfl rfl)
theorem rY_Wds_takeSign (rz : zF) (rm : mF) (hR : Rc rz rm) (β : Nat) (σ : zS) (hσ : zOK σ) (x0 x1 : Int) (hx0 : zr x0) (hx1 : zr x1) : Rf (kY_Wds_takeSign rz β σ x0 x1) (kC_Wds_takeSign rm (cv σ) (i32 x0) (i32 x1)) β := by
  unfold kY_Wds_takeSign kC_Wds_takeSign
  refine Rf_I (by decide) (by decide) hσ (fun σ1 hσ1 => ?_)
  refine Rf_rd rfl (hσ1.1 3206) (fun hb1 => ?_)
  refine Rf_eq (e_rd rfl hb1) (by decide) (hσ1.2.1 _ _) (by decide) (fun _ => ?_) (fun _ => ?_)
  · refine Rf_eq rfl (by decide) hx0 (by decide) (fun _ => ?_) (fun _ => ?_)
    · exact Rf_tail hR hσ1 (zrs_cons hx0 (zrs_cons hx1 (zrs_cons (by decide) zrs_nil))) (e_cons rfl (e_cons rfl (e_cons (by decide) rfl)))
    · exact Rf_tail hR hσ1 (zrs_cons hx0 (zrs_cons hx1 (zrs_cons (by decide) zrs_nil))) (e_cons rfl (e_cons rfl (e_cons (by decide) rfl)))
  · refine Rf_eq (e_rd rfl hb1) (by decide) (hσ1.2.1 _ _) (by decide) (fun _ => ?_) (fun _ => ?_)
    · refine Rf_I (by decide) (by decide) hσ1 (fun σ2 hσ2 => ?_)
      exact Rf_tail hR hσ2 (zrs_cons hx0 (zrs_cons hx1 zrs_nil)) (e_cons rfl (e_cons rfl rfl))
    · refine Rf_eq (e_rd rfl hb1) (by decide) (hσ1.2.1 _ _) (by decide) (fun _ => ?_) (fun _ => ?_)
      · refine Rf_I (by decide) (by decide) hσ1 (fun σ3 hσ3 => ?_)
        exact Rf_tail hR hσ3 (zrs_cons hx0 (zrs_cons hx1 zrs_nil)) (e_cons rfl (e_cons rfl rfl))
      · refine Rf_eq (e_rd rfl hb1) (by decide) (hσ1.2.1 _ _) (by decide) (fun _ => ?_) (fun _ => ?_)
        · refine Rf_I (by decide) (by decide) hσ1 (fun σ4 hσ4 => ?_)
          exact Rf_tail hR hσ4 (zrs_cons hx0 (zrs_cons hx1 zrs_nil)) (e_cons rfl (e_cons rfl rfl))
        · refine Rf_eq (e_rd rfl hb1) (by decide) (hσ1.2.1 _ _) (by decide) (fun _ => ?_) (fun _ => ?_)
          · refine Rf_I (by decide) (by decide) hσ1 (fun σ5 hσ5 => ?_)
            exact Rf_tail hR hσ5 (zrs_cons hx0 (zrs_cons hx1 zrs_nil)) (e_cons rfl (e_cons rfl rfl))
          · refine Rf_eq (e_rd rfl hb1) (by decide) (hσ1.2.1 _ _) (by decide) (fun _ => ?_) (fun _ => ?_)
            · refine Rf_I (by decide) (by decide) hσ1 (fun σ6 hσ6 => ?_)
              exact Rf_tail hR hσ6 (zrs_cons hx0 (zrs_cons hx1 zrs_nil)) (e_cons rfl (e_cons rfl rfl))
            · refine Rf_eq (e_rd rfl hb1) (by decide) (hσ1.2.1 _ _) (by decide) (fun _ => ?_) (fun _ => ?_)
              · refine Rf_I (by decide) (by decide) hσ1 (fun σ7 hσ7 => ?_)
                exact Rf_tail hR hσ7 (zrs_cons hx0 (zrs_cons hx1 zrs_nil)) (e_cons rfl (e_cons rfl rfl))
              · refine Rf_eq (e_rd rfl hb1) (by decide) (hσ1.2.1 _ _) (by decide) (fun _ => ?_) (fun _ => ?_)
                · refine Rf_eq rfl (by decide) hx0 (by decide) (fun _ => ?_) (fun _ => ?_)
                  · refine Rf_eq rfl (by decide) hx1 (by decide) (fun _ => ?_) (fun _ => ?_)
                    · exact Rf_tail hR hσ1 (zrs_cons hx0 (zrs_cons hx1 (zrs_cons (by decide) zrs_nil))) (e_cons rfl (e_cons rfl (e_cons (by decide) rfl)))
                    · exact Rf_tail hR hσ1 (zrs_cons hx0 (zrs_cons hx1 zrs_nil)) (e_cons rfl (e_cons rfl rfl))
                  · exact Rf_tail hR hσ1 (zrs_cons hx0 (zrs_cons hx1 zrs_nil)) (e_cons rfl (e_cons rfl rfl))
                · refine Rf_eq (e_rd rfl hb1) (by decide) (hσ1.2.1 _ _) (by decide) (fun _ => ?_) (fun _ => ?_)
                  · refine Rf_eq rfl (by decide) hx0 (by decide) (fun _ => ?_) (fun _ => ?_)
                    · exact Rf_tail hR hσ1 (zrs_cons hx0 (zrs_cons hx1 (zrs_cons (by decide) zrs_nil))) (e_cons rfl (e_cons rfl (e_cons (by decide) rfl)))
                    · exact Rf_tail hR hσ1 (zrs_cons hx0 (zrs_cons hx1 (zrs_cons (by decide) zrs_nil))) (e_cons rfl (e_cons rfl (e_cons (by decide) rfl)))
                  · refine Rf_eq (e_rd rfl hb1) (by decide) (hσ1.2.1 _ _) (by decide) (fun _ => ?_) (fun _ => ?_)
                    · refine Rf_I (by decide) (by decide) hσ1 (fun σ8 hσ8 => ?_)
                      exact Rf_tail hR hσ8 (zrs_cons hx0 (zrs_cons hx1 zrs_nil)) (e_cons rfl (e_cons rfl rfl))
                    · refine Rf_eq (e_rd rfl hb1) (by decide) (hσ1.2.1 _ _) (by decide) (fun _ => ?_) (fun _ => ?_)
                      · refine Rf_I (by decide) (by decide) hσ1 (fun σ9 hσ9 => ?_)
                        exact Rf_tail hR hσ9 (zrs_cons hx0 (zrs_cons hx1 zrs_nil)) (e_cons rfl (e_cons rfl rfl))
                      · refine Rf_eq (e_rd rfl hb1) (by decide) (hσ1.2.1 _ _) (by decide) (fun _ => ?_) (fun _ => ?_)
                        · refine Rf_I (by decide) (by decide) hσ1 (fun σ10 hσ10 => ?_)
                          exact Rf_tail hR hσ10 (zrs_cons hx0 (zrs_cons hx1 zrs_nil)) (e_cons rfl (e_cons rfl rfl))
                        · refine Rf_I (by decide) (by decide) hσ1 (fun σ11 hσ11 => ?_)
                          exact Rf_tail hR hσ11 (zrs_cons hx0 (zrs_cons hx1 zrs_nil)) (e_cons rfl (e_cons rfl rfl))
theorem rY_Wds_takeSign_p211 (rz : zF) (rm : mF) (hR : Rc rz rm) (β : Nat) (σ : zS) (hσ : zOK σ) (x0 x1 x2 : Int) (hx0 : zr x0) (hx1 : zr x1) (hx2 : zr x2) : Rf (kY_Wds_takeSign_p211 rz β σ x0 x1 x2) (kC_Wds_takeSign_p211 rm (cv σ) (i32 x0) (i32 x1) (i32 x2)) β := by
  unfold kY_Wds_takeSign_p211 kC_Wds_takeSign_p211
  refine Rf_I rfl hx2 hσ (fun σ1 hσ1 => ?_)
  refine Rf_eq rfl (by decide) hx0 (by decide) (fun _ => ?_) (fun _ => ?_)
  · exact Rf_tail hR hσ1 (zrs_cons hx0 (zrs_cons hx1 (zrs_cons (by decide) zrs_nil))) (e_cons rfl (e_cons rfl (e_cons (by decide) rfl)))
  · exact Rf_tail hR hσ1 (zrs_cons hx0 (zrs_cons hx1 (zrs_cons (by decide) zrs_nil))) (e_cons rfl (e_cons rfl (e_cons (by decide) rfl)))
theorem rY_Wds_takeSign_p228 (rz : zF) (rm : mF) (hR : Rc rz rm) (β : Nat) (σ : zS) (hσ : zOK σ) (x0 x1 x2 : Int) (hx0 : zr x0) (hx1 : zr x1) (hx2 : zr x2) : Rf (kY_Wds_takeSign_p228 rz β σ x0 x1 x2) (kC_Wds_takeSign_p228 rm (cv σ) (i32 x0) (i32 x1) (i32 x2)) β := by
  unfold kY_Wds_takeSign_p228 kC_Wds_takeSign_p228
  refine Rf_I rfl hx2 hσ (fun σ1 hσ1 => ?_)
  exact Rf_tail hR hσ1 (zrs_cons hx0 (zrs_cons hx1 zrs_nil)) (e_cons rfl (e_cons rfl rfl))
theorem rY_Wds_takeSign_p246 (rz : zF) (rm : mF) (hR : Rc rz rm) (β : Nat) (σ : zS) (hσ : zOK σ) (x0 x1 x2 : Int) (hx0 : zr x0) (hx1 : zr x1) (hx2 : zr x2) : Rf (kY_Wds_takeSign_p246 rz β σ x0 x1 x2) (kC_Wds_takeSign_p246 rm (cv σ) (i32 x0) (i32 x1) (i32 x2)) β := by
  unfold kY_Wds_takeSign_p246 kC_Wds_takeSign_p246
  refine Rf_I rfl hx2 hσ (fun σ1 hσ1 => ?_)
  refine Rf_eq rfl (by decide) hx0 (by decide) (fun _ => ?_) (fun _ => ?_)
  · exact Rf_tail hR hσ1 (zrs_cons hx0 (zrs_cons hx1 (zrs_cons (by decide) zrs_nil))) (e_cons rfl (e_cons rfl (e_cons (by decide) rfl)))
  · exact Rf_tail hR hσ1 (zrs_cons hx0 (zrs_cons hx1 (zrs_cons (by decide) zrs_nil))) (e_cons rfl (e_cons rfl (e_cons (by decide) rfl)))
theorem rY_Wds_takeSign_p263 (rz : zF) (rm : mF) (hR : Rc rz rm) (β : Nat) (σ : zS) (hσ : zOK σ) (x0 x1 x2 : Int) (hx0 : zr x0) (hx1 : zr x1) (hx2 : zr x2) : Rf (kY_Wds_takeSign_p263 rz β σ x0 x1 x2) (kC_Wds_takeSign_p263 rm (cv σ) (i32 x0) (i32 x1) (i32 x2)) β := by
  unfold kY_Wds_takeSign_p263 kC_Wds_takeSign_p263
  refine Rf_I rfl hx2 hσ (fun σ1 hσ1 => ?_)
  exact Rf_tail hR hσ1 (zrs_cons hx0 (zrs_cons hx1 zrs_nil)) (e_cons rfl (e_cons rfl rfl))
theorem rY_Wds_takeSign_p286 (rz : zF) (rm : mF) (hR : Rc rz rm) (β : Nat) (σ : zS) (hσ : zOK σ) (x0 x1 : Int) (hx0 : zr x0) (hx1 : zr x1) : Rf (kY_Wds_takeSign_p286 rz β σ x0 x1) (kC_Wds_takeSign_p286 rm (cv σ) (i32 x0) (i32 x1)) β := by
  unfold kY_Wds_takeSign_p286 kC_Wds_takeSign_p286
  exact Rf_tail hR hσ (zrs_cons hx0 (zrs_cons hx1 (zrs_cons (by decide) zrs_nil))) (e_cons rfl (e_cons rfl (e_cons (by decide) rfl)))
theorem rY_Wds_takeSign_p287 (rz : zF) (rm : mF) (hR : Rc rz rm) (β : Nat) (σ : zS) (hσ : zOK σ) (x0 x1 x2 : Int) (hx0 : zr x0) (hx1 : zr x1) (hx2 : zr x2) : Rf (kY_Wds_takeSign_p287 rz β σ x0 x1 x2) (kC_Wds_takeSign_p287 rm (cv σ) (i32 x0) (i32 x1) (i32 x2)) β := by
  unfold kY_Wds_takeSign_p287 kC_Wds_takeSign_p287
  refine Rf_I rfl hx2 hσ (fun σ1 hσ1 => ?_)
  refine Rf_eq rfl (by decide) (hσ1.1 3204) (by decide) (fun _ => ?_) (fun _ => ?_)
  · exact Rf_tail hR hσ1 (zrs_cons hx0 (zrs_cons hx1 (zrs_cons (by decide) zrs_nil))) (e_cons rfl (e_cons rfl (e_cons (by decide) rfl)))
  · exact Rf_tail hR hσ1 (zrs_cons hx0 (zrs_cons hx1 (zrs_cons (by decide) zrs_nil))) (e_cons rfl (e_cons rfl (e_cons (by decide) rfl)))
theorem rY_Wds_takeSign_p305 (rz : zF) (rm : mF) (hR : Rc rz rm) (β : Nat) (σ : zS) (hσ : zOK σ) (x0 x1 x2 : Int) (hx0 : zr x0) (hx1 : zr x1) (hx2 : zr x2) : Rf (kY_Wds_takeSign_p305 rz β σ x0 x1 x2) (kC_Wds_takeSign_p305 rm (cv σ) (i32 x0) (i32 x1) (i32 x2)) β := by
  unfold kY_Wds_takeSign_p305 kC_Wds_takeSign_p305
  refine Rf_I rfl hx2 hσ (fun σ1 hσ1 => ?_)
  exact Rf_tail hR hσ1 (zrs_cons hx0 (zrs_cons hx1 zrs_nil)) (e_cons rfl (e_cons rfl rfl))
theorem rY_Wds_takeSign_p316 (rz : zF) (rm : mF) (hR : Rc rz rm) (β : Nat) (σ : zS) (hσ : zOK σ) (x0 x1 : Int) (hx0 : zr x0) (hx1 : zr x1) : Rf (kY_Wds_takeSign_p316 rz β σ x0 x1) (kC_Wds_takeSign_p316 rm (cv σ) (i32 x0) (i32 x1)) β := by
  unfold kY_Wds_takeSign_p316 kC_Wds_takeSign_p316
  exact Rf_some hσ (by decide) (by decide)
theorem rY_Wds_takeWord (rz : zF) (rm : mF) (hR : Rc rz rm) (β : Nat) (σ : zS) (hσ : zOK σ) : Rf (kY_Wds_takeWord rz β σ) (kC_Wds_takeWord rm (cv σ)) β := by
  unfold kY_Wds_takeWord kC_Wds_takeWord
  exact Rf_tail hR hσ (zrs_cons (by decide) zrs_nil) (e_cons (by decide) rfl)
theorem rY_Wds_takeWord_p2 (rz : zF) (rm : mF) (hR : Rc rz rm) (β : Nat) (σ : zS) (hσ : zOK σ) (x0 : Int) (hx0 : zr x0) : Rf (kY_Wds_takeWord_p2 rz β σ x0) (kC_Wds_takeWord_p2 rm (cv σ) (i32 x0)) β := by
  unfold kY_Wds_takeWord_p2 kC_Wds_takeWord_p2
  refine Rf_eq rfl (by decide) hx0 (by decide) (fun _ => ?_) (fun _ => ?_)
  · exact Rf_tail hR hσ (zrs_cons hx0 zrs_nil) (e_cons rfl rfl)
  · refine Rf_g (fun hg1 => ?_)
    refine Rf_le rfl (e_add rfl rfl) (hσ.1 3201) hg1 (fun _ => ?_) (fun _ => ?_)
    · exact Rf_tail hR hσ (zrs_cons hx0 zrs_nil) (e_cons rfl rfl)
    · refine Rf_rd (e_add rfl rfl) hg1 (fun hb2 => ?_)
      refine Rf_lt (e_or (e_rd (e_add rfl rfl) hb2) (by decide)) (by decide) (zr_to _) (by decide) (fun _ => ?_) (fun _ => ?_)
      · exact Rf_tail hR hσ (zrs_cons hx0 (zrs_cons (hσ.2.1 _ _) zrs_nil)) (e_cons rfl (e_cons (e_rd (e_add rfl rfl) hb2) rfl))
      · refine Rf_le (e_or (e_rd (e_add rfl rfl) hb2) (by decide)) (by decide) (zr_to _) (by decide) (fun _ => ?_) (fun _ => ?_)
        · exact Rf_tail hR hσ (zrs_cons hx0 (zrs_cons (hσ.2.1 _ _) zrs_nil)) (e_cons rfl (e_cons (e_rd (e_add rfl rfl) hb2) rfl))
        · exact Rf_tail hR hσ (zrs_cons hx0 (zrs_cons (hσ.2.1 _ _) zrs_nil)) (e_cons rfl (e_cons (e_rd (e_add rfl rfl) hb2) rfl))
theorem rY_Wds_takeWord_p55 (rz : zF) (rm : mF) (hR : Rc rz rm) (β : Nat) (σ : zS) (hσ : zOK σ) (x0 x1 : Int) (hx0 : zr x0) (hx1 : zr x1) : Rf (kY_Wds_takeWord_p55 rz β σ x0 x1) (kC_Wds_takeWord_p55 rm (cv σ) (i32 x0) (i32 x1)) β := by
  unfold kY_Wds_takeWord_p55 kC_Wds_takeWord_p55
  refine Rf_lt rfl (by decide) hx1 (by decide) (fun _ => ?_) (fun _ => ?_)
  · exact Rf_tail hR hσ (zrs_cons hx0 (zrs_cons hx1 zrs_nil)) (e_cons rfl (e_cons rfl rfl))
  · refine Rf_le rfl (by decide) hx1 (by decide) (fun _ => ?_) (fun _ => ?_)
    · exact Rf_tail hR hσ (zrs_cons hx0 (zrs_cons hx1 zrs_nil)) (e_cons rfl (e_cons rfl rfl))
    · exact Rf_tail hR hσ (zrs_cons hx0 (zrs_cons hx1 zrs_nil)) (e_cons rfl (e_cons rfl rfl))
theorem rY_Wds_takeWord_p67 (rz : zF) (rm : mF) (hR : Rc rz rm) (β : Nat) (σ : zS) (hσ : zOK σ) (x0 x1 : Int) (hx0 : zr x0) (hx1 : zr x1) : Rf (kY_Wds_takeWord_p67 rz β σ x0 x1) (kC_Wds_takeWord_p67 rm (cv σ) (i32 x0) (i32 x1)) β := by
  unfold kY_Wds_takeWord_p67 kC_Wds_takeWord_p67
  refine Rf_eq rfl (by decide) hx1 (by decide) (fun _ => ?_) (fun _ => ?_)
  · exact Rf_tail hR hσ (zrs_cons hx0 (zrs_cons hx1 zrs_nil)) (e_cons rfl (e_cons rfl rfl))
  · exact Rf_tail hR hσ (zrs_cons hx0 (zrs_cons hx1 (zrs_cons (by decide) zrs_nil))) (e_cons rfl (e_cons rfl (e_cons (by decide) rfl)))
theorem rY_Wds_takeWord_p73 (rz : zF) (rm : mF) (hR : Rc rz rm) (β : Nat) (σ : zS) (hσ : zOK σ) (x0 x1 : Int) (hx0 : zr x0) (hx1 : zr x1) : Rf (kY_Wds_takeWord_p73 rz β σ x0 x1) (kC_Wds_takeWord_p73 rm (cv σ) (i32 x0) (i32 x1)) β := by
  unfold kY_Wds_takeWord_p73 kC_Wds_takeWord_p73
  exact Rf_tail hR hσ (zrs_cons hx0 (zrs_cons hx1 (zrs_cons (by decide) zrs_nil))) (e_cons rfl (e_cons rfl (e_cons (by decide) rfl)))
theorem rY_Wds_takeWord_p78 (rz : zF) (rm : mF) (hR : Rc rz rm) (β : Nat) (σ : zS) (hσ : zOK σ) (x0 x1 x2 : Int) (hx0 : zr x0) (hx1 : zr x1) (hx2 : zr x2) : Rf (kY_Wds_takeWord_p78 rz β σ x0 x1 x2) (kC_Wds_takeWord_p78 rm (cv σ) (i32 x0) (i32 x1) (i32 x2)) β := by
  unfold kY_Wds_takeWord_p78 kC_Wds_takeWord_p78
  refine Rf_eq rfl (by decide) hx2 (by decide) (fun _ => ?_) (fun _ => ?_)
  · exact Rf_tail hR hσ (zrs_cons hx2 (zrs_cons hx1 (zrs_cons (by decide) (zrs_cons (hσ.1 3204) zrs_nil)))) (e_cons rfl (e_cons rfl (e_cons (by decide) (e_cons rfl rfl))))
  · exact Rf_tail hR hσ (zrs_cons hx2 (zrs_cons hx1 (zrs_cons (by decide) (zrs_cons (hσ.1 3204) zrs_nil)))) (e_cons rfl (e_cons rfl (e_cons (by decide) (e_cons rfl rfl))))
theorem rY_Wds_takeWord_p93 (rz : zF) (rm : mF) (hR : Rc rz rm) (β : Nat) (σ : zS) (hσ : zOK σ) (x0 x1 x2 x3 : Int) (hx0 : zr x0) (hx1 : zr x1) (hx2 : zr x2) (hx3 : zr x3) : Rf (kY_Wds_takeWord_p93 rz β σ x0 x1 x2 x3) (kC_Wds_takeWord_p93 rm (cv σ) (i32 x0) (i32 x1) (i32 x2) (i32 x3)) β := by
  unfold kY_Wds_takeWord_p93 kC_Wds_takeWord_p93
  refine Rf_g (fun hg1 => ?_)
  refine Rf_I (e_add rfl rfl) hg1 hσ (fun σ1 hσ1 => ?_)
  exact Rf_tail hR hσ1 (zrs_cons hx0 zrs_nil) (e_cons rfl rfl)
theorem rY_Wds_takeWord_p100 (rz : zF) (rm : mF) (hR : Rc rz rm) (β : Nat) (σ : zS) (hσ : zOK σ) (x0 : Int) (hx0 : zr x0) : Rf (kY_Wds_takeWord_p100 rz β σ x0) (kC_Wds_takeWord_p100 rm (cv σ) (i32 x0)) β := by
  unfold kY_Wds_takeWord_p100 kC_Wds_takeWord_p100
  refine Rf_rd rfl (hσ.1 3206) (fun hb1 => ?_)
  refine Rf_lt (by decide) (e_rd rfl hb1) (by decide) (hσ.2.1 _ _) (fun _ => ?_) (fun _ => ?_)
  · exact Rf_tail hR hσ (zrs_cons hx0 (zrs_cons (by decide) zrs_nil)) (e_cons rfl (e_cons (by decide) rfl))
  · exact Rf_tail hR hσ (zrs_cons hx0 (zrs_cons (by decide) zrs_nil)) (e_cons rfl (e_cons (by decide) rfl))
theorem rY_Wds_takeWord_p119 (rz : zF) (rm : mF) (hR : Rc rz rm) (β : Nat) (σ : zS) (hσ : zOK σ) (x0 x1 : Int) (hx0 : zr x0) (hx1 : zr x1) : Rf (kY_Wds_takeWord_p119 rz β σ x0 x1) (kC_Wds_takeWord_p119 rm (cv σ) (i32 x0) (i32 x1)) β := by
  unfold kY_Wds_takeWord_p119 kC_Wds_takeWord_p119
  refine Rf_le rfl (by decide) (hσ.1 3204) (by decide) (fun _ => ?_) (fun _ => ?_)
  · refine Rf_eq rfl (by decide) hx1 (by decide) (fun _ => ?_) (fun _ => ?_)
    · exact Rf_tail hR hσ (zrs_cons hx0 (zrs_cons hx1 (zrs_cons (by decide) zrs_nil))) (e_cons rfl (e_cons rfl (e_cons (by decide) rfl)))
    · exact Rf_tail hR hσ (zrs_cons hx0 (zrs_cons hx1 (zrs_cons (by decide) zrs_nil))) (e_cons rfl (e_cons rfl (e_cons (by decide) rfl)))
  · exact Rf_tail hR hσ (zrs_cons hx0 (zrs_cons hx1 (zrs_cons (by decide) zrs_nil))) (e_cons rfl (e_cons rfl (e_cons (by decide) rfl)))
theorem rY_Wds_takeWord_p143 (rz : zF) (rm : mF) (hR : Rc rz rm) (β : Nat) (σ : zS) (hσ : zOK σ) (x0 x1 x2 : Int) (hx0 : zr x0) (hx1 : zr x1) (hx2 : zr x2) : Rf (kY_Wds_takeWord_p143 rz β σ x0 x1 x2) (kC_Wds_takeWord_p143 rm (cv σ) (i32 x0) (i32 x1) (i32 x2)) β := by
  unfold kY_Wds_takeWord_p143 kC_Wds_takeWord_p143
  refine Rf_I rfl hx2 hσ (fun σ1 hσ1 => ?_)
  exact Rf_some hσ1 (by decide) (by decide)
theorem rY_Integer_numberOfTrailingZeros (rz : zF) (rm : mF) (hR : Rc rz rm) (β : Nat) (σ : zS) (hσ : zOK σ) (x0 : Int) (hx0 : zr x0) : Rf (kY_Integer_numberOfTrailingZeros rz β σ x0) (kC_Integer_numberOfTrailingZeros rm (cv σ) (i32 x0)) β := by
  unfold kY_Integer_numberOfTrailingZeros kC_Integer_numberOfTrailingZeros
  refine Rf_g (fun hg1 => ?_)
  refine Rf_lt (by decide) (e_and (e_not rfl) (e_sub rfl (by decide))) (by decide) (zr_to _) (fun _ => ?_) (fun _ => ?_)
  · refine Rf_le (e_and (e_not rfl) (e_sub rfl (by decide))) (by decide) (zr_to _) (by decide) (fun _ => ?_) (fun _ => ?_)
    · exact Rf_tail hR hσ (zrs_cons (zr_to _) (zrs_cons (by decide) zrs_nil)) (e_cons (e_and (e_not rfl) (e_sub rfl (by decide))) (e_cons (by decide) rfl))
    · refine Rf_g (fun hg2 => ?_)
      exact Rf_tail hR hσ (zrs_cons (zr_to _) (zrs_cons hg2 zrs_nil)) (e_cons (e_ushr (e_and (e_not rfl) (e_sub rfl (by decide))) (by decide)) (e_cons (e_add (by decide) (by decide)) rfl))
  · exact Rf_some hσ (zr_to _) (e_and (e_and (e_not rfl) (e_sub rfl (by decide))) (by decide))
theorem rY_Integer_numberOfTrailingZeros_p34 (rz : zF) (rm : mF) (hR : Rc rz rm) (β : Nat) (σ : zS) (hσ : zOK σ) (x0 x1 : Int) (hx0 : zr x0) (hx1 : zr x1) : Rf (kY_Integer_numberOfTrailingZeros_p34 rz β σ x0 x1) (kC_Integer_numberOfTrailingZeros_p34 rm (cv σ) (i32 x0) (i32 x1)) β := by
  unfold kY_Integer_numberOfTrailingZeros_p34 kC_Integer_numberOfTrailingZeros_p34
  refine Rf_le rfl (by decide) hx0 (by decide) (fun _ => ?_) (fun _ => ?_)
  · exact Rf_tail hR hσ (zrs_cons hx0 (zrs_cons hx1 zrs_nil)) (e_cons rfl (e_cons rfl rfl))
  · refine Rf_g (fun hg1 => ?_)
    exact Rf_tail hR hσ (zrs_cons (zr_to _) (zrs_cons hg1 zrs_nil)) (e_cons (e_ushr rfl (by decide)) (e_cons (e_add rfl (by decide)) rfl))
theorem rY_Integer_numberOfTrailingZeros_p49 (rz : zF) (rm : mF) (hR : Rc rz rm) (β : Nat) (σ : zS) (hσ : zOK σ) (x0 x1 : Int) (hx0 : zr x0) (hx1 : zr x1) : Rf (kY_Integer_numberOfTrailingZeros_p49 rz β σ x0 x1) (kC_Integer_numberOfTrailingZeros_p49 rm (cv σ) (i32 x0) (i32 x1)) β := by
  unfold kY_Integer_numberOfTrailingZeros_p49 kC_Integer_numberOfTrailingZeros_p49
  refine Rf_le rfl (by decide) hx0 (by decide) (fun _ => ?_) (fun _ => ?_)
  · exact Rf_tail hR hσ (zrs_cons hx0 (zrs_cons hx1 zrs_nil)) (e_cons rfl (e_cons rfl rfl))
  · refine Rf_g (fun hg1 => ?_)
    exact Rf_tail hR hσ (zrs_cons (zr_to _) (zrs_cons hg1 zrs_nil)) (e_cons (e_ushr rfl (by decide)) (e_cons (e_add rfl (by decide)) rfl))
theorem rY_Integer_numberOfTrailingZeros_p62 (rz : zF) (rm : mF) (hR : Rc rz rm) (β : Nat) (σ : zS) (hσ : zOK σ) (x0 x1 : Int) (hx0 : zr x0) (hx1 : zr x1) : Rf (kY_Integer_numberOfTrailingZeros_p62 rz β σ x0 x1) (kC_Integer_numberOfTrailingZeros_p62 rm (cv σ) (i32 x0) (i32 x1)) β := by
  unfold kY_Integer_numberOfTrailingZeros_p62 kC_Integer_numberOfTrailingZeros_p62
  refine Rf_le rfl (by decide) hx0 (by decide) (fun _ => ?_) (fun _ => ?_)
  · exact Rf_tail hR hσ (zrs_cons hx0 (zrs_cons hx1 zrs_nil)) (e_cons rfl (e_cons rfl rfl))
  · refine Rf_g (fun hg1 => ?_)
    exact Rf_tail hR hσ (zrs_cons (zr_to _) (zrs_cons hg1 zrs_nil)) (e_cons (e_ushr rfl (by decide)) (e_cons (e_add rfl (by decide)) rfl))
theorem rY_Integer_numberOfTrailingZeros_p74 (rz : zF) (rm : mF) (hR : Rc rz rm) (β : Nat) (σ : zS) (hσ : zOK σ) (x0 x1 : Int) (hx0 : zr x0) (hx1 : zr x1) : Rf (kY_Integer_numberOfTrailingZeros_p74 rz β σ x0 x1) (kC_Integer_numberOfTrailingZeros_p74 rm (cv σ) (i32 x0) (i32 x1)) β := by
  unfold kY_Integer_numberOfTrailingZeros_p74 kC_Integer_numberOfTrailingZeros_p74
  refine Rf_g (fun hg1 => ?_)
  exact Rf_some hσ hg1 (e_add rfl (e_ushr rfl (by decide)))
theorem rY_CP_addBytes (rz : zF) (rm : mF) (hR : Rc rz rm) (β : Nat) (σ : zS) (hσ : zOK σ) (x0 : Int) (hx0 : zr x0) : Rf (kY_CP_addBytes rz β σ x0) (kG_CP_addBytes rm (cv σ) (i32 x0)) β := by
  unfold kY_CP_addBytes kG_CP_addBytes
  exact Rf_tail hR hσ (zrs_cons hx0 (zrs_cons (by decide) zrs_nil)) (e_cons rfl (e_cons (by decide) rfl))
theorem rY_CP_addBytes_p3 (rz : zF) (rm : mF) (hR : Rc rz rm) (β : Nat) (σ : zS) (hσ : zOK σ) (x0 x1 : Int) (hx0 : zr x0) (hx1 : zr x1) : Rf (kY_CP_addBytes_p3 rz β σ x0 x1) (kG_CP_addBytes_p3 rm (cv σ) (i32 x0) (i32 x1)) β := by
  unfold kY_CP_addBytes_p3 kG_CP_addBytes_p3
  refine Rf_lt rfl (by decide) hx1 (by decide) (fun _ => ?_) (fun _ => ?_)
  · exact Rf_some hσ (by decide) (by decide)
  · refine Rf_Add (e_and (e_ushr rfl rfl) (by decide)) (zr_to _) hσ (by decide) (by decide) (by decide) (by decide) (fun σ1 hσ1 => ?_)
    refine Rf_g (fun hg1 => ?_)
    exact Rf_tail hR hσ1 (zrs_cons hx0 (zrs_cons hg1 zrs_nil)) (e_cons rfl (e_cons (e_add rfl (by decide)) rfl))
theorem rY_CP_read (rz : zF) (rm : mF) (hR : Rc rz rm) (β : Nat) (σ : zS) (hσ : zOK σ) : Rf (kY_CP_read rz β σ) (kG_CP_read rm (cv σ)) β := by
  unfold kY_CP_read kG_CP_read
  refine Rf_bnd hR hσ zrs_nil rfl (fun σ1 r1 hσ1 hr1 => ?_)
  refine Rf_bnd hR hσ1 zrs_nil rfl (fun σ2 r2 hσ2 hr2 => ?_)
  refine Rf_bnd hR hσ2 zrs_nil rfl (fun σ3 r3 hσ3 hr3 => ?_)
  refine Rf_bnd hR hσ3 (zrs_cons (hσ3.1 101) zrs_nil) (e_cons rfl rfl) (fun σ4 r4 hσ4 hr4 => ?_)
  refine Rf_I (by decide) (by decide) hσ4 (fun σ5 hσ5 => ?_)
  refine Rf_I rfl (hσ5.1 3100) hσ5 (fun σ6 hσ6 => ?_)
  refine Rf_I rfl (hσ6.1 3101) hσ6 (fun σ7 hσ7 => ?_)
  refine Rf_eq rfl (by decide) (hσ7.1 10) (by decide) (fun _ => ?_) (fun _ => ?_)
  · refine Rf_bnd hR hσ7 zrs_nil rfl (fun σ8 r8 hσ8 hr8 => ?_)
    refine Rf_bnd hR hσ8 zrs_nil rfl (fun σ9 r9 hσ9 hr9 => ?_)
    refine Rf_eq rfl (by decide) hr9 (by decide) (fun _ => ?_) (fun _ => ?_)
    · exact Rf_tail hR hσ9 (zrs_cons hr9 (zrs_cons (by decide) zrs_nil)) (e_cons rfl (e_cons (by decide) rfl))
    · exact Rf_tail hR hσ9 (zrs_cons hr9 (zrs_cons (by decide) zrs_nil)) (e_cons rfl (e_cons (by decide) rfl))
  · exact Rf_tail hR hσ7 zrs_nil rfl
theorem rY_CP_read_p113 (rz : zF) (rm : mF) (hR : Rc rz rm) (β : Nat) (σ : zS) (hσ : zOK σ) (x0 x1 : Int) (hx0 : zr x0) (hx1 : zr x1) : Rf (kY_CP_read_p113 rz β σ x0 x1) (kG_CP_read_p113 rm (cv σ) (i32 x0) (i32 x1)) β := by
  unfold kY_CP_read_p113 kG_CP_read_p113
  refine Rf_I rfl hx1 hσ (fun σ1 hσ1 => ?_)
  refine Rf_eq rfl (by decide) hx0 (by decide) (fun _ => ?_) (fun _ => ?_)
  · exact Rf_tail hR hσ1 (zrs_cons hx0 (zrs_cons (by decide) zrs_nil)) (e_cons rfl (e_cons (by decide) rfl))
  · exact Rf_tail hR hσ1 (zrs_cons hx0 (zrs_cons hx0 zrs_nil)) (e_cons rfl (e_cons rfl rfl))
theorem rY_CP_read_p127 (rz : zF) (rm : mF) (hR : Rc rz rm) (β : Nat) (σ : zS) (hσ : zOK σ) (x0 x1 : Int) (hx0 : zr x0) (hx1 : zr x1) : Rf (kY_CP_read_p127 rz β σ x0 x1) (kG_CP_read_p127 rm (cv σ) (i32 x0) (i32 x1)) β := by
  unfold kY_CP_read_p127 kG_CP_read_p127
  refine Rf_I rfl hx1 hσ (fun σ1 hσ1 => ?_)
  exact Rf_tail hR hσ1 zrs_nil rfl
theorem rY_CP_read_p130 (rz : zF) (rm : mF) (hR : Rc rz rm) (β : Nat) (σ : zS) (hσ : zOK σ) : Rf (kY_CP_read_p130 rz β σ) (kG_CP_read_p130 rm (cv σ)) β := by
  unfold kY_CP_read_p130 kG_CP_read_p130
  refine Rf_eq rfl (by decide) (hσ.1 10) (by decide) (fun _ => ?_) (fun _ => ?_)
  · refine Rf_I rfl (hσ.1 5402) hσ (fun σ1 hσ1 => ?_)
    exact Rf_some hσ1 (hσ1.1 5402) rfl
  · refine Rf_bnd hR hσ zrs_nil rfl (fun σ2 r2 hσ2 hr2 => ?_)
    refine Rf_bnd hR hσ2 zrs_nil rfl (fun σ3 r3 hσ3 hr3 => ?_)
    exact Rf_some hσ3 (by decide) (by decide)
theorem rY_CP_writeNumber (rz : zF) (rm : mF) (hR : Rc rz rm) (β : Nat) (σ : zS) (hσ : zOK σ) (x0 : Int) (hx0 : zr x0) : Rf (kY_CP_writeNumber rz β σ x0) (kG_CP_writeNumber rm (cv σ) (i32 x0)) β := by
  unfold kY_CP_writeNumber kG_CP_writeNumber
  refine Rf_lt rfl (by decide) hx0 (by decide) (fun _ => ?_) (fun _ => ?_)
  · refine Rf_lt rfl (by decide) hx0 (by decide) (fun _ => ?_) (fun _ => ?_)
    · exact Rf_tail hR hσ (zrs_cons hx0 (zrs_cons (by decide) zrs_nil)) (e_cons rfl (e_cons (by decide) rfl))
    · exact Rf_tail hR hσ (zrs_cons hx0 (zrs_cons (by decide) zrs_nil)) (e_cons rfl (e_cons (by decide) rfl))
  · exact Rf_tail hR hσ (zrs_cons hx0 (zrs_cons (by decide) zrs_nil)) (e_cons rfl (e_cons (by decide) rfl))
theorem rY_CP_writeNumber_p23 (rz : zF) (rm : mF) (hR : Rc rz rm) (β : Nat) (σ : zS) (hσ : zOK σ) (x0 x1 : Int) (hx0 : zr x0) (hx1 : zr x1) : Rf (kY_CP_writeNumber_p23 rz β σ x0 x1) (kG_CP_writeNumber_p23 rm (cv σ) (i32 x0) (i32 x1)) β := by
  unfold kY_CP_writeNumber_p23 kG_CP_writeNumber_p23
  exact Rf_tail hR hσ (zrs_cons hx0 (zrs_cons hx1 zrs_nil)) (e_cons rfl (e_cons rfl rfl))
theorem rY_CP_writeNumber_p24 (rz : zF) (rm : mF) (hR : Rc rz rm) (β : Nat) (σ : zS) (hσ : zOK σ) (x0 x1 : Int) (hx0 : zr x0) (hx1 : zr x1) : Rf (kY_CP_writeNumber_p24 rz β σ x0 x1) (kG_CP_writeNumber_p24 rm (cv σ) (i32 x0) (i32 x1)) β := by
  unfold kY_CP_writeNumber_p24 kG_CP_writeNumber_p24
  refine Rf_le rfl (by decide) hx1 (by decide) (fun _ => ?_) (fun _ => ?_)
  · exact Rf_some hσ (by decide) (by decide)
  · refine Rf_z rfl hx1 (fun hz1 => ?_)
    refine Rf_nz (by decide) ?_
    refine Rf_g (fun hg2 => ?_)
    refine Rf_g (fun hg3 => ?_)
    refine Rf_Add (e_add (by decide) (e_mod (e_div rfl rfl hx0 hx1) (by decide) hg2 (by decide))) hg3 hσ (by decide) (by decide) (by decide) (by decide) (fun σ1 hσ1 => ?_)
    refine Rf_nz (by decide) ?_
    refine Rf_g (fun hg4 => ?_)
    exact Rf_tail hR hσ1 (zrs_cons hx0 (zrs_cons hg4 zrs_nil)) (e_cons rfl (e_cons (e_div rfl (by decide) hx1 (by decide)) rfl))
theorem rY_For_addNode (rz : zF) (rm : mF) (hR : Rc rz rm) (β : Nat) (σ : zS) (hσ : zOK σ) (x0 x1 x2 : Int) (hx0 : zr x0) (hx1 : zr x1) (hx2 : zr x2) : Rf (kY_For_addNode rz β σ x0 x1 x2) (kG_For_addNode rm (cv σ) (i32 x0) (i32 x1) (i32 x2)) β := by
  unfold kY_For_addNode kG_For_addNode
  refine Rf_lt rfl (by decide) hx0 (by decide) (fun _ => ?_) (fun _ => ?_)
  · exact Rf_tail hR hσ (zrs_cons hx0 (zrs_cons hx1 (zrs_cons hx2 (zrs_cons (by decide) zrs_nil)))) (e_cons rfl (e_cons rfl (e_cons rfl (e_cons (by decide) rfl))))
  · refine Rf_g (fun hg1 => ?_)
    exact Rf_tail hR hσ (zrs_cons hx0 (zrs_cons hx1 (zrs_cons hx2 (zrs_cons hg1 zrs_nil)))) (e_cons rfl (e_cons rfl (e_cons rfl (e_cons (e_mul rfl (by decide)) rfl))))
theorem rY_For_addNode_p14 (rz : zF) (rm : mF) (hR : Rc rz rm) (β : Nat) (σ : zS) (hσ : zOK σ) (x0 x1 x2 x3 : Int) (hx0 : zr x0) (hx1 : zr x1) (hx2 : zr x2) (hx3 : zr x3) : Rf (kY_For_addNode_p14 rz β σ x0 x1 x2 x3) (kG_For_addNode_p14 rm (cv σ) (i32 x0) (i32 x1) (i32 x2) (i32 x3)) β := by
  unfold kY_For_addNode_p14 kG_For_addNode_p14
  refine Rf_lt rfl (by decide) hx0 (by decide) (fun _ => ?_) (fun _ => ?_)
  · exact Rf_tail hR hσ (zrs_cons hx0 (zrs_cons hx1 (zrs_cons hx2 (zrs_cons hx3 (zrs_cons (by decide) zrs_nil))))) (e_cons rfl (e_cons rfl (e_cons rfl (e_cons rfl (e_cons (by decide) rfl)))))
  · refine Rf_g (fun hg1 => ?_)
    exact Rf_tail hR hσ (zrs_cons hx0 (zrs_cons hx1 (zrs_cons hx2 (zrs_cons hx3 (zrs_cons hg1 zrs_nil))))) (e_cons rfl (e_cons rfl (e_cons rfl (e_cons rfl (e_cons (e_mul rfl (by decide)) rfl)))))
theorem rY_For_addNode_p30 (rz : zF) (rm : mF) (hR : Rc rz rm) (β : Nat) (σ : zS) (hσ : zOK σ) (x0 x1 x2 x3 x4 : Int) (hx0 : zr x0) (hx1 : zr x1) (hx2 : zr x2) (hx3 : zr x3) (hx4 : zr x4) : Rf (kY_For_addNode_p30 rz β σ x0 x1 x2 x3 x4) (kG_For_addNode_p30 rm (cv σ) (i32 x0) (i32 x1) (i32 x2) (i32 x3) (i32 x4)) β := by
  unfold kY_For_addNode_p30 kG_For_addNode_p30
  refine Rf_eq rfl (by decide) hx3 (by decide) (fun _ => ?_) (fun _ => ?_)
  · exact Rf_tail hR hσ (zrs_cons hx0 (zrs_cons hx1 (zrs_cons hx2 (zrs_cons hx3 (zrs_cons hx4 (zrs_cons (by decide) zrs_nil)))))) (e_cons rfl (e_cons rfl (e_cons rfl (e_cons rfl (e_cons rfl (e_cons (by decide) rfl))))))
  · refine Rf_g (fun hg1 => ?_)
    refine Rf_rd (e_add rfl (by decide)) hg1 (fun hb2 => ?_)
    exact Rf_tail hR hσ (zrs_cons hx0 (zrs_cons hx1 (zrs_cons hx2 (zrs_cons hx3 (zrs_cons hx4 (zrs_cons (hσ.2.1 _ _) zrs_nil)))))) (e_cons rfl (e_cons rfl (e_cons rfl (e_cons rfl (e_cons rfl (e_cons (e_rd (e_add rfl (by decide)) hb2) rfl))))))
theorem rY_For_addNode_p54 (rz : zF) (rm : mF) (hR : Rc rz rm) (β : Nat) (σ : zS) (hσ : zOK σ) (x0 x1 x2 x3 x4 x5 : Int) (hx0 : zr x0) (hx1 : zr x1) (hx2 : zr x2) (hx3 : zr x3) (hx4 : zr x4) (hx5 : zr x5) : Rf (kY_For_addNode_p54 rz β σ x0 x1 x2 x3 x4 x5) (kG_For_addNode_p54 rm (cv σ) (i32 x0) (i32 x1) (i32 x2) (i32 x3) (i32 x4) (i32 x5)) β := by
  unfold kY_For_addNode_p54 kG_For_addNode_p54
  refine Rf_eq rfl (by decide) hx3 (by decide) (fun _ => ?_) (fun _ => ?_)
  · exact Rf_tail hR hσ (zrs_cons hx0 (zrs_cons hx1 (zrs_cons hx2 (zrs_cons hx3 (zrs_cons hx4 (zrs_cons hx5 (zrs_cons (by decide) zrs_nil))))))) (e_cons rfl (e_cons rfl (e_cons rfl (e_cons rfl (e_cons rfl (e_cons rfl (e_cons (by decide) rfl)))))))
  · refine Rf_g (fun hg1 => ?_)
    refine Rf_rd (e_add rfl (by decide)) hg1 (fun hb2 => ?_)
    exact Rf_tail hR hσ (zrs_cons hx0 (zrs_cons hx1 (zrs_cons hx2 (zrs_cons hx3 (zrs_cons hx4 (zrs_cons hx5 (zrs_cons (hσ.2.1 _ _) zrs_nil))))))) (e_cons rfl (e_cons rfl (e_cons rfl (e_cons rfl (e_cons rfl (e_cons rfl (e_cons (e_rd (e_add rfl (by decide)) hb2) rfl)))))))
theorem rY_For_addNode_p78 (rz : zF) (rm : mF) (hR : Rc rz rm) (β : Nat) (σ : zS) (hσ : zOK σ) (x0 x1 x2 x3 x4 x5 x6 : Int) (hx0 : zr x0) (hx1 : zr x1) (hx2 : zr x2) (hx3 : zr x3) (hx4 : zr x4) (hx5 : zr x5) (hx6 : zr x6) : Rf (kY_For_addNode_p78 rz β σ x0 x1 x2 x3 x4 x5 x6) (kG_For_addNode_p78 rm (cv σ) (i32 x0) (i32 x1) (i32 x2) (i32 x3) (i32 x4) (i32 x5) (i32 x6)) β := by
  unfold kY_For_addNode_p78 kG_For_addNode_p78
  refine Rf_eq rfl (by decide) hx4 (by decide) (fun _ => ?_) (fun _ => ?_)
  · exact Rf_tail hR hσ (zrs_cons hx0 (zrs_cons hx1 (zrs_cons hx2 (zrs_cons hx3 (zrs_cons hx4 (zrs_cons hx5 (zrs_cons hx6 (zrs_cons (by decide) zrs_nil)))))))) (e_cons rfl (e_cons rfl (e_cons rfl (e_cons rfl (e_cons rfl (e_cons rfl (e_cons rfl (e_cons (by decide) rfl))))))))
  · refine Rf_g (fun hg1 => ?_)
    refine Rf_rd (e_add rfl (by decide)) hg1 (fun hb2 => ?_)
    exact Rf_tail hR hσ (zrs_cons hx0 (zrs_cons hx1 (zrs_cons hx2 (zrs_cons hx3 (zrs_cons hx4 (zrs_cons hx5 (zrs_cons hx6 (zrs_cons (hσ.2.1 _ _) zrs_nil)))))))) (e_cons rfl (e_cons rfl (e_cons rfl (e_cons rfl (e_cons rfl (e_cons rfl (e_cons rfl (e_cons (e_rd (e_add rfl (by decide)) hb2) rfl))))))))
theorem rY_For_addNode_p102 (rz : zF) (rm : mF) (hR : Rc rz rm) (β : Nat) (σ : zS) (hσ : zOK σ) (x0 x1 x2 x3 x4 x5 x6 x7 : Int) (hx0 : zr x0) (hx1 : zr x1) (hx2 : zr x2) (hx3 : zr x3) (hx4 : zr x4) (hx5 : zr x5) (hx6 : zr x6) (hx7 : zr x7) : Rf (kY_For_addNode_p102 rz β σ x0 x1 x2 x3 x4 x5 x6 x7) (kG_For_addNode_p102 rm (cv σ) (i32 x0) (i32 x1) (i32 x2) (i32 x3) (i32 x4) (i32 x5) (i32 x6) (i32 x7)) β := by
  unfold kY_For_addNode_p102 kG_For_addNode_p102
  refine Rf_eq rfl (by decide) hx4 (by decide) (fun _ => ?_) (fun _ => ?_)
  · exact Rf_tail hR hσ (zrs_cons hx0 (zrs_cons hx1 (zrs_cons hx2 (zrs_cons hx3 (zrs_cons hx4 (zrs_cons hx5 (zrs_cons hx6 (zrs_cons hx7 (zrs_cons (by decide) zrs_nil))))))))) (e_cons rfl (e_cons rfl (e_cons rfl (e_cons rfl (e_cons rfl (e_cons rfl (e_cons rfl (e_cons rfl (e_cons (by decide) rfl)))))))))
  · refine Rf_g (fun hg1 => ?_)
    refine Rf_rd (e_add rfl (by decide)) hg1 (fun hb2 => ?_)
    exact Rf_tail hR hσ (zrs_cons hx0 (zrs_cons hx1 (zrs_cons hx2 (zrs_cons hx3 (zrs_cons hx4 (zrs_cons hx5 (zrs_cons hx6 (zrs_cons hx7 (zrs_cons (hσ.2.1 _ _) zrs_nil))))))))) (e_cons rfl (e_cons rfl (e_cons rfl (e_cons rfl (e_cons rfl (e_cons rfl (e_cons rfl (e_cons rfl (e_cons (e_rd (e_add rfl (by decide)) hb2) rfl)))))))))
theorem rY_For_addNode_p126 (rz : zF) (rm : mF) (hR : Rc rz rm) (β : Nat) (σ : zS) (hσ : zOK σ) (x0 x1 x2 x3 x4 x5 x6 x7 x8 : Int) (hx0 : zr x0) (hx1 : zr x1) (hx2 : zr x2) (hx3 : zr x3) (hx4 : zr x4) (hx5 : zr x5) (hx6 : zr x6) (hx7 : zr x7) (hx8 : zr x8) : Rf (kY_For_addNode_p126 rz β σ x0 x1 x2 x3 x4 x5 x6 x7 x8) (kG_For_addNode_p126 rm (cv σ) (i32 x0) (i32 x1) (i32 x2) (i32 x3) (i32 x4) (i32 x5) (i32 x6) (i32 x7) (i32 x8)) β := by
  unfold kY_For_addNode_p126 kG_For_addNode_p126
  refine Rf_out rfl hx0 (fun _ => ?_) (fun _ => ?_)
  · exact Rf_tail hR hσ (zrs_cons hx0 (zrs_cons hx1 (zrs_cons hx2 (zrs_cons hx3 (zrs_cons hx4 (zrs_cons hx5 (zrs_cons hx6 (zrs_cons hx7 (zrs_cons hx8 (zrs_cons hx5 (zrs_cons hx6 zrs_nil))))))))))) (e_cons rfl (e_cons rfl (e_cons rfl (e_cons rfl (e_cons rfl (e_cons rfl (e_cons rfl (e_cons rfl (e_cons rfl (e_cons rfl (e_cons rfl rfl)))))))))))
  · refine Rf_eq rfl (by decide) hx0 (by decide) (fun _ => ?_) (fun _ => ?_)
    · exact Rf_tail hR hσ (zrs_cons hx0 (zrs_cons hx1 (zrs_cons hx2 (zrs_cons hx3 (zrs_cons hx4 (zrs_cons hx5 (zrs_cons hx6 (zrs_cons hx7 (zrs_cons hx8 (zrs_cons hx6 (zrs_cons hx5 zrs_nil))))))))))) (e_cons rfl (e_cons rfl (e_cons rfl (e_cons rfl (e_cons rfl (e_cons rfl (e_cons rfl (e_cons rfl (e_cons rfl (e_cons rfl (e_cons rfl rfl)))))))))))
    · refine Rf_eq rfl (by decide) hx0 (by decide) (fun _ => ?_) (fun _ => ?_)
      · exact Rf_tail hR hσ (zrs_cons hx0 (zrs_cons hx1 (zrs_cons hx2 (zrs_cons hx3 (zrs_cons hx4 (zrs_cons hx5 (zrs_cons hx6 (zrs_cons hx7 (zrs_cons hx8 (zrs_cons hx5 (zrs_cons hx6 zrs_nil))))))))))) (e_cons rfl (e_cons rfl (e_cons rfl (e_cons rfl (e_cons rfl (e_cons rfl (e_cons rfl (e_cons rfl (e_cons rfl (e_cons rfl (e_cons rfl rfl)))))))))))
      · refine Rf_eq rfl (by decide) hx0 (by decide) (fun _ => ?_) (fun _ => ?_)
        · exact Rf_tail hR hσ (zrs_cons hx0 (zrs_cons hx1 (zrs_cons hx2 (zrs_cons hx3 (zrs_cons hx4 (zrs_cons hx5 (zrs_cons hx6 (zrs_cons hx7 (zrs_cons hx8 (zrs_cons hx5 (zrs_cons hx6 zrs_nil))))))))))) (e_cons rfl (e_cons rfl (e_cons rfl (e_cons rfl (e_cons rfl (e_cons rfl (e_cons rfl (e_cons rfl (e_cons rfl (e_cons rfl (e_cons rfl rfl)))))))))))
        · refine Rf_eq rfl (by decide) hx0 (by decide) (fun _ => ?_) (fun _ => ?_)
          · refine Rf_g (fun hg1 => ?_)
            refine Rf_g (fun hg2 => ?_)
            exact Rf_tail hR hσ (zrs_cons hx0 (zrs_cons hx1 (zrs_cons hx2 (zrs_cons hx3 (zrs_cons hx4 (zrs_cons hx5 (zrs_cons hx6 (zrs_cons hx7 (zrs_cons hx8 (zrs_cons hg1 (zrs_cons hg2 zrs_nil))))))))))) (e_cons rfl (e_cons rfl (e_cons rfl (e_cons rfl (e_cons rfl (e_cons rfl (e_cons rfl (e_cons rfl (e_cons rfl (e_cons (e_mul rfl rfl) (e_cons (e_add rfl rfl) rfl)))))))))))
          · refine Rf_eq rfl (by decide) hx0 (by decide) (fun _ => ?_) (fun _ => ?_)
            · refine Rf_g (fun hg3 => ?_)
              refine Rf_g (fun hg4 => ?_)
              exact Rf_tail hR hσ (zrs_cons hx0 (zrs_cons hx1 (zrs_cons hx2 (zrs_cons hx3 (zrs_cons hx4 (zrs_cons hx5 (zrs_cons hx6 (zrs_cons hx7 (zrs_cons hx8 (zrs_cons hg3 (zrs_cons hg4 zrs_nil))))))))))) (e_cons rfl (e_cons rfl (e_cons rfl (e_cons rfl (e_cons rfl (e_cons rfl (e_cons rfl (e_cons rfl (e_cons rfl (e_cons (e_add rfl rfl) (e_cons (e_mul rfl rfl) rfl)))))))))))
            · refine Rf_eq rfl (by decide) hx0 (by decide) (fun _ => ?_) (fun _ => ?_)
              · refine Rf_g (fun hg5 => ?_)
                refine Rf_g (fun hg6 => ?_)
                exact Rf_tail hR hσ (zrs_cons hx0 (zrs_cons hx1 (zrs_cons hx2 (zrs_cons hx3 (zrs_cons hx4 (zrs_cons hx5 (zrs_cons hx6 (zrs_cons hx7 (zrs_cons hx8 (zrs_cons hg5 (zrs_cons hg6 zrs_nil))))))))))) (e_cons rfl (e_cons rfl (e_cons rfl (e_cons rfl (e_cons rfl (e_cons rfl (e_cons rfl (e_cons rfl (e_cons rfl (e_cons (e_add rfl rfl) (e_cons (e_mul rfl rfl) rfl)))))))))))
              · refine Rf_g (fun hg7 => ?_)
                refine Rf_g (fun hg8 => ?_)
                refine Rf_g (fun hg9 => ?_)
                refine Rf_g (fun hg10 => ?_)
                refine Rf_g (fun hg11 => ?_)
                refine Rf_g (fun hg12 => ?_)
                exact Rf_tail hR hσ (zrs_cons hx0 (zrs_cons hx1 (zrs_cons hx2 (zrs_cons hx3 (zrs_cons hx4 (zrs_cons hx5 (zrs_cons hx6 (zrs_cons hx7 (zrs_cons hx8 (zrs_cons hg9 (zrs_cons hg12 zrs_nil))))))))))) (e_cons rfl (e_cons rfl (e_cons rfl (e_cons rfl (e_cons rfl (e_cons rfl (e_cons rfl (e_cons rfl (e_cons rfl (e_cons (e_add (e_mul rfl rfl) (e_mul rfl rfl)) (e_cons (e_add (e_mul rfl rfl) (e_mul rfl rfl)) rfl)))))))))))
theorem rY_For_addNode_p271 (rz : zF) (rm : mF) (hR : Rc rz rm) (β : Nat) (σ : zS) (hσ : zOK σ) (x0 x1 x2 x3 x4 x5 x6 x7 x8 x9 x10 : Int) (hx0 : zr x0) (hx1 : zr x1) (hx2 : zr x2) (hx3 : zr x3) (hx4 : zr x4) (hx5 : zr x5) (hx6 : zr x6) (hx7 : zr x7) (hx8 : zr x8) (hx9 : zr x9) (hx10 : zr x10) : Rf (kY_For_addNode_p271 rz β σ x0 x1 x2 x3 x4 x5 x6 x7 x8 x9 x10) (kG_For_addNode_p271 rm (cv σ) (i32 x0) (i32 x1) (i32 x2) (i32 x3) (i32 x4) (i32 x5) (i32 x6) (i32 x7) (i32 x8) (i32 x9) (i32 x10)) β := by
  unfold kY_For_addNode_p271 kG_For_addNode_p271
  refine Rf_eq rfl (by decide) hx3 (by decide) (fun _ => ?_) (fun _ => ?_)
  · exact Rf_tail hR hσ (zrs_cons hx0 (zrs_cons hx1 (zrs_cons hx2 (zrs_cons hx3 (zrs_cons hx4 (zrs_cons hx5 (zrs_cons hx6 (zrs_cons hx7 (zrs_cons hx8 (zrs_cons hx9 (zrs_cons hx10 (zrs_cons (by decide) zrs_nil)))))))))))) (e_cons rfl (e_cons rfl (e_cons rfl (e_cons rfl (e_cons rfl (e_cons rfl (e_cons rfl (e_cons rfl (e_cons rfl (e_cons rfl (e_cons rfl (e_cons (by decide) rfl))))))))))))
  · refine Rf_g (fun hg1 => ?_)
    refine Rf_rd (e_add rfl (by decide)) hg1 (fun hb2 => ?_)
    exact Rf_tail hR hσ (zrs_cons hx0 (zrs_cons hx1 (zrs_cons hx2 (zrs_cons hx3 (zrs_cons hx4 (zrs_cons hx5 (zrs_cons hx6 (zrs_cons hx7 (zrs_cons hx8 (zrs_cons hx9 (zrs_cons hx10 (zrs_cons (hσ.2.1 _ _) zrs_nil)))))))))))) (e_cons rfl (e_cons rfl (e_cons rfl (e_cons rfl (e_cons rfl (e_cons rfl (e_cons rfl (e_cons rfl (e_cons rfl (e_cons rfl (e_cons rfl (e_cons (e_rd (e_add rfl (by decide)) hb2) rfl))))))))))))
theorem rY_For_addNode_p293 (rz : zF) (rm : mF) (hR : Rc rz rm) (β : Nat) (σ : zS) (hσ : zOK σ) (x0 x1 x2 x3 x4 x5 x6 x7 x8 x9 x10 x11 : Int) (hx0 : zr x0) (hx1 : zr x1) (hx2 : zr x2) (hx3 : zr x3) (hx4 : zr x4) (hx5 : zr x5) (hx6 : zr x6) (hx7 : zr x7) (hx8 : zr x8) (hx9 : zr x9) (hx10 : zr x10) (hx11 : zr x11) : Rf (kY_For_addNode_p293 rz β σ x0 x1 x2 x3 x4 x5 x6 x7 x8 x9 x10 x11) (kG_For_addNode_p293 rm (cv σ) (i32 x0) (i32 x1) (i32 x2) (i32 x3) (i32 x4) (i32 x5) (i32 x6) (i32 x7) (i32 x8) (i32 x9) (i32 x10) (i32 x11)) β := by
  unfold kY_For_addNode_p293 kG_For_addNode_p293
  refine Rf_eq rfl (by decide) hx4 (by decide) (fun _ => ?_) (fun _ => ?_)
  · exact Rf_tail hR hσ (zrs_cons hx0 (zrs_cons hx1 (zrs_cons hx2 (zrs_cons hx3 (zrs_cons hx4 (zrs_cons hx5 (zrs_cons hx6 (zrs_cons hx7 (zrs_cons hx8 (zrs_cons hx9 (zrs_cons hx10 (zrs_cons (by decide) (zrs_cons hx11 zrs_nil))))))))))))) (e_cons rfl (e_cons rfl (e_cons rfl (e_cons rfl (e_cons rfl (e_cons rfl (e_cons rfl (e_cons rfl (e_cons rfl (e_cons rfl (e_cons rfl (e_cons (by decide) (e_cons rfl rfl)))))))))))))
  · refine Rf_g (fun hg1 => ?_)
    refine Rf_rd (e_add rfl (by decide)) hg1 (fun hb2 => ?_)
    exact Rf_tail hR hσ (zrs_cons hx0 (zrs_cons hx1 (zrs_cons hx2 (zrs_cons hx3 (zrs_cons hx4 (zrs_cons hx5 (zrs_cons hx6 (zrs_cons hx7 (zrs_cons hx8 (zrs_cons hx9 (zrs_cons hx10 (zrs_cons (hσ.2.1 _ _) (zrs_cons hx11 zrs_nil))))))))))))) (e_cons rfl (e_cons rfl (e_cons rfl (e_cons rfl (e_cons rfl (e_cons rfl (e_cons rfl (e_cons rfl (e_cons rfl (e_cons rfl (e_cons rfl (e_cons (e_rd (e_add rfl (by decide)) hb2) (e_cons rfl rfl)))))))))))))
theorem rY_For_addNode_p315 (rz : zF) (rm : mF) (hR : Rc rz rm) (β : Nat) (σ : zS) (hσ : zOK σ) (x0 x1 x2 x3 x4 x5 x6 x7 x8 x9 x10 x11 x12 : Int) (hx0 : zr x0) (hx1 : zr x1) (hx2 : zr x2) (hx3 : zr x3) (hx4 : zr x4) (hx5 : zr x5) (hx6 : zr x6) (hx7 : zr x7) (hx8 : zr x8) (hx9 : zr x9) (hx10 : zr x10) (hx11 : zr x11) (hx12 : zr x12) : Rf (kY_For_addNode_p315 rz β σ x0 x1 x2 x3 x4 x5 x6 x7 x8 x9 x10 x11 x12) (kG_For_addNode_p315 rm (cv σ) (i32 x0) (i32 x1) (i32 x2) (i32 x3) (i32 x4) (i32 x5) (i32 x6) (i32 x7) (i32 x8) (i32 x9) (i32 x10) (i32 x11) (i32 x12)) β := by
  unfold kY_For_addNode_p315 kG_For_addNode_p315
  refine Rf_Add rfl hx0 hσ (by decide) (by decide) (by decide) (by decide) (fun σ1 hσ1 => ?_)
  refine Rf_Add rfl hx1 hσ1 (by decide) (by decide) (by decide) (by decide) (fun σ2 hσ2 => ?_)
  refine Rf_Add rfl hx2 hσ2 (by decide) (by decide) (by decide) (by decide) (fun σ3 hσ3 => ?_)
  refine Rf_g (fun hg1 => ?_)
  refine Rf_Add (e_add (e_ite rfl rfl hx12 hx11 rfl rfl) (by decide)) hg1 hσ3 (by decide) (by decide) (by decide) (by decide) (fun σ4 hσ4 => ?_)
  refine Rf_Add (e_ite (by decide) rfl (by decide) hx9 (by decide) rfl) (zr_ite (by decide) hx9) hσ4 (by decide) (by decide) (by decide) (by decide) (fun σ5 hσ5 => ?_)
  refine Rf_Add (e_ite (by decide) rfl (by decide) hx10 (by decide) rfl) (zr_ite (by decide) hx10) hσ5 (by decide) (by decide) (by decide) (by decide) (fun σ6 hσ6 => ?_)
  refine Rf_Add (by decide) (by decide) hσ6 (by decide) (by decide) (by decide) (by decide) (fun σ7 hσ7 => ?_)
  refine Rf_nz (by decide) ?_
  refine Rf_g (fun hg2 => ?_)
  refine Rf_g (fun hg3 => ?_)
  exact Rf_some hσ7 hg3 (e_sub (e_div rfl (by decide) (hσ7.1 1801) (by decide)) (by decide))
theorem rY_For_equivalent (rz : zF) (rm : mF) (hR : Rc rz rm) (β : Nat) (σ : zS) (hσ : zOK σ) (x0 x1 x2 x3 : Int) (hx0 : zr x0) (hx1 : zr x1) (hx2 : zr x2) (hx3 : zr x3) : Rf (kY_For_equivalent rz β σ x0 x1 x2 x3) (kG_For_equivalent rm (cv σ) (i32 x0) (i32 x1) (i32 x2) (i32 x3)) β := by
  unfold kY_For_equivalent kG_For_equivalent
  refine Rf_eq rfl (by decide) hx2 (by decide) (fun _ => ?_) (fun _ => ?_)
  · exact Rf_tail hR hσ (zrs_cons hx0 (zrs_cons hx1 (zrs_cons hx2 (zrs_cons hx3 (zrs_cons (by decide) (zrs_cons hx0 zrs_nil)))))) (e_cons rfl (e_cons rfl (e_cons rfl (e_cons rfl (e_cons (by decide) (e_cons rfl rfl))))))
  · exact Rf_tail hR hσ (zrs_cons hx0 (zrs_cons hx1 (zrs_cons hx2 (zrs_cons hx3 (zrs_cons (by decide) (zrs_cons hx0 zrs_nil)))))) (e_cons rfl (e_cons rfl (e_cons rfl (e_cons rfl (e_cons (by decide) (e_cons rfl rfl))))))
theorem rY_For_equivalent_p11 (rz : zF) (rm : mF) (hR : Rc rz rm) (β : Nat) (σ : zS) (hσ : zOK σ) (x0 x1 x2 x3 x4 x5 : Int) (hx0 : zr x0) (hx1 : zr x1) (hx2 : zr x2) (hx3 : zr x3) (hx4 : zr x4) (hx5 : zr x5) : Rf (kY_For_equivalent_p11 rz β σ x0 x1 x2 x3 x4 x5) (kG_For_equivalent_p11 rm (cv σ) (i32 x0) (i32 x1) (i32 x2) (i32 x3) (i32 x4) (i32 x5)) β := by
  unfold kY_For_equivalent_p11 kG_For_equivalent_p11
  refine Rf_bnd hR hσ (zrs_cons hx5 (zrs_cons hx4 zrs_nil)) (e_cons rfl (e_cons rfl rfl)) (fun σ1 r1 hσ1 hr1 => ?_)
  refine Rf_bnd hR hσ1 (zrs_cons hx1 (zrs_cons (by decide) zrs_nil)) (e_cons rfl (e_cons (by decide) rfl)) (fun σ2 r2 hσ2 hr2 => ?_)
  refine Rf_g (fun hg1 => ?_)
  refine Rf_le (e_mul rfl rfl) rfl hg1 hx3 (fun _ => ?_) (fun _ => ?_)
  · refine Rf_eq rfl (by decide) hx2 (by decide) (fun _ => ?_) (fun _ => ?_)
    · refine Rf_g (fun hg2 => ?_)
      refine Rf_bnd hR hσ2 (zrs_cons (by decide) (zrs_cons hx0 (zrs_cons (by decide) (zrs_cons hx1 (zrs_cons (by decide) (zrs_cons hg2 zrs_nil)))))) (e_cons (by decide) (e_cons rfl (e_cons (by decide) (e_cons rfl (e_cons (by decide) (e_cons (e_sub rfl (e_mul rfl rfl)) rfl)))))) (fun σ3 r3 hσ3 hr3 => ?_)
      exact Rf_tail hR hσ3 (zrs_cons hx0 (zrs_cons hx1 (zrs_cons hx2 (zrs_cons hx3 (zrs_cons hg1 zrs_nil))))) (e_cons rfl (e_cons rfl (e_cons rfl (e_cons rfl (e_cons (e_mul rfl rfl) rfl)))))
    · refine Rf_g (fun hg3 => ?_)
      refine Rf_bnd hR hσ2 (zrs_cons (by decide) (zrs_cons hx1 (zrs_cons (by decide) (zrs_cons hx0 (zrs_cons (by decide) (zrs_cons hg3 zrs_nil)))))) (e_cons (by decide) (e_cons rfl (e_cons (by decide) (e_cons rfl (e_cons (by decide) (e_cons (e_sub rfl (e_mul rfl rfl)) rfl)))))) (fun σ4 r4 hσ4 hr4 => ?_)
      exact Rf_tail hR hσ4 (zrs_cons hx0 (zrs_cons hx1 (zrs_cons hx2 (zrs_cons hx3 (zrs_cons hg1 zrs_nil))))) (e_cons rfl (e_cons rfl (e_cons rfl (e_cons rfl (e_cons (e_mul rfl rfl) rfl)))))
  · refine Rf_eq rfl (by decide) hx2 (by decide) (fun _ => ?_) (fun _ => ?_)
    · exact Rf_tail hR hσ2 (zrs_cons hx0 (zrs_cons hx1 (zrs_cons hx2 (zrs_cons hx3 (zrs_cons hg1 (zrs_cons (by decide) (zrs_cons hx0 (zrs_cons (by decide) zrs_nil)))))))) (e_cons rfl (e_cons rfl (e_cons rfl (e_cons rfl (e_cons (e_mul rfl rfl) (e_cons (by decide) (e_cons rfl (e_cons (by decide) rfl))))))))
    · exact Rf_tail hR hσ2 (zrs_cons hx0 (zrs_cons hx1 (zrs_cons hx2 (zrs_cons hx3 (zrs_cons hg1 (zrs_cons (by decide) (zrs_cons hx0 (zrs_cons (by decide) zrs_nil)))))))) (e_cons rfl (e_cons rfl (e_cons rfl (e_cons rfl (e_cons (e_mul rfl rfl) (e_cons (by decide) (e_cons rfl (e_cons (by decide) rfl))))))))
theorem rY_For_equivalent_p42 (rz : zF) (rm : mF) (hR : Rc rz rm) (β : Nat) (σ : zS) (hσ : zOK σ) (x0 x1 x2 x3 x4 x5 x6 x7 : Int) (hx0 : zr x0) (hx1 : zr x1) (hx2 : zr x2) (hx3 : zr x3) (hx4 : zr x4) (hx5 : zr x5) (hx6 : zr x6) (hx7 : zr x7) : Rf (kY_For_equivalent_p42 rz β σ x0 x1 x2 x3 x4 x5 x6 x7) (kG_For_equivalent_p42 rm (cv σ) (i32 x0) (i32 x1) (i32 x2) (i32 x3) (i32 x4) (i32 x5) (i32 x6) (i32 x7)) β := by
  unfold kY_For_equivalent_p42 kG_For_equivalent_p42
  refine Rf_bnd hR hσ (zrs_cons hx7 (zrs_cons hx6 (zrs_cons hx5 (zrs_cons hx1 (zrs_cons (by decide) (zrs_cons hx3 zrs_nil)))))) (e_cons rfl (e_cons rfl (e_cons rfl (e_cons rfl (e_cons (by decide) (e_cons rfl rfl)))))) (fun σ1 r1 hσ1 hr1 => ?_)
  exact Rf_tail hR hσ1 (zrs_cons hx0 (zrs_cons hx1 (zrs_cons hx2 (zrs_cons hx3 (zrs_cons hx4 zrs_nil))))) (e_cons rfl (e_cons rfl (e_cons rfl (e_cons rfl (e_cons rfl rfl)))))
theorem rY_For_equivalent_p87 (rz : zF) (rm : mF) (hR : Rc rz rm) (β : Nat) (σ : zS) (hσ : zOK σ) (x0 x1 x2 x3 x4 : Int) (hx0 : zr x0) (hx1 : zr x1) (hx2 : zr x2) (hx3 : zr x3) (hx4 : zr x4) : Rf (kY_For_equivalent_p87 rz β σ x0 x1 x2 x3 x4) (kG_For_equivalent_p87 rm (cv σ) (i32 x0) (i32 x1) (i32 x2) (i32 x3) (i32 x4)) β := by
  unfold kY_For_equivalent_p87 kG_For_equivalent_p87
  exact Rf_some hσ (by decide) (by decide)
theorem rY_For_joined (rz : zF) (rm : mF) (hR : Rc rz rm) (β : Nat) (σ : zS) (hσ : zOK σ) (x0 x1 x2 x3 x4 x5 : Int) (hx0 : zr x0) (hx1 : zr x1) (hx2 : zr x2) (hx3 : zr x3) (hx4 : zr x4) (hx5 : zr x5) : Rf (kY_For_joined rz β σ x0 x1 x2 x3 x4 x5) (kG_For_joined rm (cv σ) (i32 x0) (i32 x1) (i32 x2) (i32 x3) (i32 x4) (i32 x5)) β := by
  unfold kY_For_joined kG_For_joined
  refine Rf_eq rfl (by decide) hx0 (by decide) (fun _ => ?_) (fun _ => ?_)
  · exact Rf_tail hR hσ (zrs_cons hx0 (zrs_cons hx1 (zrs_cons hx2 (zrs_cons hx3 (zrs_cons hx4 (zrs_cons hx5 (zrs_cons hx3 (zrs_cons (by decide) zrs_nil)))))))) (e_cons rfl (e_cons rfl (e_cons rfl (e_cons rfl (e_cons rfl (e_cons rfl (e_cons rfl (e_cons (by decide) rfl))))))))
  · exact Rf_tail hR hσ (zrs_cons hx0 (zrs_cons hx1 (zrs_cons hx2 (zrs_cons hx3 (zrs_cons hx4 (zrs_cons hx5 (zrs_cons hx1 (zrs_cons (by decide) zrs_nil)))))))) (e_cons rfl (e_cons rfl (e_cons rfl (e_cons rfl (e_cons rfl (e_cons rfl (e_cons rfl (e_cons (by decide) rfl))))))))
theorem rY_For_joined_p12 (rz : zF) (rm : mF) (hR : Rc rz rm) (β : Nat) (σ : zS) (hσ : zOK σ) (x0 x1 x2 x3 x4 x5 x6 x7 : Int) (hx0 : zr x0) (hx1 : zr x1) (hx2 : zr x2) (hx3 : zr x3) (hx4 : zr x4) (hx5 : zr x5) (hx6 : zr x6) (hx7 : zr x7) : Rf (kY_For_joined_p12 rz β σ x0 x1 x2 x3 x4 x5 x6 x7) (kG_For_joined_p12 rm (cv σ) (i32 x0) (i32 x1) (i32 x2) (i32 x3) (i32 x4) (i32 x5) (i32 x6) (i32 x7)) β := by
  unfold kY_For_joined_p12 kG_For_joined_p12
  refine Rf_eq rfl (by decide) hx0 (by decide) (fun _ => ?_) (fun _ => ?_)
  · exact Rf_tail hR hσ (zrs_cons hx0 (zrs_cons hx1 (zrs_cons hx2 (zrs_cons hx3 (zrs_cons hx4 (zrs_cons hx5 (zrs_cons hx4 (zrs_cons hx6 (zrs_cons hx7 zrs_nil))))))))) (e_cons rfl (e_cons rfl (e_cons rfl (e_cons rfl (e_cons rfl (e_cons rfl (e_cons rfl (e_cons rfl (e_cons rfl rfl)))))))))
  · exact Rf_tail hR hσ (zrs_cons hx0 (zrs_cons hx1 (zrs_cons hx2 (zrs_cons hx3 (zrs_cons hx4 (zrs_cons hx5 (zrs_cons hx2 (zrs_cons hx6 (zrs_cons hx7 zrs_nil))))))))) (e_cons rfl (e_cons rfl (e_cons rfl (e_cons rfl (e_cons rfl (e_cons rfl (e_cons rfl (e_cons rfl (e_cons rfl rfl)))))))))
theorem rY_For_joined_p22 (rz : zF) (rm : mF) (hR : Rc rz rm) (β : Nat) (σ : zS) (hσ : zOK σ) (x0 x1 x2 x3 x4 x5 x6 x7 x8 : Int) (hx0 : zr x0) (hx1 : zr x1) (hx2 : zr x2) (hx3 : zr x3) (hx4 : zr x4) (hx5 : zr x5) (hx6 : zr x6) (hx7 : zr x7) (hx8 : zr x8) : Rf (kY_For_joined_p22 rz β σ x0 x1 x2 x3 x4 x5 x6 x7 x8) (kG_For_joined_p22 rm (cv σ) (i32 x0) (i32 x1) (i32 x2) (i32 x3) (i32 x4) (i32 x5) (i32 x6) (i32 x7) (i32 x8)) β := by
  unfold kY_For_joined_p22 kG_For_joined_p22
  refine Rf_bnd hR hσ (zrs_cons hx7 (zrs_cons hx6 zrs_nil)) (e_cons rfl (e_cons rfl rfl)) (fun σ1 r1 hσ1 hr1 => ?_)
  refine Rf_eq rfl (by decide) hx0 (by decide) (fun _ => ?_) (fun _ => ?_)
  · refine Rf_z (e_ite rfl rfl hx8 hr1 rfl rfl) (zr_ite hr1 hx8) (fun hz1 => ?_)
    refine Rf_bnd hR hσ1 (zrs_cons hx3 (zrs_cons hx4 (zrs_cons (zr_tmod hx5 _) zrs_nil))) (e_cons rfl (e_cons rfl (e_cons (e_mod rfl (e_ite rfl rfl hx8 hr1 rfl rfl) hx5 (zr_ite hr1 hx8)) rfl))) (fun σ4 r4 hσ4 hr4 => ?_)
    refine Rf_z (e_ite rfl rfl hx8 hr1 rfl rfl) (zr_ite hr1 hx8) (fun hz2 => ?_)
    refine Rf_g (fun hg3 => ?_)
    refine Rf_bnd hR hσ4 (zrs_cons hx1 (zrs_cons hx2 (zrs_cons hg3 zrs_nil))) (e_cons rfl (e_cons rfl (e_cons (e_div rfl (e_ite rfl rfl hx8 hr1 rfl rfl) hx5 (zr_ite hr1 hx8)) rfl))) (fun σ5 r5 hσ5 hr5 => ?_)
    exact Rf_tail hR hσ5 (zrs_cons hx0 (zrs_cons hx1 (zrs_cons hx2 (zrs_cons hx3 (zrs_cons hx4 (zrs_cons hx5 (zrs_cons (zr_ite hr1 hx8) zrs_nil))))))) (e_cons rfl (e_cons rfl (e_cons rfl (e_cons rfl (e_cons rfl (e_cons rfl (e_cons (e_ite rfl rfl hx8 hr1 rfl rfl) rfl)))))))
  · refine Rf_le (e_ite rfl rfl hx8 hr1 rfl rfl) rfl (zr_ite hr1 hx8) hx5 (fun _ => ?_) (fun _ => ?_)
    · refine Rf_g (fun hg4 => ?_)
      refine Rf_bnd hR hσ1 (zrs_cons hx3 (zrs_cons hx4 (zrs_cons hg4 zrs_nil))) (e_cons rfl (e_cons rfl (e_cons (e_sub rfl (e_ite rfl rfl hx8 hr1 rfl rfl)) rfl))) (fun σ2 r2 hσ2 hr2 => ?_)
      exact Rf_tail hR hσ2 (zrs_cons hx0 (zrs_cons hx1 (zrs_cons hx2 (zrs_cons hx3 (zrs_cons hx4 (zrs_cons hx5 (zrs_cons (zr_ite hr1 hx8) zrs_nil))))))) (e_cons rfl (e_cons rfl (e_cons rfl (e_cons rfl (e_cons rfl (e_cons rfl (e_cons (e_ite rfl rfl hx8 hr1 rfl rfl) rfl)))))))
    · refine Rf_bnd hR hσ1 (zrs_cons hx1 (zrs_cons hx2 (zrs_cons hx5 zrs_nil))) (e_cons rfl (e_cons rfl (e_cons rfl rfl))) (fun σ3 r3 hσ3 hr3 => ?_)
      exact Rf_tail hR hσ3 (zrs_cons hx0 (zrs_cons hx1 (zrs_cons hx2 (zrs_cons hx3 (zrs_cons hx4 (zrs_cons hx5 (zrs_cons (zr_ite hr1 hx8) zrs_nil))))))) (e_cons rfl (e_cons rfl (e_cons rfl (e_cons rfl (e_cons rfl (e_cons rfl (e_cons (e_ite rfl rfl hx8 hr1 rfl rfl) rfl)))))))
theorem rY_For_joined_p92 (rz : zF) (rm : mF) (hR : Rc rz rm) (β : Nat) (σ : zS) (hσ : zOK σ) (x0 x1 x2 x3 x4 x5 x6 : Int) (hx0 : zr x0) (hx1 : zr x1) (hx2 : zr x2) (hx3 : zr x3) (hx4 : zr x4) (hx5 : zr x5) (hx6 : zr x6) : Rf (kY_For_joined_p92 rz β σ x0 x1 x2 x3 x4 x5 x6) (kG_For_joined_p92 rm (cv σ) (i32 x0) (i32 x1) (i32 x2) (i32 x3) (i32 x4) (i32 x5) (i32 x6)) β := by
  unfold kY_For_joined_p92 kG_For_joined_p92
  exact Rf_some hσ (by decide) (by decide)
theorem rY_For_later (rz : zF) (rm : mF) (hR : Rc rz rm) (β : Nat) (σ : zS) (hσ : zOK σ) (x0 x1 x2 : Int) (hx0 : zr x0) (hx1 : zr x1) (hx2 : zr x2) : Rf (kY_For_later rz β σ x0 x1 x2) (kG_For_later rm (cv σ) (i32 x0) (i32 x1) (i32 x2)) β := by
  unfold kY_For_later kG_For_later
  refine Rf_Add rfl hx0 hσ (by decide) (by decide) (by decide) (by decide) (fun σ1 hσ1 => ?_)
  refine Rf_eq rfl (by decide) hx1 (by decide) (fun _ => ?_) (fun _ => ?_)
  · exact Rf_tail hR hσ1 (zrs_cons hx0 (zrs_cons hx1 (zrs_cons hx2 (zrs_cons (by decide) zrs_nil)))) (e_cons rfl (e_cons rfl (e_cons rfl (e_cons (by decide) rfl))))
  · exact Rf_tail hR hσ1 (zrs_cons hx0 (zrs_cons hx1 (zrs_cons hx2 (zrs_cons (by decide) zrs_nil)))) (e_cons rfl (e_cons rfl (e_cons rfl (e_cons (by decide) rfl))))
theorem rY_For_later_p21 (rz : zF) (rm : mF) (hR : Rc rz rm) (β : Nat) (σ : zS) (hσ : zOK σ) (x0 x1 x2 x3 : Int) (hx0 : zr x0) (hx1 : zr x1) (hx2 : zr x2) (hx3 : zr x3) : Rf (kY_For_later_p21 rz β σ x0 x1 x2 x3) (kG_For_later_p21 rm (cv σ) (i32 x0) (i32 x1) (i32 x2) (i32 x3)) β := by
  unfold kY_For_later_p21 kG_For_later_p21
  refine Rf_Add rfl hx3 hσ (by decide) (by decide) (by decide) (by decide) (fun σ1 hσ1 => ?_)
  refine Rf_Add rfl hx2 hσ1 (by decide) (by decide) (by decide) (by decide) (fun σ2 hσ2 => ?_)
  exact Rf_some hσ2 (by decide) (by decide)
theorem rY_For_makeClauses (rz : zF) (rm : mF) (hR : Rc rz rm) (β : Nat) (σ : zS) (hσ : zOK σ) : Rf (kY_For_makeClauses rz β σ) (kG_For_makeClauses rm (cv σ)) β := by
  unfold kY_For_makeClauses kG_For_makeClauses
  exact Rf_tail hR hσ (zrs_cons (by decide) (zrs_cons (by decide) zrs_nil)) (e_cons (by decide) (e_cons (by decide) rfl))
theorem rY_For_makeClauses_p5 (rz : zF) (rm : mF) (hR : Rc rz rm) (β : Nat) (σ : zS) (hσ : zOK σ) (x0 x1 : Int) (hx0 : zr x0) (hx1 : zr x1) : Rf (kY_For_makeClauses_p5 rz β σ x0 x1) (kG_For_makeClauses_p5 rm (cv σ) (i32 x0) (i32 x1)) β := by
  unfold kY_For_makeClauses_p5 kG_For_makeClauses_p5
  refine Rf_le rfl rfl (hσ.1 2001) hx1 (fun _ => ?_) (fun _ => ?_)
  · exact Rf_some hσ (by decide) (by decide)
  · refine Rf_g (fun hg1 => ?_)
    refine Rf_rd (e_add rfl (by decide)) hg1 (fun hb2 => ?_)
    refine Rf_g (fun hg3 => ?_)
    refine Rf_rd (e_add rfl (by decide)) hg3 (fun hb4 => ?_)
    refine Rf_eq (e_rd (e_add rfl (by decide)) hb4) (by decide) (hσ.2.1 _ _) (by decide) (fun _ => ?_) (fun _ => ?_)
    · exact Rf_tail hR hσ (zrs_cons hx0 (zrs_cons hx1 (zrs_cons (hσ.2.1 _ _) (zrs_cons (by decide) zrs_nil)))) (e_cons rfl (e_cons rfl (e_cons (e_rd (e_add rfl (by decide)) hb2) (e_cons (by decide) rfl))))
    · exact Rf_tail hR hσ (zrs_cons hx0 (zrs_cons hx1 (zrs_cons (hσ.2.1 _ _) (zrs_cons (by decide) zrs_nil)))) (e_cons rfl (e_cons rfl (e_cons (e_rd (e_add rfl (by decide)) hb2) (e_cons (by decide) rfl))))
theorem rY_For_makeClauses_p51 (rz : zF) (rm : mF) (hR : Rc rz rm) (β : Nat) (σ : zS) (hσ : zOK σ) (x0 x1 x2 x3 : Int) (hx0 : zr x0) (hx1 : zr x1) (hx2 : zr x2) (hx3 : zr x3) : Rf (kY_For_makeClauses_p51 rz β σ x0 x1 x2 x3) (kG_For_makeClauses_p51 rm (cv σ) (i32 x0) (i32 x1) (i32 x2) (i32 x3)) β := by
  unfold kY_For_makeClauses_p51 kG_For_makeClauses_p51
  refine Rf_bnd hR hσ (zrs_cons hx2 (zrs_cons hx3 zrs_nil)) (e_cons rfl (e_cons rfl rfl)) (fun σ1 r1 hσ1 hr1 => ?_)
  refine Rf_bnd hR hσ1 (zrs_cons hx2 (zrs_cons (by decide) zrs_nil)) (e_cons rfl (e_cons (by decide) rfl)) (fun σ2 r2 hσ2 hr2 => ?_)
  refine Rf_lt (by decide) rfl (by decide) hr2 (fun _ => ?_) (fun _ => ?_)
  · refine Rf_g (fun hg1 => ?_)
    exact Rf_tail hR hσ2 (zrs_cons hg1 (zrs_cons hx1 (zrs_cons hx2 (zrs_cons hx3 zrs_nil)))) (e_cons (e_add rfl rfl) (e_cons rfl (e_cons rfl (e_cons rfl rfl))))
  · refine Rf_g (fun hg2 => ?_)
    refine Rf_le (e_add rfl rfl) (by decide) hg2 (by decide) (fun _ => ?_) (fun _ => ?_)
    · exact Rf_tail hR hσ2 (zrs_cons hg2 (zrs_cons hx1 (zrs_cons hx2 (zrs_cons hx3 (zrs_cons (by decide) zrs_nil))))) (e_cons (e_add rfl rfl) (e_cons rfl (e_cons rfl (e_cons rfl (e_cons (by decide) rfl)))))
    · exact Rf_tail hR hσ2 (zrs_cons hg2 (zrs_cons hx1 (zrs_cons hx2 (zrs_cons hx3 zrs_nil)))) (e_cons (e_add rfl rfl) (e_cons rfl (e_cons rfl (e_cons rfl rfl))))
theorem rY_For_makeClauses_p84 (rz : zF) (rm : mF) (hR : Rc rz rm) (β : Nat) (σ : zS) (hσ : zOK σ) (x0 x1 x2 x3 : Int) (hx0 : zr x0) (hx1 : zr x1) (hx2 : zr x2) (hx3 : zr x3) : Rf (kY_For_makeClauses_p84 rz β σ x0 x1 x2 x3) (kG_For_makeClauses_p84 rm (cv σ) (i32 x0) (i32 x1) (i32 x2) (i32 x3)) β := by
  unfold kY_For_makeClauses_p84 kG_For_makeClauses_p84
  refine Rf_g (fun hg1 => ?_)
  refine Rf_rd (e_add rfl (by decide)) hg1 (fun hb2 => ?_)
  exact Rf_some hσ (hσ.2.1 _ _) (e_rd (e_add rfl (by decide)) hb2)
theorem rY_For_makeClauses_p100 (rz : zF) (rm : mF) (hR : Rc rz rm) (β : Nat) (σ : zS) (hσ : zOK σ) (x0 x1 x2 x3 x4 : Int) (hx0 : zr x0) (hx1 : zr x1) (hx2 : zr x2) (hx3 : zr x3) (hx4 : zr x4) : Rf (kY_For_makeClauses_p100 rz β σ x0 x1 x2 x3 x4) (kG_For_makeClauses_p100 rm (cv σ) (i32 x0) (i32 x1) (i32 x2) (i32 x3) (i32 x4)) β := by
  unfold kY_For_makeClauses_p100 kG_For_makeClauses_p100
  refine Rf_bnd hR hσ (zrs_cons hx2 (zrs_cons hx3 zrs_nil)) (e_cons rfl (e_cons rfl rfl)) (fun σ1 r1 hσ1 hr1 => ?_)
  refine Rf_le rfl rfl hr1 hx4 (fun _ => ?_) (fun _ => ?_)
  · refine Rf_g (fun hg1 => ?_)
    exact Rf_tail hR hσ1 (zrs_cons hx0 (zrs_cons hg1 zrs_nil)) (e_cons rfl (e_cons (e_add rfl (by decide)) rfl))
  · refine Rf_bnd hR hσ1 (zrs_cons hx2 (zrs_cons hx3 (zrs_cons hx4 zrs_nil))) (e_cons rfl (e_cons rfl (e_cons rfl rfl))) (fun σ2 r2 hσ2 hr2 => ?_)
    refine Rf_eq rfl (by decide) (hσ2.1 3907) (by decide) (fun _ => ?_) (fun _ => ?_)
    · refine Rf_bnd hR hσ2 zrs_nil rfl (fun σ3 r3 hσ3 hr3 => ?_)
      refine Rf_bnd hR hσ3 zrs_nil rfl (fun σ4 r4 hσ4 hr4 => ?_)
      refine Rf_eq rfl (by decide) hr4 (by decide) (fun _ => ?_) (fun _ => ?_)
      · refine Rf_bnd hR hσ4 (zrs_cons (by decide) (zrs_cons (by decide) (zrs_cons (by decide) zrs_nil))) (e_cons (by decide) (e_cons (by decide) (e_cons (by decide) rfl))) (fun σ5 r5 hσ5 hr5 => ?_)
        exact Rf_tail hR hσ5 (zrs_cons hx0 (zrs_cons hx1 (zrs_cons hx2 (zrs_cons hx3 (zrs_cons hx4 zrs_nil))))) (e_cons rfl (e_cons rfl (e_cons rfl (e_cons rfl (e_cons rfl rfl)))))
      · exact Rf_tail hR hσ4 (zrs_cons hx0 (zrs_cons hx1 (zrs_cons hx2 (zrs_cons hx3 (zrs_cons hx4 zrs_nil))))) (e_cons rfl (e_cons rfl (e_cons rfl (e_cons rfl (e_cons rfl rfl)))))
    · refine Rf_g (fun hg2 => ?_)
      refine Rf_rd (e_add rfl (by decide)) hg2 (fun hb3 => ?_)
      exact Rf_some hσ2 (hσ2.2.1 _ _) (e_rd (e_add rfl (by decide)) hb3)
theorem rY_For_makeClauses_p164 (rz : zF) (rm : mF) (hR : Rc rz rm) (β : Nat) (σ : zS) (hσ : zOK σ) (x0 x1 x2 x3 x4 : Int) (hx0 : zr x0) (hx1 : zr x1) (hx2 : zr x2) (hx3 : zr x3) (hx4 : zr x4) : Rf (kY_For_makeClauses_p164 rz β σ x0 x1 x2 x3 x4) (kG_For_makeClauses_p164 rm (cv σ) (i32 x0) (i32 x1) (i32 x2) (i32 x3) (i32 x4)) β := by
  unfold kY_For_makeClauses_p164 kG_For_makeClauses_p164
  refine Rf_g (fun hg1 => ?_)
  exact Rf_tail hR hσ (zrs_cons hx0 (zrs_cons hx1 (zrs_cons hx2 (zrs_cons hx3 (zrs_cons hg1 zrs_nil))))) (e_cons rfl (e_cons rfl (e_cons rfl (e_cons rfl (e_cons (e_add rfl (by decide)) rfl)))))
theorem rY_For_openSentence (rz : zF) (rm : mF) (hR : Rc rz rm) (β : Nat) (σ : zS) (hσ : zOK σ) (x0 x1 : Int) (hx0 : zr x0) (hx1 : zr x1) : Rf (kY_For_openSentence rz β σ x0 x1) (kG_For_openSentence rm (cv σ) (i32 x0) (i32 x1)) β := by
  unfold kY_For_openSentence kG_For_openSentence
  refine Rf_Add rfl hx0 hσ (by decide) (by decide) (by decide) (by decide) (fun σ1 hσ1 => ?_)
  refine Rf_eq rfl (by decide) hx1 (by decide) (fun _ => ?_) (fun _ => ?_)
  · exact Rf_tail hR hσ1 (zrs_cons hx0 (zrs_cons hx1 (zrs_cons (by decide) zrs_nil))) (e_cons rfl (e_cons rfl (e_cons (by decide) rfl)))
  · exact Rf_tail hR hσ1 (zrs_cons hx0 (zrs_cons hx1 (zrs_cons (by decide) zrs_nil))) (e_cons rfl (e_cons rfl (e_cons (by decide) rfl)))
theorem rY_For_openSentence_p21 (rz : zF) (rm : mF) (hR : Rc rz rm) (β : Nat) (σ : zS) (hσ : zOK σ) (x0 x1 x2 : Int) (hx0 : zr x0) (hx1 : zr x1) (hx2 : zr x2) : Rf (kY_For_openSentence_p21 rz β σ x0 x1 x2) (kG_For_openSentence_p21 rm (cv σ) (i32 x0) (i32 x1) (i32 x2)) β := by
  unfold kY_For_openSentence_p21 kG_For_openSentence_p21
  refine Rf_Add rfl hx2 hσ (by decide) (by decide) (by decide) (by decide) (fun σ1 hσ1 => ?_)
  refine Rf_Add (by decide) (by decide) hσ1 (by decide) (by decide) (by decide) (by decide) (fun σ2 hσ2 => ?_)
  refine Rf_Add rfl (hσ2.1 1414) hσ2 (by decide) (by decide) (by decide) (by decide) (fun σ3 hσ3 => ?_)
  refine Rf_Add rfl (hσ3.1 1414) hσ3 (by decide) (by decide) (by decide) (by decide) (fun σ4 hσ4 => ?_)
  refine Rf_I (by decide) (by decide) hσ4 (fun σ5 hσ5 => ?_)
  exact Rf_some hσ5 (by decide) (by decide)
theorem rY_For_writeClause (rz : zF) (rm : mF) (hR : Rc rz rm) (β : Nat) (σ : zS) (hσ : zOK σ) (x0 x1 x2 : Int) (hx0 : zr x0) (hx1 : zr x1) (hx2 : zr x2) : Rf (kY_For_writeClause rz β σ x0 x1 x2) (kG_For_writeClause rm (cv σ) (i32 x0) (i32 x1) (i32 x2)) β := by
  unfold kY_For_writeClause kG_For_writeClause
  refine Rf_bnd hR hσ zrs_nil rfl (fun σ1 r1 hσ1 hr1 => ?_)
  refine Rf_I (by decide) (by decide) hσ1 (fun σ2 hσ2 => ?_)
  refine Rf_bnd hR hσ2 (zrs_cons hx0 (zrs_cons hx1 (zrs_cons hx2 zrs_nil))) (e_cons rfl (e_cons rfl (e_cons rfl rfl))) (fun σ3 r3 hσ3 hr3 => ?_)
  exact Rf_tail hR hσ3 (zrs_cons hx0 (zrs_cons hx1 (zrs_cons hx2 (zrs_cons (by decide) zrs_nil)))) (e_cons rfl (e_cons rfl (e_cons rfl (e_cons (by decide) rfl))))
theorem rY_For_writeClause_p23 (rz : zF) (rm : mF) (hR : Rc rz rm) (β : Nat) (σ : zS) (hσ : zOK σ) (x0 x1 x2 x3 : Int) (hx0 : zr x0) (hx1 : zr x1) (hx2 : zr x2) (hx3 : zr x3) : Rf (kY_For_writeClause_p23 rz β σ x0 x1 x2 x3) (kG_For_writeClause_p23 rm (cv σ) (i32 x0) (i32 x1) (i32 x2) (i32 x3)) β := by
  unfold kY_For_writeClause_p23 kG_For_writeClause_p23
  refine Rf_le (by decide) rfl (by decide) hx3 (fun _ => ?_) (fun _ => ?_)
  · exact Rf_tail hR hσ (zrs_cons hx0 (zrs_cons hx1 (zrs_cons hx2 (zrs_cons hx3 zrs_nil)))) (e_cons rfl (e_cons rfl (e_cons rfl (e_cons rfl rfl))))
  · refine Rf_le rfl (by decide) (hσ.1 2901) (by decide) (fun _ => ?_) (fun _ => ?_)
    · exact Rf_tail hR hσ (zrs_cons hx0 (zrs_cons hx1 (zrs_cons hx2 (zrs_cons hx3 zrs_nil)))) (e_cons rfl (e_cons rfl (e_cons rfl (e_cons rfl rfl))))
    · refine Rf_eq rfl (by decide) (hσ.1 3907) (by decide) (fun _ => ?_) (fun _ => ?_)
      · refine Rf_g (fun hg1 => ?_)
        refine Rf_I (e_sub rfl (by decide)) hg1 hσ (fun σ1 hσ1 => ?_)
        refine Rf_rd rfl (hσ1.1 2901) (fun hb2 => ?_)
        refine Rf_g (fun hg3 => ?_)
        refine Rf_rd (e_add rfl (by decide)) hg3 (fun hb4 => ?_)
        refine Rf_eq (e_rd (e_add rfl (by decide)) hb4) (by decide) (hσ1.2.1 _ _) (by decide) (fun _ => ?_) (fun _ => ?_)
        · exact Rf_tail hR hσ1 (zrs_cons hx0 (zrs_cons hx1 (zrs_cons hx2 (zrs_cons hx3 (zrs_cons (hσ1.2.1 _ _) (zrs_cons (by decide) zrs_nil)))))) (e_cons rfl (e_cons rfl (e_cons rfl (e_cons rfl (e_cons (e_rd rfl hb2) (e_cons (by decide) rfl))))))
        · exact Rf_tail hR hσ1 (zrs_cons hx0 (zrs_cons hx1 (zrs_cons hx2 (zrs_cons hx3 (zrs_cons (hσ1.2.1 _ _) (zrs_cons (by decide) zrs_nil)))))) (e_cons rfl (e_cons rfl (e_cons rfl (e_cons rfl (e_cons (e_rd rfl hb2) (e_cons (by decide) rfl))))))
      · exact Rf_tail hR hσ (zrs_cons hx0 (zrs_cons hx1 (zrs_cons hx2 (zrs_cons hx3 zrs_nil)))) (e_cons rfl (e_cons rfl (e_cons rfl (e_cons rfl rfl))))
theorem rY_For_writeClause_p103 (rz : zF) (rm : mF) (hR : Rc rz rm) (β : Nat) (σ : zS) (hσ : zOK σ) (x0 x1 x2 x3 x4 x5 : Int) (hx0 : zr x0) (hx1 : zr x1) (hx2 : zr x2) (hx3 : zr x3) (hx4 : zr x4) (hx5 : zr x5) : Rf (kY_For_writeClause_p103 rz β σ x0 x1 x2 x3 x4 x5) (kG_For_writeClause_p103 rm (cv σ) (i32 x0) (i32 x1) (i32 x2) (i32 x3) (i32 x4) (i32 x5)) β := by
  unfold kY_For_writeClause_p103 kG_For_writeClause_p103
  refine Rf_g (fun hg1 => ?_)
  refine Rf_rd (e_add rfl (by decide)) hg1 (fun hb2 => ?_)
  refine Rf_bnd hR hσ (zrs_cons hx4 (zrs_cons hx5 (zrs_cons (hσ.2.1 _ _) zrs_nil))) (e_cons rfl (e_cons rfl (e_cons (e_rd (e_add rfl (by decide)) hb2) rfl))) (fun σ1 r1 hσ1 hr1 => ?_)
  refine Rf_g (fun hg3 => ?_)
  exact Rf_tail hR hσ1 (zrs_cons hx0 (zrs_cons hx1 (zrs_cons hx2 (zrs_cons hg3 zrs_nil)))) (e_cons rfl (e_cons rfl (e_cons rfl (e_cons (e_add rfl (by decide)) rfl))))
theorem rY_For_writeClause_p137 (rz : zF) (rm : mF) (hR : Rc rz rm) (β : Nat) (σ : zS) (hσ : zOK σ) (x0 x1 x2 x3 : Int) (hx0 : zr x0) (hx1 : zr x1) (hx2 : zr x2) (hx3 : zr x3) : Rf (kY_For_writeClause_p137 rz β σ x0 x1 x2 x3) (kG_For_writeClause_p137 rm (cv σ) (i32 x0) (i32 x1) (i32 x2) (i32 x3)) β := by
  unfold kY_For_writeClause_p137 kG_For_writeClause_p137
  exact Rf_some hσ (by decide) (by decide)
theorem rY_For_writePart (rz : zF) (rm : mF) (hR : Rc rz rm) (β : Nat) (σ : zS) (hσ : zOK σ) (x0 x1 x2 : Int) (hx0 : zr x0) (hx1 : zr x1) (hx2 : zr x2) : Rf (kY_For_writePart rz β σ x0 x1 x2) (kG_For_writePart rm (cv σ) (i32 x0) (i32 x1) (i32 x2)) β := by
  unfold kY_For_writePart kG_For_writePart
  refine Rf_bnd hR hσ (zrs_cons hx0 (zrs_cons (by decide) zrs_nil)) (e_cons rfl (e_cons (by decide) rfl)) (fun σ1 r1 hσ1 hr1 => ?_)
  refine Rf_bnd hR hσ1 (zrs_cons hx0 (zrs_cons (by decide) zrs_nil)) (e_cons rfl (e_cons (by decide) rfl)) (fun σ2 r2 hσ2 hr2 => ?_)
  refine Rf_bnd hR hσ2 (zrs_cons hx0 (zrs_cons (by decide) zrs_nil)) (e_cons rfl (e_cons (by decide) rfl)) (fun σ3 r3 hσ3 hr3 => ?_)
  refine Rf_out rfl hr1 (fun _ => ?_) (fun _ => ?_)
  · refine Rf_eq rfl (by decide) hr1 (by decide) (fun _ => ?_) (fun _ => ?_)
    · exact Rf_tail hR hσ3 (zrs_cons hx0 (zrs_cons hx1 (zrs_cons hx2 (zrs_cons hr1 (zrs_cons hr2 (zrs_cons hr3 (zrs_cons (by decide) zrs_nil))))))) (e_cons rfl (e_cons rfl (e_cons rfl (e_cons rfl (e_cons rfl (e_cons rfl (e_cons (by decide) rfl)))))))
    · exact Rf_tail hR hσ3 (zrs_cons hx0 (zrs_cons hx1 (zrs_cons hx2 (zrs_cons hr1 (zrs_cons hr2 (zrs_cons hr3 (zrs_cons (by decide) zrs_nil))))))) (e_cons rfl (e_cons rfl (e_cons rfl (e_cons rfl (e_cons rfl (e_cons rfl (e_cons (by decide) rfl)))))))
  · refine Rf_eq rfl (by decide) hr1 (by decide) (fun _ => ?_) (fun _ => ?_)
    · refine Rf_eq rfl (by decide) hx1 (by decide) (fun _ => ?_) (fun _ => ?_)
      · exact Rf_tail hR hσ3 (zrs_cons hx0 (zrs_cons hx1 (zrs_cons hx2 (zrs_cons hr1 (zrs_cons hr2 (zrs_cons hr3 (zrs_cons (by decide) (zrs_cons hr2 zrs_nil)))))))) (e_cons rfl (e_cons rfl (e_cons rfl (e_cons rfl (e_cons rfl (e_cons rfl (e_cons (by decide) (e_cons rfl rfl))))))))
      · exact Rf_tail hR hσ3 (zrs_cons hx0 (zrs_cons hx1 (zrs_cons hx2 (zrs_cons hr1 (zrs_cons hr2 (zrs_cons hr3 (zrs_cons (by decide) (zrs_cons hr2 zrs_nil)))))))) (e_cons rfl (e_cons rfl (e_cons rfl (e_cons rfl (e_cons rfl (e_cons rfl (e_cons (by decide) (e_cons rfl rfl))))))))
    · refine Rf_eq rfl (by decide) hr1 (by decide) (fun _ => ?_) (fun _ => ?_)
      · refine Rf_eq rfl (by decide) hr1 (by decide) (fun _ => ?_) (fun _ => ?_)
        · exact Rf_tail hR hσ3 (zrs_cons hx0 (zrs_cons hx1 (zrs_cons hx2 (zrs_cons hr1 (zrs_cons hr2 (zrs_cons hr3 (zrs_cons (by decide) (zrs_cons hr3 zrs_nil)))))))) (e_cons rfl (e_cons rfl (e_cons rfl (e_cons rfl (e_cons rfl (e_cons rfl (e_cons (by decide) (e_cons rfl rfl))))))))
        · exact Rf_tail hR hσ3 (zrs_cons hx0 (zrs_cons hx1 (zrs_cons hx2 (zrs_cons hr1 (zrs_cons hr2 (zrs_cons hr3 (zrs_cons (by decide) (zrs_cons hr3 zrs_nil)))))))) (e_cons rfl (e_cons rfl (e_cons rfl (e_cons rfl (e_cons rfl (e_cons rfl (e_cons (by decide) (e_cons rfl rfl))))))))
      · refine Rf_eq rfl (by decide) hr1 (by decide) (fun _ => ?_) (fun _ => ?_)
        · refine Rf_eq rfl (by decide) hr1 (by decide) (fun _ => ?_) (fun _ => ?_)
          · exact Rf_tail hR hσ3 (zrs_cons hx0 (zrs_cons hx1 (zrs_cons hx2 (zrs_cons hr1 (zrs_cons hr2 (zrs_cons hr3 (zrs_cons (by decide) (zrs_cons hr3 zrs_nil)))))))) (e_cons rfl (e_cons rfl (e_cons rfl (e_cons rfl (e_cons rfl (e_cons rfl (e_cons (by decide) (e_cons rfl rfl))))))))
          · exact Rf_tail hR hσ3 (zrs_cons hx0 (zrs_cons hx1 (zrs_cons hx2 (zrs_cons hr1 (zrs_cons hr2 (zrs_cons hr3 (zrs_cons (by decide) (zrs_cons hr3 zrs_nil)))))))) (e_cons rfl (e_cons rfl (e_cons rfl (e_cons rfl (e_cons rfl (e_cons rfl (e_cons (by decide) (e_cons rfl rfl))))))))
        · refine Rf_eq rfl (by decide) hr1 (by decide) (fun _ => ?_) (fun _ => ?_)
          · refine Rf_eq rfl (by decide) hr1 (by decide) (fun _ => ?_) (fun _ => ?_)
            · exact Rf_tail hR hσ3 (zrs_cons hx0 (zrs_cons hx1 (zrs_cons hx2 (zrs_cons hr1 (zrs_cons hr2 (zrs_cons hr3 (zrs_cons (by decide) zrs_nil))))))) (e_cons rfl (e_cons rfl (e_cons rfl (e_cons rfl (e_cons rfl (e_cons rfl (e_cons (by decide) rfl)))))))
            · exact Rf_tail hR hσ3 (zrs_cons hx0 (zrs_cons hx1 (zrs_cons hx2 (zrs_cons hr1 (zrs_cons hr2 (zrs_cons hr3 (zrs_cons (by decide) zrs_nil))))))) (e_cons rfl (e_cons rfl (e_cons rfl (e_cons rfl (e_cons rfl (e_cons rfl (e_cons (by decide) rfl)))))))
          · refine Rf_eq rfl (by decide) hr1 (by decide) (fun _ => ?_) (fun _ => ?_)
            · refine Rf_eq rfl (by decide) hr1 (by decide) (fun _ => ?_) (fun _ => ?_)
              · exact Rf_tail hR hσ3 (zrs_cons hx0 (zrs_cons hx1 (zrs_cons hx2 (zrs_cons hr1 (zrs_cons hr2 (zrs_cons hr3 (zrs_cons (by decide) zrs_nil))))))) (e_cons rfl (e_cons rfl (e_cons rfl (e_cons rfl (e_cons rfl (e_cons rfl (e_cons (by decide) rfl)))))))
              · exact Rf_tail hR hσ3 (zrs_cons hx0 (zrs_cons hx1 (zrs_cons hx2 (zrs_cons hr1 (zrs_cons hr2 (zrs_cons hr3 (zrs_cons (by decide) zrs_nil))))))) (e_cons rfl (e_cons rfl (e_cons rfl (e_cons rfl (e_cons rfl (e_cons rfl (e_cons (by decide) rfl)))))))
            · refine Rf_eq rfl (by decide) hr1 (by decide) (fun _ => ?_) (fun _ => ?_)
              · refine Rf_eq rfl (by decide) hx1 (by decide) (fun _ => ?_) (fun _ => ?_)
                · exact Rf_tail hR hσ3 (zrs_cons hx0 (zrs_cons hx1 (zrs_cons hx2 (zrs_cons hr1 (zrs_cons hr2 (zrs_cons hr3 (zrs_cons (by decide) zrs_nil))))))) (e_cons rfl (e_cons rfl (e_cons rfl (e_cons rfl (e_cons rfl (e_cons rfl (e_cons (by decide) rfl)))))))
                · exact Rf_tail hR hσ3 (zrs_cons hx0 (zrs_cons hx1 (zrs_cons hx2 (zrs_cons hr1 (zrs_cons hr2 (zrs_cons hr3 (zrs_cons (by decide) zrs_nil))))))) (e_cons rfl (e_cons rfl (e_cons rfl (e_cons rfl (e_cons rfl (e_cons rfl (e_cons (by decide) rfl)))))))
              · refine Rf_bnd hR hσ3 (zrs_cons hr2 (zrs_cons hr3 (zrs_cons hx1 (zrs_cons hx2 zrs_nil)))) (e_cons rfl (e_cons rfl (e_cons rfl (e_cons rfl rfl)))) (fun σ4 r4 hσ4 hr4 => ?_)
                exact Rf_tail hR hσ4 (zrs_cons hx0 (zrs_cons hx1 (zrs_cons hx2 (zrs_cons hr1 (zrs_cons hr2 (zrs_cons hr3 zrs_nil)))))) (e_cons rfl (e_cons rfl (e_cons rfl (e_cons rfl (e_cons rfl (e_cons rfl rfl))))))
theorem rY_For_writePart_p80 (rz : zF) (rm : mF) (hR : Rc rz rm) (β : Nat) (σ : zS) (hσ : zOK σ) (x0 x1 x2 x3 x4 x5 x6 x7 : Int) (hx0 : zr x0) (hx1 : zr x1) (hx2 : zr x2) (hx3 : zr x3) (hx4 : zr x4) (hx5 : zr x5) (hx6 : zr x6) (hx7 : zr x7) : Rf (kY_For_writePart_p80 rz β σ x0 x1 x2 x3 x4 x5 x6 x7) (kG_For_writePart_p80 rm (cv σ) (i32 x0) (i32 x1) (i32 x2) (i32 x3) (i32 x4) (i32 x5) (i32 x6) (i32 x7)) β := by
  unfold kY_For_writePart_p80 kG_For_writePart_p80
  refine Rf_bnd hR hσ (zrs_cons hx7 (zrs_cons hx6 (zrs_cons hx2 zrs_nil))) (e_cons rfl (e_cons rfl (e_cons rfl rfl))) (fun σ1 r1 hσ1 hr1 => ?_)
  exact Rf_tail hR hσ1 (zrs_cons hx0 (zrs_cons hx1 (zrs_cons hx2 (zrs_cons hx3 (zrs_cons hx4 (zrs_cons hx5 zrs_nil)))))) (e_cons rfl (e_cons rfl (e_cons rfl (e_cons rfl (e_cons rfl (e_cons rfl rfl))))))
theorem rY_For_writePart_p106 (rz : zF) (rm : mF) (hR : Rc rz rm) (β : Nat) (σ : zS) (hσ : zOK σ) (x0 x1 x2 x3 x4 x5 x6 x7 : Int) (hx0 : zr x0) (hx1 : zr x1) (hx2 : zr x2) (hx3 : zr x3) (hx4 : zr x4) (hx5 : zr x5) (hx6 : zr x6) (hx7 : zr x7) : Rf (kY_For_writePart_p106 rz β σ x0 x1 x2 x3 x4 x5 x6 x7) (kG_For_writePart_p106 rm (cv σ) (i32 x0) (i32 x1) (i32 x2) (i32 x3) (i32 x4) (i32 x5) (i32 x6) (i32 x7)) β := by
  unfold kY_For_writePart_p106 kG_For_writePart_p106
  refine Rf_eq rfl rfl hx6 hx1 (fun _ => ?_) (fun _ => ?_)
  · exact Rf_tail hR hσ (zrs_cons hx0 (zrs_cons hx1 (zrs_cons hx2 (zrs_cons hx3 (zrs_cons hx4 (zrs_cons hx5 (zrs_cons (by decide) (zrs_cons hx7 zrs_nil)))))))) (e_cons rfl (e_cons rfl (e_cons rfl (e_cons rfl (e_cons rfl (e_cons rfl (e_cons (by decide) (e_cons rfl rfl))))))))
  · exact Rf_tail hR hσ (zrs_cons hx0 (zrs_cons hx1 (zrs_cons hx2 (zrs_cons hx3 (zrs_cons hx4 (zrs_cons hx5 (zrs_cons (by decide) (zrs_cons hx7 zrs_nil)))))))) (e_cons rfl (e_cons rfl (e_cons rfl (e_cons rfl (e_cons rfl (e_cons rfl (e_cons (by decide) (e_cons rfl rfl))))))))
theorem rY_For_writePart_p115 (rz : zF) (rm : mF) (hR : Rc rz rm) (β : Nat) (σ : zS) (hσ : zOK σ) (x0 x1 x2 x3 x4 x5 x6 x7 : Int) (hx0 : zr x0) (hx1 : zr x1) (hx2 : zr x2) (hx3 : zr x3) (hx4 : zr x4) (hx5 : zr x5) (hx6 : zr x6) (hx7 : zr x7) : Rf (kY_For_writePart_p115 rz β σ x0 x1 x2 x3 x4 x5 x6 x7) (kG_For_writePart_p115 rm (cv σ) (i32 x0) (i32 x1) (i32 x2) (i32 x3) (i32 x4) (i32 x5) (i32 x6) (i32 x7)) β := by
  unfold kY_For_writePart_p115 kG_For_writePart_p115
  refine Rf_rd rfl hx7 (fun hb1 => ?_)
  refine Rf_g (fun hg2 => ?_)
  refine Rf_A rfl hb1 (e_bool rfl hg2) hx6 hσ (fun σ1 hσ1 => ?_)
  refine Rf_bnd hR hσ1 (zrs_cons hx4 (zrs_cons hx1 (zrs_cons hx2 zrs_nil))) (e_cons rfl (e_cons rfl (e_cons rfl rfl))) (fun σ2 r2 hσ2 hr2 => ?_)
  exact Rf_tail hR hσ2 (zrs_cons hx0 (zrs_cons hx1 (zrs_cons hx2 (zrs_cons hx3 (zrs_cons hx4 (zrs_cons hx5 zrs_nil)))))) (e_cons rfl (e_cons rfl (e_cons rfl (e_cons rfl (e_cons rfl (e_cons rfl rfl))))))
theorem rY_For_writePart_p141 (rz : zF) (rm : mF) (hR : Rc rz rm) (β : Nat) (σ : zS) (hσ : zOK σ) (x0 x1 x2 x3 x4 x5 x6 : Int) (hx0 : zr x0) (hx1 : zr x1) (hx2 : zr x2) (hx3 : zr x3) (hx4 : zr x4) (hx5 : zr x5) (hx6 : zr x6) : Rf (kY_For_writePart_p141 rz β σ x0 x1 x2 x3 x4 x5 x6) (kG_For_writePart_p141 rm (cv σ) (i32 x0) (i32 x1) (i32 x2) (i32 x3) (i32 x4) (i32 x5) (i32 x6)) β := by
  unfold kY_For_writePart_p141 kG_For_writePart_p141
  refine Rf_eq rfl rfl hx6 hx1 (fun _ => ?_) (fun _ => ?_)
  · exact Rf_tail hR hσ (zrs_cons hx0 (zrs_cons hx1 (zrs_cons hx2 (zrs_cons hx3 (zrs_cons hx4 (zrs_cons hx5 (zrs_cons (by decide) zrs_nil))))))) (e_cons rfl (e_cons rfl (e_cons rfl (e_cons rfl (e_cons rfl (e_cons rfl (e_cons (by decide) rfl)))))))
  · exact Rf_tail hR hσ (zrs_cons hx0 (zrs_cons hx1 (zrs_cons hx2 (zrs_cons hx3 (zrs_cons hx4 (zrs_cons hx5 (zrs_cons (by decide) zrs_nil))))))) (e_cons rfl (e_cons rfl (e_cons rfl (e_cons rfl (e_cons rfl (e_cons rfl (e_cons (by decide) rfl)))))))
theorem rY_For_writePart_p150 (rz : zF) (rm : mF) (hR : Rc rz rm) (β : Nat) (σ : zS) (hσ : zOK σ) (x0 x1 x2 x3 x4 x5 x6 : Int) (hx0 : zr x0) (hx1 : zr x1) (hx2 : zr x2) (hx3 : zr x3) (hx4 : zr x4) (hx5 : zr x5) (hx6 : zr x6) : Rf (kY_For_writePart_p150 rz β σ x0 x1 x2 x3 x4 x5 x6) (kG_For_writePart_p150 rm (cv σ) (i32 x0) (i32 x1) (i32 x2) (i32 x3) (i32 x4) (i32 x5) (i32 x6)) β := by
  unfold kY_For_writePart_p150 kG_For_writePart_p150
  refine Rf_bnd hR hσ (zrs_cons hx6 (zrs_cons hx4 (zrs_cons hx1 (zrs_cons hx5 (zrs_cons hx1 (zrs_cons hx2 zrs_nil)))))) (e_cons rfl (e_cons rfl (e_cons rfl (e_cons rfl (e_cons rfl (e_cons rfl rfl)))))) (fun σ1 r1 hσ1 hr1 => ?_)
  exact Rf_tail hR hσ1 (zrs_cons hx0 (zrs_cons hx1 (zrs_cons hx2 (zrs_cons hx3 (zrs_cons hx4 (zrs_cons hx5 zrs_nil)))))) (e_cons rfl (e_cons rfl (e_cons rfl (e_cons rfl (e_cons rfl (e_cons rfl rfl))))))
theorem rY_For_writePart_p174 (rz : zF) (rm : mF) (hR : Rc rz rm) (β : Nat) (σ : zS) (hσ : zOK σ) (x0 x1 x2 x3 x4 x5 x6 : Int) (hx0 : zr x0) (hx1 : zr x1) (hx2 : zr x2) (hx3 : zr x3) (hx4 : zr x4) (hx5 : zr x5) (hx6 : zr x6) : Rf (kY_For_writePart_p174 rz β σ x0 x1 x2 x3 x4 x5 x6) (kG_For_writePart_p174 rm (cv σ) (i32 x0) (i32 x1) (i32 x2) (i32 x3) (i32 x4) (i32 x5) (i32 x6)) β := by
  unfold kY_For_writePart_p174 kG_For_writePart_p174
  refine Rf_eq rfl (by decide) hx1 (by decide) (fun _ => ?_) (fun _ => ?_)
  · exact Rf_tail hR hσ (zrs_cons hx0 (zrs_cons hx1 (zrs_cons hx2 (zrs_cons hx3 (zrs_cons hx4 (zrs_cons hx5 (zrs_cons (by decide) (zrs_cons hx4 (zrs_cons hx6 zrs_nil))))))))) (e_cons rfl (e_cons rfl (e_cons rfl (e_cons rfl (e_cons rfl (e_cons rfl (e_cons (by decide) (e_cons rfl (e_cons rfl rfl)))))))))
  · exact Rf_tail hR hσ (zrs_cons hx0 (zrs_cons hx1 (zrs_cons hx2 (zrs_cons hx3 (zrs_cons hx4 (zrs_cons hx5 (zrs_cons (by decide) (zrs_cons hx4 (zrs_cons hx6 zrs_nil))))))))) (e_cons rfl (e_cons rfl (e_cons rfl (e_cons rfl (e_cons rfl (e_cons rfl (e_cons (by decide) (e_cons rfl (e_cons rfl rfl)))))))))
theorem rY_For_writePart_p185 (rz : zF) (rm : mF) (hR : Rc rz rm) (β : Nat) (σ : zS) (hσ : zOK σ) (x0 x1 x2 x3 x4 x5 x6 x7 x8 : Int) (hx0 : zr x0) (hx1 : zr x1) (hx2 : zr x2) (hx3 : zr x3) (hx4 : zr x4) (hx5 : zr x5) (hx6 : zr x6) (hx7 : zr x7) (hx8 : zr x8) : Rf (kY_For_writePart_p185 rz β σ x0 x1 x2 x3 x4 x5 x6 x7 x8) (kG_For_writePart_p185 rm (cv σ) (i32 x0) (i32 x1) (i32 x2) (i32 x3) (i32 x4) (i32 x5) (i32 x6) (i32 x7) (i32 x8)) β := by
  unfold kY_For_writePart_p185 kG_For_writePart_p185
  refine Rf_bnd hR hσ (zrs_cons hx8 (zrs_cons hx7 (zrs_cons hx6 (zrs_cons hx5 (zrs_cons hx1 (zrs_cons hx2 zrs_nil)))))) (e_cons rfl (e_cons rfl (e_cons rfl (e_cons rfl (e_cons rfl (e_cons rfl rfl)))))) (fun σ1 r1 hσ1 hr1 => ?_)
  exact Rf_tail hR hσ1 (zrs_cons hx0 (zrs_cons hx1 (zrs_cons hx2 (zrs_cons hx3 (zrs_cons hx4 (zrs_cons hx5 zrs_nil)))))) (e_cons rfl (e_cons rfl (e_cons rfl (e_cons rfl (e_cons rfl (e_cons rfl rfl))))))
theorem rY_For_writePart_p224 (rz : zF) (rm : mF) (hR : Rc rz rm) (β : Nat) (σ : zS) (hσ : zOK σ) (x0 x1 x2 x3 x4 x5 x6 : Int) (hx0 : zr x0) (hx1 : zr x1) (hx2 : zr x2) (hx3 : zr x3) (hx4 : zr x4) (hx5 : zr x5) (hx6 : zr x6) : Rf (kY_For_writePart_p224 rz β σ x0 x1 x2 x3 x4 x5 x6) (kG_For_writePart_p224 rm (cv σ) (i32 x0) (i32 x1) (i32 x2) (i32 x3) (i32 x4) (i32 x5) (i32 x6)) β := by
  unfold kY_For_writePart_p224 kG_For_writePart_p224
  refine Rf_eq rfl rfl hx6 hx1 (fun _ => ?_) (fun _ => ?_)
  · exact Rf_tail hR hσ (zrs_cons hx0 (zrs_cons hx1 (zrs_cons hx2 (zrs_cons hx3 (zrs_cons hx4 (zrs_cons hx5 (zrs_cons (by decide) zrs_nil))))))) (e_cons rfl (e_cons rfl (e_cons rfl (e_cons rfl (e_cons rfl (e_cons rfl (e_cons (by decide) rfl)))))))
  · exact Rf_tail hR hσ (zrs_cons hx0 (zrs_cons hx1 (zrs_cons hx2 (zrs_cons hx3 (zrs_cons hx4 (zrs_cons hx5 (zrs_cons (by decide) zrs_nil))))))) (e_cons rfl (e_cons rfl (e_cons rfl (e_cons rfl (e_cons rfl (e_cons rfl (e_cons (by decide) rfl)))))))
theorem rY_For_writePart_p233 (rz : zF) (rm : mF) (hR : Rc rz rm) (β : Nat) (σ : zS) (hσ : zOK σ) (x0 x1 x2 x3 x4 x5 x6 : Int) (hx0 : zr x0) (hx1 : zr x1) (hx2 : zr x2) (hx3 : zr x3) (hx4 : zr x4) (hx5 : zr x5) (hx6 : zr x6) : Rf (kY_For_writePart_p233 rz β σ x0 x1 x2 x3 x4 x5 x6) (kG_For_writePart_p233 rm (cv σ) (i32 x0) (i32 x1) (i32 x2) (i32 x3) (i32 x4) (i32 x5) (i32 x6)) β := by
  unfold kY_For_writePart_p233 kG_For_writePart_p233
  refine Rf_bnd hR hσ (zrs_cons hx6 (zrs_cons hx4 (zrs_cons hx5 zrs_nil))) (e_cons rfl (e_cons rfl (e_cons rfl rfl))) (fun σ1 r1 hσ1 hr1 => ?_)
  exact Rf_tail hR hσ1 (zrs_cons hx0 (zrs_cons hx1 (zrs_cons hx2 (zrs_cons hx3 (zrs_cons hx4 (zrs_cons hx5 zrs_nil)))))) (e_cons rfl (e_cons rfl (e_cons rfl (e_cons rfl (e_cons rfl (e_cons rfl rfl))))))
theorem rY_For_writePart_p240 (rz : zF) (rm : mF) (hR : Rc rz rm) (β : Nat) (σ : zS) (hσ : zOK σ) (x0 x1 x2 x3 x4 x5 : Int) (hx0 : zr x0) (hx1 : zr x1) (hx2 : zr x2) (hx3 : zr x3) (hx4 : zr x4) (hx5 : zr x5) : Rf (kY_For_writePart_p240 rz β σ x0 x1 x2 x3 x4 x5) (kG_For_writePart_p240 rm (cv σ) (i32 x0) (i32 x1) (i32 x2) (i32 x3) (i32 x4) (i32 x5)) β := by
  unfold kY_For_writePart_p240 kG_For_writePart_p240
  exact Rf_some hσ (by decide) (by decide)
theorem rY_Par_closeBracket (rz : zF) (rm : mF) (hR : Rc rz rm) (β : Nat) (σ : zS) (hσ : zOK σ) : Rf (kY_Par_closeBracket rz β σ) (kG_Par_closeBracket rm (cv σ)) β := by
  unfold kY_Par_closeBracket kG_Par_closeBracket
  refine Rf_bnd hR hσ (zrs_cons (by decide) zrs_nil) (e_cons (by decide) rfl) (fun σ1 r1 hσ1 hr1 => ?_)
  refine Rf_bnd hR hσ1 (zrs_cons hr1 zrs_nil) (e_cons rfl rfl) (fun σ2 r2 hσ2 hr2 => ?_)
  refine Rf_eq rfl (by decide) (hσ2.1 3301) (by decide) (fun _ => ?_) (fun _ => ?_)
  · exact Rf_some hσ2 (by decide) (by decide)
  · refine Rf_bnd hR hσ2 zrs_nil rfl (fun σ3 r3 hσ3 hr3 => ?_)
    refine Rf_bnd hR hσ3 zrs_nil rfl (fun σ4 r4 hσ4 hr4 => ?_)
    exact Rf_some hσ4 (by decide) (by decide)
theorem rY_Par_closeSentence (rz : zF) (rm : mF) (hR : Rc rz rm) (β : Nat) (σ : zS) (hσ : zOK σ) : Rf (kY_Par_closeSentence rz β σ) (kG_Par_closeSentence rm (cv σ)) β := by
  unfold kY_Par_closeSentence kG_Par_closeSentence
  refine Rf_bnd hR hσ (zrs_cons (by decide) zrs_nil) (e_cons (by decide) rfl) (fun σ1 r1 hσ1 hr1 => ?_)
  refine Rf_bnd hR hσ1 (zrs_cons hr1 zrs_nil) (e_cons rfl rfl) (fun σ2 r2 hσ2 hr2 => ?_)
  refine Rf_lt (by decide) rfl (by decide) (hσ2.1 3301) (fun _ => ?_) (fun _ => ?_)
  · exact Rf_tail hR hσ2 zrs_nil rfl
  · refine Rf_eq rfl (by decide) (hσ2.1 3701) (by decide) (fun _ => ?_) (fun _ => ?_)
    · refine Rf_rd (by decide) (by decide) (fun hb1 => ?_)
      refine Rf_bnd hR hσ2 (zrs_cons (hσ2.2.1 _ _) zrs_nil) (e_cons (e_rd (by decide) hb1) rfl) (fun σ3 r3 hσ3 hr3 => ?_)
      refine Rf_bnd hR hσ3 zrs_nil rfl (fun σ4 r4 hσ4 hr4 => ?_)
      exact Rf_some hσ4 (by decide) (by decide)
    · exact Rf_tail hR hσ2 zrs_nil rfl
theorem rY_Par_closeSentence_p30 (rz : zF) (rm : mF) (hR : Rc rz rm) (β : Nat) (σ : zS) (hσ : zOK σ) : Rf (kY_Par_closeSentence_p30 rz β σ) (kG_Par_closeSentence_p30 rm (cv σ)) β := by
  unfold kY_Par_closeSentence_p30 kG_Par_closeSentence_p30
  refine Rf_bnd hR hσ zrs_nil rfl (fun σ1 r1 hσ1 hr1 => ?_)
  exact Rf_some hσ1 (by decide) (by decide)
theorem rY_Par_fold (rz : zF) (rm : mF) (hR : Rc rz rm) (β : Nat) (σ : zS) (hσ : zOK σ) (x0 : Int) (hx0 : zr x0) : Rf (kY_Par_fold rz β σ x0) (kG_Par_fold rm (cv σ) (i32 x0)) β := by
  unfold kY_Par_fold kG_Par_fold
  exact Rf_tail hR hσ (zrs_cons hx0 (zrs_cons (by decide) zrs_nil)) (e_cons rfl (e_cons (by decide) rfl))
theorem rY_Par_fold_p2 (rz : zF) (rm : mF) (hR : Rc rz rm) (β : Nat) (σ : zS) (hσ : zOK σ) (x0 x1 : Int) (hx0 : zr x0) (hx1 : zr x1) : Rf (kY_Par_fold_p2 rz β σ x0 x1) (kG_Par_fold_p2 rm (cv σ) (i32 x0) (i32 x1)) β := by
  unfold kY_Par_fold_p2 kG_Par_fold_p2
  refine Rf_le (by decide) rfl (by decide) hx1 (fun _ => ?_) (fun _ => ?_)
  · exact Rf_tail hR hσ (zrs_cons hx0 (zrs_cons hx1 zrs_nil)) (e_cons rfl (e_cons rfl rfl))
  · refine Rf_bnd hR hσ zrs_nil rfl (fun σ1 r1 hσ1 hr1 => ?_)
    refine Rf_bnd hR hσ1 (zrs_cons hr1 zrs_nil) (e_cons rfl rfl) (fun σ2 r2 hσ2 hr2 => ?_)
    refine Rf_lt rfl rfl hr2 hx0 (fun _ => ?_) (fun _ => ?_)
    · exact Rf_tail hR hσ2 (zrs_cons hx0 (zrs_cons hx1 zrs_nil)) (e_cons rfl (e_cons rfl rfl))
    · refine Rf_bnd hR hσ2 zrs_nil rfl (fun σ3 r3 hσ3 hr3 => ?_)
      refine Rf_g (fun hg1 => ?_)
      exact Rf_tail hR hσ3 (zrs_cons hx0 (zrs_cons hg1 zrs_nil)) (e_cons rfl (e_cons (e_add rfl (by decide)) rfl))
theorem rY_Par_fold_p29 (rz : zF) (rm : mF) (hR : Rc rz rm) (β : Nat) (σ : zS) (hσ : zOK σ) (x0 x1 : Int) (hx0 : zr x0) (hx1 : zr x1) : Rf (kY_Par_fold_p29 rz β σ x0 x1) (kG_Par_fold_p29 rm (cv σ) (i32 x0) (i32 x1)) β := by
  unfold kY_Par_fold_p29 kG_Par_fold_p29
  exact Rf_some hσ (by decide) (by decide)
theorem rY_Par_foldTop (rz : zF) (rm : mF) (hR : Rc rz rm) (β : Nat) (σ : zS) (hσ : zOK σ) : Rf (kY_Par_foldTop rz β σ) (kG_Par_foldTop rm (cv σ)) β := by
  unfold kY_Par_foldTop kG_Par_foldTop
  refine Rf_bnd hR hσ zrs_nil rfl (fun σ1 r1 hσ1 hr1 => ?_)
  refine Rf_g (fun hg1 => ?_)
  refine Rf_rd (e_sub rfl (by decide)) hg1 (fun hb2 => ?_)
  refine Rf_eq rfl (by decide) hr1 (by decide) (fun _ => ?_) (fun _ => ?_)
  · refine Rf_bnd hR hσ1 (zrs_cons (by decide) (zrs_cons (hσ1.2.1 _ _) (zrs_cons (by decide) zrs_nil))) (e_cons (by decide) (e_cons (e_rd (e_sub rfl (by decide)) hb2) (e_cons (by decide) rfl))) (fun σ4 r4 hσ4 hr4 => ?_)
    exact Rf_tail hR hσ4 (zrs_cons hr1 (zrs_cons hr4 zrs_nil)) (e_cons rfl (e_cons rfl rfl))
  · refine Rf_eq rfl (by decide) hr1 (by decide) (fun _ => ?_) (fun _ => ?_)
    · exact Rf_tail hR hσ1 (zrs_cons hr1 (zrs_cons (hσ1.2.1 _ _) zrs_nil)) (e_cons rfl (e_cons (e_rd (e_sub rfl (by decide)) hb2) rfl))
    · refine Rf_eq rfl (by decide) hr1 (by decide) (fun _ => ?_) (fun _ => ?_)
      · exact Rf_tail hR hσ1 (zrs_cons hr1 (zrs_cons (hσ1.2.1 _ _) zrs_nil)) (e_cons rfl (e_cons (e_rd (e_sub rfl (by decide)) hb2) rfl))
      · refine Rf_I (e_sub rfl (by decide)) hg1 hσ1 (fun σ2 hσ2 => ?_)
        refine Rf_g (fun hg3 => ?_)
        refine Rf_rd (e_sub rfl (by decide)) hg3 (fun hb4 => ?_)
        refine Rf_bnd hR hσ2 (zrs_cons hr1 (zrs_cons (hσ2.2.1 _ _) (zrs_cons (hσ1.2.1 _ _) zrs_nil))) (e_cons rfl (e_cons (e_rd (e_sub rfl (by decide)) hb4) (e_cons (e_rd (e_sub rfl (by decide)) hb2) rfl))) (fun σ3 r3 hσ3 hr3 => ?_)
        exact Rf_tail hR hσ3 (zrs_cons hr1 (zrs_cons hr3 zrs_nil)) (e_cons rfl (e_cons rfl rfl))
theorem rY_Par_foldTop_p56 (rz : zF) (rm : mF) (hR : Rc rz rm) (β : Nat) (σ : zS) (hσ : zOK σ) (x0 x1 : Int) (hx0 : zr x0) (hx1 : zr x1) : Rf (kY_Par_foldTop_p56 rz β σ x0 x1) (kG_Par_foldTop_p56 rm (cv σ) (i32 x0) (i32 x1)) β := by
  unfold kY_Par_foldTop_p56 kG_Par_foldTop_p56
  exact Rf_tail hR hσ (zrs_cons hx0 (zrs_cons hx1 (zrs_cons (hσ.1 1403) (zrs_cons (by decide) zrs_nil)))) (e_cons rfl (e_cons rfl (e_cons rfl (e_cons (by decide) rfl))))
theorem rY_Par_foldTop_p67 (rz : zF) (rm : mF) (hR : Rc rz rm) (β : Nat) (σ : zS) (hσ : zOK σ) (x0 x1 x2 x3 : Int) (hx0 : zr x0) (hx1 : zr x1) (hx2 : zr x2) (hx3 : zr x3) : Rf (kY_Par_foldTop_p67 rz β σ x0 x1 x2 x3) (kG_Par_foldTop_p67 rm (cv σ) (i32 x0) (i32 x1) (i32 x2) (i32 x3)) β := by
  unfold kY_Par_foldTop_p67 kG_Par_foldTop_p67
  refine Rf_le (by decide) rfl (by decide) hx3 (fun _ => ?_) (fun _ => ?_)
  · exact Rf_tail hR hσ (zrs_cons hx0 (zrs_cons hx1 (zrs_cons hx2 (zrs_cons hx3 zrs_nil)))) (e_cons rfl (e_cons rfl (e_cons rfl (e_cons rfl rfl))))
  · refine Rf_g (fun hg1 => ?_)
    refine Rf_rd (e_sub rfl (by decide)) hg1 (fun hb2 => ?_)
    refine Rf_lt rfl (e_rd (e_sub rfl (by decide)) hb2) hx2 (hσ.2.1 _ _) (fun _ => ?_) (fun _ => ?_)
    · exact Rf_tail hR hσ (zrs_cons hx0 (zrs_cons hx1 (zrs_cons hx2 (zrs_cons hx3 zrs_nil)))) (e_cons rfl (e_cons rfl (e_cons rfl (e_cons rfl rfl))))
    · refine Rf_bnd hR hσ (zrs_cons hx0 (zrs_cons hx1 (zrs_cons hx2 zrs_nil))) (e_cons rfl (e_cons rfl (e_cons rfl rfl))) (fun σ1 r1 hσ1 hr1 => ?_)
      refine Rf_rd rfl hx2 (fun hb3 => ?_)
      refine Rf_g (fun hg4 => ?_)
      exact Rf_tail hR hσ1 (zrs_cons hx0 (zrs_cons hr1 (zrs_cons (hσ1.2.1 _ _) (zrs_cons hg4 zrs_nil)))) (e_cons rfl (e_cons rfl (e_cons (e_rd rfl hb3) (e_cons (e_add rfl (by decide)) rfl))))
theorem rY_Par_foldTop_p123 (rz : zF) (rm : mF) (hR : Rc rz rm) (β : Nat) (σ : zS) (hσ : zOK σ) (x0 x1 x2 x3 : Int) (hx0 : zr x0) (hx1 : zr x1) (hx2 : zr x2) (hx3 : zr x3) : Rf (kY_Par_foldTop_p123 rz β σ x0 x1 x2 x3) (kG_Par_foldTop_p123 rm (cv σ) (i32 x0) (i32 x1) (i32 x2) (i32 x3)) β := by
  unfold kY_Par_foldTop_p123 kG_Par_foldTop_p123
  refine Rf_I rfl hx2 hσ (fun σ1 hσ1 => ?_)
  exact Rf_tail hR hσ1 (zrs_cons hx0 (zrs_cons hx1 zrs_nil)) (e_cons rfl (e_cons rfl rfl))
theorem rY_Par_foldTop_p174 (rz : zF) (rm : mF) (hR : Rc rz rm) (β : Nat) (σ : zS) (hσ : zOK σ) (x0 x1 : Int) (hx0 : zr x0) (hx1 : zr x1) : Rf (kY_Par_foldTop_p174 rz β σ x0 x1) (kG_Par_foldTop_p174 rm (cv σ) (i32 x0) (i32 x1)) β := by
  unfold kY_Par_foldTop_p174 kG_Par_foldTop_p174
  refine Rf_g (fun hg1 => ?_)
  refine Rf_rd (e_sub rfl (by decide)) hg1 (fun hb2 => ?_)
  refine Rf_A (e_sub rfl (by decide)) hb2 rfl hx1 hσ (fun σ1 hσ1 => ?_)
  refine Rf_bnd hR hσ1 zrs_nil rfl (fun σ2 r2 hσ2 hr2 => ?_)
  exact Rf_some hσ2 (by decide) (by decide)
theorem rY_Par_mayBeEquivalent (rz : zF) (rm : mF) (hR : Rc rz rm) (β : Nat) (σ : zS) (hσ : zOK σ) : Rf (kY_Par_mayBeEquivalent rz β σ) (kG_Par_mayBeEquivalent rm (cv σ)) β := by
  unfold kY_Par_mayBeEquivalent kG_Par_mayBeEquivalent
  refine Rf_bnd hR hσ (zrs_cons (by decide) zrs_nil) (e_cons (by decide) rfl) (fun σ1 r1 hσ1 hr1 => ?_)
  refine Rf_bnd hR hσ1 (zrs_cons hr1 zrs_nil) (e_cons rfl rfl) (fun σ2 r2 hσ2 hr2 => ?_)
  exact Rf_tail hR hσ2 (zrs_cons (by decide) zrs_nil) (e_cons (by decide) rfl)
theorem rY_Par_mayBeEquivalent_p11 (rz : zF) (rm : mF) (hR : Rc rz rm) (β : Nat) (σ : zS) (hσ : zOK σ) (x0 : Int) (hx0 : zr x0) : Rf (kY_Par_mayBeEquivalent_p11 rz β σ x0) (kG_Par_mayBeEquivalent_p11 rm (cv σ) (i32 x0)) β := by
  unfold kY_Par_mayBeEquivalent_p11 kG_Par_mayBeEquivalent_p11
  refine Rf_le (by decide) rfl (by decide) hx0 (fun _ => ?_) (fun _ => ?_)
  · exact Rf_tail hR hσ (zrs_cons hx0 zrs_nil) (e_cons rfl rfl)
  · refine Rf_bnd hR hσ zrs_nil rfl (fun σ1 r1 hσ1 hr1 => ?_)
    refine Rf_eq rfl (by decide) hr1 (by decide) (fun _ => ?_) (fun _ => ?_)
    · refine Rf_bnd hR hσ1 zrs_nil rfl (fun σ2 r2 hσ2 hr2 => ?_)
      refine Rf_bnd hR hσ2 zrs_nil rfl (fun σ3 r3 hσ3 hr3 => ?_)
      refine Rf_eq rfl (by decide) hr3 (by decide) (fun _ => ?_) (fun _ => ?_)
      · exact Rf_tail hR hσ3 (zrs_cons hx0 zrs_nil) (e_cons rfl rfl)
      · refine Rf_bnd hR hσ3 zrs_nil rfl (fun σ4 r4 hσ4 hr4 => ?_)
        refine Rf_eq rfl (by decide) hr4 (by decide) (fun _ => ?_) (fun _ => ?_)
        · exact Rf_tail hR hσ4 (zrs_cons hx0 zrs_nil) (e_cons rfl rfl)
        · exact Rf_some hσ4 (by decide) (by decide)
    · exact Rf_tail hR hσ1 (zrs_cons hx0 zrs_nil) (e_cons rfl rfl)
theorem rY_Par_mayBeEquivalent_p50 (rz : zF) (rm : mF) (hR : Rc rz rm) (β : Nat) (σ : zS) (hσ : zOK σ) (x0 : Int) (hx0 : zr x0) : Rf (kY_Par_mayBeEquivalent_p50 rz β σ x0) (kG_Par_mayBeEquivalent_p50 rm (cv σ) (i32 x0)) β := by
  unfold kY_Par_mayBeEquivalent_p50 kG_Par_mayBeEquivalent_p50
  refine Rf_bnd hR hσ zrs_nil rfl (fun σ1 r1 hσ1 hr1 => ?_)
  refine Rf_bnd hR hσ1 (zrs_cons (by decide) zrs_nil) (e_cons (by decide) rfl) (fun σ2 r2 hσ2 hr2 => ?_)
  refine Rf_bnd hR hσ2 (zrs_cons hr2 zrs_nil) (e_cons rfl rfl) (fun σ3 r3 hσ3 hr3 => ?_)
  refine Rf_g (fun hg1 => ?_)
  exact Rf_tail hR hσ3 (zrs_cons hg1 zrs_nil) (e_cons (e_add rfl (by decide)) rfl)
theorem rY_Par_mayBeEquivalent_p69 (rz : zF) (rm : mF) (hR : Rc rz rm) (β : Nat) (σ : zS) (hσ : zOK σ) (x0 : Int) (hx0 : zr x0) : Rf (kY_Par_mayBeEquivalent_p69 rz β σ x0) (kG_Par_mayBeEquivalent_p69 rm (cv σ) (i32 x0)) β := by
  unfold kY_Par_mayBeEquivalent_p69 kG_Par_mayBeEquivalent_p69
  exact Rf_some hσ (by decide) (by decide)
theorem rY_Par_openSentence (rz : zF) (rm : mF) (hR : Rc rz rm) (β : Nat) (σ : zS) (hσ : zOK σ) : Rf (kY_Par_openSentence rz β σ) (kG_Par_openSentence rm (cv σ)) β := by
  unfold kY_Par_openSentence kG_Par_openSentence
  refine Rf_bnd hR hσ zrs_nil rfl (fun σ1 r1 hσ1 hr1 => ?_)
  refine Rf_bnd hR hσ1 (zrs_cons (hσ1.1 3203) (zrs_cons hr1 zrs_nil)) (e_cons rfl (e_cons rfl rfl)) (fun σ2 r2 hσ2 hr2 => ?_)
  refine Rf_I (by decide) (by decide) hσ2 (fun σ3 hσ3 => ?_)
  refine Rf_I (by decide) (by decide) hσ3 (fun σ4 hσ4 => ?_)
  refine Rf_I (by decide) (by decide) hσ4 (fun σ5 hσ5 => ?_)
  refine Rf_I (by decide) (by decide) hσ5 (fun σ6 hσ6 => ?_)
  refine Rf_eq rfl (by decide) hr1 (by decide) (fun _ => ?_) (fun _ => ?_)
  · exact Rf_tail hR hσ6 (zrs_cons hr1 zrs_nil) (e_cons rfl rfl)
  · refine Rf_bnd hR hσ6 zrs_nil rfl (fun σ7 r7 hσ7 hr7 => ?_)
    exact Rf_tail hR hσ7 (zrs_cons hr1 zrs_nil) (e_cons rfl rfl)
theorem rY_Par_openSentence_p63 (rz : zF) (rm : mF) (hR : Rc rz rm) (β : Nat) (σ : zS) (hσ : zOK σ) (x0 : Int) (hx0 : zr x0) : Rf (kY_Par_openSentence_p63 rz β σ x0) (kG_Par_openSentence_p63 rm (cv σ) (i32 x0)) β := by
  unfold kY_Par_openSentence_p63 kG_Par_openSentence_p63
  exact Rf_some hσ (by decide) (by decide)
theorem rY_Par_parse_2 (rz : zF) (rm : mF) (hR : Rc rz rm) (β : Nat) (σ : zS) (hσ : zOK σ) (x0 : Int) (hx0 : zr x0) : Rf (kY_Par_parse_2 rz β σ x0) (kG_Par_parse_2 rm (cv σ) (i32 x0)) β := by
  unfold kY_Par_parse_2 kG_Par_parse_2
  refine Rf_I (by decide) (by decide) hσ (fun σ1 hσ1 => ?_)
  refine Rf_I (by decide) (by decide) hσ1 (fun σ2 hσ2 => ?_)
  refine Rf_bnd hR hσ2 zrs_nil rfl (fun σ3 r3 hσ3 hr3 => ?_)
  refine Rf_bnd hR hσ3 (zrs_cons hx0 zrs_nil) (e_cons rfl rfl) (fun σ4 r4 hσ4 hr4 => ?_)
  exact Rf_tail hR hσ4 (zrs_cons hx0 (zrs_cons (by decide) zrs_nil)) (e_cons rfl (e_cons (by decide) rfl))
theorem rY_Par_parse_2_p28 (rz : zF) (rm : mF) (hR : Rc rz rm) (β : Nat) (σ : zS) (hσ : zOK σ) (x0 x1 : Int) (hx0 : zr x0) (hx1 : zr x1) : Rf (kY_Par_parse_2_p28 rz β σ x0 x1) (kG_Par_parse_2_p28 rm (cv σ) (i32 x0) (i32 x1)) β := by
  unfold kY_Par_parse_2_p28 kG_Par_parse_2_p28
  refine Rf_le (by decide) rfl (by decide) hx1 (fun _ => ?_) (fun _ => ?_)
  · exact Rf_tail hR hσ (zrs_cons hx0 (zrs_cons hx1 zrs_nil)) (e_cons rfl (e_cons rfl rfl))
  · refine Rf_eq rfl (by decide) (hσ.1 3100) (by decide) (fun _ => ?_) (fun _ => ?_)
    · refine Rf_eq rfl (by decide) (hσ.1 3202) (by decide) (fun _ => ?_) (fun _ => ?_)
      · exact Rf_tail hR hσ (zrs_cons hx0 (zrs_cons hx1 zrs_nil)) (e_cons rfl (e_cons rfl rfl))
      · refine Rf_bnd hR hσ zrs_nil rfl (fun σ1 r1 hσ1 hr1 => ?_)
        exact Rf_tail hR hσ1 (zrs_cons hx0 (zrs_cons hx1 (zrs_cons (by decide) (zrs_cons (by decide) zrs_nil)))) (e_cons rfl (e_cons rfl (e_cons (by decide) (e_cons (by decide) rfl))))
    · exact Rf_tail hR hσ (zrs_cons hx0 (zrs_cons hx1 zrs_nil)) (e_cons rfl (e_cons rfl rfl))
theorem rY_Par_parse_2_p61 (rz : zF) (rm : mF) (hR : Rc rz rm) (β : Nat) (σ : zS) (hσ : zOK σ) (x0 x1 x2 x3 : Int) (hx0 : zr x0) (hx1 : zr x1) (hx2 : zr x2) (hx3 : zr x3) : Rf (kY_Par_parse_2_p61 rz β σ x0 x1 x2 x3) (kG_Par_parse_2_p61 rm (cv σ) (i32 x0) (i32 x1) (i32 x2) (i32 x3)) β := by
  unfold kY_Par_parse_2_p61 kG_Par_parse_2_p61
  refine Rf_le (by decide) rfl (by decide) hx3 (fun _ => ?_) (fun _ => ?_)
  · exact Rf_tail hR hσ (zrs_cons hx0 (zrs_cons hx1 (zrs_cons hx2 (zrs_cons hx3 zrs_nil)))) (e_cons rfl (e_cons rfl (e_cons rfl (e_cons rfl rfl))))
  · refine Rf_eq rfl (by decide) hx2 (by decide) (fun _ => ?_) (fun _ => ?_)
    · exact Rf_tail hR hσ (zrs_cons hx0 (zrs_cons hx1 (zrs_cons hx2 (zrs_cons hx3 zrs_nil)))) (e_cons rfl (e_cons rfl (e_cons rfl (e_cons rfl rfl))))
    · refine Rf_bnd hR hσ zrs_nil rfl (fun σ1 r1 hσ1 hr1 => ?_)
      refine Rf_bnd hR hσ1 zrs_nil rfl (fun σ2 r2 hσ2 hr2 => ?_)
      refine Rf_eq rfl (by decide) (hσ2.1 3100) (by decide) (fun _ => ?_) (fun _ => ?_)
      · refine Rf_bnd hR hσ2 zrs_nil rfl (fun σ3 r3 hσ3 hr3 => ?_)
        refine Rf_eq rfl (by decide) hr3 (by decide) (fun _ => ?_) (fun _ => ?_)
        · exact Rf_tail hR hσ3 (zrs_cons hx0 (zrs_cons hx1 (zrs_cons hx2 (zrs_cons hx3 zrs_nil)))) (e_cons rfl (e_cons rfl (e_cons rfl (e_cons rfl rfl))))
        · exact Rf_tail hR hσ3 (zrs_cons hx0 (zrs_cons hx1 (zrs_cons hx2 (zrs_cons hx3 (zrs_cons (by decide) zrs_nil))))) (e_cons rfl (e_cons rfl (e_cons rfl (e_cons rfl (e_cons (by decide) rfl)))))
      · exact Rf_tail hR hσ2 (zrs_cons hx0 (zrs_cons hx1 (zrs_cons hx2 (zrs_cons hx3 zrs_nil)))) (e_cons rfl (e_cons rfl (e_cons rfl (e_cons rfl rfl))))
theorem rY_Par_parse_2_p99 (rz : zF) (rm : mF) (hR : Rc rz rm) (β : Nat) (σ : zS) (hσ : zOK σ) (x0 x1 x2 x3 : Int) (hx0 : zr x0) (hx1 : zr x1) (hx2 : zr x2) (hx3 : zr x3) : Rf (kY_Par_parse_2_p99 rz β σ x0 x1 x2 x3) (kG_Par_parse_2_p99 rm (cv σ) (i32 x0) (i32 x1) (i32 x2) (i32 x3)) β := by
  unfold kY_Par_parse_2_p99 kG_Par_parse_2_p99
  exact Rf_tail hR hσ (zrs_cons hx0 (zrs_cons hx1 (zrs_cons hx2 (zrs_cons hx3 (zrs_cons (by decide) zrs_nil))))) (e_cons rfl (e_cons rfl (e_cons rfl (e_cons rfl (e_cons (by decide) rfl)))))
theorem rY_Par_parse_2_p100 (rz : zF) (rm : mF) (hR : Rc rz rm) (β : Nat) (σ : zS) (hσ : zOK σ) (x0 x1 x2 x3 x4 : Int) (hx0 : zr x0) (hx1 : zr x1) (hx2 : zr x2) (hx3 : zr x3) (hx4 : zr x4) : Rf (kY_Par_parse_2_p100 rz β σ x0 x1 x2 x3 x4) (kG_Par_parse_2_p100 rm (cv σ) (i32 x0) (i32 x1) (i32 x2) (i32 x3) (i32 x4)) β := by
  unfold kY_Par_parse_2_p100 kG_Par_parse_2_p100
  refine Rf_g (fun hg1 => ?_)
  exact Rf_tail hR hσ (zrs_cons hx0 (zrs_cons hx1 (zrs_cons hx4 (zrs_cons hg1 zrs_nil)))) (e_cons rfl (e_cons rfl (e_cons rfl (e_cons (e_add rfl (by decide)) rfl))))
theorem rY_Par_parse_2_p108 (rz : zF) (rm : mF) (hR : Rc rz rm) (β : Nat) (σ : zS) (hσ : zOK σ) (x0 x1 x2 x3 : Int) (hx0 : zr x0) (hx1 : zr x1) (hx2 : zr x2) (hx3 : zr x3) : Rf (kY_Par_parse_2_p108 rz β σ x0 x1 x2 x3) (kG_Par_parse_2_p108 rm (cv σ) (i32 x0) (i32 x1) (i32 x2) (i32 x3)) β := by
  unfold kY_Par_parse_2_p108 kG_Par_parse_2_p108
  refine Rf_g (fun hg1 => ?_)
  exact Rf_tail hR hσ (zrs_cons hx0 (zrs_cons hg1 zrs_nil)) (e_cons rfl (e_cons (e_add rfl (by decide)) rfl))
theorem rY_Par_parse_2_p114 (rz : zF) (rm : mF) (hR : Rc rz rm) (β : Nat) (σ : zS) (hσ : zOK σ) (x0 x1 : Int) (hx0 : zr x0) (hx1 : zr x1) : Rf (kY_Par_parse_2_p114 rz β σ x0 x1) (kG_Par_parse_2_p114 rm (cv σ) (i32 x0) (i32 x1)) β := by
  unfold kY_Par_parse_2_p114 kG_Par_parse_2_p114
  exact Rf_some hσ (by decide) (by decide)
theorem rY_Par_push (rz : zF) (rm : mF) (hR : Rc rz rm) (β : Nat) (σ : zS) (hσ : zOK σ) (x0 x1 : Int) (hx0 : zr x0) (hx1 : zr x1) : Rf (kY_Par_push rz β σ x0 x1) (kG_Par_push rm (cv σ) (i32 x0) (i32 x1)) β := by
  unfold kY_Par_push kG_Par_push
  refine Rf_Add rfl hx0 hσ (by decide) (by decide) (by decide) (by decide) (fun σ1 hσ1 => ?_)
  refine Rf_Add rfl hx1 hσ1 (by decide) (by decide) (by decide) (by decide) (fun σ2 hσ2 => ?_)
  refine Rf_bnd hR hσ2 (zrs_cons hx0 zrs_nil) (e_cons rfl rfl) (fun σ3 r3 hσ3 hr3 => ?_)
  refine Rf_eq rfl (by decide) hr3 (by decide) (fun _ => ?_) (fun _ => ?_)
  · exact Rf_tail hR hσ3 (zrs_cons hx0 (zrs_cons hx1 (zrs_cons (by decide) (zrs_cons (hσ2.1 3108) zrs_nil)))) (e_cons rfl (e_cons rfl (e_cons (by decide) (e_cons rfl rfl))))
  · exact Rf_tail hR hσ3 (zrs_cons hx0 (zrs_cons hx1 (zrs_cons (by decide) (zrs_cons (hσ2.1 3108) zrs_nil)))) (e_cons rfl (e_cons rfl (e_cons (by decide) (e_cons rfl rfl))))
theorem rY_Par_push_p33 (rz : zF) (rm : mF) (hR : Rc rz rm) (β : Nat) (σ : zS) (hσ : zOK σ) (x0 x1 x2 x3 : Int) (hx0 : zr x0) (hx1 : zr x1) (hx2 : zr x2) (hx3 : zr x3) : Rf (kY_Par_push_p33 rz β σ x0 x1 x2 x3) (kG_Par_push_p33 rm (cv σ) (i32 x0) (i32 x1) (i32 x2) (i32 x3)) β := by
  unfold kY_Par_push_p33 kG_Par_push_p33
  refine Rf_g (fun hg1 => ?_)
  refine Rf_I (e_add rfl rfl) hg1 hσ (fun σ1 hσ1 => ?_)
  exact Rf_some hσ1 (by decide) (by decide)
theorem rY_Par_takeAtom (rz : zF) (rm : mF) (hR : Rc rz rm) (β : Nat) (σ : zS) (hσ : zOK σ) : Rf (kY_Par_takeAtom rz β σ) (kG_Par_takeAtom rm (cv σ)) β := by
  unfold kY_Par_takeAtom kG_Par_takeAtom
  refine Rf_eq rfl (by decide) (hσ.1 3100) (by decide) (fun _ => ?_) (fun _ => ?_)
  · refine Rf_bnd hR hσ (zrs_cons (by decide) zrs_nil) (e_cons (by decide) rfl) (fun σ1 r1 hσ1 hr1 => ?_)
    refine Rf_eq rfl (by decide) hr1 (by decide) (fun _ => ?_) (fun _ => ?_)
    · refine Rf_bnd hR hσ1 zrs_nil rfl (fun σ2 r2 hσ2 hr2 => ?_)
      refine Rf_bnd hR hσ2 (zrs_cons (hσ2.1 3108) zrs_nil) (e_cons rfl rfl) (fun σ3 r3 hσ3 hr3 => ?_)
      refine Rf_eq rfl (by decide) (hσ3.1 3100) (by decide) (fun _ => ?_) (fun _ => ?_)
      · refine Rf_eq rfl (by decide) (hσ3.1 3202) (by decide) (fun _ => ?_) (fun _ => ?_)
        · exact Rf_tail hR hσ3 (zrs_cons (hσ.1 3203) (zrs_cons (hσ.1 1501) (zrs_cons hr2 (zrs_cons hr3 zrs_nil)))) (e_cons rfl (e_cons rfl (e_cons rfl (e_cons rfl rfl))))
        · refine Rf_eq rfl (by decide) (hσ3.1 3202) (by decide) (fun _ => ?_) (fun _ => ?_)
          · exact Rf_tail hR hσ3 (zrs_cons (hσ.1 3203) (zrs_cons (hσ.1 1501) (zrs_cons hr2 (zrs_cons hr3 zrs_nil)))) (e_cons rfl (e_cons rfl (e_cons rfl (e_cons rfl rfl))))
          · exact Rf_tail hR hσ3 (zrs_cons (hσ.1 3203) (zrs_cons (hσ.1 1501) (zrs_cons hr2 (zrs_cons hr3 (zrs_cons (by decide) zrs_nil))))) (e_cons rfl (e_cons rfl (e_cons rfl (e_cons rfl (e_cons (by decide) rfl)))))
      · exact Rf_some hσ3 (by decide) (by decide)
    · refine Rf_bnd hR hσ1 zrs_nil rfl (fun σ4 r4 hσ4 hr4 => ?_)
      refine Rf_bnd hR hσ4 (zrs_cons (hσ.1 1501) zrs_nil) (e_cons rfl rfl) (fun σ5 r5 hσ5 hr5 => ?_)
      exact Rf_some hσ5 (by decide) (by decide)
  · exact Rf_some hσ (by decide) (by decide)
theorem rY_Par_takeAtom_p95 (rz : zF) (rm : mF) (hR : Rc rz rm) (β : Nat) (σ : zS) (hσ : zOK σ) (x0 x1 x2 x3 : Int) (hx0 : zr x0) (hx1 : zr x1) (hx2 : zr x2) (hx3 : zr x3) : Rf (kY_Par_takeAtom_p95 rz β σ x0 x1 x2 x3) (kG_Par_takeAtom_p95 rm (cv σ) (i32 x0) (i32 x1) (i32 x2) (i32 x3)) β := by
  unfold kY_Par_takeAtom_p95 kG_Par_takeAtom_p95
  exact Rf_tail hR hσ (zrs_cons hx0 (zrs_cons hx1 (zrs_cons hx2 (zrs_cons hx3 (zrs_cons (by decide) zrs_nil))))) (e_cons rfl (e_cons rfl (e_cons rfl (e_cons rfl (e_cons (by decide) rfl)))))
theorem rY_Par_takeAtom_p100 (rz : zF) (rm : mF) (hR : Rc rz rm) (β : Nat) (σ : zS) (hσ : zOK σ) (x0 x1 x2 x3 x4 : Int) (hx0 : zr x0) (hx1 : zr x1) (hx2 : zr x2) (hx3 : zr x3) (hx4 : zr x4) : Rf (kY_Par_takeAtom_p100 rz β σ x0 x1 x2 x3 x4) (kG_Par_takeAtom_p100 rm (cv σ) (i32 x0) (i32 x1) (i32 x2) (i32 x3) (i32 x4)) β := by
  unfold kY_Par_takeAtom_p100 kG_Par_takeAtom_p100
  refine Rf_eq rfl (by decide) hx4 (by decide) (fun _ => ?_) (fun _ => ?_)
  · exact Rf_tail hR hσ (zrs_cons hx0 (zrs_cons hx1 (zrs_cons hx2 (zrs_cons hx3 (zrs_cons hx4 (zrs_cons (by decide) (zrs_cons hx2 zrs_nil))))))) (e_cons rfl (e_cons rfl (e_cons rfl (e_cons rfl (e_cons rfl (e_cons (by decide) (e_cons rfl rfl)))))))
  · exact Rf_tail hR hσ (zrs_cons hx0 (zrs_cons hx1 (zrs_cons hx2 (zrs_cons hx3 (zrs_cons hx4 (zrs_cons (by decide) (zrs_cons hx2 zrs_nil))))))) (e_cons rfl (e_cons rfl (e_cons rfl (e_cons rfl (e_cons rfl (e_cons (by decide) (e_cons rfl rfl)))))))
theorem rY_Par_takeAtom_p114 (rz : zF) (rm : mF) (hR : Rc rz rm) (β : Nat) (σ : zS) (hσ : zOK σ) (x0 x1 x2 x3 x4 x5 x6 : Int) (hx0 : zr x0) (hx1 : zr x1) (hx2 : zr x2) (hx3 : zr x3) (hx4 : zr x4) (hx5 : zr x5) (hx6 : zr x6) : Rf (kY_Par_takeAtom_p114 rz β σ x0 x1 x2 x3 x4 x5 x6) (kG_Par_takeAtom_p114 rm (cv σ) (i32 x0) (i32 x1) (i32 x2) (i32 x3) (i32 x4) (i32 x5) (i32 x6)) β := by
  unfold kY_Par_takeAtom_p114 kG_Par_takeAtom_p114
  refine Rf_bnd hR hσ (zrs_cons hx6 (zrs_cons hx5 (zrs_cons hx3 (zrs_cons hx0 zrs_nil)))) (e_cons rfl (e_cons rfl (e_cons rfl (e_cons rfl rfl)))) (fun σ1 r1 hσ1 hr1 => ?_)
  refine Rf_eq rfl (by decide) hx4 (by decide) (fun _ => ?_) (fun _ => ?_)
  · refine Rf_bnd hR hσ1 (zrs_cons (by decide) (zrs_cons hx1 (zrs_cons (by decide) zrs_nil))) (e_cons (by decide) (e_cons rfl (e_cons (by decide) rfl))) (fun σ2 r2 hσ2 hr2 => ?_)
    refine Rf_Add rfl hr2 hσ2 (by decide) (by decide) (by decide) (by decide) (fun σ3 hσ3 => ?_)
    exact Rf_tail hR hσ3 (zrs_cons hx0 (zrs_cons hx1 (zrs_cons hx2 (zrs_cons hx3 (zrs_cons hx4 zrs_nil))))) (e_cons rfl (e_cons rfl (e_cons rfl (e_cons rfl (e_cons rfl rfl)))))
  · refine Rf_bnd hR hσ1 (zrs_cons hx1 zrs_nil) (e_cons rfl rfl) (fun σ4 r4 hσ4 hr4 => ?_)
    exact Rf_tail hR hσ4 (zrs_cons hx0 (zrs_cons hx1 (zrs_cons hx2 (zrs_cons hx3 (zrs_cons hx4 zrs_nil))))) (e_cons rfl (e_cons rfl (e_cons rfl (e_cons rfl (e_cons rfl rfl)))))
theorem rY_Par_takeAtom_p151 (rz : zF) (rm : mF) (hR : Rc rz rm) (β : Nat) (σ : zS) (hσ : zOK σ) (x0 x1 x2 x3 x4 : Int) (hx0 : zr x0) (hx1 : zr x1) (hx2 : zr x2) (hx3 : zr x3) (hx4 : zr x4) : Rf (kY_Par_takeAtom_p151 rz β σ x0 x1 x2 x3 x4) (kG_Par_takeAtom_p151 rm (cv σ) (i32 x0) (i32 x1) (i32 x2) (i32 x3) (i32 x4)) β := by
  unfold kY_Par_takeAtom_p151 kG_Par_takeAtom_p151
  exact Rf_some hσ (by decide) (by decide)
theorem rY_Par_takeBound (rz : zF) (rm : mF) (hR : Rc rz rm) (β : Nat) (σ : zS) (hσ : zOK σ) : Rf (kY_Par_takeBound rz β σ) (kG_Par_takeBound rm (cv σ)) β := by
  unfold kY_Par_takeBound kG_Par_takeBound
  refine Rf_bnd hR hσ zrs_nil rfl (fun σ1 r1 hσ1 hr1 => ?_)
  exact Rf_tail hR hσ1 (zrs_cons (hσ.1 3202) (zrs_cons (hσ.1 1402) (zrs_cons (by decide) zrs_nil))) (e_cons rfl (e_cons rfl (e_cons (by decide) rfl)))
theorem rY_Par_takeBound_p25 (rz : zF) (rm : mF) (hR : Rc rz rm) (β : Nat) (σ : zS) (hσ : zOK σ) (x0 x1 x2 : Int) (hx0 : zr x0) (hx1 : zr x1) (hx2 : zr x2) : Rf (kY_Par_takeBound_p25 rz β σ x0 x1 x2) (kG_Par_takeBound_p25 rm (cv σ) (i32 x0) (i32 x1) (i32 x2)) β := by
  unfold kY_Par_takeBound_p25 kG_Par_takeBound_p25
  refine Rf_le (by decide) rfl (by decide) hx2 (fun _ => ?_) (fun _ => ?_)
  · exact Rf_tail hR hσ (zrs_cons hx0 (zrs_cons hx1 (zrs_cons hx2 zrs_nil))) (e_cons rfl (e_cons rfl (e_cons rfl rfl)))
  · refine Rf_bnd hR hσ (zrs_cons (by decide) zrs_nil) (e_cons (by decide) rfl) (fun σ1 r1 hσ1 hr1 => ?_)
    refine Rf_eq rfl (by decide) hr1 (by decide) (fun _ => ?_) (fun _ => ?_)
    · exact Rf_tail hR hσ1 (zrs_cons hx0 (zrs_cons hx1 (zrs_cons hx2 zrs_nil))) (e_cons rfl (e_cons rfl (e_cons rfl rfl)))
    · refine Rf_bnd hR hσ1 zrs_nil rfl (fun σ2 r2 hσ2 hr2 => ?_)
      refine Rf_eq rfl (by decide) hr2 (by decide) (fun _ => ?_) (fun _ => ?_)
      · refine Rf_bnd hR hσ2 (zrs_cons (by decide) (zrs_cons (hσ2.1 3203) zrs_nil)) (e_cons (by decide) (e_cons rfl rfl)) (fun σ4 r4 hσ4 hr4 => ?_)
        exact Rf_some hσ4 (by decide) (by decide)
      · refine Rf_bnd hR hσ2 zrs_nil rfl (fun σ3 r3 hσ3 hr3 => ?_)
        refine Rf_g (fun hg1 => ?_)
        exact Rf_tail hR hσ3 (zrs_cons hx0 (zrs_cons hx1 (zrs_cons hg1 zrs_nil))) (e_cons rfl (e_cons rfl (e_cons (e_add rfl (by decide)) rfl)))
theorem rY_Par_takeBound_p83 (rz : zF) (rm : mF) (hR : Rc rz rm) (β : Nat) (σ : zS) (hσ : zOK σ) (x0 x1 x2 : Int) (hx0 : zr x0) (hx1 : zr x1) (hx2 : zr x2) : Rf (kY_Par_takeBound_p83 rz β σ x0 x1 x2) (kG_Par_takeBound_p83 rm (cv σ) (i32 x0) (i32 x1) (i32 x2)) β := by
  unfold kY_Par_takeBound_p83 kG_Par_takeBound_p83
  refine Rf_eq rfl rfl (hσ.1 1402) hx1 (fun _ => ?_) (fun _ => ?_)
  · exact Rf_tail hR hσ (zrs_cons hx0 (zrs_cons hx1 (zrs_cons hx2 zrs_nil))) (e_cons rfl (e_cons rfl (e_cons rfl rfl)))
  · refine Rf_bnd hR hσ (zrs_cons (by decide) zrs_nil) (e_cons (by decide) rfl) (fun σ1 r1 hσ1 hr1 => ?_)
    refine Rf_eq rfl (by decide) hr1 (by decide) (fun _ => ?_) (fun _ => ?_)
    · exact Rf_tail hR hσ1 (zrs_cons hx0 (zrs_cons hx1 (zrs_cons hx2 zrs_nil))) (e_cons rfl (e_cons rfl (e_cons rfl rfl)))
    · refine Rf_bnd hR hσ1 (zrs_cons hx0 (zrs_cons hx1 zrs_nil)) (e_cons rfl (e_cons rfl rfl)) (fun σ2 r2 hσ2 hr2 => ?_)
      refine Rf_bnd hR hσ2 zrs_nil rfl (fun σ3 r3 hσ3 hr3 => ?_)
      exact Rf_some hσ3 (by decide) (by decide)
theorem rY_Par_takeBound_p106 (rz : zF) (rm : mF) (hR : Rc rz rm) (β : Nat) (σ : zS) (hσ : zOK σ) (x0 x1 x2 : Int) (hx0 : zr x0) (hx1 : zr x1) (hx2 : zr x2) : Rf (kY_Par_takeBound_p106 rz β σ x0 x1 x2) (kG_Par_takeBound_p106 rm (cv σ) (i32 x0) (i32 x1) (i32 x2)) β := by
  unfold kY_Par_takeBound_p106 kG_Par_takeBound_p106
  refine Rf_bnd hR hσ zrs_nil rfl (fun σ1 r1 hσ1 hr1 => ?_)
  exact Rf_some hσ1 (by decide) (by decide)
theorem rY_Par_takeEquation (rz : zF) (rm : mF) (hR : Rc rz rm) (β : Nat) (σ : zS) (hσ : zOK σ) (x0 : Int) (hx0 : zr x0) : Rf (kY_Par_takeEquation rz β σ x0) (kG_Par_takeEquation rm (cv σ) (i32 x0)) β := by
  unfold kY_Par_takeEquation kG_Par_takeEquation
  refine Rf_eq rfl (by decide) (hσ.1 3100) (by decide) (fun _ => ?_) (fun _ => ?_)
  · refine Rf_bnd hR hσ (zrs_cons (by decide) zrs_nil) (e_cons (by decide) rfl) (fun σ1 r1 hσ1 hr1 => ?_)
    refine Rf_eq rfl (by decide) hr1 (by decide) (fun _ => ?_) (fun _ => ?_)
    · refine Rf_bnd hR hσ1 (zrs_cons (by decide) zrs_nil) (e_cons (by decide) rfl) (fun σ2 r2 hσ2 hr2 => ?_)
      refine Rf_eq rfl (by decide) hr2 (by decide) (fun _ => ?_) (fun _ => ?_)
      · refine Rf_bnd hR hσ2 zrs_nil rfl (fun σ3 r3 hσ3 hr3 => ?_)
        exact Rf_some hσ3 (by decide) (by decide)
      · exact Rf_tail hR hσ2 (zrs_cons hx0 (zrs_cons (hσ.1 3202) zrs_nil)) (e_cons rfl (e_cons rfl rfl))
    · exact Rf_tail hR hσ1 (zrs_cons hx0 (zrs_cons (hσ.1 3202) zrs_nil)) (e_cons rfl (e_cons rfl rfl))
  · exact Rf_some hσ (by decide) (by decide)
theorem rY_Par_takeEquation_p45 (rz : zF) (rm : mF) (hR : Rc rz rm) (β : Nat) (σ : zS) (hσ : zOK σ) (x0 x1 : Int) (hx0 : zr x0) (hx1 : zr x1) : Rf (kY_Par_takeEquation_p45 rz β σ x0 x1) (kG_Par_takeEquation_p45 rm (cv σ) (i32 x0) (i32 x1)) β := by
  unfold kY_Par_takeEquation_p45 kG_Par_takeEquation_p45
  refine Rf_bnd hR hσ zrs_nil rfl (fun σ1 r1 hσ1 hr1 => ?_)
  refine Rf_bnd hR hσ1 (zrs_cons (hσ1.1 3108) zrs_nil) (e_cons rfl rfl) (fun σ2 r2 hσ2 hr2 => ?_)
  refine Rf_bnd hR hσ2 (zrs_cons hx1 (zrs_cons hx0 (zrs_cons (hσ1.1 1501) zrs_nil))) (e_cons rfl (e_cons rfl (e_cons rfl rfl))) (fun σ3 r3 hσ3 hr3 => ?_)
  refine Rf_Add rfl hr3 hσ3 (by decide) (by decide) (by decide) (by decide) (fun σ4 hσ4 => ?_)
  exact Rf_some hσ4 (by decide) (by decide)
theorem rY_Par_takeName (rz : zF) (rm : mF) (hR : Rc rz rm) (β : Nat) (σ : zS) (hσ : zOK σ) : Rf (kY_Par_takeName rz β σ) (kG_Par_takeName rm (cv σ)) β := by
  unfold kY_Par_takeName kG_Par_takeName
  refine Rf_bnd hR hσ (zrs_cons (by decide) zrs_nil) (e_cons (by decide) rfl) (fun σ1 r1 hσ1 hr1 => ?_)
  refine Rf_eq rfl (by decide) hr1 (by decide) (fun _ => ?_) (fun _ => ?_)
  · refine Rf_bnd hR hσ1 zrs_nil rfl (fun σ6 r6 hσ6 hr6 => ?_)
    exact Rf_some hσ6 (by decide) (by decide)
  · refine Rf_bnd hR hσ1 zrs_nil rfl (fun σ2 r2 hσ2 hr2 => ?_)
    refine Rf_eq rfl (by decide) hr2 (by decide) (fun _ => ?_) (fun _ => ?_)
    · refine Rf_bnd hR hσ2 (zrs_cons (by decide) (zrs_cons (hσ2.1 3203) zrs_nil)) (e_cons (by decide) (e_cons rfl rfl)) (fun σ5 r5 hσ5 hr5 => ?_)
      exact Rf_some hσ5 (by decide) (by decide)
    · refine Rf_Add rfl hr2 hσ2 (by decide) (by decide) (by decide) (by decide) (fun σ3 hσ3 => ?_)
      refine Rf_bnd hR hσ3 zrs_nil rfl (fun σ4 r4 hσ4 hr4 => ?_)
      exact Rf_some hσ4 hr2 rfl
theorem rY_Par_takePrefixes (rz : zF) (rm : mF) (hR : Rc rz rm) (β : Nat) (σ : zS) (hσ : zOK σ) : Rf (kY_Par_takePrefixes rz β σ) (kG_Par_takePrefixes rm (cv σ)) β := by
  unfold kY_Par_takePrefixes kG_Par_takePrefixes
  exact Rf_tail hR hσ (zrs_cons (by decide) (zrs_cons (by decide) zrs_nil)) (e_cons (by decide) (e_cons (by decide) rfl))
theorem rY_Par_takePrefixes_p4 (rz : zF) (rm : mF) (hR : Rc rz rm) (β : Nat) (σ : zS) (hσ : zOK σ) (x0 x1 : Int) (hx0 : zr x0) (hx1 : zr x1) : Rf (kY_Par_takePrefixes_p4 rz β σ x0 x1) (kG_Par_takePrefixes_p4 rm (cv σ) (i32 x0) (i32 x1)) β := by
  unfold kY_Par_takePrefixes_p4 kG_Par_takePrefixes_p4
  refine Rf_le (by decide) rfl (by decide) hx1 (fun _ => ?_) (fun _ => ?_)
  · exact Rf_tail hR hσ (zrs_cons hx0 (zrs_cons hx1 zrs_nil)) (e_cons rfl (e_cons rfl rfl))
  · refine Rf_eq rfl (by decide) hx0 (by decide) (fun _ => ?_) (fun _ => ?_)
    · exact Rf_tail hR hσ (zrs_cons hx0 (zrs_cons hx1 zrs_nil)) (e_cons rfl (e_cons rfl rfl))
    · refine Rf_eq rfl (by decide) (hσ.1 3100) (by decide) (fun _ => ?_) (fun _ => ?_)
      · refine Rf_le rfl (by decide) (hσ.1 3108) (by decide) (fun _ => ?_) (fun _ => ?_)
        · refine Rf_bnd hR hσ (zrs_cons (by decide) zrs_nil) (e_cons (by decide) rfl) (fun σ1 r1 hσ1 hr1 => ?_)
          refine Rf_eq rfl (by decide) hr1 (by decide) (fun _ => ?_) (fun _ => ?_)
          · refine Rf_bnd hR hσ1 (zrs_cons (by decide) zrs_nil) (e_cons (by decide) rfl) (fun σ2 r2 hσ2 hr2 => ?_)
            refine Rf_eq rfl (by decide) hr2 (by decide) (fun _ => ?_) (fun _ => ?_)
            · refine Rf_bnd hR hσ2 (zrs_cons (by decide) zrs_nil) (e_cons (by decide) rfl) (fun σ3 r3 hσ3 hr3 => ?_)
              refine Rf_eq rfl (by decide) hr3 (by decide) (fun _ => ?_) (fun _ => ?_)
              · refine Rf_bnd hR hσ3 (zrs_cons (by decide) zrs_nil) (e_cons (by decide) rfl) (fun σ4 r4 hσ4 hr4 => ?_)
                refine Rf_eq rfl (by decide) hr4 (by decide) (fun _ => ?_) (fun _ => ?_)
                · exact Rf_tail hR hσ4 (zrs_cons (by decide) (zrs_cons hx1 zrs_nil)) (e_cons (by decide) (e_cons rfl rfl))
                · exact Rf_tail hR hσ4 (zrs_cons hx0 (zrs_cons hx1 zrs_nil)) (e_cons rfl (e_cons rfl rfl))
              · exact Rf_tail hR hσ3 (zrs_cons hx0 (zrs_cons hx1 zrs_nil)) (e_cons rfl (e_cons rfl rfl))
            · exact Rf_tail hR hσ2 (zrs_cons hx0 (zrs_cons hx1 zrs_nil)) (e_cons rfl (e_cons rfl rfl))
          · exact Rf_tail hR hσ1 (zrs_cons hx0 (zrs_cons hx1 zrs_nil)) (e_cons rfl (e_cons rfl rfl))
        · refine Rf_bnd hR hσ (zrs_cons (by decide) (zrs_cons (hσ.1 3203) zrs_nil)) (e_cons (by decide) (e_cons rfl rfl)) (fun σ5 r5 hσ5 hr5 => ?_)
          exact Rf_tail hR hσ5 (zrs_cons hx0 (zrs_cons hx1 zrs_nil)) (e_cons rfl (e_cons rfl rfl))
      · exact Rf_tail hR hσ (zrs_cons hx0 (zrs_cons hx1 zrs_nil)) (e_cons rfl (e_cons rfl rfl))
theorem rY_Par_takePrefixes_p68 (rz : zF) (rm : mF) (hR : Rc rz rm) (β : Nat) (σ : zS) (hσ : zOK σ) (x0 x1 : Int) (hx0 : zr x0) (hx1 : zr x1) : Rf (kY_Par_takePrefixes_p68 rz β σ x0 x1) (kG_Par_takePrefixes_p68 rm (cv σ) (i32 x0) (i32 x1)) β := by
  unfold kY_Par_takePrefixes_p68 kG_Par_takePrefixes_p68
  refine Rf_bnd hR hσ (zrs_cons (hσ.1 3202) (zrs_cons (by decide) zrs_nil)) (e_cons rfl (e_cons (by decide) rfl)) (fun σ1 r1 hσ1 hr1 => ?_)
  refine Rf_bnd hR hσ1 zrs_nil rfl (fun σ2 r2 hσ2 hr2 => ?_)
  exact Rf_tail hR hσ2 (zrs_cons hx0 (zrs_cons hx1 zrs_nil)) (e_cons rfl (e_cons rfl rfl))
theorem rY_Par_takePrefixes_p114 (rz : zF) (rm : mF) (hR : Rc rz rm) (β : Nat) (σ : zS) (hσ : zOK σ) (x0 x1 : Int) (hx0 : zr x0) (hx1 : zr x1) : Rf (kY_Par_takePrefixes_p114 rz β σ x0 x1) (kG_Par_takePrefixes_p114 rm (cv σ) (i32 x0) (i32 x1)) β := by
  unfold kY_Par_takePrefixes_p114 kG_Par_takePrefixes_p114
  refine Rf_bnd hR hσ zrs_nil rfl (fun σ1 r1 hσ1 hr1 => ?_)
  exact Rf_tail hR hσ1 (zrs_cons hx0 (zrs_cons hx1 zrs_nil)) (e_cons rfl (e_cons rfl rfl))
theorem rY_Par_takePrefixes_p123 (rz : zF) (rm : mF) (hR : Rc rz rm) (β : Nat) (σ : zS) (hσ : zOK σ) (x0 x1 : Int) (hx0 : zr x0) (hx1 : zr x1) : Rf (kY_Par_takePrefixes_p123 rz β σ x0 x1) (kG_Par_takePrefixes_p123 rm (cv σ) (i32 x0) (i32 x1)) β := by
  unfold kY_Par_takePrefixes_p123 kG_Par_takePrefixes_p123
  refine Rf_g (fun hg1 => ?_)
  exact Rf_tail hR hσ (zrs_cons hx0 (zrs_cons hg1 zrs_nil)) (e_cons rfl (e_cons (e_add rfl (by decide)) rfl))
theorem rY_Par_takePrefixes_p129 (rz : zF) (rm : mF) (hR : Rc rz rm) (β : Nat) (σ : zS) (hσ : zOK σ) (x0 x1 : Int) (hx0 : zr x0) (hx1 : zr x1) : Rf (kY_Par_takePrefixes_p129 rz β σ x0 x1) (kG_Par_takePrefixes_p129 rm (cv σ) (i32 x0) (i32 x1)) β := by
  unfold kY_Par_takePrefixes_p129 kG_Par_takePrefixes_p129
  exact Rf_some hσ (by decide) (by decide)
theorem rY_Par_takeSign (rz : zF) (rm : mF) (hR : Rc rz rm) (β : Nat) (σ : zS) (hσ : zOK σ) : Rf (kY_Par_takeSign rz β σ) (kG_Par_takeSign rm (cv σ)) β := by
  unfold kY_Par_takeSign kG_Par_takeSign
  exact Rf_tail hR hσ (zrs_cons (by decide) (zrs_cons (by decide) zrs_nil)) (e_cons (by decide) (e_cons (by decide) rfl))
theorem rY_Par_takeSign_p4 (rz : zF) (rm : mF) (hR : Rc rz rm) (β : Nat) (σ : zS) (hσ : zOK σ) (x0 x1 : Int) (hx0 : zr x0) (hx1 : zr x1) : Rf (kY_Par_takeSign_p4 rz β σ x0 x1) (kG_Par_takeSign_p4 rm (cv σ) (i32 x0) (i32 x1)) β := by
  unfold kY_Par_takeSign_p4 kG_Par_takeSign_p4
  refine Rf_le (by decide) rfl (by decide) hx1 (fun _ => ?_) (fun _ => ?_)
  · exact Rf_tail hR hσ (zrs_cons hx0 (zrs_cons hx1 zrs_nil)) (e_cons rfl (e_cons rfl rfl))
  · refine Rf_eq rfl (by decide) hx0 (by decide) (fun _ => ?_) (fun _ => ?_)
    · exact Rf_tail hR hσ (zrs_cons hx0 (zrs_cons hx1 zrs_nil)) (e_cons rfl (e_cons rfl rfl))
    · refine Rf_bnd hR hσ (zrs_cons (by decide) zrs_nil) (e_cons (by decide) rfl) (fun σ1 r1 hσ1 hr1 => ?_)
      refine Rf_eq rfl (by decide) hr1 (by decide) (fun _ => ?_) (fun _ => ?_)
      · exact Rf_tail hR hσ1 (zrs_cons hx0 (zrs_cons hx1 zrs_nil)) (e_cons rfl (e_cons rfl rfl))
      · refine Rf_bnd hR hσ1 zrs_nil rfl (fun σ2 r2 hσ2 hr2 => ?_)
        refine Rf_eq rfl (by decide) hr2 (by decide) (fun _ => ?_) (fun _ => ?_)
        · exact Rf_tail hR hσ2 (zrs_cons hx0 (zrs_cons hx1 zrs_nil)) (e_cons rfl (e_cons rfl rfl))
        · exact Rf_tail hR hσ2 (zrs_cons hx0 (zrs_cons hx1 (zrs_cons (by decide) zrs_nil))) (e_cons rfl (e_cons rfl (e_cons (by decide) rfl)))
theorem rY_Par_takeSign_p37 (rz : zF) (rm : mF) (hR : Rc rz rm) (β : Nat) (σ : zS) (hσ : zOK σ) (x0 x1 : Int) (hx0 : zr x0) (hx1 : zr x1) : Rf (kY_Par_takeSign_p37 rz β σ x0 x1) (kG_Par_takeSign_p37 rm (cv σ) (i32 x0) (i32 x1)) β := by
  unfold kY_Par_takeSign_p37 kG_Par_takeSign_p37
  exact Rf_tail hR hσ (zrs_cons hx0 (zrs_cons hx1 (zrs_cons (by decide) zrs_nil))) (e_cons rfl (e_cons rfl (e_cons (by decide) rfl)))
theorem rY_Par_takeSign_p38 (rz : zF) (rm : mF) (hR : Rc rz rm) (β : Nat) (σ : zS) (hσ : zOK σ) (x0 x1 x2 : Int) (hx0 : zr x0) (hx1 : zr x1) (hx2 : zr x2) : Rf (kY_Par_takeSign_p38 rz β σ x0 x1 x2) (kG_Par_takeSign_p38 rm (cv σ) (i32 x0) (i32 x1) (i32 x2)) β := by
  unfold kY_Par_takeSign_p38 kG_Par_takeSign_p38
  refine Rf_g (fun hg1 => ?_)
  exact Rf_tail hR hσ (zrs_cons hx2 (zrs_cons hg1 zrs_nil)) (e_cons rfl (e_cons (e_add rfl (by decide)) rfl))
theorem rY_Par_takeSign_p45 (rz : zF) (rm : mF) (hR : Rc rz rm) (β : Nat) (σ : zS) (hσ : zOK σ) (x0 x1 : Int) (hx0 : zr x0) (hx1 : zr x1) : Rf (kY_Par_takeSign_p45 rz β σ x0 x1) (kG_Par_takeSign_p45 rm (cv σ) (i32 x0) (i32 x1)) β := by
  unfold kY_Par_takeSign_p45 kG_Par_takeSign_p45
  refine Rf_eq rfl (by decide) (hσ.1 3205) (by decide) (fun _ => ?_) (fun _ => ?_)
  · exact Rf_tail hR hσ (zrs_cons hx0 (zrs_cons hx1 (zrs_cons (hσ.1 3202) zrs_nil))) (e_cons rfl (e_cons rfl (e_cons rfl rfl)))
  · exact Rf_tail hR hσ (zrs_cons hx0 (zrs_cons hx1 (zrs_cons (by decide) zrs_nil))) (e_cons rfl (e_cons rfl (e_cons (by decide) rfl)))
theorem rY_Par_takeSign_p66 (rz : zF) (rm : mF) (hR : Rc rz rm) (β : Nat) (σ : zS) (hσ : zOK σ) (x0 x1 x2 : Int) (hx0 : zr x0) (hx1 : zr x1) (hx2 : zr x2) : Rf (kY_Par_takeSign_p66 rz β σ x0 x1 x2) (kG_Par_takeSign_p66 rm (cv σ) (i32 x0) (i32 x1) (i32 x2)) β := by
  unfold kY_Par_takeSign_p66 kG_Par_takeSign_p66
  refine Rf_out rfl hx2 (fun _ => ?_) (fun _ => ?_)
  · refine Rf_bnd hR hσ zrs_nil rfl (fun σ1 r1 hσ1 hr1 => ?_)
    exact Rf_some hσ1 (by decide) (by decide)
  · refine Rf_eq rfl (by decide) hx2 (by decide) (fun _ => ?_) (fun _ => ?_)
    · refine Rf_bnd hR hσ zrs_nil rfl (fun σ2 r2 hσ2 hr2 => ?_)
      exact Rf_some hσ2 (by decide) (by decide)
    · refine Rf_eq rfl (by decide) hx2 (by decide) (fun _ => ?_) (fun _ => ?_)
      · refine Rf_bnd hR hσ zrs_nil rfl (fun σ3 r3 hσ3 hr3 => ?_)
        exact Rf_some hσ3 (by decide) (by decide)
      · refine Rf_eq rfl (by decide) hx2 (by decide) (fun _ => ?_) (fun _ => ?_)
        · refine Rf_bnd hR hσ zrs_nil rfl (fun σ4 r4 hσ4 hr4 => ?_)
          exact Rf_some hσ4 (by decide) (by decide)
        · refine Rf_eq rfl (by decide) hx2 (by decide) (fun _ => ?_) (fun _ => ?_)
          · refine Rf_bnd hR hσ zrs_nil rfl (fun σ5 r5 hσ5 hr5 => ?_)
            exact Rf_some hσ5 (by decide) (by decide)
          · refine Rf_eq rfl (by decide) hx2 (by decide) (fun _ => ?_) (fun _ => ?_)
            · refine Rf_bnd hR hσ zrs_nil rfl (fun σ6 r6 hσ6 hr6 => ?_)
              exact Rf_some hσ6 (by decide) (by decide)
            · refine Rf_eq rfl (by decide) hx2 (by decide) (fun _ => ?_) (fun _ => ?_)
              · refine Rf_bnd hR hσ zrs_nil rfl (fun σ7 r7 hσ7 hr7 => ?_)
                exact Rf_some hσ7 (by decide) (by decide)
              · refine Rf_eq rfl (by decide) hx2 (by decide) (fun _ => ?_) (fun _ => ?_)
                · refine Rf_bnd hR hσ zrs_nil rfl (fun σ8 r8 hσ8 hr8 => ?_)
                  exact Rf_some hσ8 (by decide) (by decide)
                · refine Rf_eq rfl (by decide) hx2 (by decide) (fun _ => ?_) (fun _ => ?_)
                  · refine Rf_bnd hR hσ zrs_nil rfl (fun σ9 r9 hσ9 hr9 => ?_)
                    exact Rf_some hσ9 (by decide) (by decide)
                  · refine Rf_eq rfl (by decide) hx2 (by decide) (fun _ => ?_) (fun _ => ?_)
                    · refine Rf_bnd hR hσ zrs_nil rfl (fun σ10 r10 hσ10 hr10 => ?_)
                      exact Rf_some hσ10 (by decide) (by decide)
                    · refine Rf_eq rfl (by decide) hx2 (by decide) (fun _ => ?_) (fun _ => ?_)
                      · refine Rf_bnd hR hσ zrs_nil rfl (fun σ11 r11 hσ11 hr11 => ?_)
                        exact Rf_some hσ11 (by decide) (by decide)
                      · refine Rf_eq rfl (by decide) hx2 (by decide) (fun _ => ?_) (fun _ => ?_)
                        · refine Rf_bnd hR hσ (zrs_cons hx2 zrs_nil) (e_cons rfl rfl) (fun σ12 r12 hσ12 hr12 => ?_)
                          refine Rf_bnd hR hσ12 (zrs_cons hr12 zrs_nil) (e_cons rfl rfl) (fun σ13 r13 hσ13 hr13 => ?_)
                          exact Rf_tail hR hσ13 (zrs_cons hx0 (zrs_cons hx2 zrs_nil)) (e_cons rfl (e_cons rfl rfl))
                        · refine Rf_eq rfl (by decide) hx2 (by decide) (fun _ => ?_) (fun _ => ?_)
                          · refine Rf_bnd hR hσ (zrs_cons hx2 zrs_nil) (e_cons rfl rfl) (fun σ14 r14 hσ14 hr14 => ?_)
                            refine Rf_bnd hR hσ14 (zrs_cons hr14 zrs_nil) (e_cons rfl rfl) (fun σ15 r15 hσ15 hr15 => ?_)
                            exact Rf_tail hR hσ15 (zrs_cons hx0 (zrs_cons hx2 zrs_nil)) (e_cons rfl (e_cons rfl rfl))
                          · refine Rf_eq rfl (by decide) hx2 (by decide) (fun _ => ?_) (fun _ => ?_)
                            · refine Rf_bnd hR hσ (zrs_cons (by decide) zrs_nil) (e_cons (by decide) rfl) (fun σ16 r16 hσ16 hr16 => ?_)
                              refine Rf_bnd hR hσ16 (zrs_cons hr16 zrs_nil) (e_cons rfl rfl) (fun σ17 r17 hσ17 hr17 => ?_)
                              exact Rf_tail hR hσ17 (zrs_cons hx0 (zrs_cons hx2 zrs_nil)) (e_cons rfl (e_cons rfl rfl))
                            · refine Rf_bnd hR hσ zrs_nil rfl (fun σ18 r18 hσ18 hr18 => ?_)
                              refine Rf_eq rfl (by decide) hr18 (by decide) (fun _ => ?_) (fun _ => ?_)
                              · refine Rf_bnd hR hσ18 zrs_nil rfl (fun σ19 r19 hσ19 hr19 => ?_)
                                exact Rf_some hσ19 (by decide) (by decide)
                              · exact Rf_tail hR hσ18 (zrs_cons hx0 (zrs_cons hx2 zrs_nil)) (e_cons rfl (e_cons rfl rfl))
theorem rY_Par_takeSign_p188 (rz : zF) (rm : mF) (hR : Rc rz rm) (β : Nat) (σ : zS) (hσ : zOK σ) (x0 x1 : Int) (hx0 : zr x0) (hx1 : zr x1) : Rf (kY_Par_takeSign_p188 rz β σ x0 x1) (kG_Par_takeSign_p188 rm (cv σ) (i32 x0) (i32 x1)) β := by
  unfold kY_Par_takeSign_p188 kG_Par_takeSign_p188
  refine Rf_bnd hR hσ (zrs_cons hx1 (zrs_cons (by decide) zrs_nil)) (e_cons rfl (e_cons (by decide) rfl)) (fun σ1 r1 hσ1 hr1 => ?_)
  refine Rf_bnd hR hσ1 zrs_nil rfl (fun σ2 r2 hσ2 hr2 => ?_)
  exact Rf_some hσ2 (by decide) (by decide)
theorem rY_Par_takeTerm (rz : zF) (rm : mF) (hR : Rc rz rm) (β : Nat) (σ : zS) (hσ : zOK σ) (x0 : Int) (hx0 : zr x0) : Rf (kY_Par_takeTerm rz β σ x0) (kG_Par_takeTerm rm (cv σ) (i32 x0)) β := by
  unfold kY_Par_takeTerm kG_Par_takeTerm
  refine Rf_le rfl (by decide) hx0 (by decide) (fun _ => ?_) (fun _ => ?_)
  · refine Rf_bnd hR hσ (zrs_cons (by decide) zrs_nil) (e_cons (by decide) rfl) (fun σ1 r1 hσ1 hr1 => ?_)
    refine Rf_eq rfl (by decide) hr1 (by decide) (fun _ => ?_) (fun _ => ?_)
    · refine Rf_bnd hR hσ1 zrs_nil rfl (fun σ2 r2 hσ2 hr2 => ?_)
      refine Rf_bnd hR hσ2 (zrs_cons hx0 zrs_nil) (e_cons rfl rfl) (fun σ3 r3 hσ3 hr3 => ?_)
      refine Rf_bnd hR hσ3 (zrs_cons hr2 (zrs_cons (by decide) (zrs_cons hr3 (zrs_cons (hσ1.1 3203) zrs_nil)))) (e_cons rfl (e_cons (by decide) (e_cons rfl (e_cons rfl rfl)))) (fun σ4 r4 hσ4 hr4 => ?_)
      exact Rf_some hσ4 (by decide) (by decide)
    · refine Rf_bnd hR hσ1 zrs_nil rfl (fun σ5 r5 hσ5 hr5 => ?_)
      exact Rf_some hσ5 (by decide) (by decide)
  · refine Rf_bnd hR hσ (zrs_cons (by decide) (zrs_cons (hσ.1 3203) zrs_nil)) (e_cons (by decide) (e_cons rfl rfl)) (fun σ6 r6 hσ6 hr6 => ?_)
    exact Rf_some hσ6 (by decide) (by decide)
theorem rY_Par_takeTerms (rz : zF) (rm : mF) (hR : Rc rz rm) (β : Nat) (σ : zS) (hσ : zOK σ) (x0 : Int) (hx0 : zr x0) : Rf (kY_Par_takeTerms rz β σ x0) (kG_Par_takeTerms rm (cv σ) (i32 x0)) β := by
  unfold kY_Par_takeTerms kG_Par_takeTerms
  refine Rf_eq rfl (by decide) (hσ.1 3100) (by decide) (fun _ => ?_) (fun _ => ?_)
  · refine Rf_bnd hR hσ (zrs_cons (by decide) zrs_nil) (e_cons (by decide) rfl) (fun σ1 r1 hσ1 hr1 => ?_)
    refine Rf_eq rfl (by decide) hr1 (by decide) (fun _ => ?_) (fun _ => ?_)
    · exact Rf_tail hR hσ1 (zrs_cons hx0 zrs_nil) (e_cons rfl rfl)
    · exact Rf_tail hR hσ1 (zrs_cons hx0 (zrs_cons (by decide) (zrs_cons (by decide) (zrs_cons (by decide) zrs_nil)))) (e_cons rfl (e_cons (by decide) (e_cons (by decide) (e_cons (by decide) rfl))))
  · exact Rf_tail hR hσ (zrs_cons hx0 zrs_nil) (e_cons rfl rfl)
theorem rY_Par_takeTerms_p18 (rz : zF) (rm : mF) (hR : Rc rz rm) (β : Nat) (σ : zS) (hσ : zOK σ) (x0 : Int) (hx0 : zr x0) : Rf (kY_Par_takeTerms_p18 rz β σ x0) (kG_Par_takeTerms_p18 rm (cv σ) (i32 x0)) β := by
  unfold kY_Par_takeTerms_p18 kG_Par_takeTerms_p18
  exact Rf_some hσ (by decide) (by decide)
theorem rY_Par_takeTerms_p27 (rz : zF) (rm : mF) (hR : Rc rz rm) (β : Nat) (σ : zS) (hσ : zOK σ) (x0 x1 x2 x3 : Int) (hx0 : zr x0) (hx1 : zr x1) (hx2 : zr x2) (hx3 : zr x3) : Rf (kY_Par_takeTerms_p27 rz β σ x0 x1 x2 x3) (kG_Par_takeTerms_p27 rm (cv σ) (i32 x0) (i32 x1) (i32 x2) (i32 x3)) β := by
  unfold kY_Par_takeTerms_p27 kG_Par_takeTerms_p27
  refine Rf_le (by decide) rfl (by decide) hx3 (fun _ => ?_) (fun _ => ?_)
  · exact Rf_tail hR hσ (zrs_cons hx0 (zrs_cons hx1 (zrs_cons hx2 (zrs_cons hx3 zrs_nil)))) (e_cons rfl (e_cons rfl (e_cons rfl (e_cons rfl rfl))))
  · refine Rf_eq rfl (by decide) hx2 (by decide) (fun _ => ?_) (fun _ => ?_)
    · exact Rf_tail hR hσ (zrs_cons hx0 (zrs_cons hx1 (zrs_cons hx2 (zrs_cons hx3 zrs_nil)))) (e_cons rfl (e_cons rfl (e_cons rfl (e_cons rfl rfl))))
    · refine Rf_bnd hR hσ zrs_nil rfl (fun σ1 r1 hσ1 hr1 => ?_)
      refine Rf_g (fun hg1 => ?_)
      refine Rf_bnd hR hσ1 (zrs_cons hg1 zrs_nil) (e_cons (e_add rfl (by decide)) rfl) (fun σ2 r2 hσ2 hr2 => ?_)
      refine Rf_eq rfl (by decide) (hσ2.1 3100) (by decide) (fun _ => ?_) (fun _ => ?_)
      · refine Rf_bnd hR hσ2 (zrs_cons (by decide) zrs_nil) (e_cons (by decide) rfl) (fun σ3 r3 hσ3 hr3 => ?_)
        refine Rf_eq rfl (by decide) hr3 (by decide) (fun _ => ?_) (fun _ => ?_)
        · refine Rf_g (fun hg2 => ?_)
          exact Rf_tail hR hσ3 (zrs_cons hx0 (zrs_cons hg2 (zrs_cons hx2 (zrs_cons hx3 zrs_nil)))) (e_cons rfl (e_cons (e_add rfl (by decide)) (e_cons rfl (e_cons rfl rfl))))
        · refine Rf_g (fun hg3 => ?_)
          exact Rf_tail hR hσ3 (zrs_cons hx0 (zrs_cons hg3 (zrs_cons hx2 (zrs_cons hx3 (zrs_cons (by decide) zrs_nil))))) (e_cons rfl (e_cons (e_add rfl (by decide)) (e_cons rfl (e_cons rfl (e_cons (by decide) rfl)))))
      · refine Rf_g (fun hg4 => ?_)
        exact Rf_tail hR hσ2 (zrs_cons hx0 (zrs_cons hg4 (zrs_cons hx2 (zrs_cons hx3 zrs_nil)))) (e_cons rfl (e_cons (e_add rfl (by decide)) (e_cons rfl (e_cons rfl rfl))))
theorem rY_Par_takeTerms_p78 (rz : zF) (rm : mF) (hR : Rc rz rm) (β : Nat) (σ : zS) (hσ : zOK σ) (x0 x1 x2 x3 : Int) (hx0 : zr x0) (hx1 : zr x1) (hx2 : zr x2) (hx3 : zr x3) : Rf (kY_Par_takeTerms_p78 rz β σ x0 x1 x2 x3) (kG_Par_takeTerms_p78 rm (cv σ) (i32 x0) (i32 x1) (i32 x2) (i32 x3)) β := by
  unfold kY_Par_takeTerms_p78 kG_Par_takeTerms_p78
  exact Rf_tail hR hσ (zrs_cons hx0 (zrs_cons hx1 (zrs_cons hx2 (zrs_cons hx3 (zrs_cons (by decide) zrs_nil))))) (e_cons rfl (e_cons rfl (e_cons rfl (e_cons rfl (e_cons (by decide) rfl)))))
theorem rY_Par_takeTerms_p79 (rz : zF) (rm : mF) (hR : Rc rz rm) (β : Nat) (σ : zS) (hσ : zOK σ) (x0 x1 x2 x3 x4 : Int) (hx0 : zr x0) (hx1 : zr x1) (hx2 : zr x2) (hx3 : zr x3) (hx4 : zr x4) : Rf (kY_Par_takeTerms_p79 rz β σ x0 x1 x2 x3 x4) (kG_Par_takeTerms_p79 rm (cv σ) (i32 x0) (i32 x1) (i32 x2) (i32 x3) (i32 x4)) β := by
  unfold kY_Par_takeTerms_p79 kG_Par_takeTerms_p79
  refine Rf_g (fun hg1 => ?_)
  exact Rf_tail hR hσ (zrs_cons hx0 (zrs_cons hx1 (zrs_cons hx4 (zrs_cons hg1 zrs_nil)))) (e_cons rfl (e_cons rfl (e_cons rfl (e_cons (e_add rfl (by decide)) rfl))))
theorem rY_Par_takeTerms_p86 (rz : zF) (rm : mF) (hR : Rc rz rm) (β : Nat) (σ : zS) (hσ : zOK σ) (x0 x1 x2 x3 : Int) (hx0 : zr x0) (hx1 : zr x1) (hx2 : zr x2) (hx3 : zr x3) : Rf (kY_Par_takeTerms_p86 rz β σ x0 x1 x2 x3) (kG_Par_takeTerms_p86 rm (cv σ) (i32 x0) (i32 x1) (i32 x2) (i32 x3)) β := by
  unfold kY_Par_takeTerms_p86 kG_Par_takeTerms_p86
  refine Rf_eq rfl (by decide) (hσ.1 3100) (by decide) (fun _ => ?_) (fun _ => ?_)
  · refine Rf_bnd hR hσ (zrs_cons (by decide) zrs_nil) (e_cons (by decide) rfl) (fun σ1 r1 hσ1 hr1 => ?_)
    refine Rf_eq rfl (by decide) hr1 (by decide) (fun _ => ?_) (fun _ => ?_)
    · refine Rf_bnd hR hσ1 zrs_nil rfl (fun σ2 r2 hσ2 hr2 => ?_)
      exact Rf_tail hR hσ2 (zrs_cons hx0 (zrs_cons hx1 (zrs_cons hx2 (zrs_cons hx3 zrs_nil)))) (e_cons rfl (e_cons rfl (e_cons rfl (e_cons rfl rfl))))
    · refine Rf_bnd hR hσ1 zrs_nil rfl (fun σ3 r3 hσ3 hr3 => ?_)
      exact Rf_tail hR hσ3 (zrs_cons hx0 (zrs_cons hx1 (zrs_cons hx2 (zrs_cons hx3 zrs_nil)))) (e_cons rfl (e_cons rfl (e_cons rfl (e_cons rfl rfl))))
  · exact Rf_tail hR hσ (zrs_cons hx0 (zrs_cons hx1 (zrs_cons hx2 (zrs_cons hx3 zrs_nil)))) (e_cons rfl (e_cons rfl (e_cons rfl (e_cons rfl rfl))))
theorem rY_Par_takeTerms_p119 (rz : zF) (rm : mF) (hR : Rc rz rm) (β : Nat) (σ : zS) (hσ : zOK σ) (x0 x1 x2 x3 : Int) (hx0 : zr x0) (hx1 : zr x1) (hx2 : zr x2) (hx3 : zr x3) : Rf (kY_Par_takeTerms_p119 rz β σ x0 x1 x2 x3) (kG_Par_takeTerms_p119 rm (cv σ) (i32 x0) (i32 x1) (i32 x2) (i32 x3)) β := by
  unfold kY_Par_takeTerms_p119 kG_Par_takeTerms_p119
  exact Rf_some hσ hx1 rfl
theorem rY_Par_takeVariable (rz : zF) (rm : mF) (hR : Rc rz rm) (β : Nat) (σ : zS) (hσ : zOK σ) : Rf (kY_Par_takeVariable rz β σ) (kG_Par_takeVariable rm (cv σ)) β := by
  unfold kY_Par_takeVariable kG_Par_takeVariable
  refine Rf_bnd hR hσ zrs_nil rfl (fun σ1 r1 hσ1 hr1 => ?_)
  refine Rf_eq rfl (by decide) hr1 (by decide) (fun _ => ?_) (fun _ => ?_)
  · refine Rf_bnd hR hσ1 (zrs_cons (by decide) (zrs_cons (hσ1.1 3203) zrs_nil)) (e_cons (by decide) (e_cons rfl rfl)) (fun σ4 r4 hσ4 hr4 => ?_)
    exact Rf_some hσ4 (by decide) (by decide)
  · refine Rf_Add (e_not rfl) (zr_not hr1) hσ1 (by decide) (by decide) (by decide) (by decide) (fun σ2 hσ2 => ?_)
    refine Rf_bnd hR hσ2 zrs_nil rfl (fun σ3 r3 hσ3 hr3 => ?_)
    exact Rf_some hσ3 (by decide) (by decide)
theorem rY_Sat_factor (rz : zF) (rm : mF) (hR : Rc rz rm) (β : Nat) (σ : zS) (hσ : zOK σ) (x0 : Int) (hx0 : zr x0) : Rf (kY_Sat_factor rz β σ x0) (kG_Sat_factor rm (cv σ) (i32 x0)) β := by
  unfold kY_Sat_factor kG_Sat_factor
  refine Rf_bnd hR hσ (zrs_cons hx0 (zrs_cons (by decide) zrs_nil)) (e_cons rfl (e_cons (by decide) rfl)) (fun σ1 r1 hσ1 hr1 => ?_)
  exact Rf_tail hR hσ1 (zrs_cons hx0 (zrs_cons hr1 (zrs_cons (by decide) zrs_nil))) (e_cons rfl (e_cons rfl (e_cons (by decide) rfl)))
theorem rY_Sat_factor_p12 (rz : zF) (rm : mF) (hR : Rc rz rm) (β : Nat) (σ : zS) (hσ : zOK σ) (x0 x1 x2 : Int) (hx0 : zr x0) (hx1 : zr x1) (hx2 : zr x2) : Rf (kY_Sat_factor_p12 rz β σ x0 x1 x2) (kG_Sat_factor_p12 rm (cv σ) (i32 x0) (i32 x1) (i32 x2)) β := by
  unfold kY_Sat_factor_p12 kG_Sat_factor_p12
  refine Rf_le rfl rfl hx1 hx2 (fun _ => ?_) (fun _ => ?_)
  · exact Rf_some hσ (by decide) (by decide)
  · refine Rf_bnd hR hσ (zrs_cons hx0 (zrs_cons hx2 zrs_nil)) (e_cons rfl (e_cons rfl rfl)) (fun σ1 r1 hσ1 hr1 => ?_)
    exact Rf_tail hR hσ1 (zrs_cons hx0 (zrs_cons hx1 (zrs_cons hx2 (zrs_cons hr1 (zrs_cons (by decide) zrs_nil))))) (e_cons rfl (e_cons rfl (e_cons rfl (e_cons rfl (e_cons (by decide) rfl)))))
theorem rY_Sat_factor_p31 (rz : zF) (rm : mF) (hR : Rc rz rm) (β : Nat) (σ : zS) (hσ : zOK σ) (x0 x1 x2 x3 x4 : Int) (hx0 : zr x0) (hx1 : zr x1) (hx2 : zr x2) (hx3 : zr x3) (hx4 : zr x4) : Rf (kY_Sat_factor_p31 rz β σ x0 x1 x2 x3 x4) (kG_Sat_factor_p31 rm (cv σ) (i32 x0) (i32 x1) (i32 x2) (i32 x3) (i32 x4)) β := by
  unfold kY_Sat_factor_p31 kG_Sat_factor_p31
  refine Rf_le rfl rfl hx1 hx4 (fun _ => ?_) (fun _ => ?_)
  · exact Rf_tail hR hσ (zrs_cons hx0 (zrs_cons hx1 (zrs_cons hx2 (zrs_cons hx3 (zrs_cons hx4 zrs_nil))))) (e_cons rfl (e_cons rfl (e_cons rfl (e_cons rfl (e_cons rfl rfl)))))
  · refine Rf_bnd hR hσ (zrs_cons hx3 zrs_nil) (e_cons rfl rfl) (fun σ1 r1 hσ1 hr1 => ?_)
    refine Rf_eq rfl (by decide) hr1 (by decide) (fun _ => ?_) (fun _ => ?_)
    · exact Rf_tail hR hσ1 (zrs_cons hx0 (zrs_cons hx1 (zrs_cons hx2 (zrs_cons hx3 (zrs_cons hx4 zrs_nil))))) (e_cons rfl (e_cons rfl (e_cons rfl (e_cons rfl (e_cons rfl rfl)))))
    · refine Rf_eq rfl rfl hx2 hx4 (fun _ => ?_) (fun _ => ?_)
      · exact Rf_tail hR hσ1 (zrs_cons hx0 (zrs_cons hx1 (zrs_cons hx2 (zrs_cons hx3 (zrs_cons hx4 zrs_nil))))) (e_cons rfl (e_cons rfl (e_cons rfl (e_cons rfl (e_cons rfl rfl)))))
      · refine Rf_bnd hR hσ1 (zrs_cons hx0 (zrs_cons hx4 zrs_nil)) (e_cons rfl (e_cons rfl rfl)) (fun σ2 r2 hσ2 hr2 => ?_)
        refine Rf_bnd hR hσ2 (zrs_cons hx0 (zrs_cons hx3 (zrs_cons hr2 zrs_nil))) (e_cons rfl (e_cons rfl (e_cons rfl rfl))) (fun σ3 r3 hσ3 hr3 => ?_)
        exact Rf_tail hR hσ3 (zrs_cons hx0 (zrs_cons hx1 (zrs_cons hx2 (zrs_cons hx3 (zrs_cons hx4 zrs_nil))))) (e_cons rfl (e_cons rfl (e_cons rfl (e_cons rfl (e_cons rfl rfl)))))
theorem rY_Sat_factor_p72 (rz : zF) (rm : mF) (hR : Rc rz rm) (β : Nat) (σ : zS) (hσ : zOK σ) (x0 x1 x2 x3 x4 : Int) (hx0 : zr x0) (hx1 : zr x1) (hx2 : zr x2) (hx3 : zr x3) (hx4 : zr x4) : Rf (kY_Sat_factor_p72 rz β σ x0 x1 x2 x3 x4) (kG_Sat_factor_p72 rm (cv σ) (i32 x0) (i32 x1) (i32 x2) (i32 x3) (i32 x4)) β := by
  unfold kY_Sat_factor_p72 kG_Sat_factor_p72
  refine Rf_g (fun hg1 => ?_)
  exact Rf_tail hR hσ (zrs_cons hx0 (zrs_cons hx1 (zrs_cons hx2 (zrs_cons hx3 (zrs_cons hg1 zrs_nil))))) (e_cons rfl (e_cons rfl (e_cons rfl (e_cons rfl (e_cons (e_add rfl (by decide)) rfl)))))
theorem rY_Sat_factor_p78 (rz : zF) (rm : mF) (hR : Rc rz rm) (β : Nat) (σ : zS) (hσ : zOK σ) (x0 x1 x2 x3 x4 : Int) (hx0 : zr x0) (hx1 : zr x1) (hx2 : zr x2) (hx3 : zr x3) (hx4 : zr x4) : Rf (kY_Sat_factor_p78 rz β σ x0 x1 x2 x3 x4) (kG_Sat_factor_p78 rm (cv σ) (i32 x0) (i32 x1) (i32 x2) (i32 x3) (i32 x4)) β := by
  unfold kY_Sat_factor_p78 kG_Sat_factor_p78
  refine Rf_g (fun hg1 => ?_)
  exact Rf_tail hR hσ (zrs_cons hx0 (zrs_cons hx1 (zrs_cons hg1 zrs_nil))) (e_cons rfl (e_cons rfl (e_cons (e_add rfl (by decide)) rfl)))
theorem rY_Sat_factorTwo (rz : zF) (rm : mF) (hR : Rc rz rm) (β : Nat) (σ : zS) (hσ : zOK σ) (x0 x1 x2 : Int) (hx0 : zr x0) (hx1 : zr x1) (hx2 : zr x2) : Rf (kY_Sat_factorTwo rz β σ x0 x1 x2) (kG_Sat_factorTwo rm (cv σ) (i32 x0) (i32 x1) (i32 x2)) β := by
  unfold kY_Sat_factorTwo kG_Sat_factorTwo
  refine Rf_bnd hR hσ (zrs_cons hx0 (zrs_cons (by decide) zrs_nil)) (e_cons rfl (e_cons (by decide) rfl)) (fun σ1 r1 hσ1 hr1 => ?_)
  exact Rf_tail hR hσ1 (zrs_cons hx0 (zrs_cons hx1 (zrs_cons hx2 (zrs_cons hr1 (zrs_cons (by decide) zrs_nil))))) (e_cons rfl (e_cons rfl (e_cons rfl (e_cons rfl (e_cons (by decide) rfl)))))
theorem rY_Sat_factorTwo_p15 (rz : zF) (rm : mF) (hR : Rc rz rm) (β : Nat) (σ : zS) (hσ : zOK σ) (x0 x1 x2 x3 x4 : Int) (hx0 : zr x0) (hx1 : zr x1) (hx2 : zr x2) (hx3 : zr x3) (hx4 : zr x4) : Rf (kY_Sat_factorTwo_p15 rz β σ x0 x1 x2 x3 x4) (kG_Sat_factorTwo_p15 rm (cv σ) (i32 x0) (i32 x1) (i32 x2) (i32 x3) (i32 x4)) β := by
  unfold kY_Sat_factorTwo_p15 kG_Sat_factorTwo_p15
  refine Rf_le (by decide) rfl (by decide) hx4 (fun _ => ?_) (fun _ => ?_)
  · exact Rf_tail hR hσ (zrs_cons hx0 (zrs_cons hx1 (zrs_cons hx2 (zrs_cons hx3 (zrs_cons hx4 zrs_nil))))) (e_cons rfl (e_cons rfl (e_cons rfl (e_cons rfl (e_cons rfl rfl)))))
  · refine Rf_eq rfl (by decide) (hσ.1 5300) (by decide) (fun _ => ?_) (fun _ => ?_)
    · refine Rf_bnd hR hσ (zrs_cons hx1 (zrs_cons (zr_to _) zrs_nil)) (e_cons rfl (e_cons (e_shr rfl (by decide)) rfl)) (fun σ1 r1 hσ1 hr1 => ?_)
      refine Rf_eq rfl (by decide) hr1 (by decide) (fun _ => ?_) (fun _ => ?_)
      · exact Rf_tail hR hσ1 (zrs_cons hx0 (zrs_cons hx1 (zrs_cons hx2 (zrs_cons hx3 (zrs_cons hx4 (zrs_cons (zr_to _) (zrs_cons (zr_to _) zrs_nil))))))) (e_cons rfl (e_cons rfl (e_cons rfl (e_cons rfl (e_cons rfl (e_cons (e_shr rfl (by decide)) (e_cons (e_and rfl (by decide)) rfl)))))))
      · refine Rf_bnd hR hσ1 (zrs_cons hx3 (zrs_cons hx3 zrs_nil)) (e_cons rfl (e_cons rfl rfl)) (fun σ2 r2 hσ2 hr2 => ?_)
        refine Rf_bnd hR hσ2 (zrs_cons hx1 (zrs_cons (zr_to _) zrs_nil)) (e_cons rfl (e_cons (e_shr rfl (by decide)) rfl)) (fun σ3 r3 hσ3 hr3 => ?_)
        refine Rf_bnd hR hσ3 (zrs_cons hx2 (zrs_cons (zr_to _) zrs_nil)) (e_cons rfl (e_cons (e_and rfl (by decide)) rfl)) (fun σ4 r4 hσ4 hr4 => ?_)
        refine Rf_bnd hR hσ4 (zrs_cons hr3 (zrs_cons (by decide) (zrs_cons hr4 (zrs_cons (by decide) (zrs_cons (by decide) zrs_nil))))) (e_cons rfl (e_cons (by decide) (e_cons rfl (e_cons (by decide) (e_cons (by decide) rfl))))) (fun σ5 r5 hσ5 hr5 => ?_)
        refine Rf_eq rfl (by decide) hr5 (by decide) (fun _ => ?_) (fun _ => ?_)
        · exact Rf_tail hR hσ5 (zrs_cons hx0 (zrs_cons hx1 (zrs_cons hx2 (zrs_cons hx3 (zrs_cons hx4 (zrs_cons (zr_to _) (zrs_cons (zr_to _) zrs_nil))))))) (e_cons rfl (e_cons rfl (e_cons rfl (e_cons rfl (e_cons rfl (e_cons (e_shr rfl (by decide)) (e_cons (e_and rfl (by decide)) rfl)))))))
        · refine Rf_bnd hR hσ5 zrs_nil rfl (fun σ6 r6 hσ6 hr6 => ?_)
          refine Rf_bnd hR hσ6 (zrs_cons hx0 (zrs_cons hx1 (zrs_cons hx2 (zrs_cons (by decide) zrs_nil)))) (e_cons rfl (e_cons rfl (e_cons rfl (e_cons (by decide) rfl)))) (fun σ7 r7 hσ7 hr7 => ?_)
          refine Rf_g (fun hg1 => ?_)
          refine Rf_g (fun hg2 => ?_)
          refine Rf_bnd hR hσ7 (zrs_cons (by decide) (zrs_cons hx1 (zrs_cons hg1 (zrs_cons hx2 (zrs_cons hg2 zrs_nil))))) (e_cons (by decide) (e_cons rfl (e_cons (e_sub (by decide) (e_shr rfl (by decide))) (e_cons rfl (e_cons (e_sub (by decide) (e_and rfl (by decide))) rfl))))) (fun σ8 r8 hσ8 hr8 => ?_)
          refine Rf_bnd hR hσ8 (zrs_cons (by decide) (zrs_cons hx1 (zrs_cons (zr_to _) (zrs_cons hx2 (zrs_cons hg2 zrs_nil))))) (e_cons (by decide) (e_cons rfl (e_cons (e_shr rfl (by decide)) (e_cons rfl (e_cons (e_sub (by decide) (e_and rfl (by decide))) rfl))))) (fun σ9 r9 hσ9 hr9 => ?_)
          refine Rf_bnd hR hσ9 (zrs_cons (by decide) (zrs_cons hx0 (zrs_cons (by decide) zrs_nil))) (e_cons (by decide) (e_cons rfl (e_cons (by decide) rfl))) (fun σ10 r10 hσ10 hr10 => ?_)
          exact Rf_tail hR hσ10 (zrs_cons hx0 (zrs_cons hx1 (zrs_cons hx2 (zrs_cons hx3 (zrs_cons hx4 (zrs_cons (zr_to _) (zrs_cons (zr_to _) zrs_nil))))))) (e_cons rfl (e_cons rfl (e_cons rfl (e_cons rfl (e_cons rfl (e_cons (e_shr rfl (by decide)) (e_cons (e_and rfl (by decide)) rfl)))))))
    · exact Rf_tail hR hσ (zrs_cons hx0 (zrs_cons hx1 (zrs_cons hx2 (zrs_cons hx3 (zrs_cons hx4 zrs_nil))))) (e_cons rfl (e_cons rfl (e_cons rfl (e_cons rfl (e_cons rfl rfl)))))
theorem rY_Sat_factorTwo_p150 (rz : zF) (rm : mF) (hR : Rc rz rm) (β : Nat) (σ : zS) (hσ : zOK σ) (x0 x1 x2 x3 x4 x5 x6 : Int) (hx0 : zr x0) (hx1 : zr x1) (hx2 : zr x2) (hx3 : zr x3) (hx4 : zr x4) (hx5 : zr x5) (hx6 : zr x6) : Rf (kY_Sat_factorTwo_p150 rz β σ x0 x1 x2 x3 x4 x5 x6) (kG_Sat_factorTwo_p150 rm (cv σ) (i32 x0) (i32 x1) (i32 x2) (i32 x3) (i32 x4) (i32 x5) (i32 x6)) β := by
  unfold kY_Sat_factorTwo_p150 kG_Sat_factorTwo_p150
  refine Rf_g (fun hg1 => ?_)
  exact Rf_tail hR hσ (zrs_cons hx0 (zrs_cons hx1 (zrs_cons hx2 (zrs_cons hx3 (zrs_cons hg1 zrs_nil))))) (e_cons rfl (e_cons rfl (e_cons rfl (e_cons rfl (e_cons (e_add rfl (by decide)) rfl)))))
theorem rY_Sat_factorTwo_p156 (rz : zF) (rm : mF) (hR : Rc rz rm) (β : Nat) (σ : zS) (hσ : zOK σ) (x0 x1 x2 x3 x4 : Int) (hx0 : zr x0) (hx1 : zr x1) (hx2 : zr x2) (hx3 : zr x3) (hx4 : zr x4) : Rf (kY_Sat_factorTwo_p156 rz β σ x0 x1 x2 x3 x4) (kG_Sat_factorTwo_p156 rm (cv σ) (i32 x0) (i32 x1) (i32 x2) (i32 x3) (i32 x4)) β := by
  unfold kY_Sat_factorTwo_p156 kG_Sat_factorTwo_p156
  exact Rf_some hσ (by decide) (by decide)
theorem rY_Sat_inferFrom (rz : zF) (rm : mF) (hR : Rc rz rm) (β : Nat) (σ : zS) (hσ : zOK σ) (x0 : Int) (hx0 : zr x0) : Rf (kY_Sat_inferFrom rz β σ x0) (kG_Sat_inferFrom rm (cv σ) (i32 x0)) β := by
  unfold kY_Sat_inferFrom kG_Sat_inferFrom
  exact Rf_tail hR hσ (zrs_cons hx0 (zrs_cons (hσ.1 5402) (zrs_cons (by decide) zrs_nil))) (e_cons rfl (e_cons rfl (e_cons (by decide) rfl)))
theorem rY_Sat_inferFrom_p10 (rz : zF) (rm : mF) (hR : Rc rz rm) (β : Nat) (σ : zS) (hσ : zOK σ) (x0 x1 x2 : Int) (hx0 : zr x0) (hx1 : zr x1) (hx2 : zr x2) : Rf (kY_Sat_inferFrom_p10 rz β σ x0 x1 x2) (kG_Sat_inferFrom_p10 rm (cv σ) (i32 x0) (i32 x1) (i32 x2)) β := by
  unfold kY_Sat_inferFrom_p10 kG_Sat_inferFrom_p10
  refine Rf_le rfl rfl hx1 hx2 (fun _ => ?_) (fun _ => ?_)
  · exact Rf_tail hR hσ (zrs_cons hx0 (zrs_cons hx1 (zrs_cons hx2 zrs_nil))) (e_cons rfl (e_cons rfl (e_cons rfl rfl)))
  · refine Rf_eq rfl (by decide) (hσ.1 5300) (by decide) (fun _ => ?_) (fun _ => ?_)
    · refine Rf_bnd hR hσ (zrs_cons hx2 zrs_nil) (e_cons rfl rfl) (fun σ1 r1 hσ1 hr1 => ?_)
      refine Rf_eq rfl (by decide) hr1 (by decide) (fun _ => ?_) (fun _ => ?_)
      · exact Rf_tail hR hσ1 (zrs_cons hx0 (zrs_cons hx1 (zrs_cons hx2 zrs_nil))) (e_cons rfl (e_cons rfl (e_cons rfl rfl)))
      · refine Rf_bnd hR hσ1 (zrs_cons hx2 (zrs_cons hx0 zrs_nil)) (e_cons rfl (e_cons rfl rfl)) (fun σ2 r2 hσ2 hr2 => ?_)
        refine Rf_eq rfl rfl hx2 hx0 (fun _ => ?_) (fun _ => ?_)
        · exact Rf_tail hR hσ2 (zrs_cons hx0 (zrs_cons hx1 (zrs_cons hx2 zrs_nil))) (e_cons rfl (e_cons rfl (e_cons rfl rfl)))
        · refine Rf_bnd hR hσ2 (zrs_cons hx0 (zrs_cons hx2 zrs_nil)) (e_cons rfl (e_cons rfl rfl)) (fun σ3 r3 hσ3 hr3 => ?_)
          exact Rf_tail hR hσ3 (zrs_cons hx0 (zrs_cons hx1 (zrs_cons hx2 zrs_nil))) (e_cons rfl (e_cons rfl (e_cons rfl rfl)))
    · exact Rf_tail hR hσ (zrs_cons hx0 (zrs_cons hx1 (zrs_cons hx2 zrs_nil))) (e_cons rfl (e_cons rfl (e_cons rfl rfl)))
theorem rY_Sat_inferFrom_p47 (rz : zF) (rm : mF) (hR : Rc rz rm) (β : Nat) (σ : zS) (hσ : zOK σ) (x0 x1 x2 : Int) (hx0 : zr x0) (hx1 : zr x1) (hx2 : zr x2) : Rf (kY_Sat_inferFrom_p47 rz β σ x0 x1 x2) (kG_Sat_inferFrom_p47 rm (cv σ) (i32 x0) (i32 x1) (i32 x2)) β := by
  unfold kY_Sat_inferFrom_p47 kG_Sat_inferFrom_p47
  refine Rf_g (fun hg1 => ?_)
  exact Rf_tail hR hσ (zrs_cons hx0 (zrs_cons hx1 (zrs_cons hg1 zrs_nil))) (e_cons rfl (e_cons rfl (e_cons (e_add rfl (by decide)) rfl)))
theorem rY_Sat_inferFrom_p53 (rz : zF) (rm : mF) (hR : Rc rz rm) (β : Nat) (σ : zS) (hσ : zOK σ) (x0 x1 x2 : Int) (hx0 : zr x0) (hx1 : zr x1) (hx2 : zr x2) : Rf (kY_Sat_inferFrom_p53 rz β σ x0 x1 x2) (kG_Sat_inferFrom_p53 rm (cv σ) (i32 x0) (i32 x1) (i32 x2)) β := by
  unfold kY_Sat_inferFrom_p53 kG_Sat_inferFrom_p53
  refine Rf_bnd hR hσ (zrs_cons hx0 zrs_nil) (e_cons rfl rfl) (fun σ1 r1 hσ1 hr1 => ?_)
  refine Rf_eq rfl (by decide) hr1 (by decide) (fun _ => ?_) (fun _ => ?_)
  · refine Rf_bnd hR hσ1 (zrs_cons hx0 zrs_nil) (e_cons rfl rfl) (fun σ4 r4 hσ4 hr4 => ?_)
    exact Rf_tail hR hσ4 (zrs_cons hx0 (zrs_cons hx1 (zrs_cons hx2 zrs_nil))) (e_cons rfl (e_cons rfl (e_cons rfl rfl)))
  · refine Rf_bnd hR hσ1 (zrs_cons hx0 zrs_nil) (e_cons rfl rfl) (fun σ2 r2 hσ2 hr2 => ?_)
    refine Rf_bnd hR hσ2 (zrs_cons hx0 (zrs_cons hr2 zrs_nil)) (e_cons rfl (e_cons rfl rfl)) (fun σ3 r3 hσ3 hr3 => ?_)
    exact Rf_tail hR hσ3 (zrs_cons hx0 (zrs_cons hx1 (zrs_cons hx2 zrs_nil))) (e_cons rfl (e_cons rfl (e_cons rfl rfl)))
theorem rY_Sat_inferFrom_p86 (rz : zF) (rm : mF) (hR : Rc rz rm) (β : Nat) (σ : zS) (hσ : zOK σ) (x0 x1 x2 : Int) (hx0 : zr x0) (hx1 : zr x1) (hx2 : zr x2) : Rf (kY_Sat_inferFrom_p86 rz β σ x0 x1 x2) (kG_Sat_inferFrom_p86 rm (cv σ) (i32 x0) (i32 x1) (i32 x2)) β := by
  unfold kY_Sat_inferFrom_p86 kG_Sat_inferFrom_p86
  exact Rf_some hσ (by decide) (by decide)
theorem rY_Sat_keep (rz : zF) (rm : mF) (hR : Rc rz rm) (β : Nat) (σ : zS) (hσ : zOK σ) (x0 x1 x2 : Int) (hx0 : zr x0) (hx1 : zr x1) (hx2 : zr x2) : Rf (kY_Sat_keep rz β σ x0 x1 x2) (kG_Sat_keep rm (cv σ) (i32 x0) (i32 x1) (i32 x2)) β := by
  unfold kY_Sat_keep kG_Sat_keep
  refine Rf_I (e_wadd rfl (by decide)) (zr_to _) hσ (fun σ1 hσ1 => ?_)
  refine Rf_eq rfl (by decide) (hσ1.1 3907) (by decide) (fun _ => ?_) (fun _ => ?_)
  · refine Rf_bnd hR hσ1 zrs_nil rfl (fun σ2 r2 hσ2 hr2 => ?_)
    refine Rf_bnd hR hσ2 zrs_nil rfl (fun σ3 r3 hσ3 hr3 => ?_)
    refine Rf_eq rfl (by decide) hr3 (by decide) (fun _ => ?_) (fun _ => ?_)
    · refine Rf_eq rfl (by decide) (hσ3.1 5402) (by decide) (fun _ => ?_) (fun _ => ?_)
      · refine Rf_I (by decide) (by decide) hσ3 (fun σ5 hσ5 => ?_)
        exact Rf_tail hR hσ5 (zrs_cons hx0 (zrs_cons hx1 (zrs_cons hx2 zrs_nil))) (e_cons rfl (e_cons rfl (e_cons rfl rfl)))
      · refine Rf_bnd hR hσ3 (zrs_cons hx0 (zrs_cons hx1 (zrs_cons hx2 zrs_nil))) (e_cons rfl (e_cons rfl (e_cons rfl rfl))) (fun σ4 r4 hσ4 hr4 => ?_)
        exact Rf_tail hR hσ4 (zrs_cons hx0 (zrs_cons hx1 (zrs_cons hx2 zrs_nil))) (e_cons rfl (e_cons rfl (e_cons rfl rfl)))
    · refine Rf_I (e_wadd rfl (by decide)) (zr_to _) hσ3 (fun σ6 hσ6 => ?_)
      exact Rf_tail hR hσ6 (zrs_cons hx0 (zrs_cons hx1 (zrs_cons hx2 zrs_nil))) (e_cons rfl (e_cons rfl (e_cons rfl rfl)))
  · refine Rf_I (e_wadd rfl (by decide)) (zr_to _) hσ1 (fun σ7 hσ7 => ?_)
    exact Rf_some hσ7 (by decide) (by decide)
theorem rY_Sat_keep_p97 (rz : zF) (rm : mF) (hR : Rc rz rm) (β : Nat) (σ : zS) (hσ : zOK σ) (x0 x1 x2 : Int) (hx0 : zr x0) (hx1 : zr x1) (hx2 : zr x2) : Rf (kY_Sat_keep_p97 rz β σ x0 x1 x2) (kG_Sat_keep_p97 rm (cv σ) (i32 x0) (i32 x1) (i32 x2)) β := by
  unfold kY_Sat_keep_p97 kG_Sat_keep_p97
  exact Rf_some hσ (by decide) (by decide)
theorem rY_Sat_keepRewritten (rz : zF) (rm : mF) (hR : Rc rz rm) (β : Nat) (σ : zS) (hσ : zOK σ) (x0 x1 : Int) (hx0 : zr x0) (hx1 : zr x1) : Rf (kY_Sat_keepRewritten rz β σ x0 x1) (kG_Sat_keepRewritten rm (cv σ) (i32 x0) (i32 x1)) β := by
  unfold kY_Sat_keepRewritten kG_Sat_keepRewritten
  refine Rf_bnd hR hσ zrs_nil rfl (fun σ1 r1 hσ1 hr1 => ?_)
  refine Rf_eq rfl (by decide) hr1 (by decide) (fun _ => ?_) (fun _ => ?_)
  · refine Rf_eq rfl (by decide) (hσ1.1 5402) (by decide) (fun _ => ?_) (fun _ => ?_)
    · refine Rf_I (by decide) (by decide) hσ1 (fun σ6 hσ6 => ?_)
      exact Rf_some hσ6 (by decide) (by decide)
    · refine Rf_bnd hR hσ1 (zrs_cons (by decide) (zrs_cons hx0 (zrs_cons (by decide) zrs_nil))) (e_cons (by decide) (e_cons rfl (e_cons (by decide) rfl))) (fun σ2 r2 hσ2 hr2 => ?_)
      refine Rf_bnd hR hσ2 (zrs_cons hr2 (zrs_cons (by decide) (zrs_cons (by decide) zrs_nil))) (e_cons rfl (e_cons (by decide) (e_cons (by decide) rfl))) (fun σ3 r3 hσ3 hr3 => ?_)
      refine Rf_g (fun hg1 => ?_)
      refine Rf_bnd hR hσ3 (zrs_cons hr2 (zrs_cons (by decide) (zrs_cons hg1 zrs_nil))) (e_cons rfl (e_cons (by decide) (e_cons (e_sub rfl rfl) rfl))) (fun σ4 r4 hσ4 hr4 => ?_)
      refine Rf_bnd hR hσ4 (zrs_cons hr2 (zrs_cons (by decide) (zrs_cons hx1 zrs_nil))) (e_cons rfl (e_cons (by decide) (e_cons rfl rfl))) (fun σ5 r5 hσ5 hr5 => ?_)
      exact Rf_some hσ5 hr2 rfl
  · refine Rf_I (e_wadd rfl (by decide)) (zr_to _) hσ1 (fun σ7 hσ7 => ?_)
    exact Rf_some hσ7 (by decide) (by decide)
theorem rY_Sat_listSingles (rz : zF) (rm : mF) (hR : Rc rz rm) (β : Nat) (σ : zS) (hσ : zOK σ) : Rf (kY_Sat_listSingles rz β σ) (kG_Sat_listSingles rm (cv σ)) β := by
  unfold kY_Sat_listSingles kG_Sat_listSingles
  refine Rf_I (by decide) (by decide) hσ (fun σ1 hσ1 => ?_)
  exact Rf_tail hR hσ1 (zrs_cons (by decide) zrs_nil) (e_cons (by decide) rfl)
theorem rY_Sat_listSingles_p10 (rz : zF) (rm : mF) (hR : Rc rz rm) (β : Nat) (σ : zS) (hσ : zOK σ) (x0 : Int) (hx0 : zr x0) : Rf (kY_Sat_listSingles_p10 rz β σ x0) (kG_Sat_listSingles_p10 rm (cv σ) (i32 x0)) β := by
  unfold kY_Sat_listSingles_p10 kG_Sat_listSingles_p10
  refine Rf_le rfl rfl (hσ.1 5402) hx0 (fun _ => ?_) (fun _ => ?_)
  · exact Rf_some hσ (by decide) (by decide)
  · refine Rf_bnd hR hσ (zrs_cons hx0 zrs_nil) (e_cons rfl rfl) (fun σ1 r1 hσ1 hr1 => ?_)
    refine Rf_eq rfl (by decide) hr1 (by decide) (fun _ => ?_) (fun _ => ?_)
    · exact Rf_tail hR hσ1 (zrs_cons hx0 zrs_nil) (e_cons rfl rfl)
    · refine Rf_bnd hR hσ1 (zrs_cons hx0 zrs_nil) (e_cons rfl rfl) (fun σ2 r2 hσ2 hr2 => ?_)
      refine Rf_eq rfl (by decide) hr2 (by decide) (fun _ => ?_) (fun _ => ?_)
      · exact Rf_tail hR hσ2 (zrs_cons hx0 zrs_nil) (e_cons rfl rfl)
      · refine Rf_Add rfl hx0 hσ2 (by decide) (by decide) (by decide) (by decide) (fun σ3 hσ3 => ?_)
        exact Rf_tail hR hσ3 (zrs_cons hx0 zrs_nil) (e_cons rfl rfl)
theorem rY_Sat_listSingles_p45 (rz : zF) (rm : mF) (hR : Rc rz rm) (β : Nat) (σ : zS) (hσ : zOK σ) (x0 : Int) (hx0 : zr x0) : Rf (kY_Sat_listSingles_p45 rz β σ x0) (kG_Sat_listSingles_p45 rm (cv σ) (i32 x0)) β := by
  unfold kY_Sat_listSingles_p45 kG_Sat_listSingles_p45
  refine Rf_g (fun hg1 => ?_)
  exact Rf_tail hR hσ (zrs_cons hg1 zrs_nil) (e_cons (e_add rfl (by decide)) rfl)
theorem rY_Sat_noteRewriter (rz : zF) (rm : mF) (hR : Rc rz rm) (β : Nat) (σ : zS) (hσ : zOK σ) (x0 x1 : Int) (hx0 : zr x0) (hx1 : zr x1) : Rf (kY_Sat_noteRewriter rz β σ x0 x1) (kG_Sat_noteRewriter rm (cv σ) (i32 x0) (i32 x1)) β := by
  unfold kY_Sat_noteRewriter kG_Sat_noteRewriter
  exact Rf_tail hR hσ (zrs_cons hx0 (zrs_cons hx1 (zrs_cons hx0 zrs_nil))) (e_cons rfl (e_cons rfl (e_cons rfl rfl)))
theorem rY_Sat_noteRewriter_p2 (rz : zF) (rm : mF) (hR : Rc rz rm) (β : Nat) (σ : zS) (hσ : zOK σ) (x0 x1 x2 : Int) (hx0 : zr x0) (hx1 : zr x1) (hx2 : zr x2) : Rf (kY_Sat_noteRewriter_p2 rz β σ x0 x1 x2) (kG_Sat_noteRewriter_p2 rm (cv σ) (i32 x0) (i32 x1) (i32 x2)) β := by
  unfold kY_Sat_noteRewriter_p2 kG_Sat_noteRewriter_p2
  refine Rf_le rfl rfl (hσ.1 4901) hx2 (fun _ => ?_) (fun _ => ?_)
  · refine Rf_Add rfl hx1 hσ (by decide) (by decide) (by decide) (by decide) (fun σ1 hσ1 => ?_)
    exact Rf_some hσ1 (by decide) (by decide)
  · refine Rf_rd rfl hx2 (fun hb1 => ?_)
    refine Rf_eq (e_rd rfl hb1) rfl (hσ.2.1 _ _) hx1 (fun _ => ?_) (fun _ => ?_)
    · exact Rf_some hσ (by decide) (by decide)
    · refine Rf_g (fun hg2 => ?_)
      exact Rf_tail hR hσ (zrs_cons hx0 (zrs_cons hx1 (zrs_cons hg2 zrs_nil))) (e_cons rfl (e_cons rfl (e_cons (e_add rfl (by decide)) rfl)))
theorem rY_Sat_refute (rz : zF) (rm : mF) (hR : Rc rz rm) (β : Nat) (σ : zS) (hσ : zOK σ) (x0 : Int) (hx0 : zr x0) : Rf (kY_Sat_refute rz β σ x0) (kG_Sat_refute rm (cv σ) (i32 x0)) β := by
  unfold kY_Sat_refute kG_Sat_refute
  refine Rf_I (by decide) (by decide) hσ (fun σ1 hσ1 => ?_)
  refine Rf_bnd hR hσ1 (zrs_cons hx0 zrs_nil) (e_cons rfl rfl) (fun σ2 r2 hσ2 hr2 => ?_)
  exact Rf_tail hR hσ2 (zrs_cons hx0 (zrs_cons hx0 zrs_nil)) (e_cons rfl (e_cons rfl rfl))
theorem rY_Sat_refute_p12 (rz : zF) (rm : mF) (hR : Rc rz rm) (β : Nat) (σ : zS) (hσ : zOK σ) (x0 x1 : Int) (hx0 : zr x0) (hx1 : zr x1) : Rf (kY_Sat_refute_p12 rz β σ x0 x1) (kG_Sat_refute_p12 rm (cv σ) (i32 x0) (i32 x1)) β := by
  unfold kY_Sat_refute_p12 kG_Sat_refute_p12
  refine Rf_lt rfl (by decide) hx1 (by decide) (fun _ => ?_) (fun _ => ?_)
  · exact Rf_tail hR hσ (zrs_cons hx0 (zrs_cons (by decide) zrs_nil)) (e_cons rfl (e_cons (by decide) rfl))
  · refine Rf_bnd hR hσ (zrs_cons hx1 (zrs_cons (by decide) zrs_nil)) (e_cons rfl (e_cons (by decide) rfl)) (fun σ1 r1 hσ1 hr1 => ?_)
    refine Rf_eq rfl (by decide) hr1 (by decide) (fun _ => ?_) (fun _ => ?_)
    · refine Rf_bnd hR hσ1 (zrs_cons hx1 (zrs_cons (by decide) zrs_nil)) (e_cons rfl (e_cons (by decide) rfl)) (fun σ2 r2 hσ2 hr2 => ?_)
      refine Rf_bnd hR hσ2 (zrs_cons hr2 zrs_nil) (e_cons rfl rfl) (fun σ3 r3 hσ3 hr3 => ?_)
      refine Rf_bnd hR hσ3 (zrs_cons hx1 (zrs_cons (by decide) zrs_nil)) (e_cons rfl (e_cons (by decide) rfl)) (fun σ4 r4 hσ4 hr4 => ?_)
      refine Rf_bnd hR hσ4 (zrs_cons hr4 zrs_nil) (e_cons rfl rfl) (fun σ5 r5 hσ5 hr5 => ?_)
      exact Rf_tail hR hσ5 (zrs_cons hx0 (zrs_cons hx1 (zrs_cons (by decide) zrs_nil))) (e_cons rfl (e_cons rfl (e_cons (by decide) rfl)))
    · exact Rf_tail hR hσ1 (zrs_cons hx0 (zrs_cons hx1 zrs_nil)) (e_cons rfl (e_cons rfl rfl))
theorem rY_Sat_refute_p58 (rz : zF) (rm : mF) (hR : Rc rz rm) (β : Nat) (σ : zS) (hσ : zOK σ) (x0 x1 x2 : Int) (hx0 : zr x0) (hx1 : zr x1) (hx2 : zr x2) : Rf (kY_Sat_refute_p58 rz β σ x0 x1 x2) (kG_Sat_refute_p58 rm (cv σ) (i32 x0) (i32 x1) (i32 x2)) β := by
  unfold kY_Sat_refute_p58 kG_Sat_refute_p58
  refine Rf_bnd hR hσ (zrs_cons hx1 (zrs_cons (by decide) zrs_nil)) (e_cons rfl (e_cons (by decide) rfl)) (fun σ1 r1 hσ1 hr1 => ?_)
  refine Rf_le rfl rfl hr1 hx2 (fun _ => ?_) (fun _ => ?_)
  · exact Rf_tail hR hσ1 (zrs_cons hx0 (zrs_cons hx1 zrs_nil)) (e_cons rfl (e_cons rfl rfl))
  · refine Rf_bnd hR hσ1 (zrs_cons hx1 (zrs_cons (by decide) zrs_nil)) (e_cons rfl (e_cons (by decide) rfl)) (fun σ2 r2 hσ2 hr2 => ?_)
    refine Rf_g (fun hg1 => ?_)
    refine Rf_rd (e_add rfl rfl) hg1 (fun hb2 => ?_)
    refine Rf_bnd hR hσ2 (zrs_cons (hσ2.2.1 _ _) zrs_nil) (e_cons (e_rd (e_add rfl rfl) hb2) rfl) (fun σ3 r3 hσ3 hr3 => ?_)
    refine Rf_g (fun hg3 => ?_)
    exact Rf_tail hR hσ3 (zrs_cons hx0 (zrs_cons hx1 (zrs_cons hg3 zrs_nil))) (e_cons rfl (e_cons rfl (e_cons (e_add rfl (by decide)) rfl)))
theorem rY_Sat_refute_p105 (rz : zF) (rm : mF) (hR : Rc rz rm) (β : Nat) (σ : zS) (hσ : zOK σ) (x0 x1 : Int) (hx0 : zr x0) (hx1 : zr x1) : Rf (kY_Sat_refute_p105 rz β σ x0 x1) (kG_Sat_refute_p105 rm (cv σ) (i32 x0) (i32 x1)) β := by
  unfold kY_Sat_refute_p105 kG_Sat_refute_p105
  refine Rf_g (fun hg1 => ?_)
  exact Rf_tail hR hσ (zrs_cons hx0 (zrs_cons hg1 zrs_nil)) (e_cons rfl (e_cons (e_add rfl (by decide)) rfl))
theorem rY_Sat_refute_p113 (rz : zF) (rm : mF) (hR : Rc rz rm) (β : Nat) (σ : zS) (hσ : zOK σ) (x0 x1 : Int) (hx0 : zr x0) (hx1 : zr x1) : Rf (kY_Sat_refute_p113 rz β σ x0 x1) (kG_Sat_refute_p113 rm (cv σ) (i32 x0) (i32 x1)) β := by
  unfold kY_Sat_refute_p113 kG_Sat_refute_p113
  refine Rf_lt rfl rfl hx0 hx1 (fun _ => ?_) (fun _ => ?_)
  · exact Rf_some hσ (by decide) (by decide)
  · refine Rf_bnd hR hσ (zrs_cons hx1 (zrs_cons (by decide) zrs_nil)) (e_cons rfl (e_cons (by decide) rfl)) (fun σ1 r1 hσ1 hr1 => ?_)
    refine Rf_eq rfl (by decide) hr1 (by decide) (fun _ => ?_) (fun _ => ?_)
    · refine Rf_Add rfl hx1 hσ1 (by decide) (by decide) (by decide) (by decide) (fun σ2 hσ2 => ?_)
      exact Rf_tail hR hσ2 (zrs_cons hx0 (zrs_cons hx1 zrs_nil)) (e_cons rfl (e_cons rfl rfl))
    · exact Rf_tail hR hσ1 (zrs_cons hx0 (zrs_cons hx1 zrs_nil)) (e_cons rfl (e_cons rfl rfl))
theorem rY_Sat_refute_p140 (rz : zF) (rm : mF) (hR : Rc rz rm) (β : Nat) (σ : zS) (hσ : zOK σ) (x0 x1 : Int) (hx0 : zr x0) (hx1 : zr x1) : Rf (kY_Sat_refute_p140 rz β σ x0 x1) (kG_Sat_refute_p140 rm (cv σ) (i32 x0) (i32 x1)) β := by
  unfold kY_Sat_refute_p140 kG_Sat_refute_p140
  refine Rf_g (fun hg1 => ?_)
  exact Rf_tail hR hσ (zrs_cons hx0 (zrs_cons hg1 zrs_nil)) (e_cons rfl (e_cons (e_add rfl (by decide)) rfl))
theorem rY_Sat_resolve (rz : zF) (rm : mF) (hR : Rc rz rm) (β : Nat) (σ : zS) (hσ : zOK σ) (x0 x1 : Int) (hx0 : zr x0) (hx1 : zr x1) : Rf (kY_Sat_resolve rz β σ x0 x1) (kG_Sat_resolve rm (cv σ) (i32 x0) (i32 x1)) β := by
  unfold kY_Sat_resolve kG_Sat_resolve
  refine Rf_bnd hR hσ (zrs_cons hx0 (zrs_cons (by decide) zrs_nil)) (e_cons rfl (e_cons (by decide) rfl)) (fun σ1 r1 hσ1 hr1 => ?_)
  refine Rf_bnd hR hσ1 (zrs_cons hr1 (zrs_cons hr1 zrs_nil)) (e_cons rfl (e_cons rfl rfl)) (fun σ2 r2 hσ2 hr2 => ?_)
  refine Rf_eq rfl (by decide) (hσ2.1 5300) (by decide) (fun _ => ?_) (fun _ => ?_)
  · refine Rf_bnd hR hσ2 (zrs_cons hx1 (zrs_cons (by decide) zrs_nil)) (e_cons rfl (e_cons (by decide) rfl)) (fun σ3 r3 hσ3 hr3 => ?_)
    refine Rf_bnd hR hσ3 (zrs_cons hx1 (zrs_cons (by decide) zrs_nil)) (e_cons rfl (e_cons (by decide) rfl)) (fun σ4 r4 hσ4 hr4 => ?_)
    refine Rf_bnd hR hσ4 (zrs_cons hr3 (zrs_cons (by decide) (zrs_cons hr4 (zrs_cons (by decide) (zrs_cons (by decide) zrs_nil))))) (e_cons rfl (e_cons (by decide) (e_cons rfl (e_cons (by decide) (e_cons (by decide) rfl))))) (fun σ5 r5 hσ5 hr5 => ?_)
    refine Rf_eq rfl (by decide) hr5 (by decide) (fun _ => ?_) (fun _ => ?_)
    · exact Rf_tail hR hσ5 (zrs_cons hx0 (zrs_cons hx1 (zrs_cons hr1 zrs_nil))) (e_cons rfl (e_cons rfl (e_cons rfl rfl)))
    · refine Rf_bnd hR hσ5 zrs_nil rfl (fun σ6 r6 hσ6 hr6 => ?_)
      refine Rf_bnd hR hσ6 (zrs_cons hx0 (zrs_cons hx1 (zrs_cons (by decide) (zrs_cons (by decide) zrs_nil)))) (e_cons rfl (e_cons rfl (e_cons (by decide) (e_cons (by decide) rfl)))) (fun σ7 r7 hσ7 hr7 => ?_)
      refine Rf_bnd hR hσ7 (zrs_cons (by decide) (zrs_cons hx0 (zrs_cons (by decide) zrs_nil))) (e_cons (by decide) (e_cons rfl (e_cons (by decide) rfl))) (fun σ8 r8 hσ8 hr8 => ?_)
      exact Rf_tail hR hσ8 (zrs_cons hx0 (zrs_cons hx1 (zrs_cons hr1 zrs_nil))) (e_cons rfl (e_cons rfl (e_cons rfl rfl)))
  · exact Rf_tail hR hσ2 (zrs_cons hx0 (zrs_cons hx1 (zrs_cons hr1 zrs_nil))) (e_cons rfl (e_cons rfl (e_cons rfl rfl)))
theorem rY_Sat_resolve_p80 (rz : zF) (rm : mF) (hR : Rc rz rm) (β : Nat) (σ : zS) (hσ : zOK σ) (x0 x1 x2 : Int) (hx0 : zr x0) (hx1 : zr x1) (hx2 : zr x2) : Rf (kY_Sat_resolve_p80 rz β σ x0 x1 x2) (kG_Sat_resolve_p80 rm (cv σ) (i32 x0) (i32 x1) (i32 x2)) β := by
  unfold kY_Sat_resolve_p80 kG_Sat_resolve_p80
  exact Rf_some hσ (by decide) (by decide)
theorem rY_Sat_rewrite (rz : zF) (rm : mF) (hR : Rc rz rm) (β : Nat) (σ : zS) (hσ : zOK σ) (x0 : Int) (hx0 : zr x0) : Rf (kY_Sat_rewrite rz β σ x0) (kG_Sat_rewrite rm (cv σ) (i32 x0)) β := by
  unfold kY_Sat_rewrite kG_Sat_rewrite
  refine Rf_bnd hR hσ zrs_nil rfl (fun σ1 r1 hσ1 hr1 => ?_)
  refine Rf_bnd hR hσ1 (zrs_cons hx0 zrs_nil) (e_cons rfl rfl) (fun σ2 r2 hσ2 hr2 => ?_)
  exact Rf_tail hR hσ2 (zrs_cons hx0 (zrs_cons (hσ2.1 4901) (zrs_cons (by decide) zrs_nil))) (e_cons rfl (e_cons rfl (e_cons (by decide) rfl)))
theorem rY_Sat_rewrite_p29 (rz : zF) (rm : mF) (hR : Rc rz rm) (β : Nat) (σ : zS) (hσ : zOK σ) (x0 x1 x2 : Int) (hx0 : zr x0) (hx1 : zr x1) (hx2 : zr x2) : Rf (kY_Sat_rewrite_p29 rz β σ x0 x1 x2) (kG_Sat_rewrite_p29 rm (cv σ) (i32 x0) (i32 x1) (i32 x2)) β := by
  unfold kY_Sat_rewrite_p29 kG_Sat_rewrite_p29
  refine Rf_le (by decide) rfl (by decide) hx2 (fun _ => ?_) (fun _ => ?_)
  · exact Rf_tail hR hσ (zrs_cons hx0 (zrs_cons hx1 (zrs_cons hx2 zrs_nil))) (e_cons rfl (e_cons rfl (e_cons rfl rfl)))
  · refine Rf_bnd hR hσ zrs_nil rfl (fun σ1 r1 hσ1 hr1 => ?_)
    refine Rf_eq rfl (by decide) hr1 (by decide) (fun _ => ?_) (fun _ => ?_)
    · exact Rf_tail hR hσ1 (zrs_cons hx0 (zrs_cons hx1 (zrs_cons hx2 zrs_nil))) (e_cons rfl (e_cons rfl (e_cons rfl rfl)))
    · refine Rf_bnd hR hσ1 (zrs_cons hx1 (zrs_cons hr1 zrs_nil)) (e_cons rfl (e_cons rfl rfl)) (fun σ2 r2 hσ2 hr2 => ?_)
      refine Rf_g (fun hg1 => ?_)
      exact Rf_tail hR hσ2 (zrs_cons hx0 (zrs_cons hx1 (zrs_cons hg1 zrs_nil))) (e_cons rfl (e_cons rfl (e_cons (e_add rfl (by decide)) rfl)))
theorem rY_Sat_rewrite_p74 (rz : zF) (rm : mF) (hR : Rc rz rm) (β : Nat) (σ : zS) (hσ : zOK σ) (x0 x1 x2 : Int) (hx0 : zr x0) (hx1 : zr x1) (hx2 : zr x2) : Rf (kY_Sat_rewrite_p74 rz β σ x0 x1 x2) (kG_Sat_rewrite_p74 rm (cv σ) (i32 x0) (i32 x1) (i32 x2)) β := by
  unfold kY_Sat_rewrite_p74 kG_Sat_rewrite_p74
  refine Rf_eq rfl (by decide) hx2 (by decide) (fun _ => ?_) (fun _ => ?_)
  · exact Rf_some hσ hx0 rfl
  · refine Rf_I (e_wadd rfl rfl) (zr_to _) hσ (fun σ1 hσ1 => ?_)
    refine Rf_bnd hR hσ1 zrs_nil rfl (fun σ2 r2 hσ2 hr2 => ?_)
    refine Rf_bnd hR hσ2 (zrs_cons hx0 (zrs_cons hx1 zrs_nil)) (e_cons rfl (e_cons rfl rfl)) (fun σ3 r3 hσ3 hr3 => ?_)
    refine Rf_eq rfl (by decide) hr3 (by decide) (fun _ => ?_) (fun _ => ?_)
    · refine Rf_I rfl hx1 hσ3 (fun σ4 hσ4 => ?_)
      exact Rf_tail hR hσ4 (zrs_cons hx0 (zrs_cons hx1 (zrs_cons hx2 (zrs_cons hr3 zrs_nil)))) (e_cons rfl (e_cons rfl (e_cons rfl (e_cons rfl rfl))))
    · exact Rf_tail hR hσ3 (zrs_cons hx0 (zrs_cons hx1 (zrs_cons hx2 (zrs_cons hr3 zrs_nil)))) (e_cons rfl (e_cons rfl (e_cons rfl (e_cons rfl rfl))))
theorem rY_Sat_rewrite_p122 (rz : zF) (rm : mF) (hR : Rc rz rm) (β : Nat) (σ : zS) (hσ : zOK σ) (x0 x1 x2 x3 : Int) (hx0 : zr x0) (hx1 : zr x1) (hx2 : zr x2) (hx3 : zr x3) : Rf (kY_Sat_rewrite_p122 rz β σ x0 x1 x2 x3) (kG_Sat_rewrite_p122 rm (cv σ) (i32 x0) (i32 x1) (i32 x2) (i32 x3)) β := by
  unfold kY_Sat_rewrite_p122 kG_Sat_rewrite_p122
  exact Rf_some hσ hx3 rfl
theorem rY_Sat_superpose (rz : zF) (rm : mF) (hR : Rc rz rm) (β : Nat) (σ : zS) (hσ : zOK σ) (x0 x1 : Int) (hx0 : zr x0) (hx1 : zr x1) : Rf (kY_Sat_superpose rz β σ x0 x1) (kG_Sat_superpose rm (cv σ) (i32 x0) (i32 x1)) β := by
  unfold kY_Sat_superpose kG_Sat_superpose
  refine Rf_bnd hR hσ (zrs_cons hx0 (zrs_cons (by decide) zrs_nil)) (e_cons rfl (e_cons (by decide) rfl)) (fun σ1 r1 hσ1 hr1 => ?_)
  refine Rf_bnd hR hσ1 (zrs_cons hx1 (zrs_cons (by decide) zrs_nil)) (e_cons rfl (e_cons (by decide) rfl)) (fun σ2 r2 hσ2 hr2 => ?_)
  refine Rf_g (fun hg1 => ?_)
  refine Rf_g (fun hg2 => ?_)
  exact Rf_tail hR hσ2 (zrs_cons hx0 (zrs_cons hx1 (zrs_cons hg1 (zrs_cons hg2 (zrs_cons (by decide) zrs_nil))))) (e_cons rfl (e_cons rfl (e_cons (e_mul (by decide) rfl) (e_cons (e_mul (by decide) rfl) (e_cons (by decide) rfl)))))
theorem rY_Sat_superpose_p28 (rz : zF) (rm : mF) (hR : Rc rz rm) (β : Nat) (σ : zS) (hσ : zOK σ) (x0 x1 x2 x3 x4 : Int) (hx0 : zr x0) (hx1 : zr x1) (hx2 : zr x2) (hx3 : zr x3) (hx4 : zr x4) : Rf (kY_Sat_superpose_p28 rz β σ x0 x1 x2 x3 x4) (kG_Sat_superpose_p28 rm (cv σ) (i32 x0) (i32 x1) (i32 x2) (i32 x3) (i32 x4)) β := by
  unfold kY_Sat_superpose_p28 kG_Sat_superpose_p28
  refine Rf_le rfl rfl hx2 hx4 (fun _ => ?_) (fun _ => ?_)
  · exact Rf_some hσ (by decide) (by decide)
  · refine Rf_bnd hR hσ (zrs_cons hx0 (zrs_cons (zr_to _) zrs_nil)) (e_cons rfl (e_cons (e_shr rfl (by decide)) rfl)) (fun σ1 r1 hσ1 hr1 => ?_)
    refine Rf_bnd hR hσ1 (zrs_cons hr1 zrs_nil) (e_cons rfl rfl) (fun σ2 r2 hσ2 hr2 => ?_)
    refine Rf_eq rfl (by decide) hr2 (by decide) (fun _ => ?_) (fun _ => ?_)
    · exact Rf_tail hR hσ2 (zrs_cons hx0 (zrs_cons hx1 (zrs_cons hx2 (zrs_cons hx3 (zrs_cons hx4 (zrs_cons hr1 zrs_nil)))))) (e_cons rfl (e_cons rfl (e_cons rfl (e_cons rfl (e_cons rfl (e_cons rfl rfl))))))
    · refine Rf_bnd hR hσ2 (zrs_cons hr1 zrs_nil) (e_cons rfl rfl) (fun σ3 r3 hσ3 hr3 => ?_)
      refine Rf_eq rfl (by decide) hr3 (by decide) (fun _ => ?_) (fun _ => ?_)
      · exact Rf_tail hR hσ3 (zrs_cons hx0 (zrs_cons hx1 (zrs_cons hx2 (zrs_cons hx3 (zrs_cons hx4 (zrs_cons hr1 zrs_nil)))))) (e_cons rfl (e_cons rfl (e_cons rfl (e_cons rfl (e_cons rfl (e_cons rfl rfl))))))
      · refine Rf_bnd hR hσ3 (zrs_cons hr1 (zrs_cons (zr_to _) zrs_nil)) (e_cons rfl (e_cons (e_and rfl (by decide)) rfl)) (fun σ4 r4 hσ4 hr4 => ?_)
        refine Rf_eq rfl (by decide) hr4 (by decide) (fun _ => ?_) (fun _ => ?_)
        · exact Rf_tail hR hσ4 (zrs_cons hx0 (zrs_cons hx1 (zrs_cons hx2 (zrs_cons hx3 (zrs_cons hx4 (zrs_cons hr1 zrs_nil)))))) (e_cons rfl (e_cons rfl (e_cons rfl (e_cons rfl (e_cons rfl (e_cons rfl rfl))))))
        · exact Rf_tail hR hσ4 (zrs_cons hx0 (zrs_cons hx1 (zrs_cons hx2 (zrs_cons hx3 (zrs_cons hx4 (zrs_cons hr1 (zrs_cons (by decide) zrs_nil))))))) (e_cons rfl (e_cons rfl (e_cons rfl (e_cons rfl (e_cons rfl (e_cons rfl (e_cons (by decide) rfl)))))))
theorem rY_Sat_superpose_p92 (rz : zF) (rm : mF) (hR : Rc rz rm) (β : Nat) (σ : zS) (hσ : zOK σ) (x0 x1 x2 x3 x4 x5 : Int) (hx0 : zr x0) (hx1 : zr x1) (hx2 : zr x2) (hx3 : zr x3) (hx4 : zr x4) (hx5 : zr x5) : Rf (kY_Sat_superpose_p92 rz β σ x0 x1 x2 x3 x4 x5) (kG_Sat_superpose_p92 rm (cv σ) (i32 x0) (i32 x1) (i32 x2) (i32 x3) (i32 x4) (i32 x5)) β := by
  unfold kY_Sat_superpose_p92 kG_Sat_superpose_p92
  exact Rf_tail hR hσ (zrs_cons hx0 (zrs_cons hx1 (zrs_cons hx2 (zrs_cons hx3 (zrs_cons hx4 (zrs_cons hx5 (zrs_cons (by decide) zrs_nil))))))) (e_cons rfl (e_cons rfl (e_cons rfl (e_cons rfl (e_cons rfl (e_cons rfl (e_cons (by decide) rfl)))))))
theorem rY_Sat_superpose_p93 (rz : zF) (rm : mF) (hR : Rc rz rm) (β : Nat) (σ : zS) (hσ : zOK σ) (x0 x1 x2 x3 x4 x5 x6 : Int) (hx0 : zr x0) (hx1 : zr x1) (hx2 : zr x2) (hx3 : zr x3) (hx4 : zr x4) (hx5 : zr x5) (hx6 : zr x6) : Rf (kY_Sat_superpose_p93 rz β σ x0 x1 x2 x3 x4 x5 x6) (kG_Sat_superpose_p93 rm (cv σ) (i32 x0) (i32 x1) (i32 x2) (i32 x3) (i32 x4) (i32 x5) (i32 x6)) β := by
  unfold kY_Sat_superpose_p93 kG_Sat_superpose_p93
  exact Rf_tail hR hσ (zrs_cons hx0 (zrs_cons hx1 (zrs_cons hx2 (zrs_cons hx3 (zrs_cons hx4 (zrs_cons hx5 (zrs_cons hx6 (zrs_cons (by decide) zrs_nil)))))))) (e_cons rfl (e_cons rfl (e_cons rfl (e_cons rfl (e_cons rfl (e_cons rfl (e_cons rfl (e_cons (by decide) rfl))))))))
theorem rY_Sat_superpose_p98 (rz : zF) (rm : mF) (hR : Rc rz rm) (β : Nat) (σ : zS) (hσ : zOK σ) (x0 x1 x2 x3 x4 x5 x6 x7 : Int) (hx0 : zr x0) (hx1 : zr x1) (hx2 : zr x2) (hx3 : zr x3) (hx4 : zr x4) (hx5 : zr x5) (hx6 : zr x6) (hx7 : zr x7) : Rf (kY_Sat_superpose_p98 rz β σ x0 x1 x2 x3 x4 x5 x6 x7) (kG_Sat_superpose_p98 rm (cv σ) (i32 x0) (i32 x1) (i32 x2) (i32 x3) (i32 x4) (i32 x5) (i32 x6) (i32 x7)) β := by
  unfold kY_Sat_superpose_p98 kG_Sat_superpose_p98
  refine Rf_le rfl rfl hx3 hx7 (fun _ => ?_) (fun _ => ?_)
  · exact Rf_tail hR hσ (zrs_cons hx0 (zrs_cons hx1 (zrs_cons hx2 (zrs_cons hx3 (zrs_cons hx4 (zrs_cons hx5 (zrs_cons hx6 (zrs_cons hx7 zrs_nil)))))))) (e_cons rfl (e_cons rfl (e_cons rfl (e_cons rfl (e_cons rfl (e_cons rfl (e_cons rfl (e_cons rfl rfl))))))))
  · refine Rf_eq rfl (by decide) hx6 (by decide) (fun _ => ?_) (fun _ => ?_)
    · exact Rf_tail hR hσ (zrs_cons hx0 (zrs_cons hx1 (zrs_cons hx2 (zrs_cons hx3 (zrs_cons hx4 (zrs_cons hx5 (zrs_cons hx6 (zrs_cons hx7 zrs_nil)))))))) (e_cons rfl (e_cons rfl (e_cons rfl (e_cons rfl (e_cons rfl (e_cons rfl (e_cons rfl (e_cons rfl rfl))))))))
    · refine Rf_bnd hR hσ (zrs_cons hx1 (zrs_cons (zr_to _) zrs_nil)) (e_cons rfl (e_cons (e_shr rfl (by decide)) rfl)) (fun σ1 r1 hσ1 hr1 => ?_)
      refine Rf_bnd hR hσ1 (zrs_cons hr1 zrs_nil) (e_cons rfl rfl) (fun σ2 r2 hσ2 hr2 => ?_)
      refine Rf_eq rfl (by decide) hr2 (by decide) (fun _ => ?_) (fun _ => ?_)
      · exact Rf_tail hR hσ2 (zrs_cons hx0 (zrs_cons hx1 (zrs_cons hx2 (zrs_cons hx3 (zrs_cons hx4 (zrs_cons hx5 (zrs_cons hx6 (zrs_cons hx7 (zrs_cons hr1 zrs_nil))))))))) (e_cons rfl (e_cons rfl (e_cons rfl (e_cons rfl (e_cons rfl (e_cons rfl (e_cons rfl (e_cons rfl (e_cons rfl rfl)))))))))
      · refine Rf_bnd hR hσ2 (zrs_cons hr1 (zrs_cons (zr_to _) zrs_nil)) (e_cons rfl (e_cons (e_and rfl (by decide)) rfl)) (fun σ3 r3 hσ3 hr3 => ?_)
        refine Rf_eq rfl (by decide) hr3 (by decide) (fun _ => ?_) (fun _ => ?_)
        · exact Rf_tail hR hσ3 (zrs_cons hx0 (zrs_cons hx1 (zrs_cons hx2 (zrs_cons hx3 (zrs_cons hx4 (zrs_cons hx5 (zrs_cons hx6 (zrs_cons hx7 (zrs_cons hr1 zrs_nil))))))))) (e_cons rfl (e_cons rfl (e_cons rfl (e_cons rfl (e_cons rfl (e_cons rfl (e_cons rfl (e_cons rfl (e_cons rfl rfl)))))))))
        · refine Rf_bnd hR hσ3 (zrs_cons hx0 (zrs_cons hx5 (zrs_cons (zr_to _) (zrs_cons hx1 (zrs_cons hr1 (zrs_cons (zr_to _) zrs_nil)))))) (e_cons rfl (e_cons rfl (e_cons (e_and rfl (by decide)) (e_cons rfl (e_cons rfl (e_cons (e_and rfl (by decide)) rfl)))))) (fun σ4 r4 hσ4 hr4 => ?_)
          exact Rf_tail hR hσ4 (zrs_cons hx0 (zrs_cons hx1 (zrs_cons hx2 (zrs_cons hx3 (zrs_cons hx4 (zrs_cons hx5 (zrs_cons hx6 (zrs_cons hx7 (zrs_cons hr1 zrs_nil))))))))) (e_cons rfl (e_cons rfl (e_cons rfl (e_cons rfl (e_cons rfl (e_cons rfl (e_cons rfl (e_cons rfl (e_cons rfl rfl)))))))))
theorem rY_Sat_superpose_p170 (rz : zF) (rm : mF) (hR : Rc rz rm) (β : Nat) (σ : zS) (hσ : zOK σ) (x0 x1 x2 x3 x4 x5 x6 x7 x8 : Int) (hx0 : zr x0) (hx1 : zr x1) (hx2 : zr x2) (hx3 : zr x3) (hx4 : zr x4) (hx5 : zr x5) (hx6 : zr x6) (hx7 : zr x7) (hx8 : zr x8) : Rf (kY_Sat_superpose_p170 rz β σ x0 x1 x2 x3 x4 x5 x6 x7 x8) (kG_Sat_superpose_p170 rm (cv σ) (i32 x0) (i32 x1) (i32 x2) (i32 x3) (i32 x4) (i32 x5) (i32 x6) (i32 x7) (i32 x8)) β := by
  unfold kY_Sat_superpose_p170 kG_Sat_superpose_p170
  refine Rf_g (fun hg1 => ?_)
  exact Rf_tail hR hσ (zrs_cons hx0 (zrs_cons hx1 (zrs_cons hx2 (zrs_cons hx3 (zrs_cons hx4 (zrs_cons hx5 (zrs_cons hx6 (zrs_cons hg1 zrs_nil)))))))) (e_cons rfl (e_cons rfl (e_cons rfl (e_cons rfl (e_cons rfl (e_cons rfl (e_cons rfl (e_cons (e_add rfl (by decide)) rfl))))))))
theorem rY_Sat_superpose_p176 (rz : zF) (rm : mF) (hR : Rc rz rm) (β : Nat) (σ : zS) (hσ : zOK σ) (x0 x1 x2 x3 x4 x5 x6 x7 : Int) (hx0 : zr x0) (hx1 : zr x1) (hx2 : zr x2) (hx3 : zr x3) (hx4 : zr x4) (hx5 : zr x5) (hx6 : zr x6) (hx7 : zr x7) : Rf (kY_Sat_superpose_p176 rz β σ x0 x1 x2 x3 x4 x5 x6 x7) (kG_Sat_superpose_p176 rm (cv σ) (i32 x0) (i32 x1) (i32 x2) (i32 x3) (i32 x4) (i32 x5) (i32 x6) (i32 x7)) β := by
  unfold kY_Sat_superpose_p176 kG_Sat_superpose_p176
  refine Rf_g (fun hg1 => ?_)
  exact Rf_tail hR hσ (zrs_cons hx0 (zrs_cons hx1 (zrs_cons hx2 (zrs_cons hx3 (zrs_cons hg1 zrs_nil))))) (e_cons rfl (e_cons rfl (e_cons rfl (e_cons rfl (e_cons (e_add rfl (by decide)) rfl)))))
theorem rY_Sat_superposeInto (rz : zF) (rm : mF) (hR : Rc rz rm) (β : Nat) (σ : zS) (hσ : zOK σ) (x0 x1 x2 x3 x4 x5 : Int) (hx0 : zr x0) (hx1 : zr x1) (hx2 : zr x2) (hx3 : zr x3) (hx4 : zr x4) (hx5 : zr x5) : Rf (kY_Sat_superposeInto rz β σ x0 x1 x2 x3 x4 x5) (kG_Sat_superposeInto rm (cv σ) (i32 x0) (i32 x1) (i32 x2) (i32 x3) (i32 x4) (i32 x5)) β := by
  unfold kY_Sat_superposeInto kG_Sat_superposeInto
  refine Rf_bnd hR hσ (zrs_cons hx1 (zrs_cons hx2 zrs_nil)) (e_cons rfl (e_cons rfl rfl)) (fun σ1 r1 hσ1 hr1 => ?_)
  refine Rf_bnd hR hσ1 (zrs_cons hx4 (zrs_cons hx5 zrs_nil)) (e_cons rfl (e_cons rfl rfl)) (fun σ2 r2 hσ2 hr2 => ?_)
  refine Rf_bnd hR hσ2 (zrs_cons hx4 (zrs_cons hx5 zrs_nil)) (e_cons rfl (e_cons rfl rfl)) (fun σ3 r3 hσ3 hr3 => ?_)
  refine Rf_g (fun hg1 => ?_)
  exact Rf_tail hR hσ3 (zrs_cons hx0 (zrs_cons hx1 (zrs_cons hx2 (zrs_cons hx3 (zrs_cons hx4 (zrs_cons hx5 (zrs_cons hr1 (zrs_cons hr2 (zrs_cons hg1 (zrs_cons hr2 zrs_nil)))))))))) (e_cons rfl (e_cons rfl (e_cons rfl (e_cons rfl (e_cons rfl (e_cons rfl (e_cons rfl (e_cons rfl (e_cons (e_add rfl rfl) (e_cons rfl rfl))))))))))
theorem rY_Sat_superposeInto_p44 (rz : zF) (rm : mF) (hR : Rc rz rm) (β : Nat) (σ : zS) (hσ : zOK σ) (x0 x1 x2 x3 x4 x5 x6 x7 x8 x9 : Int) (hx0 : zr x0) (hx1 : zr x1) (hx2 : zr x2) (hx3 : zr x3) (hx4 : zr x4) (hx5 : zr x5) (hx6 : zr x6) (hx7 : zr x7) (hx8 : zr x8) (hx9 : zr x9) : Rf (kY_Sat_superposeInto_p44 rz β σ x0 x1 x2 x3 x4 x5 x6 x7 x8 x9) (kG_Sat_superposeInto_p44 rm (cv σ) (i32 x0) (i32 x1) (i32 x2) (i32 x3) (i32 x4) (i32 x5) (i32 x6) (i32 x7) (i32 x8) (i32 x9)) β := by
  unfold kY_Sat_superposeInto_p44 kG_Sat_superposeInto_p44
  refine Rf_le rfl rfl hx8 hx9 (fun _ => ?_) (fun _ => ?_)
  · exact Rf_tail hR hσ (zrs_cons hx0 (zrs_cons hx1 (zrs_cons hx2 (zrs_cons hx3 (zrs_cons hx4 (zrs_cons hx5 (zrs_cons hx6 (zrs_cons hx7 (zrs_cons hx8 (zrs_cons hx9 zrs_nil)))))))))) (e_cons rfl (e_cons rfl (e_cons rfl (e_cons rfl (e_cons rfl (e_cons rfl (e_cons rfl (e_cons rfl (e_cons rfl (e_cons rfl rfl))))))))))
  · refine Rf_eq rfl (by decide) (hσ.1 5300) (by decide) (fun _ => ?_) (fun _ => ?_)
    · refine Rf_rd rfl hx6 (fun hb1 => ?_)
      refine Rf_rd rfl hx9 (fun hb2 => ?_)
      refine Rf_lt (e_rd rfl hb2) (by decide) (hσ.2.1 _ _) (by decide) (fun _ => ?_) (fun _ => ?_)
      · exact Rf_tail hR hσ (zrs_cons hx0 (zrs_cons hx1 (zrs_cons hx2 (zrs_cons hx3 (zrs_cons hx4 (zrs_cons hx5 (zrs_cons hx6 (zrs_cons hx7 (zrs_cons hx8 (zrs_cons hx9 (zrs_cons (hσ.2.1 _ _) (zrs_cons (hσ.2.1 _ _) zrs_nil)))))))))))) (e_cons rfl (e_cons rfl (e_cons rfl (e_cons rfl (e_cons rfl (e_cons rfl (e_cons rfl (e_cons rfl (e_cons rfl (e_cons rfl (e_cons (e_rd rfl hb1) (e_cons (e_rd rfl hb2) rfl))))))))))))
      · refine Rf_lt (e_rd rfl hb1) (by decide) (hσ.2.1 _ _) (by decide) (fun _ => ?_) (fun _ => ?_)
        · exact Rf_tail hR hσ (zrs_cons hx0 (zrs_cons hx1 (zrs_cons hx2 (zrs_cons hx3 (zrs_cons hx4 (zrs_cons hx5 (zrs_cons hx6 (zrs_cons hx7 (zrs_cons hx8 (zrs_cons hx9 (zrs_cons (hσ.2.1 _ _) (zrs_cons (hσ.2.1 _ _) zrs_nil)))))))))))) (e_cons rfl (e_cons rfl (e_cons rfl (e_cons rfl (e_cons rfl (e_cons rfl (e_cons rfl (e_cons rfl (e_cons rfl (e_cons rfl (e_cons (e_rd rfl hb1) (e_cons (e_rd rfl hb2) rfl))))))))))))
        · refine Rf_eq (e_rd rfl hb1) (e_rd rfl hb2) (hσ.2.1 _ _) (hσ.2.1 _ _) (fun _ => ?_) (fun _ => ?_)
          · exact Rf_tail hR hσ (zrs_cons hx0 (zrs_cons hx1 (zrs_cons hx2 (zrs_cons hx3 (zrs_cons hx4 (zrs_cons hx5 (zrs_cons hx6 (zrs_cons hx7 (zrs_cons hx8 (zrs_cons hx9 (zrs_cons (hσ.2.1 _ _) (zrs_cons (hσ.2.1 _ _) zrs_nil)))))))))))) (e_cons rfl (e_cons rfl (e_cons rfl (e_cons rfl (e_cons rfl (e_cons rfl (e_cons rfl (e_cons rfl (e_cons rfl (e_cons rfl (e_cons (e_rd rfl hb1) (e_cons (e_rd rfl hb2) rfl))))))))))))
          · exact Rf_tail hR hσ (zrs_cons hx0 (zrs_cons hx1 (zrs_cons hx2 (zrs_cons hx3 (zrs_cons hx4 (zrs_cons hx5 (zrs_cons hx6 (zrs_cons hx7 (zrs_cons hx8 (zrs_cons hx9 (zrs_cons (hσ.2.1 _ _) (zrs_cons (hσ.2.1 _ _) zrs_nil)))))))))))) (e_cons rfl (e_cons rfl (e_cons rfl (e_cons rfl (e_cons rfl (e_cons rfl (e_cons rfl (e_cons rfl (e_cons rfl (e_cons rfl (e_cons (e_rd rfl hb1) (e_cons (e_rd rfl hb2) rfl))))))))))))
    · exact Rf_tail hR hσ (zrs_cons hx0 (zrs_cons hx1 (zrs_cons hx2 (zrs_cons hx3 (zrs_cons hx4 (zrs_cons hx5 (zrs_cons hx6 (zrs_cons hx7 (zrs_cons hx8 (zrs_cons hx9 zrs_nil)))))))))) (e_cons rfl (e_cons rfl (e_cons rfl (e_cons rfl (e_cons rfl (e_cons rfl (e_cons rfl (e_cons rfl (e_cons rfl (e_cons rfl rfl))))))))))
theorem rY_Sat_superposeInto_p108 (rz : zF) (rm : mF) (hR : Rc rz rm) (β : Nat) (σ : zS) (hσ : zOK σ) (x0 x1 x2 x3 x4 x5 x6 x7 x8 x9 x10 x11 : Int) (hx0 : zr x0) (hx1 : zr x1) (hx2 : zr x2) (hx3 : zr x3) (hx4 : zr x4) (hx5 : zr x5) (hx6 : zr x6) (hx7 : zr x7) (hx8 : zr x8) (hx9 : zr x9) (hx10 : zr x10) (hx11 : zr x11) : Rf (kY_Sat_superposeInto_p108 rz β σ x0 x1 x2 x3 x4 x5 x6 x7 x8 x9 x10 x11) (kG_Sat_superposeInto_p108 rm (cv σ) (i32 x0) (i32 x1) (i32 x2) (i32 x3) (i32 x4) (i32 x5) (i32 x6) (i32 x7) (i32 x8) (i32 x9) (i32 x10) (i32 x11)) β := by
  unfold kY_Sat_superposeInto_p108 kG_Sat_superposeInto_p108
  refine Rf_bnd hR hσ (zrs_cons hx0 (zrs_cons (by decide) zrs_nil)) (e_cons rfl (e_cons (by decide) rfl)) (fun σ1 r1 hσ1 hr1 => ?_)
  refine Rf_bnd hR hσ1 (zrs_cons hx3 (zrs_cons (by decide) zrs_nil)) (e_cons rfl (e_cons (by decide) rfl)) (fun σ2 r2 hσ2 hr2 => ?_)
  refine Rf_bnd hR hσ2 (zrs_cons hr1 (zrs_cons hr2 zrs_nil)) (e_cons rfl (e_cons rfl rfl)) (fun σ3 r3 hσ3 hr3 => ?_)
  refine Rf_bnd hR hσ3 (zrs_cons hx6 (zrs_cons (by decide) (zrs_cons hx9 (zrs_cons (by decide) (zrs_cons (by decide) zrs_nil))))) (e_cons rfl (e_cons (by decide) (e_cons rfl (e_cons (by decide) (e_cons (by decide) rfl))))) (fun σ4 r4 hσ4 hr4 => ?_)
  refine Rf_eq rfl (by decide) hr4 (by decide) (fun _ => ?_) (fun _ => ?_)
  · exact Rf_tail hR hσ4 (zrs_cons hx0 (zrs_cons hx1 (zrs_cons hx2 (zrs_cons hx3 (zrs_cons hx4 (zrs_cons hx5 (zrs_cons hx6 (zrs_cons hx7 (zrs_cons hx8 (zrs_cons hx9 (zrs_cons hx10 (zrs_cons hx11 zrs_nil)))))))))))) (e_cons rfl (e_cons rfl (e_cons rfl (e_cons rfl (e_cons rfl (e_cons rfl (e_cons rfl (e_cons rfl (e_cons rfl (e_cons rfl (e_cons rfl (e_cons rfl rfl))))))))))))
  · refine Rf_bnd hR hσ4 zrs_nil rfl (fun σ5 r5 hσ5 hr5 => ?_)
    refine Rf_bnd hR hσ5 (zrs_cons hx0 (zrs_cons hx1 (zrs_cons (by decide) (zrs_cons (by decide) zrs_nil)))) (e_cons rfl (e_cons rfl (e_cons (by decide) (e_cons (by decide) rfl)))) (fun σ6 r6 hσ6 hr6 => ?_)
    refine Rf_g (fun hg1 => ?_)
    refine Rf_bnd hR hσ6 (zrs_cons hx3 (zrs_cons hx9 (zrs_cons hx1 (zrs_cons hg1 zrs_nil)))) (e_cons rfl (e_cons rfl (e_cons rfl (e_cons (e_sub (by decide) rfl) rfl)))) (fun σ7 r7 hσ7 hr7 => ?_)
    refine Rf_bnd hR hσ7 (zrs_cons (by decide) (zrs_cons hx0 (zrs_cons hx3 zrs_nil))) (e_cons (by decide) (e_cons rfl (e_cons rfl rfl))) (fun σ8 r8 hσ8 hr8 => ?_)
    exact Rf_tail hR hσ8 (zrs_cons hx0 (zrs_cons hx1 (zrs_cons hx2 (zrs_cons hx3 (zrs_cons hx4 (zrs_cons hx5 (zrs_cons hx6 (zrs_cons hx7 (zrs_cons hx8 (zrs_cons hx9 (zrs_cons hx10 (zrs_cons hx11 zrs_nil)))))))))))) (e_cons rfl (e_cons rfl (e_cons rfl (e_cons rfl (e_cons rfl (e_cons rfl (e_cons rfl (e_cons rfl (e_cons rfl (e_cons rfl (e_cons rfl (e_cons rfl rfl))))))))))))
theorem rY_Sat_superposeInto_p189 (rz : zF) (rm : mF) (hR : Rc rz rm) (β : Nat) (σ : zS) (hσ : zOK σ) (x0 x1 x2 x3 x4 x5 x6 x7 x8 x9 x10 x11 : Int) (hx0 : zr x0) (hx1 : zr x1) (hx2 : zr x2) (hx3 : zr x3) (hx4 : zr x4) (hx5 : zr x5) (hx6 : zr x6) (hx7 : zr x7) (hx8 : zr x8) (hx9 : zr x9) (hx10 : zr x10) (hx11 : zr x11) : Rf (kY_Sat_superposeInto_p189 rz β σ x0 x1 x2 x3 x4 x5 x6 x7 x8 x9 x10 x11) (kG_Sat_superposeInto_p189 rm (cv σ) (i32 x0) (i32 x1) (i32 x2) (i32 x3) (i32 x4) (i32 x5) (i32 x6) (i32 x7) (i32 x8) (i32 x9) (i32 x10) (i32 x11)) β := by
  unfold kY_Sat_superposeInto_p189 kG_Sat_superposeInto_p189
  refine Rf_g (fun hg1 => ?_)
  exact Rf_tail hR hσ (zrs_cons hx0 (zrs_cons hx1 (zrs_cons hx2 (zrs_cons hx3 (zrs_cons hx4 (zrs_cons hx5 (zrs_cons hx6 (zrs_cons hx7 (zrs_cons hx8 (zrs_cons hg1 zrs_nil)))))))))) (e_cons rfl (e_cons rfl (e_cons rfl (e_cons rfl (e_cons rfl (e_cons rfl (e_cons rfl (e_cons rfl (e_cons rfl (e_cons (e_add rfl (by decide)) rfl))))))))))
theorem rY_Sat_superposeInto_p195 (rz : zF) (rm : mF) (hR : Rc rz rm) (β : Nat) (σ : zS) (hσ : zOK σ) (x0 x1 x2 x3 x4 x5 x6 x7 x8 x9 : Int) (hx0 : zr x0) (hx1 : zr x1) (hx2 : zr x2) (hx3 : zr x3) (hx4 : zr x4) (hx5 : zr x5) (hx6 : zr x6) (hx7 : zr x7) (hx8 : zr x8) (hx9 : zr x9) : Rf (kY_Sat_superposeInto_p195 rz β σ x0 x1 x2 x3 x4 x5 x6 x7 x8 x9) (kG_Sat_superposeInto_p195 rm (cv σ) (i32 x0) (i32 x1) (i32 x2) (i32 x3) (i32 x4) (i32 x5) (i32 x6) (i32 x7) (i32 x8) (i32 x9)) β := by
  unfold kY_Sat_superposeInto_p195 kG_Sat_superposeInto_p195
  exact Rf_some hσ (by decide) (by decide)
theorem rY_Sat_takeGiven (rz : zF) (rm : mF) (hR : Rc rz rm) (β : Nat) (σ : zS) (hσ : zOK σ) : Rf (kY_Sat_takeGiven rz β σ) (kG_Sat_takeGiven rm (cv σ)) β := by
  unfold kY_Sat_takeGiven kG_Sat_takeGiven
  refine Rf_bnd hR hσ zrs_nil rfl (fun σ1 r1 hσ1 hr1 => ?_)
  refine Rf_eq rfl (by decide) hr1 (by decide) (fun _ => ?_) (fun _ => ?_)
  · refine Rf_I (by decide) (by decide) hσ1 (fun σ6 hσ6 => ?_)
    exact Rf_some hσ6 (by decide) (by decide)
  · refine Rf_I (e_wadd rfl (by decide)) (zr_to _) hσ1 (fun σ2 hσ2 => ?_)
    refine Rf_bnd hR hσ2 (zrs_cons hr1 (zrs_cons (by decide) (zrs_cons (by decide) zrs_nil))) (e_cons rfl (e_cons (by decide) (e_cons (by decide) rfl))) (fun σ3 r3 hσ3 hr3 => ?_)
    refine Rf_bnd hR hσ3 (zrs_cons hr1 (zrs_cons (by decide) zrs_nil)) (e_cons rfl (e_cons (by decide) rfl)) (fun σ4 r4 hσ4 hr4 => ?_)
    refine Rf_le rfl (by decide) hr4 (by decide) (fun _ => ?_) (fun _ => ?_)
    · exact Rf_tail hR hσ4 (zrs_cons hr1 zrs_nil) (e_cons rfl rfl)
    · refine Rf_bnd hR hσ4 (zrs_cons hr1 zrs_nil) (e_cons rfl rfl) (fun σ5 r5 hσ5 hr5 => ?_)
      exact Rf_tail hR hσ5 (zrs_cons hr5 zrs_nil) (e_cons rfl rfl)
theorem rY_Sat_takeGiven_p56 (rz : zF) (rm : mF) (hR : Rc rz rm) (β : Nat) (σ : zS) (hσ : zOK σ) (x0 : Int) (hx0 : zr x0) : Rf (kY_Sat_takeGiven_p56 rz β σ x0) (kG_Sat_takeGiven_p56 rm (cv σ) (i32 x0)) β := by
  unfold kY_Sat_takeGiven_p56 kG_Sat_takeGiven_p56
  refine Rf_eq rfl (by decide) hx0 (by decide) (fun _ => ?_) (fun _ => ?_)
  · exact Rf_some hσ (by decide) (by decide)
  · refine Rf_bnd hR hσ (zrs_cons hx0 (zrs_cons (by decide) zrs_nil)) (e_cons rfl (e_cons (by decide) rfl)) (fun σ1 r1 hσ1 hr1 => ?_)
    refine Rf_eq rfl (by decide) hr1 (by decide) (fun _ => ?_) (fun _ => ?_)
    · refine Rf_bnd hR hσ1 (zrs_cons hx0 zrs_nil) (e_cons rfl rfl) (fun σ7 r7 hσ7 hr7 => ?_)
      exact Rf_some hσ7 (by decide) (by decide)
    · refine Rf_bnd hR hσ1 (zrs_cons hx0 zrs_nil) (e_cons rfl rfl) (fun σ2 r2 hσ2 hr2 => ?_)
      refine Rf_eq rfl (by decide) hr2 (by decide) (fun _ => ?_) (fun _ => ?_)
      · refine Rf_bnd hR hσ2 (zrs_cons hx0 zrs_nil) (e_cons rfl rfl) (fun σ3 r3 hσ3 hr3 => ?_)
        refine Rf_bnd hR hσ3 (zrs_cons hx0 (zrs_cons (by decide) (zrs_cons (by decide) zrs_nil))) (e_cons rfl (e_cons (by decide) (e_cons (by decide) rfl))) (fun σ4 r4 hσ4 hr4 => ?_)
        refine Rf_bnd hR hσ4 (zrs_cons hx0 zrs_nil) (e_cons rfl rfl) (fun σ5 r5 hσ5 hr5 => ?_)
        exact Rf_some hσ5 hx0 rfl
      · refine Rf_I (e_wadd rfl (by decide)) (zr_to _) hσ2 (fun σ6 hσ6 => ?_)
        exact Rf_some hσ6 (by decide) (by decide)
theorem rY_Sto_add (rz : zF) (rm : mF) (hR : Rc rz rm) (β : Nat) (σ : zS) (hσ : zOK σ) (x0 x1 x2 : Int) (hx0 : zr x0) (hx1 : zr x1) (hx2 : zr x2) : Rf (kY_Sto_add rz β σ x0 x1 x2) (kG_Sto_add rm (cv σ) (i32 x0) (i32 x1) (i32 x2)) β := by
  unfold kY_Sto_add kG_Sto_add
  refine Rf_Add rfl hx0 hσ (by decide) (by decide) (by decide) (by decide) (fun σ1 hσ1 => ?_)
  refine Rf_Add rfl hx1 hσ1 (by decide) (by decide) (by decide) (by decide) (fun σ2 hσ2 => ?_)
  refine Rf_Add rfl hx2 hσ2 (by decide) (by decide) (by decide) (by decide) (fun σ3 hσ3 => ?_)
  refine Rf_Add rfl (hσ3.1 3905) hσ3 (by decide) (by decide) (by decide) (by decide) (fun σ4 hσ4 => ?_)
  refine Rf_Add rfl (hσ4.1 3904) hσ4 (by decide) (by decide) (by decide) (by decide) (fun σ5 hσ5 => ?_)
  refine Rf_Add rfl (hσ5.1 3906) hσ5 (by decide) (by decide) (by decide) (by decide) (fun σ6 hσ6 => ?_)
  refine Rf_Add (by decide) (by decide) hσ6 (by decide) (by decide) (by decide) (by decide) (fun σ7 hσ7 => ?_)
  refine Rf_Add (by decide) (by decide) hσ7 (by decide) (by decide) (by decide) (by decide) (fun σ8 hσ8 => ?_)
  refine Rf_Add rfl (hσ8.1 4701) hσ8 (by decide) (by decide) (by decide) (by decide) (fun σ9 hσ9 => ?_)
  refine Rf_Add rfl (hσ9.1 4901) hσ9 (by decide) (by decide) (by decide) (by decide) (fun σ10 hσ10 => ?_)
  refine Rf_Add (by decide) (by decide) hσ10 (by decide) (by decide) (by decide) (by decide) (fun σ11 hσ11 => ?_)
  exact Rf_tail hR hσ11 (zrs_cons hx0 (zrs_cons hx1 (zrs_cons hx2 (zrs_cons (by decide) zrs_nil)))) (e_cons rfl (e_cons rfl (e_cons rfl (e_cons (by decide) rfl))))
theorem rY_Sto_add_p113 (rz : zF) (rm : mF) (hR : Rc rz rm) (β : Nat) (σ : zS) (hσ : zOK σ) (x0 x1 x2 x3 : Int) (hx0 : zr x0) (hx1 : zr x1) (hx2 : zr x2) (hx3 : zr x3) : Rf (kY_Sto_add_p113 rz β σ x0 x1 x2 x3) (kG_Sto_add_p113 rm (cv σ) (i32 x0) (i32 x1) (i32 x2) (i32 x3)) β := by
  unfold kY_Sto_add_p113 kG_Sto_add_p113
  refine Rf_le rfl rfl (hσ.1 3905) hx3 (fun _ => ?_) (fun _ => ?_)
  · refine Rf_g (fun hg1 => ?_)
    refine Rf_I (e_add rfl (by decide)) hg1 hσ (fun σ1 hσ1 => ?_)
    exact Rf_some hσ1 (hσ.1 5402) rfl
  · refine Rf_rd rfl hx3 (fun hb2 => ?_)
    refine Rf_eq (e_rd rfl hb2) (by decide) (hσ.2.1 _ _) (by decide) (fun _ => ?_) (fun _ => ?_)
    · exact Rf_tail hR hσ (zrs_cons hx0 (zrs_cons hx1 (zrs_cons hx2 (zrs_cons hx3 (zrs_cons (by decide) zrs_nil))))) (e_cons rfl (e_cons rfl (e_cons rfl (e_cons rfl (e_cons (by decide) rfl)))))
    · exact Rf_tail hR hσ (zrs_cons hx0 (zrs_cons hx1 (zrs_cons hx2 (zrs_cons hx3 (zrs_cons (by decide) zrs_nil))))) (e_cons rfl (e_cons rfl (e_cons rfl (e_cons rfl (e_cons (by decide) rfl)))))
theorem rY_Sto_add_p141 (rz : zF) (rm : mF) (hR : Rc rz rm) (β : Nat) (σ : zS) (hσ : zOK σ) (x0 x1 x2 x3 x4 : Int) (hx0 : zr x0) (hx1 : zr x1) (hx2 : zr x2) (hx3 : zr x3) (hx4 : zr x4) : Rf (kY_Sto_add_p141 rz β σ x0 x1 x2 x3 x4) (kG_Sto_add_p141 rm (cv σ) (i32 x0) (i32 x1) (i32 x2) (i32 x3) (i32 x4)) β := by
  unfold kY_Sto_add_p141 kG_Sto_add_p141
  refine Rf_Add rfl hx4 hσ (by decide) (by decide) (by decide) (by decide) (fun σ1 hσ1 => ?_)
  refine Rf_Add (by decide) (by decide) hσ1 (by decide) (by decide) (by decide) (by decide) (fun σ2 hσ2 => ?_)
  refine Rf_Add (by decide) (by decide) hσ2 (by decide) (by decide) (by decide) (by decide) (fun σ3 hσ3 => ?_)
  refine Rf_rd rfl hx3 (fun hb1 => ?_)
  refine Rf_rd rfl hx3 (fun hb2 => ?_)
  refine Rf_g (fun hg3 => ?_)
  refine Rf_Add (e_sub (e_rd rfl hb2) (e_rd rfl hb2)) hg3 hσ3 (by decide) (by decide) (by decide) (by decide) (fun σ4 hσ4 => ?_)
  refine Rf_g (fun hg4 => ?_)
  refine Rf_rd (e_add rfl (by decide)) hg4 (fun hb5 => ?_)
  refine Rf_rd2 rfl hb1 ?_
  refine Rf_g (fun hg6 => ?_)
  refine Rf_Add (e_sub (e_rd (e_add rfl (by decide)) hb5) (e_rd rfl hb2)) hg6 hσ4 (by decide) (by decide) (by decide) (by decide) (fun σ5 hσ5 => ?_)
  refine Rf_rd2 rfl hb2 ?_
  exact Rf_tail hR hσ5 (zrs_cons hx0 (zrs_cons hx1 (zrs_cons hx2 (zrs_cons hx3 (zrs_cons (hσ5.2.1 _ _) zrs_nil))))) (e_cons rfl (e_cons rfl (e_cons rfl (e_cons rfl (e_cons (e_rd rfl hb2) rfl)))))
theorem rY_Sto_add_p215 (rz : zF) (rm : mF) (hR : Rc rz rm) (β : Nat) (σ : zS) (hσ : zOK σ) (x0 x1 x2 x3 x4 : Int) (hx0 : zr x0) (hx1 : zr x1) (hx2 : zr x2) (hx3 : zr x3) (hx4 : zr x4) : Rf (kY_Sto_add_p215 rz β σ x0 x1 x2 x3 x4) (kG_Sto_add_p215 rm (cv σ) (i32 x0) (i32 x1) (i32 x2) (i32 x3) (i32 x4)) β := by
  unfold kY_Sto_add_p215 kG_Sto_add_p215
  refine Rf_g (fun hg1 => ?_)
  refine Rf_rd (e_add rfl (by decide)) hg1 (fun hb2 => ?_)
  refine Rf_le (e_rd (e_add rfl (by decide)) hb2) rfl (hσ.2.1 _ _) hx4 (fun _ => ?_) (fun _ => ?_)
  · exact Rf_tail hR hσ (zrs_cons hx0 (zrs_cons hx1 (zrs_cons hx2 (zrs_cons hg1 zrs_nil)))) (e_cons rfl (e_cons rfl (e_cons rfl (e_cons (e_add rfl (by decide)) rfl))))
  · refine Rf_rd rfl hx4 (fun hb3 => ?_)
    refine Rf_Add (e_rd rfl hb3) (hσ.2.1 _ _) hσ (by decide) (by decide) (by decide) (by decide) (fun σ1 hσ1 => ?_)
    refine Rf_g (fun hg4 => ?_)
    exact Rf_tail hR hσ1 (zrs_cons hx0 (zrs_cons hx1 (zrs_cons hx2 (zrs_cons hx3 (zrs_cons hg4 zrs_nil))))) (e_cons rfl (e_cons rfl (e_cons rfl (e_cons rfl (e_cons (e_add rfl (by decide)) rfl)))))
theorem rY_Sym_numberOf (rz : zF) (rm : mF) (hR : Rc rz rm) (β : Nat) (σ : zS) (hσ : zOK σ) : Rf (kY_Sym_numberOf rz β σ) (kG_Sym_numberOf rm (cv σ)) β := by
  unfold kY_Sym_numberOf kG_Sym_numberOf
  exact Rf_tail hR hσ (zrs_cons (by decide) zrs_nil) (e_cons (by decide) rfl)
theorem rY_Sym_numberOf_p2 (rz : zF) (rm : mF) (hR : Rc rz rm) (β : Nat) (σ : zS) (hσ : zOK σ) (x0 : Int) (hx0 : zr x0) : Rf (kY_Sym_numberOf_p2 rz β σ x0) (kG_Sym_numberOf_p2 rm (cv σ) (i32 x0)) β := by
  unfold kY_Sym_numberOf_p2 kG_Sym_numberOf_p2
  refine Rf_lt rfl rfl (hσ.1 604) hx0 (fun _ => ?_) (fun _ => ?_)
  · refine Rf_eq rfl (by decide) (hσ.1 604) (by decide) (fun _ => ?_) (fun _ => ?_)
    · exact Rf_some hσ (by decide) (by decide)
    · refine Rf_g (fun hg1 => ?_)
      refine Rf_I (e_add rfl (by decide)) hg1 hσ (fun σ1 hσ1 => ?_)
      refine Rf_g (fun hg2 => ?_)
      refine Rf_I (e_add rfl (by decide)) hg2 hσ1 (fun σ2 hσ2 => ?_)
      refine Rf_rd rfl (hσ2.1 604) (fun hb3 => ?_)
      refine Rf_A rfl hb3 (by decide) (by decide) hσ2 (fun σ3 hσ3 => ?_)
      refine Rf_rd rfl (hσ3.1 604) (fun hb4 => ?_)
      refine Rf_A rfl hb4 rfl (hσ3.1 1001) hσ3 (fun σ4 hσ4 => ?_)
      refine Rf_rd rfl (hσ4.1 604) (fun hb5 => ?_)
      refine Rf_A rfl hb5 rfl (hσ4.1 3204) hσ4 (fun σ5 hσ5 => ?_)
      exact Rf_tail hR hσ5 (zrs_cons (by decide) zrs_nil) (e_cons (by decide) rfl)
  · exact Rf_tail hR hσ (zrs_cons hx0 (zrs_cons (by decide) zrs_nil)) (e_cons rfl (e_cons (by decide) rfl))
theorem rY_Sym_numberOf_p12 (rz : zF) (rm : mF) (hR : Rc rz rm) (β : Nat) (σ : zS) (hσ : zOK σ) (x0 x1 : Int) (hx0 : zr x0) (hx1 : zr x1) : Rf (kY_Sym_numberOf_p12 rz β σ x0 x1) (kG_Sym_numberOf_p12 rm (cv σ) (i32 x0) (i32 x1)) β := by
  unfold kY_Sym_numberOf_p12 kG_Sym_numberOf_p12
  refine Rf_rd rfl hx0 (fun hb1 => ?_)
  refine Rf_le (e_rd rfl hb1) rfl (hσ.2.1 _ _) hx1 (fun _ => ?_) (fun _ => ?_)
  · exact Rf_tail hR hσ (zrs_cons hx0 (zrs_cons hx1 zrs_nil)) (e_cons rfl (e_cons rfl rfl))
  · refine Rf_le rfl rfl (hσ.1 3204) hx1 (fun _ => ?_) (fun _ => ?_)
    · exact Rf_tail hR hσ (zrs_cons hx0 (zrs_cons hx1 zrs_nil)) (e_cons rfl (e_cons rfl rfl))
    · refine Rf_rd2 rfl hb1 ?_
      refine Rf_g (fun hg2 => ?_)
      refine Rf_rd (e_add (e_rd rfl hb1) rfl) hg2 (fun hb3 => ?_)
      refine Rf_g (fun hg4 => ?_)
      refine Rf_rd (e_add rfl rfl) hg4 (fun hb5 => ?_)
      refine Rf_eq (e_rd (e_add (e_rd rfl hb1) rfl) hb3) (e_rd (e_add rfl rfl) hb5) (hσ.2.1 _ _) (hσ.2.1 _ _) (fun _ => ?_) (fun _ => ?_)
      · refine Rf_g (fun hg6 => ?_)
        exact Rf_tail hR hσ (zrs_cons hx0 (zrs_cons hg6 zrs_nil)) (e_cons rfl (e_cons (e_add rfl (by decide)) rfl))
      · exact Rf_tail hR hσ (zrs_cons hx0 (zrs_cons hx1 zrs_nil)) (e_cons rfl (e_cons rfl rfl))
theorem rY_Sym_numberOf_p66 (rz : zF) (rm : mF) (hR : Rc rz rm) (β : Nat) (σ : zS) (hσ : zOK σ) (x0 x1 : Int) (hx0 : zr x0) (hx1 : zr x1) : Rf (kY_Sym_numberOf_p66 rz β σ x0 x1) (kG_Sym_numberOf_p66 rm (cv σ) (i32 x0) (i32 x1)) β := by
  unfold kY_Sym_numberOf_p66 kG_Sym_numberOf_p66
  refine Rf_rd rfl hx0 (fun hb1 => ?_)
  refine Rf_eq rfl (e_rd rfl hb1) hx1 (hσ.2.1 _ _) (fun _ => ?_) (fun _ => ?_)
  · refine Rf_eq rfl rfl hx1 (hσ.1 3204) (fun _ => ?_) (fun _ => ?_)
    · exact Rf_some hσ hx0 rfl
    · exact Rf_tail hR hσ (zrs_cons hx0 (zrs_cons hx1 zrs_nil)) (e_cons rfl (e_cons rfl rfl))
  · exact Rf_tail hR hσ (zrs_cons hx0 (zrs_cons hx1 zrs_nil)) (e_cons rfl (e_cons rfl rfl))
theorem rY_Sym_numberOf_p86 (rz : zF) (rm : mF) (hR : Rc rz rm) (β : Nat) (σ : zS) (hσ : zOK σ) (x0 x1 : Int) (hx0 : zr x0) (hx1 : zr x1) : Rf (kY_Sym_numberOf_p86 rz β σ x0 x1) (kG_Sym_numberOf_p86 rm (cv σ) (i32 x0) (i32 x1)) β := by
  unfold kY_Sym_numberOf_p86 kG_Sym_numberOf_p86
  refine Rf_g (fun hg1 => ?_)
  exact Rf_tail hR hσ (zrs_cons hg1 zrs_nil) (e_cons (e_add rfl (by decide)) rfl)
theorem rY_Sym_numberOf_p165 (rz : zF) (rm : mF) (hR : Rc rz rm) (β : Nat) (σ : zS) (hσ : zOK σ) (x0 : Int) (hx0 : zr x0) : Rf (kY_Sym_numberOf_p165 rz β σ x0) (kG_Sym_numberOf_p165 rm (cv σ) (i32 x0)) β := by
  unfold kY_Sym_numberOf_p165 kG_Sym_numberOf_p165
  refine Rf_le rfl rfl (hσ.1 3204) hx0 (fun _ => ?_) (fun _ => ?_)
  · exact Rf_some hσ (hσ.1 604) rfl
  · refine Rf_g (fun hg1 => ?_)
    refine Rf_rd (e_add rfl rfl) hg1 (fun hb2 => ?_)
    refine Rf_Add (e_rd (e_add rfl rfl) hb2) (hσ.2.1 _ _) hσ (by decide) (by decide) (by decide) (by decide) (fun σ1 hσ1 => ?_)
    refine Rf_g (fun hg3 => ?_)
    exact Rf_tail hR hσ1 (zrs_cons hg3 zrs_nil) (e_cons (e_add rfl (by decide)) rfl)
theorem rY_Uni_join (rz : zF) (rm : mF) (hR : Rc rz rm) (β : Nat) (σ : zS) (hσ : zOK σ) (x0 x1 x2 : Int) (hx0 : zr x0) (hx1 : zr x1) (hx2 : zr x2) : Rf (kY_Uni_join rz β σ x0 x1 x2) (kG_Uni_join rm (cv σ) (i32 x0) (i32 x1) (i32 x2)) β := by
  unfold kY_Uni_join kG_Uni_join
  refine Rf_rd rfl hx1 (fun hb1 => ?_)
  refine Rf_eq (e_rd rfl hb1) (by decide) (hσ.2.1 _ _) (by decide) (fun _ => ?_) (fun _ => ?_)
  · exact Rf_tail hR hσ (zrs_cons hx0 (zrs_cons hx1 (zrs_cons hx2 zrs_nil))) (e_cons rfl (e_cons rfl (e_cons rfl rfl)))
  · refine Rf_rd2 rfl hb1 ?_
    refine Rf_rd2 rfl hb1 ?_
    refine Rf_bnd hR hσ (zrs_cons hx0 (zrs_cons (hσ.2.1 _ _) (zrs_cons (hσ.2.1 _ _) zrs_nil))) (e_cons rfl (e_cons (e_rd rfl hb1) (e_cons (e_rd rfl hb1) rfl))) (fun σ1 r1 hσ1 hr1 => ?_)
    refine Rf_eq rfl (by decide) hr1 (by decide) (fun _ => ?_) (fun _ => ?_)
    · exact Rf_tail hR hσ1 (zrs_cons hx0 (zrs_cons hx1 (zrs_cons hx2 zrs_nil))) (e_cons rfl (e_cons rfl (e_cons rfl rfl)))
    · exact Rf_tail hR hσ1 (zrs_cons hx0 (zrs_cons hx1 (zrs_cons hx2 zrs_nil))) (e_cons rfl (e_cons rfl (e_cons rfl rfl)))
theorem rY_Uni_join_p30 (rz : zF) (rm : mF) (hR : Rc rz rm) (β : Nat) (σ : zS) (hσ : zOK σ) (x0 x1 x2 : Int) (hx0 : zr x0) (hx1 : zr x1) (hx2 : zr x2) : Rf (kY_Uni_join_p30 rz β σ x0 x1 x2) (kG_Uni_join_p30 rm (cv σ) (i32 x0) (i32 x1) (i32 x2)) β := by
  unfold kY_Uni_join_p30 kG_Uni_join_p30
  refine Rf_rd rfl hx0 (fun hb1 => ?_)
  refine Rf_eq (e_rd rfl hb1) (by decide) (hσ.2.1 _ _) (by decide) (fun _ => ?_) (fun _ => ?_)
  · exact Rf_tail hR hσ (zrs_cons hx0 (zrs_cons hx1 (zrs_cons hx2 zrs_nil))) (e_cons rfl (e_cons rfl (e_cons rfl rfl)))
  · refine Rf_rd2 rfl hb1 ?_
    refine Rf_rd2 rfl hb1 ?_
    refine Rf_bnd hR hσ (zrs_cons hx1 (zrs_cons (hσ.2.1 _ _) (zrs_cons (hσ.2.1 _ _) zrs_nil))) (e_cons rfl (e_cons (e_rd rfl hb1) (e_cons (e_rd rfl hb1) rfl))) (fun σ1 r1 hσ1 hr1 => ?_)
    refine Rf_eq rfl (by decide) hr1 (by decide) (fun _ => ?_) (fun _ => ?_)
    · exact Rf_tail hR hσ1 (zrs_cons hx0 (zrs_cons hx1 (zrs_cons hx2 zrs_nil))) (e_cons rfl (e_cons rfl (e_cons rfl rfl)))
    · exact Rf_tail hR hσ1 (zrs_cons hx0 (zrs_cons hx1 (zrs_cons hx2 zrs_nil))) (e_cons rfl (e_cons rfl (e_cons rfl rfl)))
theorem rY_Uni_join_p60 (rz : zF) (rm : mF) (hR : Rc rz rm) (β : Nat) (σ : zS) (hσ : zOK σ) (x0 x1 x2 : Int) (hx0 : zr x0) (hx1 : zr x1) (hx2 : zr x2) : Rf (kY_Uni_join_p60 rz β σ x0 x1 x2) (kG_Uni_join_p60 rm (cv σ) (i32 x0) (i32 x1) (i32 x2)) β := by
  unfold kY_Uni_join_p60 kG_Uni_join_p60
  exact Rf_some hσ (by decide) (by decide)
theorem rY_Uni_join_p62 (rz : zF) (rm : mF) (hR : Rc rz rm) (β : Nat) (σ : zS) (hσ : zOK σ) (x0 x1 x2 : Int) (hx0 : zr x0) (hx1 : zr x1) (hx2 : zr x2) : Rf (kY_Uni_join_p62 rz β σ x0 x1 x2) (kG_Uni_join_p62 rm (cv σ) (i32 x0) (i32 x1) (i32 x2)) β := by
  unfold kY_Uni_join_p62 kG_Uni_join_p62
  refine Rf_rd rfl hx0 (fun hb1 => ?_)
  refine Rf_eq (e_rd rfl hb1) (by decide) (hσ.2.1 _ _) (by decide) (fun _ => ?_) (fun _ => ?_)
  · exact Rf_tail hR hσ (zrs_cons hx0 (zrs_cons hx1 (zrs_cons hx2 (zrs_cons hx0 zrs_nil)))) (e_cons rfl (e_cons rfl (e_cons rfl (e_cons rfl rfl))))
  · exact Rf_tail hR hσ (zrs_cons hx0 (zrs_cons hx1 (zrs_cons hx2 (zrs_cons hx1 zrs_nil)))) (e_cons rfl (e_cons rfl (e_cons rfl (e_cons rfl rfl))))
theorem rY_Uni_join_p77 (rz : zF) (rm : mF) (hR : Rc rz rm) (β : Nat) (σ : zS) (hσ : zOK σ) (x0 x1 x2 x3 : Int) (hx0 : zr x0) (hx1 : zr x1) (hx2 : zr x2) (hx3 : zr x3) : Rf (kY_Uni_join_p77 rz β σ x0 x1 x2 x3) (kG_Uni_join_p77 rm (cv σ) (i32 x0) (i32 x1) (i32 x2) (i32 x3)) β := by
  unfold kY_Uni_join_p77 kG_Uni_join_p77
  refine Rf_g (fun hg1 => ?_)
  refine Rf_g (fun hg2 => ?_)
  exact Rf_tail hR hσ (zrs_cons hx0 (zrs_cons hx1 (zrs_cons hx2 (zrs_cons hx3 (zrs_cons hg2 (zrs_cons (by decide) zrs_nil)))))) (e_cons rfl (e_cons rfl (e_cons rfl (e_cons rfl (e_cons (e_sub (e_add rfl rfl) rfl) (e_cons (by decide) rfl))))))
theorem rY_Uni_join_p90 (rz : zF) (rm : mF) (hR : Rc rz rm) (β : Nat) (σ : zS) (hσ : zOK σ) (x0 x1 x2 x3 x4 x5 : Int) (hx0 : zr x0) (hx1 : zr x1) (hx2 : zr x2) (hx3 : zr x3) (hx4 : zr x4) (hx5 : zr x5) : Rf (kY_Uni_join_p90 rz β σ x0 x1 x2 x3 x4 x5) (kG_Uni_join_p90 rm (cv σ) (i32 x0) (i32 x1) (i32 x2) (i32 x3) (i32 x4) (i32 x5)) β := by
  unfold kY_Uni_join_p90 kG_Uni_join_p90
  refine Rf_le (by decide) rfl (by decide) hx5 (fun _ => ?_) (fun _ => ?_)
  · refine Rf_I (e_and rfl (e_not (e_shl (by decide) rfl))) (zr_to _) hσ (fun σ1 hσ1 => ?_)
    refine Rf_rd rfl hx3 (fun hb1 => ?_)
    refine Rf_eq (e_rd rfl hb1) (by decide) (hσ1.2.1 _ _) (by decide) (fun _ => ?_) (fun _ => ?_)
    · exact Rf_tail hR hσ1 (zrs_cons hx0 (zrs_cons hx1 (zrs_cons hx2 (zrs_cons hx3 (zrs_cons hx4 (zrs_cons hx5 zrs_nil)))))) (e_cons rfl (e_cons rfl (e_cons rfl (e_cons rfl (e_cons rfl (e_cons rfl rfl))))))
    · refine Rf_rd2 rfl hb1 ?_
      refine Rf_rd2 rfl hb1 ?_
      refine Rf_rd rfl hx4 (fun hb2 => ?_)
      refine Rf_rd2 rfl hb2 ?_
      refine Rf_g (fun hg3 => ?_)
      refine Rf_bnd hR hσ1 (zrs_cons (hσ1.2.1 _ _) (zrs_cons (hσ1.2.1 _ _) (zrs_cons (hσ1.2.1 _ _) (zrs_cons (hσ1.2.1 _ _) (zrs_cons hg3 zrs_nil))))) (e_cons (e_rd rfl hb1) (e_cons (e_rd rfl hb1) (e_cons (e_rd rfl hb2) (e_cons (e_rd rfl hb2) (e_cons (e_add rfl (by decide)) rfl))))) (fun σ2 r2 hσ2 hr2 => ?_)
      refine Rf_eq rfl (by decide) hr2 (by decide) (fun _ => ?_) (fun _ => ?_)
      · exact Rf_tail hR hσ2 (zrs_cons hx0 (zrs_cons hx1 (zrs_cons hx2 (zrs_cons hx3 (zrs_cons hx4 (zrs_cons hx5 (zrs_cons (by decide) zrs_nil))))))) (e_cons rfl (e_cons rfl (e_cons rfl (e_cons rfl (e_cons rfl (e_cons rfl (e_cons (by decide) rfl)))))))
      · exact Rf_tail hR hσ2 (zrs_cons hx0 (zrs_cons hx1 (zrs_cons hx2 (zrs_cons hx3 (zrs_cons hx4 (zrs_cons hx5 zrs_nil)))))) (e_cons rfl (e_cons rfl (e_cons rfl (e_cons rfl (e_cons rfl (e_cons rfl rfl))))))
  · refine Rf_rd rfl hx5 (fun hb4 => ?_)
    refine Rf_eq (e_rd rfl hb4) rfl (hσ.2.1 _ _) hx3 (fun _ => ?_) (fun _ => ?_)
    · exact Rf_tail hR hσ (zrs_cons hx0 (zrs_cons hx1 (zrs_cons hx2 (zrs_cons hx3 (zrs_cons hx4 (zrs_cons hx5 (zrs_cons hx4 (zrs_cons hx5 zrs_nil)))))))) (e_cons rfl (e_cons rfl (e_cons rfl (e_cons rfl (e_cons rfl (e_cons rfl (e_cons rfl (e_cons rfl rfl))))))))
    · refine Rf_rd2 rfl hb4 ?_
      exact Rf_tail hR hσ (zrs_cons hx0 (zrs_cons hx1 (zrs_cons hx2 (zrs_cons hx3 (zrs_cons hx4 (zrs_cons hx5 (zrs_cons (hσ.2.1 _ _) (zrs_cons hx5 zrs_nil)))))))) (e_cons rfl (e_cons rfl (e_cons rfl (e_cons rfl (e_cons rfl (e_cons rfl (e_cons (e_rd rfl hb4) (e_cons rfl rfl))))))))
theorem rY_Uni_join_p127 (rz : zF) (rm : mF) (hR : Rc rz rm) (β : Nat) (σ : zS) (hσ : zOK σ) (x0 x1 x2 x3 x4 x5 x6 x7 : Int) (hx0 : zr x0) (hx1 : zr x1) (hx2 : zr x2) (hx3 : zr x3) (hx4 : zr x4) (hx5 : zr x5) (hx6 : zr x6) (hx7 : zr x7) : Rf (kY_Uni_join_p127 rz β σ x0 x1 x2 x3 x4 x5 x6 x7) (kG_Uni_join_p127 rm (cv σ) (i32 x0) (i32 x1) (i32 x2) (i32 x3) (i32 x4) (i32 x5) (i32 x6) (i32 x7)) β := by
  unfold kY_Uni_join_p127 kG_Uni_join_p127
  refine Rf_rd rfl hx7 (fun hb1 => ?_)
  refine Rf_A rfl hb1 rfl hx6 hσ (fun σ1 hσ1 => ?_)
  refine Rf_g (fun hg2 => ?_)
  exact Rf_tail hR hσ1 (zrs_cons hx0 (zrs_cons hx1 (zrs_cons hx2 (zrs_cons hx3 (zrs_cons hx4 (zrs_cons hg2 zrs_nil)))))) (e_cons rfl (e_cons rfl (e_cons rfl (e_cons rfl (e_cons rfl (e_cons (e_add rfl (by decide)) rfl))))))
theorem rY_Uni_join_p198 (rz : zF) (rm : mF) (hR : Rc rz rm) (β : Nat) (σ : zS) (hσ : zOK σ) (x0 x1 x2 x3 x4 x5 : Int) (hx0 : zr x0) (hx1 : zr x1) (hx2 : zr x2) (hx3 : zr x3) (hx4 : zr x4) (hx5 : zr x5) : Rf (kY_Uni_join_p198 rz β σ x0 x1 x2 x3 x4 x5) (kG_Uni_join_p198 rm (cv σ) (i32 x0) (i32 x1) (i32 x2) (i32 x3) (i32 x4) (i32 x5)) β := by
  unfold kY_Uni_join_p198 kG_Uni_join_p198
  exact Rf_tail hR hσ (zrs_cons hx0 (zrs_cons hx1 (zrs_cons hx2 (zrs_cons hx3 (zrs_cons hx4 (zrs_cons hx5 (zrs_cons (by decide) zrs_nil))))))) (e_cons rfl (e_cons rfl (e_cons rfl (e_cons rfl (e_cons rfl (e_cons rfl (e_cons (by decide) rfl)))))))
theorem rY_Uni_join_p203 (rz : zF) (rm : mF) (hR : Rc rz rm) (β : Nat) (σ : zS) (hσ : zOK σ) (x0 x1 x2 x3 x4 x5 x6 : Int) (hx0 : zr x0) (hx1 : zr x1) (hx2 : zr x2) (hx3 : zr x3) (hx4 : zr x4) (hx5 : zr x5) (hx6 : zr x6) : Rf (kY_Uni_join_p203 rz β σ x0 x1 x2 x3 x4 x5 x6) (kG_Uni_join_p203 rm (cv σ) (i32 x0) (i32 x1) (i32 x2) (i32 x3) (i32 x4) (i32 x5) (i32 x6)) β := by
  unfold kY_Uni_join_p203 kG_Uni_join_p203
  refine Rf_01 rfl hx6 (fun hb1 => ?_)
  exact Rf_some hσ hx6 rfl
theorem rY_Uni_meet (rz : zF) (rm : mF) (hR : Rc rz rm) (β : Nat) (σ : zS) (hσ : zOK σ) (x0 x1 x2 x3 : Int) (hx0 : zr x0) (hx1 : zr x1) (hx2 : zr x2) (hx3 : zr x3) : Rf (kY_Uni_meet rz β σ x0 x1 x2 x3) (kG_Uni_meet rm (cv σ) (i32 x0) (i32 x1) (i32 x2) (i32 x3)) β := by
  unfold kY_Uni_meet kG_Uni_meet
  refine Rf_rd rfl hx0 (fun hb1 => ?_)
  refine Rf_eq (e_rd rfl hb1) (by decide) (hσ.2.1 _ _) (by decide) (fun _ => ?_) (fun _ => ?_)
  · refine Rf_rd rfl hx1 (fun hb2 => ?_)
    refine Rf_bnd hR hσ (zrs_cons (hσ.2.1 _ _) zrs_nil) (e_cons (e_rd rfl hb2) rfl) (fun σ1 r1 hσ1 hr1 => ?_)
    refine Rf_eq rfl (by decide) hr1 (by decide) (fun _ => ?_) (fun _ => ?_)
    · refine Rf_bnd hR hσ1 (zrs_cons hx0 (zrs_cons hx1 (zrs_cons hx2 zrs_nil))) (e_cons rfl (e_cons rfl (e_cons rfl rfl))) (fun σ2 r2 hσ2 hr2 => ?_)
      refine Rf_eq rfl (by decide) hr2 (by decide) (fun _ => ?_) (fun _ => ?_)
      · refine Rf_rd2 rfl hb1 ?_
        refine Rf_A rfl hb1 rfl hx1 hσ2 (fun σ3 hσ3 => ?_)
        refine Rf_rd2 rfl hb1 ?_
        refine Rf_A rfl hb1 rfl hx2 hσ3 (fun σ4 hσ4 => ?_)
        refine Rf_I (e_or rfl (e_shl (by decide) rfl)) (zr_to _) hσ4 (fun σ5 hσ5 => ?_)
        exact Rf_some hσ5 (by decide) (by decide)
      · exact Rf_tail hR hσ2 (zrs_cons hx0 (zrs_cons hx1 (zrs_cons hx2 (zrs_cons hx3 zrs_nil)))) (e_cons rfl (e_cons rfl (e_cons rfl (e_cons rfl rfl))))
    · exact Rf_tail hR hσ1 (zrs_cons hx0 (zrs_cons hx1 (zrs_cons hx2 (zrs_cons hx3 zrs_nil)))) (e_cons rfl (e_cons rfl (e_cons rfl (e_cons rfl rfl))))
  · refine Rf_eq rfl (by decide) hx2 (by decide) (fun _ => ?_) (fun _ => ?_)
    · exact Rf_tail hR hσ (zrs_cons hx0 (zrs_cons hx1 (zrs_cons hx2 (zrs_cons hx3 (zrs_cons (by decide) zrs_nil))))) (e_cons rfl (e_cons rfl (e_cons rfl (e_cons rfl (e_cons (by decide) rfl)))))
    · exact Rf_tail hR hσ (zrs_cons hx0 (zrs_cons hx1 (zrs_cons hx2 (zrs_cons hx3 (zrs_cons (by decide) zrs_nil))))) (e_cons rfl (e_cons rfl (e_cons rfl (e_cons rfl (e_cons (by decide) rfl)))))
theorem rY_Uni_meet_p39 (rz : zF) (rm : mF) (hR : Rc rz rm) (β : Nat) (σ : zS) (hσ : zOK σ) (x0 x1 x2 x3 : Int) (hx0 : zr x0) (hx1 : zr x1) (hx2 : zr x2) (hx3 : zr x3) : Rf (kY_Uni_meet_p39 rz β σ x0 x1 x2 x3) (kG_Uni_meet_p39 rm (cv σ) (i32 x0) (i32 x1) (i32 x2) (i32 x3)) β := by
  unfold kY_Uni_meet_p39 kG_Uni_meet_p39
  exact Rf_some hσ (by decide) (by decide)
theorem rY_Uni_meet_p78 (rz : zF) (rm : mF) (hR : Rc rz rm) (β : Nat) (σ : zS) (hσ : zOK σ) (x0 x1 x2 x3 x4 : Int) (hx0 : zr x0) (hx1 : zr x1) (hx2 : zr x2) (hx3 : zr x3) (hx4 : zr x4) : Rf (kY_Uni_meet_p78 rz β σ x0 x1 x2 x3 x4) (kG_Uni_meet_p78 rm (cv σ) (i32 x0) (i32 x1) (i32 x2) (i32 x3) (i32 x4)) β := by
  unfold kY_Uni_meet_p78 kG_Uni_meet_p78
  refine Rf_eq rfl (by decide) hx2 (by decide) (fun _ => ?_) (fun _ => ?_)
  · refine Rf_g (fun hg1 => ?_)
    refine Rf_g (fun hg2 => ?_)
    refine Rf_g (fun hg3 => ?_)
    refine Rf_g (fun hg4 => ?_)
    exact Rf_tail hR hσ (zrs_cons hx0 (zrs_cons hx1 (zrs_cons hx2 (zrs_cons hx3 (zrs_cons hx4 (zrs_cons (hσ.1 5906) (zrs_cons hg4 zrs_nil))))))) (e_cons rfl (e_cons rfl (e_cons rfl (e_cons rfl (e_cons rfl (e_cons rfl (e_cons (e_add (e_mul (e_add (e_mul (by decide) rfl) rfl) (by decide)) rfl) rfl)))))))
  · refine Rf_g (fun hg5 => ?_)
    refine Rf_g (fun hg6 => ?_)
    refine Rf_g (fun hg7 => ?_)
    refine Rf_g (fun hg8 => ?_)
    exact Rf_tail hR hσ (zrs_cons hx0 (zrs_cons hx1 (zrs_cons hx2 (zrs_cons hx3 (zrs_cons hx4 (zrs_cons (hσ.1 5907) (zrs_cons hg8 zrs_nil))))))) (e_cons rfl (e_cons rfl (e_cons rfl (e_cons rfl (e_cons rfl (e_cons rfl (e_cons (e_add (e_mul (e_add (e_mul (by decide) rfl) rfl) (by decide)) rfl) rfl)))))))
theorem rY_Uni_meet_p107 (rz : zF) (rm : mF) (hR : Rc rz rm) (β : Nat) (σ : zS) (hσ : zOK σ) (x0 x1 x2 x3 x4 x5 x6 : Int) (hx0 : zr x0) (hx1 : zr x1) (hx2 : zr x2) (hx3 : zr x3) (hx4 : zr x4) (hx5 : zr x5) (hx6 : zr x6) : Rf (kY_Uni_meet_p107 rz β σ x0 x1 x2 x3 x4 x5 x6) (kG_Uni_meet_p107 rm (cv σ) (i32 x0) (i32 x1) (i32 x2) (i32 x3) (i32 x4) (i32 x5) (i32 x6)) β := by
  unfold kY_Uni_meet_p107 kG_Uni_meet_p107
  refine Rf_g (fun hg1 => ?_)
  refine Rf_lt (e_sub rfl rfl) (by decide) hg1 (by decide) (fun _ => ?_) (fun _ => ?_)
  · exact Rf_tail hR hσ (zrs_cons hx0 (zrs_cons hx1 (zrs_cons hx2 (zrs_cons hx3 (zrs_cons hx4 (zrs_cons hg1 zrs_nil)))))) (e_cons rfl (e_cons rfl (e_cons rfl (e_cons rfl (e_cons rfl (e_cons (e_sub rfl rfl) rfl))))))
  · refine Rf_le (by decide) (e_sub rfl rfl) (by decide) hg1 (fun _ => ?_) (fun _ => ?_)
    · exact Rf_tail hR hσ (zrs_cons hx0 (zrs_cons hx1 (zrs_cons hx2 (zrs_cons hx3 (zrs_cons hx4 (zrs_cons hg1 zrs_nil)))))) (e_cons rfl (e_cons rfl (e_cons rfl (e_cons rfl (e_cons rfl (e_cons (e_sub rfl rfl) rfl))))))
    · refine Rf_rd (e_sub rfl rfl) hg1 (fun hb2 => ?_)
      refine Rf_eq (e_rd (e_sub rfl rfl) hb2) (by decide) (hσ.2.1 _ _) (by decide) (fun _ => ?_) (fun _ => ?_)
      · refine Rf_rd2 (e_sub rfl rfl) hb2 ?_
        have hg3 : (1 : Int) = 0 ∨ (1 : Int) = 1 := by decide
        refine Rf_A (e_sub rfl rfl) hb2 (e_bool (by decide) hg3) (by decide) hσ (fun σ1 hσ1 => ?_)
        refine Rf_Add (e_sub rfl rfl) hg1 hσ1 (by decide) (by decide) (by decide) (by decide) (fun σ2 hσ2 => ?_)
        exact Rf_tail hR hσ2 (zrs_cons hx0 (zrs_cons hx1 (zrs_cons hx2 (zrs_cons hx3 (zrs_cons hx4 (zrs_cons hg1 zrs_nil)))))) (e_cons rfl (e_cons rfl (e_cons rfl (e_cons rfl (e_cons rfl (e_cons (e_sub rfl rfl) rfl))))))
      · exact Rf_some hσ (by decide) (by decide)
theorem rY_Uni_meet_p154 (rz : zF) (rm : mF) (hR : Rc rz rm) (β : Nat) (σ : zS) (hσ : zOK σ) (x0 x1 x2 x3 x4 x5 : Int) (hx0 : zr x0) (hx1 : zr x1) (hx2 : zr x2) (hx3 : zr x3) (hx4 : zr x4) (hx5 : zr x5) : Rf (kY_Uni_meet_p154 rz β σ x0 x1 x2 x3 x4 x5) (kG_Uni_meet_p154 rm (cv σ) (i32 x0) (i32 x1) (i32 x2) (i32 x3) (i32 x4) (i32 x5)) β := by
  unfold kY_Uni_meet_p154 kG_Uni_meet_p154
  refine Rf_rd rfl hx0 (fun hb1 => ?_)
  refine Rf_rd2 rfl hb1 ?_
  refine Rf_g (fun hg2 => ?_)
  refine Rf_bnd hR hσ (zrs_cons (hσ.2.1 _ _) (zrs_cons (hσ.2.1 _ _) (zrs_cons hx1 (zrs_cons hx2 (zrs_cons hg2 zrs_nil))))) (e_cons (e_rd rfl hb1) (e_cons (e_rd rfl hb1) (e_cons rfl (e_cons rfl (e_cons (e_add rfl (by decide)) rfl))))) (fun σ1 r1 hσ1 hr1 => ?_)
  refine Rf_01 rfl hr1 (fun hb3 => ?_)
  exact Rf_some hσ1 hr1 rfl
theorem rY_Uni_unite (rz : zF) (rm : mF) (hR : Rc rz rm) (β : Nat) (σ : zS) (hσ : zOK σ) (x0 x1 x2 x3 x4 : Int) (hx0 : zr x0) (hx1 : zr x1) (hx2 : zr x2) (hx3 : zr x3) (hx4 : zr x4) : Rf (kY_Uni_unite rz β σ x0 x1 x2 x3 x4) (kG_Uni_unite rm (cv σ) (i32 x0) (i32 x1) (i32 x2) (i32 x3) (i32 x4)) β := by
  unfold kY_Uni_unite kG_Uni_unite
  refine Rf_le rfl (by decide) hx4 (by decide) (fun _ => ?_) (fun _ => ?_)
  · exact Rf_tail hR hσ (zrs_cons hx0 (zrs_cons hx1 (zrs_cons hx2 (zrs_cons hx3 (zrs_cons hx4 (zrs_cons hx0 (zrs_cons hx2 (zrs_cons (by decide) (zrs_cons (by decide) zrs_nil))))))))) (e_cons rfl (e_cons rfl (e_cons rfl (e_cons rfl (e_cons rfl (e_cons rfl (e_cons rfl (e_cons (by decide) (e_cons (by decide) rfl)))))))))
  · exact Rf_some hσ (by decide) (by decide)
theorem rY_Uni_unite_p30 (rz : zF) (rm : mF) (hR : Rc rz rm) (β : Nat) (σ : zS) (hσ : zOK σ) (x0 x1 x2 x3 x4 x5 x6 x7 x8 : Int) (hx0 : zr x0) (hx1 : zr x1) (hx2 : zr x2) (hx3 : zr x3) (hx4 : zr x4) (hx5 : zr x5) (hx6 : zr x6) (hx7 : zr x7) (hx8 : zr x8) : Rf (kY_Uni_unite_p30 rz β σ x0 x1 x2 x3 x4 x5 x6 x7 x8) (kG_Uni_unite_p30 rm (cv σ) (i32 x0) (i32 x1) (i32 x2) (i32 x3) (i32 x4) (i32 x5) (i32 x6) (i32 x7) (i32 x8)) β := by
  unfold kY_Uni_unite_p30 kG_Uni_unite_p30
  refine Rf_le (by decide) rfl (by decide) hx8 (fun _ => ?_) (fun _ => ?_)
  · exact Rf_tail hR hσ (zrs_cons hx0 (zrs_cons hx1 (zrs_cons hx2 (zrs_cons hx3 (zrs_cons hx4 (zrs_cons hx5 (zrs_cons hx6 (zrs_cons hx7 (zrs_cons hx8 zrs_nil))))))))) (e_cons rfl (e_cons rfl (e_cons rfl (e_cons rfl (e_cons rfl (e_cons rfl (e_cons rfl (e_cons rfl (e_cons rfl rfl)))))))))
  · refine Rf_le rfl (by decide) hx7 (by decide) (fun _ => ?_) (fun _ => ?_)
    · exact Rf_tail hR hσ (zrs_cons hx0 (zrs_cons hx1 (zrs_cons hx2 (zrs_cons hx3 (zrs_cons hx4 (zrs_cons hx5 (zrs_cons hx6 (zrs_cons hx7 (zrs_cons hx8 zrs_nil))))))))) (e_cons rfl (e_cons rfl (e_cons rfl (e_cons rfl (e_cons rfl (e_cons rfl (e_cons rfl (e_cons rfl (e_cons rfl rfl)))))))))
    · refine Rf_rd rfl hx5 (fun hb1 => ?_)
      refine Rf_lt (e_rd rfl hb1) (by decide) (hσ.2.1 _ _) (by decide) (fun _ => ?_) (fun _ => ?_)
      · exact Rf_tail hR hσ (zrs_cons hx0 (zrs_cons hx1 (zrs_cons hx2 (zrs_cons hx3 (zrs_cons hx4 (zrs_cons hx5 (zrs_cons hx6 (zrs_cons hx7 (zrs_cons hx8 zrs_nil))))))))) (e_cons rfl (e_cons rfl (e_cons rfl (e_cons rfl (e_cons rfl (e_cons rfl (e_cons rfl (e_cons rfl (e_cons rfl rfl)))))))))
      · refine Rf_rd rfl hx6 (fun hb2 => ?_)
        refine Rf_le (by decide) (e_rd rfl hb2) (by decide) (hσ.2.1 _ _) (fun _ => ?_) (fun _ => ?_)
        · refine Rf_rd2 rfl hb1 ?_
          refine Rf_rd2 rfl hb2 ?_
          refine Rf_eq (e_rd rfl hb1) (e_rd rfl hb2) (hσ.2.1 _ _) (hσ.2.1 _ _) (fun _ => ?_) (fun _ => ?_)
          · refine Rf_rd2 rfl hb1 ?_
            refine Rf_rd (e_rd rfl hb1) (hσ.2.1 _ _) (fun hb3 => ?_)
            refine Rf_g (fun hg4 => ?_)
            refine Rf_g (fun hg5 => ?_)
            refine Rf_g (fun hg6 => ?_)
            refine Rf_g (fun hg7 => ?_)
            exact Rf_tail hR hσ (zrs_cons hx0 (zrs_cons hx1 (zrs_cons hx2 (zrs_cons hx3 (zrs_cons hx4 (zrs_cons hg4 (zrs_cons hg5 (zrs_cons hg7 (zrs_cons hx8 zrs_nil))))))))) (e_cons rfl (e_cons rfl (e_cons rfl (e_cons rfl (e_cons rfl (e_cons (e_add rfl (by decide)) (e_cons (e_add rfl (by decide)) (e_cons (e_add rfl (e_sub (e_rd (e_rd rfl hb1) hb3) (by decide))) (e_cons rfl rfl)))))))))
          · exact Rf_some hσ (by decide) (by decide)
        · exact Rf_tail hR hσ (zrs_cons hx0 (zrs_cons hx1 (zrs_cons hx2 (zrs_cons hx3 (zrs_cons hx4 (zrs_cons hx5 (zrs_cons hx6 (zrs_cons hx7 (zrs_cons hx8 zrs_nil))))))))) (e_cons rfl (e_cons rfl (e_cons rfl (e_cons rfl (e_cons rfl (e_cons rfl (e_cons rfl (e_cons rfl (e_cons rfl rfl)))))))))
theorem rY_Uni_unite_p58 (rz : zF) (rm : mF) (hR : Rc rz rm) (β : Nat) (σ : zS) (hσ : zOK σ) (x0 x1 x2 x3 x4 x5 x6 x7 x8 : Int) (hx0 : zr x0) (hx1 : zr x1) (hx2 : zr x2) (hx3 : zr x3) (hx4 : zr x4) (hx5 : zr x5) (hx6 : zr x6) (hx7 : zr x7) (hx8 : zr x8) : Rf (kY_Uni_unite_p58 rz β σ x0 x1 x2 x3 x4 x5 x6 x7 x8) (kG_Uni_unite_p58 rm (cv σ) (i32 x0) (i32 x1) (i32 x2) (i32 x3) (i32 x4) (i32 x5) (i32 x6) (i32 x7) (i32 x8)) β := by
  unfold kY_Uni_unite_p58 kG_Uni_unite_p58
  refine Rf_bnd hR hσ (zrs_cons hx5 (zrs_cons hx1 (zrs_cons hx6 (zrs_cons hx3 (zrs_cons hx4 zrs_nil))))) (e_cons rfl (e_cons rfl (e_cons rfl (e_cons rfl (e_cons rfl rfl))))) (fun σ1 r1 hσ1 hr1 => ?_)
  refine Rf_eq rfl (by decide) hr1 (by decide) (fun _ => ?_) (fun _ => ?_)
  · exact Rf_some hσ1 (by decide) (by decide)
  · refine Rf_bnd hR hσ1 (zrs_cons hx5 zrs_nil) (e_cons rfl rfl) (fun σ2 r2 hσ2 hr2 => ?_)
    refine Rf_bnd hR hσ2 (zrs_cons hx6 zrs_nil) (e_cons rfl rfl) (fun σ3 r3 hσ3 hr3 => ?_)
    refine Rf_g (fun hg1 => ?_)
    exact Rf_tail hR hσ3 (zrs_cons hx0 (zrs_cons hx1 (zrs_cons hx2 (zrs_cons hx3 (zrs_cons hx4 (zrs_cons hr2 (zrs_cons hr3 (zrs_cons hg1 (zrs_cons hx8 zrs_nil))))))))) (e_cons rfl (e_cons rfl (e_cons rfl (e_cons rfl (e_cons rfl (e_cons rfl (e_cons rfl (e_cons (e_add rfl (by decide)) (e_cons rfl rfl)))))))))
theorem rY_Uni_unite_p149 (rz : zF) (rm : mF) (hR : Rc rz rm) (β : Nat) (σ : zS) (hσ : zOK σ) (x0 x1 x2 x3 x4 x5 x6 x7 x8 : Int) (hx0 : zr x0) (hx1 : zr x1) (hx2 : zr x2) (hx3 : zr x3) (hx4 : zr x4) (hx5 : zr x5) (hx6 : zr x6) (hx7 : zr x7) (hx8 : zr x8) : Rf (kY_Uni_unite_p149 rz β σ x0 x1 x2 x3 x4 x5 x6 x7 x8) (kG_Uni_unite_p149 rm (cv σ) (i32 x0) (i32 x1) (i32 x2) (i32 x3) (i32 x4) (i32 x5) (i32 x6) (i32 x7) (i32 x8)) β := by
  unfold kY_Uni_unite_p149 kG_Uni_unite_p149
  refine Rf_g (fun hg1 => ?_)
  exact Rf_tail hR hσ (zrs_cons hx0 (zrs_cons hx1 (zrs_cons hx2 (zrs_cons hx3 (zrs_cons hx4 (zrs_cons hx5 (zrs_cons hx6 (zrs_cons hx7 (zrs_cons hg1 zrs_nil))))))))) (e_cons rfl (e_cons rfl (e_cons rfl (e_cons rfl (e_cons rfl (e_cons rfl (e_cons rfl (e_cons rfl (e_cons (e_add rfl (by decide)) rfl)))))))))
theorem rY_Uni_unite_p155 (rz : zF) (rm : mF) (hR : Rc rz rm) (β : Nat) (σ : zS) (hσ : zOK σ) (x0 x1 x2 x3 x4 x5 x6 x7 x8 : Int) (hx0 : zr x0) (hx1 : zr x1) (hx2 : zr x2) (hx3 : zr x3) (hx4 : zr x4) (hx5 : zr x5) (hx6 : zr x6) (hx7 : zr x7) (hx8 : zr x8) : Rf (kY_Uni_unite_p155 rz β σ x0 x1 x2 x3 x4 x5 x6 x7 x8) (kG_Uni_unite_p155 rm (cv σ) (i32 x0) (i32 x1) (i32 x2) (i32 x3) (i32 x4) (i32 x5) (i32 x6) (i32 x7) (i32 x8)) β := by
  unfold kY_Uni_unite_p155 kG_Uni_unite_p155
  exact Rf_some hσ (by decide) (by decide)
theorem rY_Uni_uniteVariable (rz : zF) (rm : mF) (hR : Rc rz rm) (β : Nat) (σ : zS) (hσ : zOK σ) (x0 x1 x2 x3 x4 : Int) (hx0 : zr x0) (hx1 : zr x1) (hx2 : zr x2) (hx3 : zr x3) (hx4 : zr x4) : Rf (kY_Uni_uniteVariable rz β σ x0 x1 x2 x3 x4) (kG_Uni_uniteVariable rm (cv σ) (i32 x0) (i32 x1) (i32 x2) (i32 x3) (i32 x4)) β := by
  unfold kY_Uni_uniteVariable kG_Uni_uniteVariable
  refine Rf_rd rfl hx0 (fun hb1 => ?_)
  refine Rf_le (by decide) (e_rd rfl hb1) (by decide) (hσ.2.1 _ _) (fun _ => ?_) (fun _ => ?_)
  · exact Rf_tail hR hσ (zrs_cons hx0 (zrs_cons hx1 (zrs_cons hx2 (zrs_cons hx3 (zrs_cons hx4 (zrs_cons (by decide) zrs_nil)))))) (e_cons rfl (e_cons rfl (e_cons rfl (e_cons rfl (e_cons rfl (e_cons (by decide) rfl))))))
  · refine Rf_rd2 rfl hb1 ?_
    refine Rf_g (fun hg2 => ?_)
    refine Rf_rd (e_add (e_not (e_rd rfl hb1)) rfl) hg2 (fun hb3 => ?_)
    exact Rf_tail hR hσ (zrs_cons hx0 (zrs_cons hx1 (zrs_cons hx2 (zrs_cons hx3 (zrs_cons hx4 (zrs_cons (hσ.2.1 _ _) zrs_nil)))))) (e_cons rfl (e_cons rfl (e_cons rfl (e_cons rfl (e_cons rfl (e_cons (e_rd (e_add (e_not (e_rd rfl hb1)) rfl) hb3) rfl))))))
theorem rY_Uni_uniteVariable_p34 (rz : zF) (rm : mF) (hR : Rc rz rm) (β : Nat) (σ : zS) (hσ : zOK σ) (x0 x1 x2 x3 x4 x5 : Int) (hx0 : zr x0) (hx1 : zr x1) (hx2 : zr x2) (hx3 : zr x3) (hx4 : zr x4) (hx5 : zr x5) : Rf (kY_Uni_uniteVariable_p34 rz β σ x0 x1 x2 x3 x4 x5) (kG_Uni_uniteVariable_p34 rm (cv σ) (i32 x0) (i32 x1) (i32 x2) (i32 x3) (i32 x4) (i32 x5)) β := by
  unfold kY_Uni_uniteVariable_p34 kG_Uni_uniteVariable_p34
  refine Rf_rd rfl hx2 (fun hb1 => ?_)
  refine Rf_le (by decide) (e_rd rfl hb1) (by decide) (hσ.2.1 _ _) (fun _ => ?_) (fun _ => ?_)
  · exact Rf_tail hR hσ (zrs_cons hx0 (zrs_cons hx1 (zrs_cons hx2 (zrs_cons hx3 (zrs_cons hx4 (zrs_cons hx5 (zrs_cons (by decide) zrs_nil))))))) (e_cons rfl (e_cons rfl (e_cons rfl (e_cons rfl (e_cons rfl (e_cons rfl (e_cons (by decide) rfl)))))))
  · refine Rf_rd2 rfl hb1 ?_
    refine Rf_g (fun hg2 => ?_)
    refine Rf_rd (e_add (e_not (e_rd rfl hb1)) rfl) hg2 (fun hb3 => ?_)
    exact Rf_tail hR hσ (zrs_cons hx0 (zrs_cons hx1 (zrs_cons hx2 (zrs_cons hx3 (zrs_cons hx4 (zrs_cons hx5 (zrs_cons (hσ.2.1 _ _) zrs_nil))))))) (e_cons rfl (e_cons rfl (e_cons rfl (e_cons rfl (e_cons rfl (e_cons rfl (e_cons (e_rd (e_add (e_not (e_rd rfl hb1)) rfl) hb3) rfl)))))))
theorem rY_Uni_uniteVariable_p71 (rz : zF) (rm : mF) (hR : Rc rz rm) (β : Nat) (σ : zS) (hσ : zOK σ) (x0 x1 x2 x3 x4 x5 x6 : Int) (hx0 : zr x0) (hx1 : zr x1) (hx2 : zr x2) (hx3 : zr x3) (hx4 : zr x4) (hx5 : zr x5) (hx6 : zr x6) : Rf (kY_Uni_uniteVariable_p71 rz β σ x0 x1 x2 x3 x4 x5 x6) (kG_Uni_uniteVariable_p71 rm (cv σ) (i32 x0) (i32 x1) (i32 x2) (i32 x3) (i32 x4) (i32 x5) (i32 x6)) β := by
  unfold kY_Uni_uniteVariable_p71 kG_Uni_uniteVariable_p71
  refine Rf_eq rfl rfl hx5 hx6 (fun _ => ?_) (fun _ => ?_)
  · exact Rf_some hσ (by decide) (by decide)
  · refine Rf_eq rfl (by decide) hx5 (by decide) (fun _ => ?_) (fun _ => ?_)
    · refine Rf_bnd hR hσ (zrs_cons hx6 (zrs_cons hx0 (zrs_cons hx1 (zrs_cons hx4 zrs_nil)))) (e_cons rfl (e_cons rfl (e_cons rfl (e_cons rfl rfl)))) (fun σ3 r3 hσ3 hr3 => ?_)
      refine Rf_01 rfl hr3 (fun hb1 => ?_)
      exact Rf_some hσ3 hr3 rfl
    · refine Rf_eq rfl (by decide) hx6 (by decide) (fun _ => ?_) (fun _ => ?_)
      · refine Rf_bnd hR hσ (zrs_cons hx5 (zrs_cons hx2 (zrs_cons hx3 (zrs_cons hx4 zrs_nil)))) (e_cons rfl (e_cons rfl (e_cons rfl (e_cons rfl rfl)))) (fun σ2 r2 hσ2 hr2 => ?_)
        refine Rf_01 rfl hr2 (fun hb2 => ?_)
        exact Rf_some hσ2 hr2 rfl
      · refine Rf_bnd hR hσ (zrs_cons hx5 (zrs_cons hx6 (zrs_cons hx4 zrs_nil))) (e_cons rfl (e_cons rfl (e_cons rfl rfl))) (fun σ1 r1 hσ1 hr1 => ?_)
        refine Rf_01 rfl hr1 (fun hb3 => ?_)
        exact Rf_some hσ1 hr1 rfl
theorem rY_Wds_open_2 (rz : zF) (rm : mF) (hR : Rc rz rm) (β : Nat) (σ : zS) (hσ : zOK σ) (x0 : Int) (hx0 : zr x0) : Rf (kY_Wds_open_2 rz β σ x0) (kG_Wds_open_2 rm (cv σ) (i32 x0)) β := by
  unfold kY_Wds_open_2 kG_Wds_open_2
  refine Rf_I rfl hx0 hσ (fun σ1 hσ1 => ?_)
  refine Rf_I (by decide) (by decide) hσ1 (fun σ2 hσ2 => ?_)
  refine Rf_I (by decide) (by decide) hσ2 (fun σ3 hσ3 => ?_)
  refine Rf_bnd hR hσ3 zrs_nil rfl (fun σ4 r4 hσ4 hr4 => ?_)
  exact Rf_some hσ4 (by decide) (by decide)
theorem rY_CP_clause (rz : zF) (rm : mF) (hR : Rc rz rm) (β : Nat) (σ : zS) (hσ : zOK σ) (x0 x1 : Int) (hx0 : zr x0) (hx1 : zr x1) : Rf (kY_CP_clause rz β σ x0 x1) (kP_CP_clause rm (cv σ) (i32 x0) (i32 x1)) β := by
  unfold kY_CP_clause kP_CP_clause
  refine Rf_bnd hR hσ (zrs_cons hx0 zrs_nil) (e_cons rfl rfl) (fun σ1 r1 hσ1 hr1 => ?_)
  refine Rf_eq rfl (by decide) hr1 (by decide) (fun _ => ?_) (fun _ => ?_)
  · refine Rf_T hσ1 (by decide) (fun σ99 hσ99 => ?_)
    exact Rf_some hσ99 (by decide) (by decide)
  · refine Rf_lt rfl (by decide) hx1 (by decide) (fun _ => ?_) (fun _ => ?_)
    · exact Rf_tail hR hσ1 (zrs_cons hx0 (zrs_cons hx1 zrs_nil)) (e_cons rfl (e_cons rfl rfl))
    · refine Rf_le rfl (by decide) hx1 (by decide) (fun _ => ?_) (fun _ => ?_)
      · refine Rf_bnd hR hσ1 (zrs_cons hx0 (zrs_cons hx1 zrs_nil)) (e_cons rfl (e_cons rfl rfl)) (fun σ2 r2 hσ2 hr2 => ?_)
        exact Rf_some hσ2 hr2 rfl
      · exact Rf_tail hR hσ1 (zrs_cons hx0 (zrs_cons hx1 zrs_nil)) (e_cons rfl (e_cons rfl rfl))
theorem rY_CP_clause_p31 (rz : zF) (rm : mF) (hR : Rc rz rm) (β : Nat) (σ : zS) (hσ : zOK σ) (x0 x1 : Int) (hx0 : zr x0) (hx1 : zr x1) : Rf (kY_CP_clause_p31 rz β σ x0 x1) (kP_CP_clause_p31 rm (cv σ) (i32 x0) (i32 x1)) β := by
  unfold kY_CP_clause_p31 kP_CP_clause_p31
  refine Rf_T hσ (by decide) (fun σ99 hσ99 => ?_)
  exact Rf_some hσ99 (by decide) (by decide)
theorem rY_CP_end (rz : zF) (rm : mF) (hR : Rc rz rm) (β : Nat) (σ : zS) (hσ : zOK σ) (x0 : Int) (hx0 : zr x0) : Rf (kY_CP_end rz β σ x0) (kP_CP_end rm (cv σ) (i32 x0)) β := by
  unfold kY_CP_end kP_CP_end
  refine Rf_lt rfl (by decide) hx0 (by decide) (fun _ => ?_) (fun _ => ?_)
  · exact Rf_tail hR hσ (zrs_cons hx0 zrs_nil) (e_cons rfl rfl)
  · refine Rf_le rfl rfl hx0 (hσ.1 101) (fun _ => ?_) (fun _ => ?_)
    · refine Rf_I rfl hx0 hσ (fun σ1 hσ1 => ?_)
      exact Rf_some hσ1 hx0 rfl
    · exact Rf_tail hR hσ (zrs_cons hx0 zrs_nil) (e_cons rfl rfl)
theorem rY_CP_end_p15 (rz : zF) (rm : mF) (hR : Rc rz rm) (β : Nat) (σ : zS) (hσ : zOK σ) (x0 : Int) (hx0 : zr x0) : Rf (kY_CP_end_p15 rz β σ x0) (kP_CP_end_p15 rm (cv σ) (i32 x0)) β := by
  unfold kY_CP_end_p15 kP_CP_end_p15
  refine Rf_T hσ (by decide) (fun σ99 hσ99 => ?_)
  exact Rf_some hσ99 (by decide) (by decide)
theorem rY_CP_feed (rz : zF) (rm : mF) (hR : Rc rz rm) (β : Nat) (σ : zS) (hσ : zOK σ) (x0 x1 x2 x3 x4 : Int) (hx0 : zr x0) (hx1 : zr x1) (hx2 : zr x2) (hx3 : zr x3) (hx4 : zr x4) : Rf (kY_CP_feed rz β σ x0 x1 x2 x3 x4) (kP_CP_feed rm (cv σ) (i32 x0) (i32 x1) (i32 x2) (i32 x3) (i32 x4)) β := by
  unfold kY_CP_feed kP_CP_feed
  refine Rf_g (fun hg1 => ?_)
  refine Rf_le (e_add rfl (by decide)) (by decide) hg1 (by decide) (fun _ => ?_) (fun _ => ?_)
  · refine Rf_bnd hR hσ (zrs_cons hx0 zrs_nil) (e_cons rfl rfl) (fun σ1 r1 hσ1 hr1 => ?_)
    refine Rf_bnd hR hσ1 (zrs_cons hx1 zrs_nil) (e_cons rfl rfl) (fun σ2 r2 hσ2 hr2 => ?_)
    refine Rf_bnd hR hσ2 (zrs_cons hx2 zrs_nil) (e_cons rfl rfl) (fun σ3 r3 hσ3 hr3 => ?_)
    refine Rf_bnd hR hσ3 (zrs_cons hx3 zrs_nil) (e_cons rfl rfl) (fun σ4 r4 hσ4 hr4 => ?_)
    refine Rf_bnd hR hσ4 (zrs_cons hx4 zrs_nil) (e_cons rfl rfl) (fun σ5 r5 hσ5 hr5 => ?_)
    exact Rf_some hσ5 (hσ5.1 101) rfl
  · refine Rf_T hσ (by decide) (fun σ99 hσ99 => ?_)
    exact Rf_some hσ99 (by decide) (by decide)
theorem rY_CP_literal (rz : zF) (rm : mF) (hR : Rc rz rm) (β : Nat) (σ : zS) (hσ : zOK σ) (x0 x1 x2 : Int) (hx0 : zr x0) (hx1 : zr x1) (hx2 : zr x2) : Rf (kY_CP_literal rz β σ x0 x1 x2) (kP_CP_literal rm (cv σ) (i32 x0) (i32 x1) (i32 x2)) β := by
  unfold kY_CP_literal kP_CP_literal
  refine Rf_bnd hR hσ (zrs_cons hx0 zrs_nil) (e_cons rfl rfl) (fun σ1 r1 hσ1 hr1 => ?_)
  refine Rf_eq rfl (by decide) hr1 (by decide) (fun _ => ?_) (fun _ => ?_)
  · exact Rf_tail hR hσ1 (zrs_cons hx0 (zrs_cons hx1 (zrs_cons hx2 zrs_nil))) (e_cons rfl (e_cons rfl (e_cons rfl rfl)))
  · refine Rf_lt rfl (by decide) hx1 (by decide) (fun _ => ?_) (fun _ => ?_)
    · exact Rf_tail hR hσ1 (zrs_cons hx0 (zrs_cons hx1 (zrs_cons hx2 zrs_nil))) (e_cons rfl (e_cons rfl (e_cons rfl rfl)))
    · refine Rf_bnd hR hσ1 (zrs_cons hx0 (zrs_cons (by decide) zrs_nil)) (e_cons rfl (e_cons (by decide) rfl)) (fun σ2 r2 hσ2 hr2 => ?_)
      refine Rf_lt rfl rfl hx1 hr2 (fun _ => ?_) (fun _ => ?_)
      · refine Rf_lt rfl (by decide) hx2 (by decide) (fun _ => ?_) (fun _ => ?_)
        · exact Rf_tail hR hσ2 (zrs_cons hx0 (zrs_cons hx1 (zrs_cons hx2 zrs_nil))) (e_cons rfl (e_cons rfl (e_cons rfl rfl)))
        · refine Rf_le rfl (by decide) hx2 (by decide) (fun _ => ?_) (fun _ => ?_)
          · refine Rf_bnd hR hσ2 (zrs_cons hx0 zrs_nil) (e_cons rfl rfl) (fun σ3 r3 hσ3 hr3 => ?_)
            refine Rf_bnd hR hσ3 (zrs_cons hx0 (zrs_cons hx1 zrs_nil)) (e_cons rfl (e_cons rfl rfl)) (fun σ4 r4 hσ4 hr4 => ?_)
            refine Rf_eq rfl (by decide) hx2 (by decide) (fun _ => ?_) (fun _ => ?_)
            · refine Rf_g (fun hg1 => ?_)
              refine Rf_rd (e_add rfl (by decide)) hg1 (fun hb2 => ?_)
              refine Rf_g (fun hg3 => ?_)
              refine Rf_rd (e_add rfl (by decide)) hg3 (fun hb4 => ?_)
              refine Rf_g (fun hg5 => ?_)
              exact Rf_some hσ4 hg5 (e_add (e_rd (e_add rfl (by decide)) hb2) (e_rd (e_add rfl (by decide)) hb4))
            · refine Rf_eq rfl (by decide) hx2 (by decide) (fun _ => ?_) (fun _ => ?_)
              · exact Rf_tail hR hσ4 (zrs_cons hx0 (zrs_cons hx1 (zrs_cons hx2 (zrs_cons hr4 (zrs_cons (by decide) (zrs_cons hr4 zrs_nil)))))) (e_cons rfl (e_cons rfl (e_cons rfl (e_cons rfl (e_cons (by decide) (e_cons rfl rfl))))))
              · refine Rf_eq rfl (by decide) hx2 (by decide) (fun _ => ?_) (fun _ => ?_)
                · exact Rf_tail hR hσ4 (zrs_cons hx0 (zrs_cons hx1 (zrs_cons hx2 (zrs_cons hr4 (zrs_cons (by decide) (zrs_cons hr4 zrs_nil)))))) (e_cons rfl (e_cons rfl (e_cons rfl (e_cons rfl (e_cons (by decide) (e_cons rfl rfl))))))
                · exact Rf_tail hR hσ4 (zrs_cons hx0 (zrs_cons hx1 (zrs_cons hx2 (zrs_cons hr4 (zrs_cons (by decide) (zrs_cons hr4 zrs_nil)))))) (e_cons rfl (e_cons rfl (e_cons rfl (e_cons rfl (e_cons (by decide) (e_cons rfl rfl))))))
          · exact Rf_tail hR hσ2 (zrs_cons hx0 (zrs_cons hx1 (zrs_cons hx2 zrs_nil))) (e_cons rfl (e_cons rfl (e_cons rfl rfl)))
      · exact Rf_tail hR hσ2 (zrs_cons hx0 (zrs_cons hx1 (zrs_cons hx2 zrs_nil))) (e_cons rfl (e_cons rfl (e_cons rfl rfl)))
theorem rY_CP_literal_p28 (rz : zF) (rm : mF) (hR : Rc rz rm) (β : Nat) (σ : zS) (hσ : zOK σ) (x0 x1 x2 : Int) (hx0 : zr x0) (hx1 : zr x1) (hx2 : zr x2) : Rf (kY_CP_literal_p28 rz β σ x0 x1 x2) (kP_CP_literal_p28 rm (cv σ) (i32 x0) (i32 x1) (i32 x2)) β := by
  unfold kY_CP_literal_p28 kP_CP_literal_p28
  refine Rf_T hσ (by decide) (fun σ99 hσ99 => ?_)
  exact Rf_some hσ99 (by decide) (by decide)
theorem rY_CP_literal_p47 (rz : zF) (rm : mF) (hR : Rc rz rm) (β : Nat) (σ : zS) (hσ : zOK σ) (x0 x1 x2 : Int) (hx0 : zr x0) (hx1 : zr x1) (hx2 : zr x2) : Rf (kY_CP_literal_p47 rz β σ x0 x1 x2) (kP_CP_literal_p47 rm (cv σ) (i32 x0) (i32 x1) (i32 x2)) β := by
  unfold kY_CP_literal_p47 kP_CP_literal_p47
  refine Rf_T hσ (by decide) (fun σ99 hσ99 => ?_)
  exact Rf_some hσ99 (by decide) (by decide)
theorem rY_CP_literal_p131 (rz : zF) (rm : mF) (hR : Rc rz rm) (β : Nat) (σ : zS) (hσ : zOK σ) (x0 x1 x2 x3 x4 x5 : Int) (hx0 : zr x0) (hx1 : zr x1) (hx2 : zr x2) (hx3 : zr x3) (hx4 : zr x4) (hx5 : zr x5) : Rf (kY_CP_literal_p131 rz β σ x0 x1 x2 x3 x4 x5) (kP_CP_literal_p131 rm (cv σ) (i32 x0) (i32 x1) (i32 x2) (i32 x3) (i32 x4) (i32 x5)) β := by
  unfold kY_CP_literal_p131 kP_CP_literal_p131
  refine Rf_g (fun hg1 => ?_)
  refine Rf_rd (e_add rfl rfl) hg1 (fun hb2 => ?_)
  exact Rf_some hσ (hσ.2.1 _ _) (e_rd (e_add rfl rfl) hb2)
theorem rY_CP_look (rz : zF) (rm : mF) (hR : Rc rz rm) (β : Nat) (σ : zS) (hσ : zOK σ) (x0 x1 : Int) (hx0 : zr x0) (hx1 : zr x1) : Rf (kY_CP_look rz β σ x0 x1) (kP_CP_look rm (cv σ) (i32 x0) (i32 x1)) β := by
  unfold kY_CP_look kP_CP_look
  refine Rf_lt rfl (by decide) hx1 (by decide) (fun _ => ?_) (fun _ => ?_)
  · exact Rf_tail hR hσ (zrs_cons hx0 (zrs_cons hx1 zrs_nil)) (e_cons rfl (e_cons rfl rfl))
  · refine Rf_le rfl (by decide) hx1 (by decide) (fun _ => ?_) (fun _ => ?_)
    · refine Rf_bnd hR hσ (zrs_cons hx0 (zrs_cons hx1 zrs_nil)) (e_cons rfl (e_cons rfl rfl)) (fun σ1 r1 hσ1 hr1 => ?_)
      refine Rf_eq rfl (by decide) hr1 (by decide) (fun _ => ?_) (fun _ => ?_)
      · exact Rf_some hσ1 (by decide) (by decide)
      · exact Rf_tail hR hσ1 (zrs_cons hx0 (zrs_cons hx1 (zrs_cons (by decide) (zrs_cons (hσ1.1 5403) zrs_nil)))) (e_cons rfl (e_cons rfl (e_cons (by decide) (e_cons rfl rfl))))
    · exact Rf_tail hR hσ (zrs_cons hx0 (zrs_cons hx1 zrs_nil)) (e_cons rfl (e_cons rfl rfl))
theorem rY_CP_look_p10 (rz : zF) (rm : mF) (hR : Rc rz rm) (β : Nat) (σ : zS) (hσ : zOK σ) (x0 x1 : Int) (hx0 : zr x0) (hx1 : zr x1) : Rf (kY_CP_look_p10 rz β σ x0 x1) (kP_CP_look_p10 rm (cv σ) (i32 x0) (i32 x1)) β := by
  unfold kY_CP_look_p10 kP_CP_look_p10
  refine Rf_T hσ (by decide) (fun σ99 hσ99 => ?_)
  exact Rf_some hσ99 (by decide) (by decide)
theorem rY_CP_look_p46 (rz : zF) (rm : mF) (hR : Rc rz rm) (β : Nat) (σ : zS) (hσ : zOK σ) (x0 x1 x2 x3 : Int) (hx0 : zr x0) (hx1 : zr x1) (hx2 : zr x2) (hx3 : zr x3) : Rf (kY_CP_look_p46 rz β σ x0 x1 x2 x3) (kP_CP_look_p46 rm (cv σ) (i32 x0) (i32 x1) (i32 x2) (i32 x3)) β := by
  unfold kY_CP_look_p46 kP_CP_look_p46
  refine Rf_le rfl rfl (hσ.1 5402) hx3 (fun _ => ?_) (fun _ => ?_)
  · exact Rf_some hσ hx2 rfl
  · refine Rf_bnd hR hσ (zrs_cons hx3 zrs_nil) (e_cons rfl rfl) (fun σ1 r1 hσ1 hr1 => ?_)
    refine Rf_eq rfl (by decide) hr1 (by decide) (fun _ => ?_) (fun _ => ?_)
    · refine Rf_g (fun hg1 => ?_)
      exact Rf_tail hR hσ1 (zrs_cons hx0 (zrs_cons hx1 (zrs_cons hg1 (zrs_cons hx3 zrs_nil)))) (e_cons rfl (e_cons rfl (e_cons (e_add rfl (by decide)) (e_cons rfl rfl))))
    · exact Rf_tail hR hσ1 (zrs_cons hx0 (zrs_cons hx1 (zrs_cons hx2 (zrs_cons hx3 zrs_nil)))) (e_cons rfl (e_cons rfl (e_cons rfl (e_cons rfl rfl))))
theorem rY_CP_look_p73 (rz : zF) (rm : mF) (hR : Rc rz rm) (β : Nat) (σ : zS) (hσ : zOK σ) (x0 x1 x2 x3 : Int) (hx0 : zr x0) (hx1 : zr x1) (hx2 : zr x2) (hx3 : zr x3) : Rf (kY_CP_look_p73 rz β σ x0 x1 x2 x3) (kP_CP_look_p73 rm (cv σ) (i32 x0) (i32 x1) (i32 x2) (i32 x3)) β := by
  unfold kY_CP_look_p73 kP_CP_look_p73
  refine Rf_g (fun hg1 => ?_)
  exact Rf_tail hR hσ (zrs_cons hx0 (zrs_cons hx1 (zrs_cons hx2 (zrs_cons hg1 zrs_nil)))) (e_cons rfl (e_cons rfl (e_cons rfl (e_cons (e_add rfl (by decide)) rfl))))
theorem rY_CP_out (rz : zF) (rm : mF) (hR : Rc rz rm) (β : Nat) (σ : zS) (hσ : zOK σ) (x0 : Int) (hx0 : zr x0) : Rf (kY_CP_out rz β σ x0) (kP_CP_out rm (cv σ) (i32 x0)) β := by
  unfold kY_CP_out kP_CP_out
  refine Rf_lt rfl (by decide) hx0 (by decide) (fun _ => ?_) (fun _ => ?_)
  · exact Rf_tail hR hσ (zrs_cons hx0 zrs_nil) (e_cons rfl rfl)
  · refine Rf_lt rfl rfl hx0 (hσ.1 301) (fun _ => ?_) (fun _ => ?_)
    · refine Rf_rd rfl hx0 (fun hb1 => ?_)
      exact Rf_some hσ (hσ.2.1 _ _) (e_rd rfl hb1)
    · exact Rf_tail hR hσ (zrs_cons hx0 zrs_nil) (e_cons rfl rfl)
theorem rY_CP_out_p15 (rz : zF) (rm : mF) (hR : Rc rz rm) (β : Nat) (σ : zS) (hσ : zOK σ) (x0 : Int) (hx0 : zr x0) : Rf (kY_CP_out_p15 rz β σ x0) (kP_CP_out_p15 rm (cv σ) (i32 x0)) β := by
  unfold kY_CP_out_p15 kP_CP_out_p15
  refine Rf_T hσ (by decide) (fun σ99 hσ99 => ?_)
  exact Rf_some hσ99 (by decide) (by decide)
theorem rY_CP_rewrote (rz : zF) (rm : mF) (hR : Rc rz rm) (β : Nat) (σ : zS) (hσ : zOK σ) (x0 x1 : Int) (hx0 : zr x0) (hx1 : zr x1) : Rf (kY_CP_rewrote rz β σ x0 x1) (kP_CP_rewrote rm (cv σ) (i32 x0) (i32 x1)) β := by
  unfold kY_CP_rewrote kP_CP_rewrote
  refine Rf_bnd hR hσ (zrs_cons hx0 zrs_nil) (e_cons rfl rfl) (fun σ1 r1 hσ1 hr1 => ?_)
  refine Rf_eq rfl (by decide) hr1 (by decide) (fun _ => ?_) (fun _ => ?_)
  · exact Rf_tail hR hσ1 (zrs_cons hx0 (zrs_cons hx1 zrs_nil)) (e_cons rfl (e_cons rfl rfl))
  · refine Rf_lt rfl (by decide) hx1 (by decide) (fun _ => ?_) (fun _ => ?_)
    · exact Rf_tail hR hσ1 (zrs_cons hx0 (zrs_cons hx1 zrs_nil)) (e_cons rfl (e_cons rfl rfl))
    · refine Rf_bnd hR hσ1 (zrs_cons hx0 (zrs_cons (by decide) zrs_nil)) (e_cons rfl (e_cons (by decide) rfl)) (fun σ2 r2 hσ2 hr2 => ?_)
      refine Rf_lt rfl rfl hx1 hr2 (fun _ => ?_) (fun _ => ?_)
      · refine Rf_bnd hR hσ2 (zrs_cons hx0 (zrs_cons (by decide) zrs_nil)) (e_cons rfl (e_cons (by decide) rfl)) (fun σ3 r3 hσ3 hr3 => ?_)
        refine Rf_g (fun hg1 => ?_)
        refine Rf_rd (e_add rfl rfl) hg1 (fun hb2 => ?_)
        exact Rf_some hσ3 (hσ3.2.1 _ _) (e_rd (e_add rfl rfl) hb2)
      · exact Rf_tail hR hσ2 (zrs_cons hx0 (zrs_cons hx1 zrs_nil)) (e_cons rfl (e_cons rfl rfl))
theorem rY_CP_rewrote_p29 (rz : zF) (rm : mF) (hR : Rc rz rm) (β : Nat) (σ : zS) (hσ : zOK σ) (x0 x1 : Int) (hx0 : zr x0) (hx1 : zr x1) : Rf (kY_CP_rewrote_p29 rz β σ x0 x1) (kP_CP_rewrote_p29 rm (cv σ) (i32 x0) (i32 x1)) β := by
  unfold kY_CP_rewrote_p29 kP_CP_rewrote_p29
  refine Rf_T hσ (by decide) (fun σ99 hσ99 => ?_)
  exact Rf_some hσ99 (by decide) (by decide)
theorem rY_CP_run (rz : zF) (rm : mF) (hR : Rc rz rm) (β : Nat) (σ : zS) (hσ : zOK σ) (x0 : Int) (hx0 : zr x0) : Rf (kY_CP_run rz β σ x0) (kP_CP_run rm (cv σ) (i32 x0)) β := by
  unfold kY_CP_run kP_CP_run
  refine Rf_lt rfl (by decide) hx0 (by decide) (fun _ => ?_) (fun _ => ?_)
  · exact Rf_tail hR hσ (zrs_cons hx0 zrs_nil) (e_cons rfl rfl)
  · refine Rf_le rfl (by decide) hx0 (by decide) (fun _ => ?_) (fun _ => ?_)
    · exact Rf_tail hR hσ (zrs_cons hx0 (zrs_cons (by decide) zrs_nil)) (e_cons rfl (e_cons (by decide) rfl))
    · exact Rf_tail hR hσ (zrs_cons hx0 zrs_nil) (e_cons rfl rfl)
theorem rY_CP_run_p11 (rz : zF) (rm : mF) (hR : Rc rz rm) (β : Nat) (σ : zS) (hσ : zOK σ) (x0 : Int) (hx0 : zr x0) : Rf (kY_CP_run_p11 rz β σ x0) (kP_CP_run_p11 rm (cv σ) (i32 x0)) β := by
  unfold kY_CP_run_p11 kP_CP_run_p11
  refine Rf_T hσ (by decide) (fun σ99 hσ99 => ?_)
  exact Rf_some hσ99 (by decide) (by decide)
theorem rY_CP_run_p23 (rz : zF) (rm : mF) (hR : Rc rz rm) (β : Nat) (σ : zS) (hσ : zOK σ) (x0 x1 : Int) (hx0 : zr x0) (hx1 : zr x1) : Rf (kY_CP_run_p23 rz β σ x0 x1) (kP_CP_run_p23 rm (cv σ) (i32 x0) (i32 x1)) β := by
  unfold kY_CP_run_p23 kP_CP_run_p23
  refine Rf_le rfl rfl hx0 hx1 (fun _ => ?_) (fun _ => ?_)
  · exact Rf_tail hR hσ (zrs_cons hx0 (zrs_cons hx1 zrs_nil)) (e_cons rfl (e_cons rfl rfl))
  · refine Rf_eq rfl (by decide) (hσ.1 5300) (by decide) (fun _ => ?_) (fun _ => ?_)
    · refine Rf_bnd hR hσ zrs_nil rfl (fun σ1 r1 hσ1 hr1 => ?_)
      refine Rf_eq rfl (by decide) hr1 (by decide) (fun _ => ?_) (fun _ => ?_)
      · exact Rf_tail hR hσ1 (zrs_cons hx0 (zrs_cons hx1 (zrs_cons hr1 zrs_nil))) (e_cons rfl (e_cons rfl (e_cons rfl rfl)))
      · refine Rf_bnd hR hσ1 (zrs_cons hr1 zrs_nil) (e_cons rfl rfl) (fun σ2 r2 hσ2 hr2 => ?_)
        exact Rf_tail hR hσ2 (zrs_cons hx0 (zrs_cons hx1 (zrs_cons hr1 zrs_nil))) (e_cons rfl (e_cons rfl (e_cons rfl rfl)))
    · exact Rf_tail hR hσ (zrs_cons hx0 (zrs_cons hx1 zrs_nil)) (e_cons rfl (e_cons rfl rfl))
theorem rY_CP_run_p59 (rz : zF) (rm : mF) (hR : Rc rz rm) (β : Nat) (σ : zS) (hσ : zOK σ) (x0 x1 x2 : Int) (hx0 : zr x0) (hx1 : zr x1) (hx2 : zr x2) : Rf (kY_CP_run_p59 rz β σ x0 x1 x2) (kP_CP_run_p59 rm (cv σ) (i32 x0) (i32 x1) (i32 x2)) β := by
  unfold kY_CP_run_p59 kP_CP_run_p59
  refine Rf_g (fun hg1 => ?_)
  exact Rf_tail hR hσ (zrs_cons hx0 (zrs_cons hg1 zrs_nil)) (e_cons rfl (e_cons (e_add rfl (by decide)) rfl))
theorem rY_CP_run_p65 (rz : zF) (rm : mF) (hR : Rc rz rm) (β : Nat) (σ : zS) (hσ : zOK σ) (x0 x1 : Int) (hx0 : zr x0) (hx1 : zr x1) : Rf (kY_CP_run_p65 rz β σ x0 x1) (kP_CP_run_p65 rm (cv σ) (i32 x0) (i32 x1)) β := by
  unfold kY_CP_run_p65 kP_CP_run_p65
  exact Rf_some hσ (hσ.1 5300) rfl
theorem rY_CP_search (rz : zF) (rm : mF) (hR : Rc rz rm) (β : Nat) (σ : zS) (hσ : zOK σ) (x0 x1 x2 : Int) (hx0 : zr x0) (hx1 : zr x1) (hx2 : zr x2) : Rf (kY_CP_search rz β σ x0 x1 x2) (kP_CP_search rm (cv σ) (i32 x0) (i32 x1) (i32 x2)) β := by
  unfold kY_CP_search kP_CP_search
  refine Rf_lt rfl (by decide) hx1 (by decide) (fun _ => ?_) (fun _ => ?_)
  · exact Rf_tail hR hσ (zrs_cons hx0 (zrs_cons hx1 (zrs_cons hx2 zrs_nil))) (e_cons rfl (e_cons rfl (e_cons rfl rfl)))
  · refine Rf_lt (by decide) rfl (by decide) hx1 (fun _ => ?_) (fun _ => ?_)
    · exact Rf_tail hR hσ (zrs_cons hx0 (zrs_cons hx1 (zrs_cons hx2 zrs_nil))) (e_cons rfl (e_cons rfl (e_cons rfl rfl)))
    · refine Rf_lt rfl (by decide) hx2 (by decide) (fun _ => ?_) (fun _ => ?_)
      · exact Rf_tail hR hσ (zrs_cons hx0 (zrs_cons hx1 (zrs_cons hx2 zrs_nil))) (e_cons rfl (e_cons rfl (e_cons rfl rfl)))
      · refine Rf_le rfl (by decide) hx2 (by decide) (fun _ => ?_) (fun _ => ?_)
        · exact Rf_tail hR hσ (zrs_cons hx0 (zrs_cons hx1 (zrs_cons hx2 (zrs_cons (by decide) zrs_nil)))) (e_cons rfl (e_cons rfl (e_cons rfl (e_cons (by decide) rfl))))
        · exact Rf_tail hR hσ (zrs_cons hx0 (zrs_cons hx1 (zrs_cons hx2 zrs_nil))) (e_cons rfl (e_cons rfl (e_cons rfl rfl)))
theorem rY_CP_search_p21 (rz : zF) (rm : mF) (hR : Rc rz rm) (β : Nat) (σ : zS) (hσ : zOK σ) (x0 x1 x2 : Int) (hx0 : zr x0) (hx1 : zr x1) (hx2 : zr x2) : Rf (kY_CP_search_p21 rz β σ x0 x1 x2) (kP_CP_search_p21 rm (cv σ) (i32 x0) (i32 x1) (i32 x2)) β := by
  unfold kY_CP_search_p21 kP_CP_search_p21
  refine Rf_T hσ (by decide) (fun σ99 hσ99 => ?_)
  exact Rf_some hσ99 (by decide) (by decide)
theorem rY_CP_search_p35 (rz : zF) (rm : mF) (hR : Rc rz rm) (β : Nat) (σ : zS) (hσ : zOK σ) (x0 x1 x2 x3 : Int) (hx0 : zr x0) (hx1 : zr x1) (hx2 : zr x2) (hx3 : zr x3) : Rf (kY_CP_search_p35 rz β σ x0 x1 x2 x3) (kP_CP_search_p35 rm (cv σ) (i32 x0) (i32 x1) (i32 x2) (i32 x3)) β := by
  unfold kY_CP_search_p35 kP_CP_search_p35
  refine Rf_le rfl rfl hx2 hx3 (fun _ => ?_) (fun _ => ?_)
  · exact Rf_some hσ (by decide) (by decide)
  · refine Rf_bnd hR hσ (zrs_cons (zr_to _) (zrs_cons hx1 zrs_nil)) (e_cons (e_wadd rfl rfl) (e_cons rfl rfl)) (fun σ1 r1 hσ1 hr1 => ?_)
    refine Rf_eq rfl (by decide) hr1 (by decide) (fun _ => ?_) (fun _ => ?_)
    · refine Rf_g (fun hg1 => ?_)
      exact Rf_tail hR hσ1 (zrs_cons hx0 (zrs_cons hx1 (zrs_cons hx2 (zrs_cons hg1 zrs_nil)))) (e_cons rfl (e_cons rfl (e_cons rfl (e_cons (e_add rfl (by decide)) rfl))))
    · exact Rf_some hσ1 hx3 rfl
theorem rY_CP_step (rz : zF) (rm : mF) (hR : Rc rz rm) (β : Nat) (σ : zS) (hσ : zOK σ) (x0 : Int) (hx0 : zr x0) : Rf (kY_CP_step rz β σ x0) (kP_CP_step rm (cv σ) (i32 x0)) β := by
  unfold kY_CP_step kP_CP_step
  refine Rf_lt rfl (by decide) hx0 (by decide) (fun _ => ?_) (fun _ => ?_)
  · exact Rf_tail hR hσ (zrs_cons hx0 zrs_nil) (e_cons rfl rfl)
  · refine Rf_lt rfl rfl hx0 (hσ.1 5501) (fun _ => ?_) (fun _ => ?_)
    · refine Rf_rd rfl hx0 (fun hb1 => ?_)
      exact Rf_some hσ (hσ.2.1 _ _) (e_rd rfl hb1)
    · exact Rf_tail hR hσ (zrs_cons hx0 zrs_nil) (e_cons rfl rfl)
theorem rY_CP_step_p18 (rz : zF) (rm : mF) (hR : Rc rz rm) (β : Nat) (σ : zS) (hσ : zOK σ) (x0 : Int) (hx0 : zr x0) : Rf (kY_CP_step_p18 rz β σ x0) (kP_CP_step_p18 rm (cv σ) (i32 x0)) β := by
  unfold kY_CP_step_p18 kP_CP_step_p18
  refine Rf_T hσ (by decide) (fun σ99 hσ99 => ?_)
  exact Rf_some hσ99 (by decide) (by decide)
theorem rY_CP_symbol (rz : zF) (rm : mF) (hR : Rc rz rm) (β : Nat) (σ : zS) (hσ : zOK σ) (x0 x1 : Int) (hx0 : zr x0) (hx1 : zr x1) : Rf (kY_CP_symbol rz β σ x0 x1) (kP_CP_symbol rm (cv σ) (i32 x0) (i32 x1)) β := by
  unfold kY_CP_symbol kP_CP_symbol
  refine Rf_lt rfl (by decide) hx0 (by decide) (fun _ => ?_) (fun _ => ?_)
  · exact Rf_tail hR hσ (zrs_cons hx0 (zrs_cons hx1 zrs_nil)) (e_cons rfl (e_cons rfl rfl))
  · refine Rf_lt rfl rfl hx0 (hσ.1 605) (fun _ => ?_) (fun _ => ?_)
    · refine Rf_lt rfl (by decide) hx1 (by decide) (fun _ => ?_) (fun _ => ?_)
      · exact Rf_tail hR hσ (zrs_cons hx0 (zrs_cons hx1 zrs_nil)) (e_cons rfl (e_cons rfl rfl))
      · refine Rf_le rfl (by decide) hx1 (by decide) (fun _ => ?_) (fun _ => ?_)
        · refine Rf_eq rfl (by decide) hx1 (by decide) (fun _ => ?_) (fun _ => ?_)
          · refine Rf_rd rfl hx0 (fun hb1 => ?_)
            exact Rf_some hσ (hσ.2.1 _ _) (e_rd rfl hb1)
          · refine Rf_eq rfl (by decide) hx1 (by decide) (fun _ => ?_) (fun _ => ?_)
            · refine Rf_bnd hR hσ (zrs_cons hx0 zrs_nil) (e_cons rfl rfl) (fun σ2 r2 hσ2 hr2 => ?_)
              exact Rf_tail hR hσ2 (zrs_cons hx0 (zrs_cons hx1 (zrs_cons hr2 zrs_nil))) (e_cons rfl (e_cons rfl (e_cons rfl rfl)))
            · refine Rf_bnd hR hσ (zrs_cons hx0 zrs_nil) (e_cons rfl rfl) (fun σ1 r1 hσ1 hr1 => ?_)
              exact Rf_tail hR hσ1 (zrs_cons hx0 (zrs_cons hx1 (zrs_cons hr1 zrs_nil))) (e_cons rfl (e_cons rfl (e_cons rfl rfl)))
        · exact Rf_tail hR hσ (zrs_cons hx0 (zrs_cons hx1 zrs_nil)) (e_cons rfl (e_cons rfl rfl))
    · exact Rf_tail hR hσ (zrs_cons hx0 (zrs_cons hx1 zrs_nil)) (e_cons rfl (e_cons rfl rfl))
theorem rY_CP_symbol_p15 (rz : zF) (rm : mF) (hR : Rc rz rm) (β : Nat) (σ : zS) (hσ : zOK σ) (x0 x1 : Int) (hx0 : zr x0) (hx1 : zr x1) : Rf (kY_CP_symbol_p15 rz β σ x0 x1) (kP_CP_symbol_p15 rm (cv σ) (i32 x0) (i32 x1)) β := by
  unfold kY_CP_symbol_p15 kP_CP_symbol_p15
  refine Rf_T hσ (by decide) (fun σ99 hσ99 => ?_)
  exact Rf_some hσ99 (by decide) (by decide)
theorem rY_CP_symbol_p35 (rz : zF) (rm : mF) (hR : Rc rz rm) (β : Nat) (σ : zS) (hσ : zOK σ) (x0 x1 : Int) (hx0 : zr x0) (hx1 : zr x1) : Rf (kY_CP_symbol_p35 rz β σ x0 x1) (kP_CP_symbol_p35 rm (cv σ) (i32 x0) (i32 x1)) β := by
  unfold kY_CP_symbol_p35 kP_CP_symbol_p35
  refine Rf_T hσ (by decide) (fun σ99 hσ99 => ?_)
  exact Rf_some hσ99 (by decide) (by decide)
theorem rY_CP_symbol_p83 (rz : zF) (rm : mF) (hR : Rc rz rm) (β : Nat) (σ : zS) (hσ : zOK σ) (x0 x1 x2 : Int) (hx0 : zr x0) (hx1 : zr x1) (hx2 : zr x2) : Rf (kY_CP_symbol_p83 rz β σ x0 x1 x2) (kP_CP_symbol_p83 rm (cv σ) (i32 x0) (i32 x1) (i32 x2)) β := by
  unfold kY_CP_symbol_p83 kP_CP_symbol_p83
  refine Rf_eq rfl (by decide) hx2 (by decide) (fun _ => ?_) (fun _ => ?_)
  · exact Rf_tail hR hσ (zrs_cons hx0 (zrs_cons hx1 (zrs_cons hx2 (zrs_cons (by decide) zrs_nil)))) (e_cons rfl (e_cons rfl (e_cons rfl (e_cons (by decide) rfl))))
  · exact Rf_tail hR hσ (zrs_cons hx0 (zrs_cons hx1 (zrs_cons hx2 (zrs_cons (by decide) zrs_nil)))) (e_cons rfl (e_cons rfl (e_cons rfl (e_cons (by decide) rfl))))
theorem rY_CP_symbol_p93 (rz : zF) (rm : mF) (hR : Rc rz rm) (β : Nat) (σ : zS) (hσ : zOK σ) (x0 x1 x2 x3 : Int) (hx0 : zr x0) (hx1 : zr x1) (hx2 : zr x2) (hx3 : zr x3) : Rf (kY_CP_symbol_p93 rz β σ x0 x1 x2 x3) (kP_CP_symbol_p93 rm (cv σ) (i32 x0) (i32 x1) (i32 x2) (i32 x3)) β := by
  unfold kY_CP_symbol_p93 kP_CP_symbol_p93
  exact Rf_some hσ hx3 rfl
