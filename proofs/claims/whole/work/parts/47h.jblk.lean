/-! the class's show over Int -/
def kJ_CP_writeNumber (rec : zF) (β : Nat) (σ : zS) (x0 : Int) : Option zR := if x0 < 100 then (if x0 < 10 then (rec tH_CP_writeNumber_p23 β σ [x0, 1]) else (rec tH_CP_writeNumber_p23 β σ [x0, 10])) else (rec tH_CP_writeNumber_p23 β σ [x0, 100])
def kJ_CP_writeNumber_p23 (rec : zF) (β : Nat) (σ : zS) (x0 x1 : Int) : Option zR := rec tH_CP_writeNumber_p24 β σ [x0, x1]
def kJ_CP_writeNumber_p24 (rec : zF) (β : Nat) (σ : zS) (x0 x1 : Int) : Option zR := if x1 ≤ 0 then (some (σ, 0)) else (if x1 = 0 then none else (if zr (Int.tdiv x0 x1) then (if zr (48 + (Int.tmod (Int.tdiv x0 x1) 10)) then (if zrok σ 301 4 then (lt_ (zAdd σ 301 4 (48 + (Int.tmod (Int.tdiv x0 x1) 10))) (fun σ1 => if zr (Int.tdiv x1 10) then (rec tH_CP_writeNumber_p24 β σ1 [x0, (Int.tdiv x1 10)]) else none)) else none) else none) else none))
def kJ_Sym_isWitness (rec : zF) (β : Nat) (σ : zS) (x0 : Int) : Option zR := if x0 ≤ (σ.1 604) then (rec tH_Sym_isWitness_p13 β σ [x0, 0]) else (rec tH_Sym_isWitness_p13 β σ [x0, 1])
def kJ_Sym_isWitness_p13 (rec : zF) (β : Nat) (σ : zS) (x0 x1 : Int) : Option zR := if x1 = 0 ∨ x1 = 1 then (some (σ, x1)) else none
def kJ_CP_writeWord (rec : zF) (β : Nat) (σ : zS) (x0 : Int) : Option zR := if 0 ≤ x0 then (if 1 ≤ β then (zbd (rec tH_Sym_isWitness (β - 1) σ [x0]) (fun σ1 r1 => if r1 = 0 then (if x0 = 0 then (rec tH_CP_writeWord_p109 β σ1 [x0]) else (rec tH_CP_writeWord_p61 β σ1 [x0, 0])) else (if zrok σ1 301 4 then (lt_ (zAdd σ1 301 4 119) (fun σ2 => if zr (x0 - (σ2.1 604)) then (if zr ((x0 - (σ2.1 604)) - 1) then (if 1 ≤ β then (zbd (rec tH_CP_writeNumber (β - 1) σ2 [((x0 - (σ2.1 604)) - 1)]) (fun σ3 r3 => rec tH_CP_writeWord_p109 β σ3 [x0])) else none) else none) else none)) else none))) else none) else (if zrok σ 301 4 then (lt_ (zAdd σ 301 4 88) (fun σ4 => if 1 ≤ β then (zbd (rec tH_CP_writeNumber (β - 1) σ4 [(-1 - x0)]) (fun σ5 r5 => rec tH_CP_writeWord_p109 β σ5 [x0])) else none)) else none)
def kJ_CP_writeWord_p61 (rec : zF) (β : Nat) (σ : zS) (x0 x1 : Int) : Option zR := if zb x0 251 then (if (σ.2.1 9 x0) ≤ x1 then (rec tH_CP_writeWord_p109 β σ [x0]) else (if zr ((σ.2.1 8 x0) + x1) then (if zb ((σ.2.1 8 x0) + x1) (σ.2.2 11) then (if zrok σ 301 4 then (lt_ (zAdd σ 301 4 (σ.2.1 11 ((σ.2.1 8 x0) + x1))) (fun σ1 => if zr (x1 + 1) then (rec tH_CP_writeWord_p61 β σ1 [x0, (x1 + 1)]) else none)) else none) else none) else none)) else none
def kJ_CP_writeWord_p109 (rec : zF) (β : Nat) (σ : zS) (x0 : Int) : Option zR := some (σ, 0)
def kJ_CP_writeTerm (rec : zF) (β : Nat) (σ : zS) (x0 x1 : Int) : Option zR := rec tH_CP_writeTerm_p5 β σ [x0, x1, 0, x0]
def kJ_CP_writeTerm_p5 (rec : zF) (β : Nat) (σ : zS) (x0 x1 x2 x3 : Int) : Option zR := if x1 ≤ x3 then (some (σ, 0)) else (if zb x3 (σ.2.2 48) then (if 1 ≤ β then (zbd (rec tH_CP_writeWord (β - 1) σ [(σ.2.1 48 x3)]) (fun σ1 r1 => if 0 ≤ (σ.2.1 48 x3) then (if zb (σ.2.1 48 x3) 551 then (rec tH_CP_writeTerm_p51 β σ1 [x0, x1, x2, x3, (σ.2.1 48 x3), (σ1.2.1 7 (σ.2.1 48 x3))]) else none) else (rec tH_CP_writeTerm_p51 β σ1 [x0, x1, x2, x3, (σ.2.1 48 x3), 0]))) else none) else none)
def kJ_CP_writeTerm_p51 (rec : zF) (β : Nat) (σ : zS) (x0 x1 x2 x3 x4 x5 : Int) : Option zR := if x5 ≤ 0 then (rec tH_CP_writeTerm_p87 β σ [x0, x1, x2, x3, x4, x5]) else (if 101 ≤ x2 then (rec tH_CP_writeTerm_p87 β σ [x0, x1, x2, x3, x4, x5]) else (if zrok σ 301 4 then (lt_ (zAdd σ 301 4 40) (fun σ1 => if zb x2 101 then (lt_ (zA σ1 5 x2 x5) (fun σ2 => if zr (x2 + 1) then (rec tH_CP_writeTerm_p137 β σ2 [x0, x1, (x2 + 1), x3, x4, x5]) else none)) else none)) else none))
def kJ_CP_writeTerm_p87 (rec : zF) (β : Nat) (σ : zS) (x0 x1 x2 x3 x4 x5 : Int) : Option zR := if x2 ≤ 0 then (rec tH_CP_writeTerm_p115 β σ [x0, x1, x2, x3, x4, x5]) else (if zr (x2 - 1) then (if zb (x2 - 1) 101 then (if (σ.2.1 5 (x2 - 1)) = 1 then (if zrok σ 301 4 then (lt_ (zAdd σ 301 4 41) (fun σ1 => if zr (x2 + (-1)) then (rec tH_CP_writeTerm_p87 β σ1 [x0, x1, (x2 + (-1)), x3, x4, x5]) else none)) else none) else (rec tH_CP_writeTerm_p115 β σ [x0, x1, x2, x3, x4, x5])) else none) else none)
def kJ_CP_writeTerm_p115 (rec : zF) (β : Nat) (σ : zS) (x0 x1 x2 x3 x4 x5 : Int) : Option zR := if x2 ≤ 0 then (rec tH_CP_writeTerm_p137 β σ [x0, x1, x2, x3, x4, x5]) else (if zrok σ 301 4 then (lt_ (zAdd σ 301 4 44) (fun σ1 => if zr (x2 - 1) then (if zb (x2 - 1) 101 then (if zr ((σ1.2.1 5 (x2 - 1)) - 1) then (lt_ (zA σ1 5 (x2 - 1) ((σ1.2.1 5 (x2 - 1)) - 1)) (fun σ2 => rec tH_CP_writeTerm_p137 β σ2 [x0, x1, x2, x3, x4, x5])) else none) else none) else none)) else none)
def kJ_CP_writeTerm_p137 (rec : zF) (β : Nat) (σ : zS) (x0 x1 x2 x3 x4 x5 : Int) : Option zR := if zr (x3 + 1) then (rec tH_CP_writeTerm_p5 β σ [x0, x1, x2, (x3 + 1)]) else none
def kJ_Sto_sideAt (rec : zF) (β : Nat) (σ : zS) (x0 x1 : Int) : Option zR := if x1 = 0 then (if zr (x0 + 5) then (rec tH_Sto_sideAt_p22 β σ [x0, x1, 0, (x0 + 5)]) else none) else (if zr (x0 + 3) then (if zb (x0 + 3) (σ.2.2 48) then (if zr (x0 + 5) then (rec tH_Sto_sideAt_p22 β σ [x0, x1, (σ.2.1 48 (x0 + 3)), (x0 + 5)]) else none) else none) else none)
def kJ_Sto_sideAt_p22 (rec : zF) (β : Nat) (σ : zS) (x0 x1 x2 x3 : Int) : Option zR := if zr (x3 + x2) then (some (σ, (x3 + x2))) else none
def kJ_CP_writeLiteral (rec : zF) (β : Nat) (σ : zS) (x0 : Int) : Option zR := if zr (x0 + 0) then (if zb (x0 + 0) (σ.2.2 48) then (if (σ.2.1 48 (x0 + 0)) = 1 then (rec tH_CP_writeLiteral_p25 β σ [x0, 1]) else (rec tH_CP_writeLiteral_p25 β σ [x0, 0])) else none) else none
def kJ_CP_writeLiteral_p25 (rec : zF) (β : Nat) (σ : zS) (x0 x1 : Int) : Option zR := if 1 ≤ β then (zbd (rec tH_Sto_sideAt (β - 1) σ [x0, 0]) (fun σ1 r1 => if 1 ≤ β then (zbd (rec tH_Sto_sideAt (β - 1) σ1 [x0, 1]) (fun σ2 r2 => if zb r2 (σ2.2.2 48) then (if (σ2.2.1 48 r2) = 0 then (if x1 = 0 then (if zrok σ2 301 4 then (lt_ (zAdd σ2 301 4 126) (fun σ13 => if 1 ≤ β then (zbd (rec tH_CP_writeTerm (β - 1) σ13 [r1, r2]) (fun σ14 r14 => some (σ14, 0))) else none)) else none) else (if 1 ≤ β then (zbd (rec tH_CP_writeTerm (β - 1) σ2 [r1, r2]) (fun σ16 r16 => some (σ16, 0))) else none)) else (if 1 ≤ β then (zbd (rec tH_CP_writeTerm (β - 1) σ2 [r1, r2]) (fun σ3 r3 => if x1 = 0 then (if zrok σ3 301 4 then (lt_ (zAdd σ3 301 4 32) (fun σ4 => if zrok σ4 301 4 then (lt_ (zAdd σ4 301 4 33) (fun σ5 => if zrok σ5 301 4 then (lt_ (zAdd σ5 301 4 61) (fun σ6 => if zrok σ6 301 4 then (lt_ (zAdd σ6 301 4 32) (fun σ7 => if zr (x0 + 4) then (if zb (x0 + 4) (σ7.2.2 48) then (if zr (r2 + (σ7.2.1 48 (x0 + 4))) then (if 1 ≤ β then (zbd (rec tH_CP_writeTerm (β - 1) σ7 [r2, (r2 + (σ7.2.1 48 (x0 + 4)))]) (fun σ8 r8 => some (σ8, 0))) else none) else none) else none) else none)) else none)) else none)) else none)) else none) else (if zrok σ3 301 4 then (lt_ (zAdd σ3 301 4 32) (fun σ9 => if zrok σ9 301 4 then (lt_ (zAdd σ9 301 4 61) (fun σ10 => if zrok σ10 301 4 then (lt_ (zAdd σ10 301 4 32) (fun σ11 => if zr (x0 + 4) then (if zb (x0 + 4) (σ11.2.2 48) then (if zr (r2 + (σ11.2.1 48 (x0 + 4))) then (if 1 ≤ β then (zbd (rec tH_CP_writeTerm (β - 1) σ11 [r2, (r2 + (σ11.2.1 48 (x0 + 4)))]) (fun σ12 r12 => some (σ12, 0))) else none) else none) else none) else none)) else none)) else none)) else none))) else none)) else none)) else none)) else none
def kJ_Sto_has (rec : zF) (β : Nat) (σ : zS) (x0 : Int) : Option zR := if x0 < 0 then (rec tH_Sto_has_p16 β σ [x0]) else (if (σ.1 5402) ≤ x0 then (rec tH_Sto_has_p16 β σ [x0]) else (rec tH_Sto_has_p17 β σ [x0, 1]))
def kJ_Sto_has_p16 (rec : zF) (β : Nat) (σ : zS) (x0 : Int) : Option zR := rec tH_Sto_has_p17 β σ [x0, 0]
def kJ_Sto_has_p17 (rec : zF) (β : Nat) (σ : zS) (x0 x1 : Int) : Option zR := if x1 = 0 ∨ x1 = 1 then (some (σ, x1)) else none
def kJ_Sto_fact (rec : zF) (β : Nat) (σ : zS) (x0 x1 : Int) : Option zR := if zr (x0 * 11) then (if zr ((x0 * 11) + x1) then (if zb ((x0 * 11) + x1) (σ.2.2 52) then (some (σ, (σ.2.1 52 ((x0 * 11) + x1)))) else none) else none) else none
def kJ_Sto_behind (rec : zF) (β : Nat) (σ : zS) (x0 : Int) : Option zR := if zr (x0 + 3) then (if zb (x0 + 3) (σ.2.2 48) then (if zr (x0 + 4) then (if zb (x0 + 4) (σ.2.2 48) then (if zr (x0 + 5) then (if zr ((x0 + 5) + (σ.2.1 48 (x0 + 3))) then (if zr (((x0 + 5) + (σ.2.1 48 (x0 + 3))) + (σ.2.1 48 (x0 + 4))) then (some (σ, (((x0 + 5) + (σ.2.1 48 (x0 + 3))) + (σ.2.1 48 (x0 + 4))))) else none) else none) else none) else none) else none) else none) else none
def kJ_CP_show (rec : zF) (β : Nat) (σ : zS) (x0 : Int) : Option zR := if 1 ≤ β then (zbd (rec tH_Sto_has (β - 1) σ [x0]) (fun σ1 r1 => if r1 = 0 then none else (lt_ (zI σ1 301 0) (fun σ2 => if 1 ≤ β then (zbd (rec tH_Sto_fact (β - 1) σ2 [x0, 3]) (fun σ3 r3 => if r3 = 0 then (if zrok σ3 301 4 then (lt_ (zAdd σ3 301 4 102) (fun σ4 => if zrok σ4 301 4 then (lt_ (zAdd σ4 301 4 97) (fun σ5 => if zrok σ5 301 4 then (lt_ (zAdd σ5 301 4 108) (fun σ6 => if zrok σ6 301 4 then (lt_ (zAdd σ6 301 4 115) (fun σ7 => if zrok σ7 301 4 then (lt_ (zAdd σ7 301 4 101) (fun σ8 => rec tH_CP_show_p49 β σ8 [x0, r3])) else none)) else none)) else none)) else none)) else none) else (rec tH_CP_show_p49 β σ3 [x0, r3]))) else none)))) else none
def kJ_CP_show_p49 (rec : zF) (β : Nat) (σ : zS) (x0 x1 : Int) : Option zR := if 1 ≤ β then (zbd (rec tH_Sto_fact (β - 1) σ [x0, 8]) (fun σ1 r1 => rec tH_CP_show_p63 β σ1 [x0, x1, r1, 0])) else none
def kJ_CP_show_p63 (rec : zF) (β : Nat) (σ : zS) (x0 x1 x2 x3 : Int) : Option zR := if x1 ≤ x3 then (some (σ, (σ.1 301))) else (if x3 ≤ 0 then (rec tH_CP_show_p80 β σ [x0, x1, x2, x3]) else (if zrok σ 301 4 then (lt_ (zAdd σ 301 4 32) (fun σ1 => if zrok σ1 301 4 then (lt_ (zAdd σ1 301 4 124) (fun σ2 => if zrok σ2 301 4 then (lt_ (zAdd σ2 301 4 32) (fun σ3 => rec tH_CP_show_p80 β σ3 [x0, x1, x2, x3])) else none)) else none)) else none))
def kJ_CP_show_p80 (rec : zF) (β : Nat) (σ : zS) (x0 x1 x2 x3 : Int) : Option zR := if 1 ≤ β then (zbd (rec tH_CP_writeLiteral (β - 1) σ [x2]) (fun σ1 r1 => if 1 ≤ β then (zbd (rec tH_Sto_behind (β - 1) σ1 [x2]) (fun σ2 r2 => if zr (x3 + 1) then (rec tH_CP_show_p63 β σ2 [x0, x1, r2, (x3 + 1)]) else none)) else none)) else none
theorem rJ_CP_writeNumber (rz : zF) (rm : mF) (hR : Rc rz rm) (β : Nat) (σ : zS) (hσ : zOK σ) (x0 : Int) (hx0 : zr x0) : Rf (kJ_CP_writeNumber rz β σ x0) (kH_CP_writeNumber rm (cv σ) (i32 x0)) β := by
  unfold kJ_CP_writeNumber kH_CP_writeNumber
  refine Rf_lt rfl (by decide) hx0 (by decide) (fun _ => ?_) (fun _ => ?_)
  · refine Rf_lt rfl (by decide) hx0 (by decide) (fun _ => ?_) (fun _ => ?_)
    · exact Rf_tail hR hσ (zrs_cons hx0 (zrs_cons (by decide) zrs_nil)) (e_cons rfl (e_cons (by decide) rfl))
    · exact Rf_tail hR hσ (zrs_cons hx0 (zrs_cons (by decide) zrs_nil)) (e_cons rfl (e_cons (by decide) rfl))
  · exact Rf_tail hR hσ (zrs_cons hx0 (zrs_cons (by decide) zrs_nil)) (e_cons rfl (e_cons (by decide) rfl))
theorem rJ_CP_writeNumber_p23 (rz : zF) (rm : mF) (hR : Rc rz rm) (β : Nat) (σ : zS) (hσ : zOK σ) (x0 x1 : Int) (hx0 : zr x0) (hx1 : zr x1) : Rf (kJ_CP_writeNumber_p23 rz β σ x0 x1) (kH_CP_writeNumber_p23 rm (cv σ) (i32 x0) (i32 x1)) β := by
  unfold kJ_CP_writeNumber_p23 kH_CP_writeNumber_p23
  exact Rf_tail hR hσ (zrs_cons hx0 (zrs_cons hx1 zrs_nil)) (e_cons rfl (e_cons rfl rfl))
theorem rJ_CP_writeNumber_p24 (rz : zF) (rm : mF) (hR : Rc rz rm) (β : Nat) (σ : zS) (hσ : zOK σ) (x0 x1 : Int) (hx0 : zr x0) (hx1 : zr x1) : Rf (kJ_CP_writeNumber_p24 rz β σ x0 x1) (kH_CP_writeNumber_p24 rm (cv σ) (i32 x0) (i32 x1)) β := by
  unfold kJ_CP_writeNumber_p24 kH_CP_writeNumber_p24
  refine Rf_le rfl (by decide) hx1 (by decide) (fun _ => ?_) (fun _ => ?_)
  · exact Rf_some hσ (by decide) (by decide)
  · refine Rf_z rfl hx1 (fun hz1 => ?_)
    refine Rf_nz (by decide) ?_
    refine Rf_g (fun hg2 => ?_)
    refine Rf_g (fun hg3 => ?_)
    refine Rf_Add (e_add (by decide) (e_mod (e_div rfl rfl hx0 hx1) (by decide) hg2 (by decide))) hg3 hσ (by decide) (by decide) (by decide) (by decide) (fun σ1 hσ1 => ?_)
    refine Rf_nz (by decide) ?_
    refine Rf_g (fun hg4 => ?_)
    exact Rf_tail hR hσ1 (zrs_cons hx0 (zrs_cons hg4 zrs_nil)) (e_cons rfl (e_cons (e_div rfl (by decide) hx1 (by decide)) rfl))
theorem rJ_Sym_isWitness (rz : zF) (rm : mF) (hR : Rc rz rm) (β : Nat) (σ : zS) (hσ : zOK σ) (x0 : Int) (hx0 : zr x0) : Rf (kJ_Sym_isWitness rz β σ x0) (kH_Sym_isWitness rm (cv σ) (i32 x0)) β := by
  unfold kJ_Sym_isWitness kH_Sym_isWitness
  refine Rf_le rfl rfl hx0 (hσ.1 604) (fun _ => ?_) (fun _ => ?_)
  · exact Rf_tail hR hσ (zrs_cons hx0 (zrs_cons (by decide) zrs_nil)) (e_cons rfl (e_cons (by decide) rfl))
  · exact Rf_tail hR hσ (zrs_cons hx0 (zrs_cons (by decide) zrs_nil)) (e_cons rfl (e_cons (by decide) rfl))
theorem rJ_Sym_isWitness_p13 (rz : zF) (rm : mF) (hR : Rc rz rm) (β : Nat) (σ : zS) (hσ : zOK σ) (x0 x1 : Int) (hx0 : zr x0) (hx1 : zr x1) : Rf (kJ_Sym_isWitness_p13 rz β σ x0 x1) (kH_Sym_isWitness_p13 rm (cv σ) (i32 x0) (i32 x1)) β := by
  unfold kJ_Sym_isWitness_p13 kH_Sym_isWitness_p13
  refine Rf_01 rfl hx1 (fun hb1 => ?_)
  exact Rf_some hσ hx1 rfl
theorem rJ_CP_writeWord (rz : zF) (rm : mF) (hR : Rc rz rm) (β : Nat) (σ : zS) (hσ : zOK σ) (x0 : Int) (hx0 : zr x0) : Rf (kJ_CP_writeWord rz β σ x0) (kH_CP_writeWord rm (cv σ) (i32 x0)) β := by
  unfold kJ_CP_writeWord kH_CP_writeWord
  refine Rf_le (by decide) rfl (by decide) hx0 (fun _ => ?_) (fun _ => ?_)
  · refine Rf_bnd hR hσ (zrs_cons hx0 zrs_nil) (e_cons rfl rfl) (fun σ1 r1 hσ1 hr1 => ?_)
    refine Rf_eq rfl (by decide) hr1 (by decide) (fun _ => ?_) (fun _ => ?_)
    · refine Rf_eq rfl (by decide) hx0 (by decide) (fun _ => ?_) (fun _ => ?_)
      · exact Rf_tail hR hσ1 (zrs_cons hx0 zrs_nil) (e_cons rfl rfl)
      · exact Rf_tail hR hσ1 (zrs_cons hx0 (zrs_cons (by decide) zrs_nil)) (e_cons rfl (e_cons (by decide) rfl))
    · refine Rf_Add (by decide) (by decide) hσ1 (by decide) (by decide) (by decide) (by decide) (fun σ2 hσ2 => ?_)
      refine Rf_g (fun hg1 => ?_)
      refine Rf_g (fun hg2 => ?_)
      refine Rf_bnd hR hσ2 (zrs_cons hg2 zrs_nil) (e_cons (e_sub (e_sub rfl rfl) (by decide)) rfl) (fun σ3 r3 hσ3 hr3 => ?_)
      exact Rf_tail hR hσ3 (zrs_cons hx0 zrs_nil) (e_cons rfl rfl)
  · refine Rf_Add (by decide) (by decide) hσ (by decide) (by decide) (by decide) (by decide) (fun σ4 hσ4 => ?_)
    refine Rf_bnd hR hσ4 (zrs_cons (zr_not hx0) zrs_nil) (e_cons (e_not rfl) rfl) (fun σ5 r5 hσ5 hr5 => ?_)
    exact Rf_tail hR hσ5 (zrs_cons hx0 zrs_nil) (e_cons rfl rfl)
theorem rJ_CP_writeWord_p61 (rz : zF) (rm : mF) (hR : Rc rz rm) (β : Nat) (σ : zS) (hσ : zOK σ) (x0 x1 : Int) (hx0 : zr x0) (hx1 : zr x1) : Rf (kJ_CP_writeWord_p61 rz β σ x0 x1) (kH_CP_writeWord_p61 rm (cv σ) (i32 x0) (i32 x1)) β := by
  unfold kJ_CP_writeWord_p61 kH_CP_writeWord_p61
  refine Rf_rd rfl hx0 (fun hb1 => ?_)
  refine Rf_le (e_rd rfl hb1) rfl (hσ.2.1 _ _) hx1 (fun _ => ?_) (fun _ => ?_)
  · exact Rf_tail hR hσ (zrs_cons hx0 zrs_nil) (e_cons rfl rfl)
  · refine Rf_rd2 rfl hb1 ?_
    refine Rf_g (fun hg2 => ?_)
    refine Rf_rd (e_add (e_rd rfl hb1) rfl) hg2 (fun hb3 => ?_)
    refine Rf_Add (e_rd (e_add (e_rd rfl hb1) rfl) hb3) (hσ.2.1 _ _) hσ (by decide) (by decide) (by decide) (by decide) (fun σ1 hσ1 => ?_)
    refine Rf_g (fun hg4 => ?_)
    exact Rf_tail hR hσ1 (zrs_cons hx0 (zrs_cons hg4 zrs_nil)) (e_cons rfl (e_cons (e_add rfl (by decide)) rfl))
theorem rJ_CP_writeWord_p109 (rz : zF) (rm : mF) (hR : Rc rz rm) (β : Nat) (σ : zS) (hσ : zOK σ) (x0 : Int) (hx0 : zr x0) : Rf (kJ_CP_writeWord_p109 rz β σ x0) (kH_CP_writeWord_p109 rm (cv σ) (i32 x0)) β := by
  unfold kJ_CP_writeWord_p109 kH_CP_writeWord_p109
  exact Rf_some hσ (by decide) (by decide)
theorem rJ_CP_writeTerm (rz : zF) (rm : mF) (hR : Rc rz rm) (β : Nat) (σ : zS) (hσ : zOK σ) (x0 x1 : Int) (hx0 : zr x0) (hx1 : zr x1) : Rf (kJ_CP_writeTerm rz β σ x0 x1) (kH_CP_writeTerm rm (cv σ) (i32 x0) (i32 x1)) β := by
  unfold kJ_CP_writeTerm kH_CP_writeTerm
  exact Rf_tail hR hσ (zrs_cons hx0 (zrs_cons hx1 (zrs_cons (by decide) (zrs_cons hx0 zrs_nil)))) (e_cons rfl (e_cons rfl (e_cons (by decide) (e_cons rfl rfl))))
theorem rJ_CP_writeTerm_p5 (rz : zF) (rm : mF) (hR : Rc rz rm) (β : Nat) (σ : zS) (hσ : zOK σ) (x0 x1 x2 x3 : Int) (hx0 : zr x0) (hx1 : zr x1) (hx2 : zr x2) (hx3 : zr x3) : Rf (kJ_CP_writeTerm_p5 rz β σ x0 x1 x2 x3) (kH_CP_writeTerm_p5 rm (cv σ) (i32 x0) (i32 x1) (i32 x2) (i32 x3)) β := by
  unfold kJ_CP_writeTerm_p5 kH_CP_writeTerm_p5
  refine Rf_le rfl rfl hx1 hx3 (fun _ => ?_) (fun _ => ?_)
  · exact Rf_some hσ (by decide) (by decide)
  · refine Rf_rd rfl hx3 (fun hb1 => ?_)
    refine Rf_bnd hR hσ (zrs_cons (hσ.2.1 _ _) zrs_nil) (e_cons (e_rd rfl hb1) rfl) (fun σ1 r1 hσ1 hr1 => ?_)
    refine Rf_le (by decide) (e_rd rfl hb1) (by decide) (hσ.2.1 _ _) (fun _ => ?_) (fun _ => ?_)
    · refine Rf_rd (e_rd rfl hb1) (hσ.2.1 _ _) (fun hb2 => ?_)
      exact Rf_tail hR hσ1 (zrs_cons hx0 (zrs_cons hx1 (zrs_cons hx2 (zrs_cons hx3 (zrs_cons (hσ.2.1 _ _) (zrs_cons (hσ1.2.1 _ _) zrs_nil)))))) (e_cons rfl (e_cons rfl (e_cons rfl (e_cons rfl (e_cons (e_rd rfl hb1) (e_cons (e_rd (e_rd rfl hb1) hb2) rfl))))))
    · exact Rf_tail hR hσ1 (zrs_cons hx0 (zrs_cons hx1 (zrs_cons hx2 (zrs_cons hx3 (zrs_cons (hσ.2.1 _ _) (zrs_cons (by decide) zrs_nil)))))) (e_cons rfl (e_cons rfl (e_cons rfl (e_cons rfl (e_cons (e_rd rfl hb1) (e_cons (by decide) rfl))))))
theorem rJ_CP_writeTerm_p51 (rz : zF) (rm : mF) (hR : Rc rz rm) (β : Nat) (σ : zS) (hσ : zOK σ) (x0 x1 x2 x3 x4 x5 : Int) (hx0 : zr x0) (hx1 : zr x1) (hx2 : zr x2) (hx3 : zr x3) (hx4 : zr x4) (hx5 : zr x5) : Rf (kJ_CP_writeTerm_p51 rz β σ x0 x1 x2 x3 x4 x5) (kH_CP_writeTerm_p51 rm (cv σ) (i32 x0) (i32 x1) (i32 x2) (i32 x3) (i32 x4) (i32 x5)) β := by
  unfold kJ_CP_writeTerm_p51 kH_CP_writeTerm_p51
  refine Rf_le rfl (by decide) hx5 (by decide) (fun _ => ?_) (fun _ => ?_)
  · exact Rf_tail hR hσ (zrs_cons hx0 (zrs_cons hx1 (zrs_cons hx2 (zrs_cons hx3 (zrs_cons hx4 (zrs_cons hx5 zrs_nil)))))) (e_cons rfl (e_cons rfl (e_cons rfl (e_cons rfl (e_cons rfl (e_cons rfl rfl))))))
  · refine Rf_le (by decide) rfl (by decide) hx2 (fun _ => ?_) (fun _ => ?_)
    · exact Rf_tail hR hσ (zrs_cons hx0 (zrs_cons hx1 (zrs_cons hx2 (zrs_cons hx3 (zrs_cons hx4 (zrs_cons hx5 zrs_nil)))))) (e_cons rfl (e_cons rfl (e_cons rfl (e_cons rfl (e_cons rfl (e_cons rfl rfl))))))
    · refine Rf_Add (by decide) (by decide) hσ (by decide) (by decide) (by decide) (by decide) (fun σ1 hσ1 => ?_)
      refine Rf_rd rfl hx2 (fun hb1 => ?_)
      refine Rf_A rfl hb1 rfl hx5 hσ1 (fun σ2 hσ2 => ?_)
      refine Rf_g (fun hg2 => ?_)
      exact Rf_tail hR hσ2 (zrs_cons hx0 (zrs_cons hx1 (zrs_cons hg2 (zrs_cons hx3 (zrs_cons hx4 (zrs_cons hx5 zrs_nil)))))) (e_cons rfl (e_cons rfl (e_cons (e_add rfl (by decide)) (e_cons rfl (e_cons rfl (e_cons rfl rfl))))))
theorem rJ_CP_writeTerm_p87 (rz : zF) (rm : mF) (hR : Rc rz rm) (β : Nat) (σ : zS) (hσ : zOK σ) (x0 x1 x2 x3 x4 x5 : Int) (hx0 : zr x0) (hx1 : zr x1) (hx2 : zr x2) (hx3 : zr x3) (hx4 : zr x4) (hx5 : zr x5) : Rf (kJ_CP_writeTerm_p87 rz β σ x0 x1 x2 x3 x4 x5) (kH_CP_writeTerm_p87 rm (cv σ) (i32 x0) (i32 x1) (i32 x2) (i32 x3) (i32 x4) (i32 x5)) β := by
  unfold kJ_CP_writeTerm_p87 kH_CP_writeTerm_p87
  refine Rf_le rfl (by decide) hx2 (by decide) (fun _ => ?_) (fun _ => ?_)
  · exact Rf_tail hR hσ (zrs_cons hx0 (zrs_cons hx1 (zrs_cons hx2 (zrs_cons hx3 (zrs_cons hx4 (zrs_cons hx5 zrs_nil)))))) (e_cons rfl (e_cons rfl (e_cons rfl (e_cons rfl (e_cons rfl (e_cons rfl rfl))))))
  · refine Rf_g (fun hg1 => ?_)
    refine Rf_rd (e_sub rfl (by decide)) hg1 (fun hb2 => ?_)
    refine Rf_eq (e_rd (e_sub rfl (by decide)) hb2) (by decide) (hσ.2.1 _ _) (by decide) (fun _ => ?_) (fun _ => ?_)
    · refine Rf_Add (by decide) (by decide) hσ (by decide) (by decide) (by decide) (by decide) (fun σ1 hσ1 => ?_)
      refine Rf_g (fun hg3 => ?_)
      exact Rf_tail hR hσ1 (zrs_cons hx0 (zrs_cons hx1 (zrs_cons hg3 (zrs_cons hx3 (zrs_cons hx4 (zrs_cons hx5 zrs_nil)))))) (e_cons rfl (e_cons rfl (e_cons (e_add rfl (by decide)) (e_cons rfl (e_cons rfl (e_cons rfl rfl))))))
    · exact Rf_tail hR hσ (zrs_cons hx0 (zrs_cons hx1 (zrs_cons hx2 (zrs_cons hx3 (zrs_cons hx4 (zrs_cons hx5 zrs_nil)))))) (e_cons rfl (e_cons rfl (e_cons rfl (e_cons rfl (e_cons rfl (e_cons rfl rfl))))))
theorem rJ_CP_writeTerm_p115 (rz : zF) (rm : mF) (hR : Rc rz rm) (β : Nat) (σ : zS) (hσ : zOK σ) (x0 x1 x2 x3 x4 x5 : Int) (hx0 : zr x0) (hx1 : zr x1) (hx2 : zr x2) (hx3 : zr x3) (hx4 : zr x4) (hx5 : zr x5) : Rf (kJ_CP_writeTerm_p115 rz β σ x0 x1 x2 x3 x4 x5) (kH_CP_writeTerm_p115 rm (cv σ) (i32 x0) (i32 x1) (i32 x2) (i32 x3) (i32 x4) (i32 x5)) β := by
  unfold kJ_CP_writeTerm_p115 kH_CP_writeTerm_p115
  refine Rf_le rfl (by decide) hx2 (by decide) (fun _ => ?_) (fun _ => ?_)
  · exact Rf_tail hR hσ (zrs_cons hx0 (zrs_cons hx1 (zrs_cons hx2 (zrs_cons hx3 (zrs_cons hx4 (zrs_cons hx5 zrs_nil)))))) (e_cons rfl (e_cons rfl (e_cons rfl (e_cons rfl (e_cons rfl (e_cons rfl rfl))))))
  · refine Rf_Add (by decide) (by decide) hσ (by decide) (by decide) (by decide) (by decide) (fun σ1 hσ1 => ?_)
    refine Rf_g (fun hg1 => ?_)
    refine Rf_rd (e_sub rfl (by decide)) hg1 (fun hb2 => ?_)
    refine Rf_rd2 (e_sub rfl (by decide)) hb2 ?_
    refine Rf_g (fun hg3 => ?_)
    refine Rf_A (e_sub rfl (by decide)) hb2 (e_sub (e_rd (e_sub rfl (by decide)) hb2) (by decide)) hg3 hσ1 (fun σ2 hσ2 => ?_)
    exact Rf_tail hR hσ2 (zrs_cons hx0 (zrs_cons hx1 (zrs_cons hx2 (zrs_cons hx3 (zrs_cons hx4 (zrs_cons hx5 zrs_nil)))))) (e_cons rfl (e_cons rfl (e_cons rfl (e_cons rfl (e_cons rfl (e_cons rfl rfl))))))
theorem rJ_CP_writeTerm_p137 (rz : zF) (rm : mF) (hR : Rc rz rm) (β : Nat) (σ : zS) (hσ : zOK σ) (x0 x1 x2 x3 x4 x5 : Int) (hx0 : zr x0) (hx1 : zr x1) (hx2 : zr x2) (hx3 : zr x3) (hx4 : zr x4) (hx5 : zr x5) : Rf (kJ_CP_writeTerm_p137 rz β σ x0 x1 x2 x3 x4 x5) (kH_CP_writeTerm_p137 rm (cv σ) (i32 x0) (i32 x1) (i32 x2) (i32 x3) (i32 x4) (i32 x5)) β := by
  unfold kJ_CP_writeTerm_p137 kH_CP_writeTerm_p137
  refine Rf_g (fun hg1 => ?_)
  exact Rf_tail hR hσ (zrs_cons hx0 (zrs_cons hx1 (zrs_cons hx2 (zrs_cons hg1 zrs_nil)))) (e_cons rfl (e_cons rfl (e_cons rfl (e_cons (e_add rfl (by decide)) rfl))))
theorem rJ_Sto_sideAt (rz : zF) (rm : mF) (hR : Rc rz rm) (β : Nat) (σ : zS) (hσ : zOK σ) (x0 x1 : Int) (hx0 : zr x0) (hx1 : zr x1) : Rf (kJ_Sto_sideAt rz β σ x0 x1) (kH_Sto_sideAt rm (cv σ) (i32 x0) (i32 x1)) β := by
  unfold kJ_Sto_sideAt kH_Sto_sideAt
  refine Rf_eq rfl (by decide) hx1 (by decide) (fun _ => ?_) (fun _ => ?_)
  · refine Rf_g (fun hg1 => ?_)
    exact Rf_tail hR hσ (zrs_cons hx0 (zrs_cons hx1 (zrs_cons (by decide) (zrs_cons hg1 zrs_nil)))) (e_cons rfl (e_cons rfl (e_cons (by decide) (e_cons (e_add rfl (by decide)) rfl))))
  · refine Rf_g (fun hg2 => ?_)
    refine Rf_rd (e_add rfl (by decide)) hg2 (fun hb3 => ?_)
    refine Rf_g (fun hg4 => ?_)
    exact Rf_tail hR hσ (zrs_cons hx0 (zrs_cons hx1 (zrs_cons (hσ.2.1 _ _) (zrs_cons hg4 zrs_nil)))) (e_cons rfl (e_cons rfl (e_cons (e_rd (e_add rfl (by decide)) hb3) (e_cons (e_add rfl (by decide)) rfl))))
theorem rJ_Sto_sideAt_p22 (rz : zF) (rm : mF) (hR : Rc rz rm) (β : Nat) (σ : zS) (hσ : zOK σ) (x0 x1 x2 x3 : Int) (hx0 : zr x0) (hx1 : zr x1) (hx2 : zr x2) (hx3 : zr x3) : Rf (kJ_Sto_sideAt_p22 rz β σ x0 x1 x2 x3) (kH_Sto_sideAt_p22 rm (cv σ) (i32 x0) (i32 x1) (i32 x2) (i32 x3)) β := by
  unfold kJ_Sto_sideAt_p22 kH_Sto_sideAt_p22
  refine Rf_g (fun hg1 => ?_)
  exact Rf_some hσ hg1 (e_add rfl rfl)
theorem rJ_CP_writeLiteral (rz : zF) (rm : mF) (hR : Rc rz rm) (β : Nat) (σ : zS) (hσ : zOK σ) (x0 : Int) (hx0 : zr x0) : Rf (kJ_CP_writeLiteral rz β σ x0) (kH_CP_writeLiteral rm (cv σ) (i32 x0)) β := by
  unfold kJ_CP_writeLiteral kH_CP_writeLiteral
  refine Rf_g (fun hg1 => ?_)
  refine Rf_rd (e_add rfl (by decide)) hg1 (fun hb2 => ?_)
  refine Rf_eq (e_rd (e_add rfl (by decide)) hb2) (by decide) (hσ.2.1 _ _) (by decide) (fun _ => ?_) (fun _ => ?_)
  · exact Rf_tail hR hσ (zrs_cons hx0 (zrs_cons (by decide) zrs_nil)) (e_cons rfl (e_cons (by decide) rfl))
  · exact Rf_tail hR hσ (zrs_cons hx0 (zrs_cons (by decide) zrs_nil)) (e_cons rfl (e_cons (by decide) rfl))
theorem rJ_CP_writeLiteral_p25 (rz : zF) (rm : mF) (hR : Rc rz rm) (β : Nat) (σ : zS) (hσ : zOK σ) (x0 x1 : Int) (hx0 : zr x0) (hx1 : zr x1) : Rf (kJ_CP_writeLiteral_p25 rz β σ x0 x1) (kH_CP_writeLiteral_p25 rm (cv σ) (i32 x0) (i32 x1)) β := by
  unfold kJ_CP_writeLiteral_p25 kH_CP_writeLiteral_p25
  refine Rf_bnd hR hσ (zrs_cons hx0 (zrs_cons (by decide) zrs_nil)) (e_cons rfl (e_cons (by decide) rfl)) (fun σ1 r1 hσ1 hr1 => ?_)
  refine Rf_bnd hR hσ1 (zrs_cons hx0 (zrs_cons (by decide) zrs_nil)) (e_cons rfl (e_cons (by decide) rfl)) (fun σ2 r2 hσ2 hr2 => ?_)
  refine Rf_rd rfl hr2 (fun hb1 => ?_)
  refine Rf_eq (e_rd rfl hb1) (by decide) (hσ2.2.1 _ _) (by decide) (fun _ => ?_) (fun _ => ?_)
  · refine Rf_eq rfl (by decide) hx1 (by decide) (fun _ => ?_) (fun _ => ?_)
    · refine Rf_Add (by decide) (by decide) hσ2 (by decide) (by decide) (by decide) (by decide) (fun σ13 hσ13 => ?_)
      refine Rf_bnd hR hσ13 (zrs_cons hr1 (zrs_cons hr2 zrs_nil)) (e_cons rfl (e_cons rfl rfl)) (fun σ14 r14 hσ14 hr14 => ?_)
      exact Rf_some hσ14 (by decide) (by decide)
    · refine Rf_bnd hR hσ2 (zrs_cons hr1 (zrs_cons hr2 zrs_nil)) (e_cons rfl (e_cons rfl rfl)) (fun σ16 r16 hσ16 hr16 => ?_)
      exact Rf_some hσ16 (by decide) (by decide)
  · refine Rf_bnd hR hσ2 (zrs_cons hr1 (zrs_cons hr2 zrs_nil)) (e_cons rfl (e_cons rfl rfl)) (fun σ3 r3 hσ3 hr3 => ?_)
    refine Rf_eq rfl (by decide) hx1 (by decide) (fun _ => ?_) (fun _ => ?_)
    · refine Rf_Add (by decide) (by decide) hσ3 (by decide) (by decide) (by decide) (by decide) (fun σ4 hσ4 => ?_)
      refine Rf_Add (by decide) (by decide) hσ4 (by decide) (by decide) (by decide) (by decide) (fun σ5 hσ5 => ?_)
      refine Rf_Add (by decide) (by decide) hσ5 (by decide) (by decide) (by decide) (by decide) (fun σ6 hσ6 => ?_)
      refine Rf_Add (by decide) (by decide) hσ6 (by decide) (by decide) (by decide) (by decide) (fun σ7 hσ7 => ?_)
      refine Rf_g (fun hg2 => ?_)
      refine Rf_rd (e_add rfl (by decide)) hg2 (fun hb3 => ?_)
      refine Rf_g (fun hg4 => ?_)
      refine Rf_bnd hR hσ7 (zrs_cons hr2 (zrs_cons hg4 zrs_nil)) (e_cons rfl (e_cons (e_add rfl (e_rd (e_add rfl (by decide)) hb3)) rfl)) (fun σ8 r8 hσ8 hr8 => ?_)
      exact Rf_some hσ8 (by decide) (by decide)
    · refine Rf_Add (by decide) (by decide) hσ3 (by decide) (by decide) (by decide) (by decide) (fun σ9 hσ9 => ?_)
      refine Rf_Add (by decide) (by decide) hσ9 (by decide) (by decide) (by decide) (by decide) (fun σ10 hσ10 => ?_)
      refine Rf_Add (by decide) (by decide) hσ10 (by decide) (by decide) (by decide) (by decide) (fun σ11 hσ11 => ?_)
      refine Rf_g (fun hg5 => ?_)
      refine Rf_rd (e_add rfl (by decide)) hg5 (fun hb6 => ?_)
      refine Rf_g (fun hg7 => ?_)
      refine Rf_bnd hR hσ11 (zrs_cons hr2 (zrs_cons hg7 zrs_nil)) (e_cons rfl (e_cons (e_add rfl (e_rd (e_add rfl (by decide)) hb6)) rfl)) (fun σ12 r12 hσ12 hr12 => ?_)
      exact Rf_some hσ12 (by decide) (by decide)
theorem rJ_Sto_has (rz : zF) (rm : mF) (hR : Rc rz rm) (β : Nat) (σ : zS) (hσ : zOK σ) (x0 : Int) (hx0 : zr x0) : Rf (kJ_Sto_has rz β σ x0) (kH_Sto_has rm (cv σ) (i32 x0)) β := by
  unfold kJ_Sto_has kH_Sto_has
  refine Rf_lt rfl (by decide) hx0 (by decide) (fun _ => ?_) (fun _ => ?_)
  · exact Rf_tail hR hσ (zrs_cons hx0 zrs_nil) (e_cons rfl rfl)
  · refine Rf_le rfl rfl (hσ.1 5402) hx0 (fun _ => ?_) (fun _ => ?_)
    · exact Rf_tail hR hσ (zrs_cons hx0 zrs_nil) (e_cons rfl rfl)
    · exact Rf_tail hR hσ (zrs_cons hx0 (zrs_cons (by decide) zrs_nil)) (e_cons rfl (e_cons (by decide) rfl))
theorem rJ_Sto_has_p16 (rz : zF) (rm : mF) (hR : Rc rz rm) (β : Nat) (σ : zS) (hσ : zOK σ) (x0 : Int) (hx0 : zr x0) : Rf (kJ_Sto_has_p16 rz β σ x0) (kH_Sto_has_p16 rm (cv σ) (i32 x0)) β := by
  unfold kJ_Sto_has_p16 kH_Sto_has_p16
  exact Rf_tail hR hσ (zrs_cons hx0 (zrs_cons (by decide) zrs_nil)) (e_cons rfl (e_cons (by decide) rfl))
theorem rJ_Sto_has_p17 (rz : zF) (rm : mF) (hR : Rc rz rm) (β : Nat) (σ : zS) (hσ : zOK σ) (x0 x1 : Int) (hx0 : zr x0) (hx1 : zr x1) : Rf (kJ_Sto_has_p17 rz β σ x0 x1) (kH_Sto_has_p17 rm (cv σ) (i32 x0) (i32 x1)) β := by
  unfold kJ_Sto_has_p17 kH_Sto_has_p17
  refine Rf_01 rfl hx1 (fun hb1 => ?_)
  exact Rf_some hσ hx1 rfl
theorem rJ_Sto_fact (rz : zF) (rm : mF) (hR : Rc rz rm) (β : Nat) (σ : zS) (hσ : zOK σ) (x0 x1 : Int) (hx0 : zr x0) (hx1 : zr x1) : Rf (kJ_Sto_fact rz β σ x0 x1) (kH_Sto_fact rm (cv σ) (i32 x0) (i32 x1)) β := by
  unfold kJ_Sto_fact kH_Sto_fact
  refine Rf_g (fun hg1 => ?_)
  refine Rf_g (fun hg2 => ?_)
  refine Rf_rd (e_add (e_mul rfl (by decide)) rfl) hg2 (fun hb3 => ?_)
  exact Rf_some hσ (hσ.2.1 _ _) (e_rd (e_add (e_mul rfl (by decide)) rfl) hb3)
theorem rJ_Sto_behind (rz : zF) (rm : mF) (hR : Rc rz rm) (β : Nat) (σ : zS) (hσ : zOK σ) (x0 : Int) (hx0 : zr x0) : Rf (kJ_Sto_behind rz β σ x0) (kH_Sto_behind rm (cv σ) (i32 x0)) β := by
  unfold kJ_Sto_behind kH_Sto_behind
  refine Rf_g (fun hg1 => ?_)
  refine Rf_rd (e_add rfl (by decide)) hg1 (fun hb2 => ?_)
  refine Rf_g (fun hg3 => ?_)
  refine Rf_rd (e_add rfl (by decide)) hg3 (fun hb4 => ?_)
  refine Rf_g (fun hg5 => ?_)
  refine Rf_g (fun hg6 => ?_)
  refine Rf_g (fun hg7 => ?_)
  exact Rf_some hσ hg7 (e_add (e_add (e_add rfl (by decide)) (e_rd (e_add rfl (by decide)) hb2)) (e_rd (e_add rfl (by decide)) hb4))
theorem rJ_CP_show (rz : zF) (rm : mF) (hR : Rc rz rm) (β : Nat) (σ : zS) (hσ : zOK σ) (x0 : Int) (hx0 : zr x0) : Rf (kJ_CP_show rz β σ x0) (kH_CP_show rm (cv σ) (i32 x0)) β := by
  unfold kJ_CP_show kH_CP_show
  refine Rf_bnd hR hσ (zrs_cons hx0 zrs_nil) (e_cons rfl rfl) (fun σ1 r1 hσ1 hr1 => ?_)
  refine Rf_z rfl hr1 (fun hz1 => ?_)
  refine Rf_I (by decide) (by decide) hσ1 (fun σ2 hσ2 => ?_)
  refine Rf_bnd hR hσ2 (zrs_cons hx0 (zrs_cons (by decide) zrs_nil)) (e_cons rfl (e_cons (by decide) rfl)) (fun σ3 r3 hσ3 hr3 => ?_)
  refine Rf_eq rfl (by decide) hr3 (by decide) (fun _ => ?_) (fun _ => ?_)
  · refine Rf_Add (by decide) (by decide) hσ3 (by decide) (by decide) (by decide) (by decide) (fun σ4 hσ4 => ?_)
    refine Rf_Add (by decide) (by decide) hσ4 (by decide) (by decide) (by decide) (by decide) (fun σ5 hσ5 => ?_)
    refine Rf_Add (by decide) (by decide) hσ5 (by decide) (by decide) (by decide) (by decide) (fun σ6 hσ6 => ?_)
    refine Rf_Add (by decide) (by decide) hσ6 (by decide) (by decide) (by decide) (by decide) (fun σ7 hσ7 => ?_)
    refine Rf_Add (by decide) (by decide) hσ7 (by decide) (by decide) (by decide) (by decide) (fun σ8 hσ8 => ?_)
    exact Rf_tail hR hσ8 (zrs_cons hx0 (zrs_cons hr3 zrs_nil)) (e_cons rfl (e_cons rfl rfl))
  · exact Rf_tail hR hσ3 (zrs_cons hx0 (zrs_cons hr3 zrs_nil)) (e_cons rfl (e_cons rfl rfl))
theorem rJ_CP_show_p49 (rz : zF) (rm : mF) (hR : Rc rz rm) (β : Nat) (σ : zS) (hσ : zOK σ) (x0 x1 : Int) (hx0 : zr x0) (hx1 : zr x1) : Rf (kJ_CP_show_p49 rz β σ x0 x1) (kH_CP_show_p49 rm (cv σ) (i32 x0) (i32 x1)) β := by
  unfold kJ_CP_show_p49 kH_CP_show_p49
  refine Rf_bnd hR hσ (zrs_cons hx0 (zrs_cons (by decide) zrs_nil)) (e_cons rfl (e_cons (by decide) rfl)) (fun σ1 r1 hσ1 hr1 => ?_)
  exact Rf_tail hR hσ1 (zrs_cons hx0 (zrs_cons hx1 (zrs_cons hr1 (zrs_cons (by decide) zrs_nil)))) (e_cons rfl (e_cons rfl (e_cons rfl (e_cons (by decide) rfl))))
theorem rJ_CP_show_p63 (rz : zF) (rm : mF) (hR : Rc rz rm) (β : Nat) (σ : zS) (hσ : zOK σ) (x0 x1 x2 x3 : Int) (hx0 : zr x0) (hx1 : zr x1) (hx2 : zr x2) (hx3 : zr x3) : Rf (kJ_CP_show_p63 rz β σ x0 x1 x2 x3) (kH_CP_show_p63 rm (cv σ) (i32 x0) (i32 x1) (i32 x2) (i32 x3)) β := by
  unfold kJ_CP_show_p63 kH_CP_show_p63
  refine Rf_le rfl rfl hx1 hx3 (fun _ => ?_) (fun _ => ?_)
  · exact Rf_some hσ (hσ.1 301) rfl
  · refine Rf_le rfl (by decide) hx3 (by decide) (fun _ => ?_) (fun _ => ?_)
    · exact Rf_tail hR hσ (zrs_cons hx0 (zrs_cons hx1 (zrs_cons hx2 (zrs_cons hx3 zrs_nil)))) (e_cons rfl (e_cons rfl (e_cons rfl (e_cons rfl rfl))))
    · refine Rf_Add (by decide) (by decide) hσ (by decide) (by decide) (by decide) (by decide) (fun σ1 hσ1 => ?_)
      refine Rf_Add (by decide) (by decide) hσ1 (by decide) (by decide) (by decide) (by decide) (fun σ2 hσ2 => ?_)
      refine Rf_Add (by decide) (by decide) hσ2 (by decide) (by decide) (by decide) (by decide) (fun σ3 hσ3 => ?_)
      exact Rf_tail hR hσ3 (zrs_cons hx0 (zrs_cons hx1 (zrs_cons hx2 (zrs_cons hx3 zrs_nil)))) (e_cons rfl (e_cons rfl (e_cons rfl (e_cons rfl rfl))))
theorem rJ_CP_show_p80 (rz : zF) (rm : mF) (hR : Rc rz rm) (β : Nat) (σ : zS) (hσ : zOK σ) (x0 x1 x2 x3 : Int) (hx0 : zr x0) (hx1 : zr x1) (hx2 : zr x2) (hx3 : zr x3) : Rf (kJ_CP_show_p80 rz β σ x0 x1 x2 x3) (kH_CP_show_p80 rm (cv σ) (i32 x0) (i32 x1) (i32 x2) (i32 x3)) β := by
  unfold kJ_CP_show_p80 kH_CP_show_p80
  refine Rf_bnd hR hσ (zrs_cons hx2 zrs_nil) (e_cons rfl rfl) (fun σ1 r1 hσ1 hr1 => ?_)
  refine Rf_bnd hR hσ1 (zrs_cons hx2 zrs_nil) (e_cons rfl rfl) (fun σ2 r2 hσ2 hr2 => ?_)
  refine Rf_g (fun hg1 => ?_)
  exact Rf_tail hR hσ2 (zrs_cons hx0 (zrs_cons hx1 (zrs_cons hr2 (zrs_cons hg1 zrs_nil)))) (e_cons rfl (e_cons rfl (e_cons rfl (e_cons (e_add rfl (by decide)) rfl))))
