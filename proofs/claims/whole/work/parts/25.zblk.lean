def kZ_thrown (rec : zF) (β : Nat) (σ : zS) : Option zR := some (σ, (σ.1 4))
def kZ_feed (rec : zF) (β : Nat) (σ : zS) (x0 x1 x2 x3 x4 : Int) : Option zR := lt_ (zI σ 4 0) (fun σ1 => if (σ1.1 2) ≤ 65516 then (rec tM_feed_22 β σ1 [x0, x1, x2, x3, x4, 0, 1]) else (rec tM_feed_22 β σ1 [x0, x1, x2, x3, x4, 1, 1]))
def kZ_feed_22 (rec : zF) (β : Nat) (σ : zS) (x0 x1 x2 x3 x4 x5 x6 : Int) : Option zR := if 1 ≤ β then (zbd (rec tM_refuse (β - 1) σ [x6, x5]) (fun σ1 r1 => if r1 = 0 then (rec tM_feed_33 β σ1 [x0, x1, x2, x3, x4, 0]) else (some (σ1, 0)))) else none
def kZ_feed_33 (rec : zF) (β : Nat) (σ : zS) (x0 x1 x2 x3 x4 x5 : Int) : Option zR := if 20 ≤ x5 then (some (σ, (σ.1 2))) else (if 4 ≤ x5 then (if 8 ≤ x5 then (if 12 ≤ x5 then (if 16 ≤ x5 then (rec tM_feed_86 β σ [x0, x1, x2, x3, x4, x5, x4]) else (rec tM_feed_86 β σ [x0, x1, x2, x3, x4, x5, x3])) else (rec tM_feed_86 β σ [x0, x1, x2, x3, x4, x5, x2])) else (rec tM_feed_86 β σ [x0, x1, x2, x3, x4, x5, x1])) else (rec tM_feed_86 β σ [x0, x1, x2, x3, x4, x5, x0]))
def kZ_feed_86 (rec : zF) (β : Nat) (σ : zS) (x0 x1 x2 x3 x4 x5 x6 : Int) : Option zR := if zr ((σ.1 2) + 1) then (lt_ (zI σ 2 ((σ.1 2) + 1)) (fun σ1 => if zb (σ.1 2) 65536 then (if zr (8 * (Int.tmod x5 4)) then (if zr (24 - (8 * (Int.tmod x5 4))) then (lt_ (zA σ1 0 (σ.1 2) (znb (zi2b (zushr x6 (24 - (8 * (Int.tmod x5 4))))))) (fun σ2 => if zr (x5 + 1) then (rec tM_feed_33 β σ2 [x0, x1, x2, x3, x4, (x5 + 1)]) else none)) else none) else none) else none)) else none
def kZ_refuse (rec : zF) (β : Nat) (σ : zS) (x0 x1 : Int) : Option zR := if x1 = 0 then (rec tM_refuse_9 β σ [x0, x1]) else (lt_ (zI σ 4 x0) (fun σ1 => rec tM_refuse_9 β σ1 [x0, x1]))
def kZ_refuse_9 (rec : zF) (β : Nat) (σ : zS) (x0 x1 : Int) : Option zR := if x1 = 0 ∨ x1 = 1 then (some (σ, x1)) else none
def kZ_end (rec : zF) (β : Nat) (σ : zS) (x0 : Int) : Option zR := lt_ (zI σ 4 0) (fun σ1 => if x0 < 0 then (rec tM_end_19 β σ1 [x0, 1]) else (if x0 ≤ (σ1.1 2) then (rec tM_end_24 β σ1 [x0, 0, 1]) else (rec tM_end_19 β σ1 [x0, 1])))
def kZ_end_19 (rec : zF) (β : Nat) (σ : zS) (x0 x1 : Int) : Option zR := rec tM_end_24 β σ [x0, 1, x1]
def kZ_end_24 (rec : zF) (β : Nat) (σ : zS) (x0 x1 x2 : Int) : Option zR := if 1 ≤ β then (zbd (rec tM_refuse (β - 1) σ [x2, x1]) (fun σ1 r1 => if r1 = 0 then (lt_ (zI σ1 2 x0) (fun σ2 => some (σ2, x0))) else (some (σ1, 0)))) else none
def kZ_peek (rec : zF) (β : Nat) (σ : zS) : Option zR := if (σ.1 11) = 0 then (if 1 ≤ β then (zbd (rec tM_parts (β - 1) σ []) (fun σ1 r1 => lt_ (zI σ1 11 1) (fun σ2 => lt_ (zI σ2 9 (σ2.1 7)) (fun σ3 => lt_ (zI σ3 10 (σ3.1 7)) (fun σ4 => if (σ4.1 7) = (σ4.1 2) then (lt_ (zI σ4 8 0) (fun σ10 => some (σ10, 0))) else (if zr ((σ4.1 12) + 1) then (lt_ (zI σ4 12 ((σ4.1 12) + 1)) (fun σ5 => lt_ (zI σ5 8 304) (fun σ6 => if (σ6.1 12) ≤ 20000 then (if zb (σ6.1 7) 65536 then (if 1 ≤ β then (zbd (rec tM_letter (β - 1) σ6 [(σ6.2.1 0 (σ6.1 7))]) (fun σ7 r7 => if r7 = 0 then (if 1 ≤ β then (zbd (rec tM_sign (β - 1) σ7 [(σ6.2.1 0 (σ6.1 7))]) (fun σ8 r8 => lt_ (zI σ8 8 r8) (fun σ9 => some (σ9, (σ9.1 8))))) else none) else (rec tM_peek_104 β σ7 [(σ6.2.1 0 (σ6.1 7))]))) else none) else none) else (some (σ6, 304))))) else none)))))) else none) else (some (σ, (σ.1 8)))
def kZ_peek_104 (rec : zF) (β : Nat) (σ : zS) (x0 : Int) : Option zR := if (σ.1 2) ≤ (σ.1 10) then (rec tM_peek_144 β σ [x0]) else (if zb (σ.1 10) 65536 then (if 1 ≤ β then (zbd (rec tM_inWord (β - 1) σ [(σ.2.1 0 (σ.1 10))]) (fun σ1 r1 => if r1 = 0 then (rec tM_peek_144 β σ1 [x0]) else (if zr ((σ1.1 10) + 1) then (lt_ (zI σ1 10 ((σ1.1 10) + 1)) (fun σ2 => rec tM_peek_104 β σ2 [x0])) else none))) else none) else none)
def kZ_peek_144 (rec : zF) (β : Nat) (σ : zS) (x0 : Int) : Option zR := if zr ((σ.1 10) - (σ.1 9)) then (if ((σ.1 10) - (σ.1 9)) ≤ 31 then (if 97 ≤ x0 then (rec tM_peek_176 β σ [x0, 2]) else (rec tM_peek_176 β σ [x0, 1])) else (rec tM_peek_176 β σ [x0, 303])) else none
def kZ_peek_176 (rec : zF) (β : Nat) (σ : zS) (x0 x1 : Int) : Option zR := lt_ (zI σ 8 x1) (fun σ1 => some (σ1, (σ1.1 8)))
def kZ_parts (rec : zF) (β : Nat) (σ : zS) : Option zR := rec tM_parts_2 β σ [1]
def kZ_parts_2 (rec : zF) (β : Nat) (σ : zS) (x0 : Int) : Option zR := if x0 = 0 then (some (σ, 0)) else (rec tM_parts_8 β σ [0])
def kZ_parts_8 (rec : zF) (β : Nat) (σ : zS) (x0 : Int) : Option zR := if (σ.1 2) ≤ (σ.1 7) then (rec tM_parts_88 β σ [x0]) else (if zb (σ.1 7) 65536 then (if (σ.2.1 0 (σ.1 7)) = 32 then (rec tM_parts_75 β σ [x0]) else (if (σ.2.1 0 (σ.1 7)) = 9 then (rec tM_parts_75 β σ [x0]) else (if (σ.2.1 0 (σ.1 7)) = 10 then (rec tM_parts_75 β σ [x0]) else (if (σ.2.1 0 (σ.1 7)) = 13 then (rec tM_parts_75 β σ [x0]) else (rec tM_parts_88 β σ [x0]))))) else none)
def kZ_parts_75 (rec : zF) (β : Nat) (σ : zS) (x0 : Int) : Option zR := if zr ((σ.1 7) + 1) then (lt_ (zI σ 7 ((σ.1 7) + 1)) (fun σ1 => rec tM_parts_8 β σ1 [x0])) else none
def kZ_parts_88 (rec : zF) (β : Nat) (σ : zS) (x0 : Int) : Option zR := if (σ.1 2) ≤ (σ.1 7) then (rec tM_parts_2 β σ [x0]) else (if zb (σ.1 7) 65536 then (if (σ.2.1 0 (σ.1 7)) = 37 then (rec tM_parts_113 β σ [x0]) else (rec tM_parts_2 β σ [x0])) else none)
def kZ_parts_113 (rec : zF) (β : Nat) (σ : zS) (x0 : Int) : Option zR := if (σ.1 2) ≤ (σ.1 7) then (rec tM_parts_151 β σ [x0]) else (if zb (σ.1 7) 65536 then (if (σ.2.1 0 (σ.1 7)) = 10 then (rec tM_parts_151 β σ [x0]) else (if zr ((σ.1 7) + 1) then (lt_ (zI σ 7 ((σ.1 7) + 1)) (fun σ1 => rec tM_parts_113 β σ1 [x0])) else none)) else none)
def kZ_parts_151 (rec : zF) (β : Nat) (σ : zS) (x0 : Int) : Option zR := rec tM_parts_2 β σ [1]
def kZ_letter (rec : zF) (β : Nat) (σ : zS) (x0 : Int) : Option zR := if x0 < 97 then (rec tM_letter_12 β σ [x0]) else (if x0 ≤ 122 then (rec tM_letter_24 β σ [x0]) else (rec tM_letter_12 β σ [x0]))
def kZ_letter_12 (rec : zF) (β : Nat) (σ : zS) (x0 : Int) : Option zR := if x0 < 65 then (rec tM_letter_28 β σ [x0]) else (if 90 < x0 then (rec tM_letter_28 β σ [x0]) else (rec tM_letter_24 β σ [x0]))
def kZ_letter_24 (rec : zF) (β : Nat) (σ : zS) (x0 : Int) : Option zR := rec tM_letter_29 β σ [x0, 1]
def kZ_letter_28 (rec : zF) (β : Nat) (σ : zS) (x0 : Int) : Option zR := rec tM_letter_29 β σ [x0, 0]
def kZ_letter_29 (rec : zF) (β : Nat) (σ : zS) (x0 x1 : Int) : Option zR := if x1 = 0 ∨ x1 = 1 then (some (σ, x1)) else none
def kZ_inWord (rec : zF) (β : Nat) (σ : zS) (x0 : Int) : Option zR := if 1 ≤ β then (zbd (rec tM_letter (β - 1) σ [x0]) (fun σ1 r1 => if r1 = 0 then (if x0 < 48 then (rec tM_inWord_20 β σ1 [x0]) else (if x0 ≤ 57 then (rec tM_inWord_26 β σ1 [x0]) else (rec tM_inWord_20 β σ1 [x0]))) else (rec tM_inWord_26 β σ1 [x0]))) else none
def kZ_inWord_20 (rec : zF) (β : Nat) (σ : zS) (x0 : Int) : Option zR := if x0 = 95 then (rec tM_inWord_26 β σ [x0]) else (rec tM_inWord_31 β σ [x0, 0])
def kZ_inWord_26 (rec : zF) (β : Nat) (σ : zS) (x0 : Int) : Option zR := rec tM_inWord_31 β σ [x0, 1]
def kZ_inWord_31 (rec : zF) (β : Nat) (σ : zS) (x0 x1 : Int) : Option zR := if x1 = 0 ∨ x1 = 1 then (some (σ, x1)) else none
def kZ_sign (rec : zF) (β : Nat) (σ : zS) (x0 : Int) : Option zR := if zr ((σ.1 7) + 1) then (lt_ (zI σ 10 ((σ.1 7) + 1)) (fun σ1 => if x0 = 33 then (if zr ((σ1.1 7) + 1) then (if 1 ≤ β then (zbd (rec tM_at (β - 1) σ1 [((σ1.1 7) + 1), 61]) (fun σ2 r2 => if r2 = 0 then (some (σ2, x0)) else (if zr ((σ2.1 10) + 1) then (lt_ (zI σ2 10 ((σ2.1 10) + 1)) (fun σ3 => some (σ3, 300))) else none))) else none) else none) else (if x0 = 38 then (some (σ1, x0)) else (if x0 = 40 then (some (σ1, x0)) else (if x0 = 41 then (some (σ1, x0)) else (if x0 = 44 then (some (σ1, x0)) else (if x0 = 46 then (some (σ1, x0)) else (if x0 = 58 then (some (σ1, x0)) else (if x0 = 60 then (if zr ((σ1.1 7) + 1) then (if 1 ≤ β then (zbd (rec tM_at (β - 1) σ1 [((σ1.1 7) + 1), 61]) (fun σ4 r4 => if r4 = 0 then (rec tM_sign_210 β σ4 [x0]) else (if zr ((σ4.1 7) + 2) then (if 1 ≤ β then (zbd (rec tM_at (β - 1) σ4 [((σ4.1 7) + 2), 62]) (fun σ5 r5 => if r5 = 0 then (rec tM_sign_210 β σ5 [x0]) else (if zr ((σ5.1 10) + 2) then (lt_ (zI σ5 10 ((σ5.1 10) + 2)) (fun σ6 => some (σ6, 302))) else none))) else none) else none))) else none) else none) else (if x0 = 61 then (if zr ((σ1.1 7) + 1) then (if 1 ≤ β then (zbd (rec tM_at (β - 1) σ1 [((σ1.1 7) + 1), 62]) (fun σ7 r7 => if r7 = 0 then (some (σ7, x0)) else (if zr ((σ7.1 10) + 1) then (lt_ (zI σ7 10 ((σ7.1 10) + 1)) (fun σ8 => some (σ8, 301))) else none))) else none) else none) else (if x0 = 63 then (some (σ1, x0)) else (if x0 = 124 then (some (σ1, x0)) else (if x0 = 126 then (some (σ1, x0)) else (some (σ1, 303))))))))))))))) else none
def kZ_sign_210 (rec : zF) (β : Nat) (σ : zS) (x0 : Int) : Option zR := some (σ, 303)
def kZ_at (rec : zF) (β : Nat) (σ : zS) (x0 x1 : Int) : Option zR := if (σ.1 2) ≤ x0 then (rec tM_at_22 β σ [x0, x1]) else (if zb x0 65536 then (if (σ.2.1 0 x0) = x1 then (rec tM_at_23 β σ [x0, x1, 1]) else (rec tM_at_22 β σ [x0, x1])) else none)
def kZ_at_22 (rec : zF) (β : Nat) (σ : zS) (x0 x1 : Int) : Option zR := rec tM_at_23 β σ [x0, x1, 0]
def kZ_at_23 (rec : zF) (β : Nat) (σ : zS) (x0 x1 x2 : Int) : Option zR := if x2 = 0 ∨ x2 = 1 then (some (σ, x2)) else none
def kZ_take (rec : zF) (β : Nat) (σ : zS) : Option zR := if 1 ≤ β then (zbd (rec tM_peek (β - 1) σ []) (fun σ1 r1 => lt_ (zI σ1 7 (σ1.1 10)) (fun σ2 => lt_ (zI σ2 11 0) (fun σ3 => some (σ3, 0))))) else none
def kZ_node (rec : zF) (β : Nat) (σ : zS) (x0 x1 x2 x3 : Int) : Option zR := if zb (σ.1 37) 20100 then (lt_ (zA σ 30 (σ.1 37) x0) (fun σ1 => if zb (σ1.1 37) 20100 then (lt_ (zA σ1 31 (σ1.1 37) x1) (fun σ2 => if zb (σ2.1 37) 20100 then (lt_ (zA σ2 32 (σ2.1 37) x2) (fun σ3 => if zb (σ3.1 37) 20100 then (lt_ (zA σ3 33 (σ3.1 37) x3) (fun σ4 => if zr ((σ4.1 37) + 1) then (lt_ (zI σ4 37 ((σ4.1 37) + 1)) (fun σ5 => some (σ5, (σ4.1 37)))) else none)) else none)) else none)) else none)) else none
def kZ_isBinder (rec : zF) (β : Nat) (σ : zS) (x0 : Int) : Option zR := if zb x0 300 then (if zr ((σ.1 10) - (σ.1 9)) then (if (σ.2.1 22 x0) = ((σ.1 10) - (σ.1 9)) then (rec tM_isBinder_22 β σ [x0, 0]) else (some (σ, 0))) else none) else none
def kZ_isBinder_22 (rec : zF) (β : Nat) (σ : zS) (x0 x1 : Int) : Option zR := if zb x0 300 then (if (σ.2.1 22 x0) ≤ x1 then (some (σ, 1)) else (if zr ((σ.2.1 21 x0) + x1) then (if zb ((σ.2.1 21 x0) + x1) 65536 then (if zr ((σ.1 9) + x1) then (if zb ((σ.1 9) + x1) 65536 then (if (σ.2.1 0 ((σ.2.1 21 x0) + x1)) = (σ.2.1 0 ((σ.1 9) + x1)) then (if zr (x1 + 1) then (rec tM_isBinder_22 β σ [x0, (x1 + 1)]) else none) else (some (σ, 0))) else none) else none) else none) else none)) else none
def kZ_term (rec : zF) (β : Nat) (σ : zS) (x0 x1 : Int) : Option zR := if zb (σ.1 38) 20100 then (lt_ (zA σ 34 (σ.1 38) x0) (fun σ1 => if zb (σ1.1 38) 20100 then (lt_ (zA σ1 35 (σ1.1 38) x1) (fun σ2 => if zb (σ2.1 38) 20100 then (lt_ (zA σ2 36 (σ2.1 38) (-1)) (fun σ3 => if zr ((σ3.1 38) + 1) then (lt_ (zI σ3 38 ((σ3.1 38) + 1)) (fun σ4 => some (σ4, (σ3.1 38)))) else none)) else none)) else none)) else none
def kZ_length (rec : zF) (β : Nat) (σ : zS) (x0 : Int) : Option zR := rec tM_length_4 β σ [x0, 0, x0]
def kZ_length_4 (rec : zF) (β : Nat) (σ : zS) (x0 x1 x2 : Int) : Option zR := if x2 < 0 then (some (σ, x1)) else (if zb x2 20100 then (if zr (x1 + 1) then (rec tM_length_4 β σ [x0, (x1 + 1), (σ.2.1 36 x2)]) else none) else none)
def kZ_termOf (rec : zF) (β : Nat) (σ : zS) (x0 x1 : Int) : Option zR := if zb (σ.1 40) 20100 then (lt_ (zA σ 41 (σ.1 40) x0) (fun σ1 => if zb (σ1.1 40) 20100 then (lt_ (zA σ1 42 (σ1.1 40) x1) (fun σ2 => if zr ((σ2.1 40) + 1) then (lt_ (zI σ2 40 ((σ2.1 40) + 1)) (fun σ3 => lt_ (zI σ3 39 (σ2.1 40)) (fun σ4 => some (σ4, 0)))) else none)) else none)) else none
def kZ_joined1 (rec : zF) (β : Nat) (σ : zS) (x0 x1 x2 : Int) : Option zR := if zb x1 20100 then (if zb x2 20100 then (if zr (1 + (if (σ.2.1 33 x1) < (σ.2.1 33 x2) then (σ.2.1 33 x2) else (σ.2.1 33 x1))) then (if 1 ≤ β then (zbd (rec tM_node (β - 1) σ [x0, x1, x2, (1 + (if (σ.2.1 33 x1) < (σ.2.1 33 x2) then (σ.2.1 33 x2) else (σ.2.1 33 x1)))]) (fun σ1 r1 => some (σ1, r1))) else none) else none) else none) else none
def kZ_mark (rec : zF) (β : Nat) (σ : zS) (x0 x1 x2 : Int) : Option zR := if zb x0 20100 then (if (σ.2.1 30 x0) < 0 ∨ 5 < (σ.2.1 30 x0) then (if (σ.2.1 30 x0) = 6 then (rec tM_mark_175 β σ [x0, x1, x2, 1, x0]) else (rec tM_mark_175 β σ [x0, x1, x2, 0, x0])) else (if (σ.2.1 30 x0) = 0 then (rec tM_mark_211 β σ [x0, x1, x2]) else (if (σ.2.1 30 x0) = 1 then (if x1 = 0 then (rec tM_mark_63 β σ [x0, x1, x2, 1, (σ.2.1 31 x0)]) else (rec tM_mark_63 β σ [x0, x1, x2, 0, (σ.2.1 31 x0)])) else (if (σ.2.1 30 x0) = 2 then (if 1 ≤ β then (zbd (rec tM_mark (β - 1) σ [(σ.2.1 31 x0), x1, x2]) (fun σ1 r1 => if 1 ≤ β then (zbd (rec tM_mark (β - 1) σ1 [(σ1.2.1 32 x0), x1, x2]) (fun σ2 r2 => rec tM_mark_211 β σ2 [x0, x1, x2])) else none)) else none) else (if (σ.2.1 30 x0) = 3 then (if 1 ≤ β then (zbd (rec tM_mark (β - 1) σ [(σ.2.1 31 x0), x1, x2]) (fun σ3 r3 => if 1 ≤ β then (zbd (rec tM_mark (β - 1) σ3 [(σ3.2.1 32 x0), x1, x2]) (fun σ4 r4 => rec tM_mark_211 β σ4 [x0, x1, x2])) else none)) else none) else (if (σ.2.1 30 x0) = 4 then (if x1 = 0 then (rec tM_mark_113 β σ [x0, x1, x2, 1, (σ.2.1 31 x0)]) else (rec tM_mark_113 β σ [x0, x1, x2, 0, (σ.2.1 31 x0)])) else (if 1 ≤ β then (zbd (rec tM_mark2 (β - 1) σ [(σ.2.1 31 x0), x2]) (fun σ5 r5 => if 1 ≤ β then (zbd (rec tM_mark2 (β - 1) σ5 [(σ5.2.1 32 x0), x2]) (fun σ6 r6 => rec tM_mark_211 β σ6 [x0, x1, x2])) else none)) else none))))))) else none
def kZ_mark_63 (rec : zF) (β : Nat) (σ : zS) (x0 x1 x2 x3 x4 : Int) : Option zR := if 1 ≤ β then (zbd (rec tM_mark (β - 1) σ [x4, x3, x2]) (fun σ1 r1 => rec tM_mark_211 β σ1 [x0, x1, x2])) else none
def kZ_mark_113 (rec : zF) (β : Nat) (σ : zS) (x0 x1 x2 x3 x4 : Int) : Option zR := if 1 ≤ β then (zbd (rec tM_mark (β - 1) σ [x4, x3, x2]) (fun σ1 r1 => if zb x0 20100 then (if 1 ≤ β then (zbd (rec tM_mark (β - 1) σ1 [(σ1.2.1 32 x0), x1, x2]) (fun σ2 r2 => rec tM_mark_211 β σ2 [x0, x1, x2])) else none) else none)) else none
def kZ_mark_175 (rec : zF) (β : Nat) (σ : zS) (x0 x1 x2 x3 x4 : Int) : Option zR := if x3 = x1 then (rec tM_mark_184 β σ [x0, x1, x2, 0, x4]) else (rec tM_mark_184 β σ [x0, x1, x2, 1, x4])
def kZ_mark_184 (rec : zF) (β : Nat) (σ : zS) (x0 x1 x2 x3 x4 : Int) : Option zR := if 1 ≤ β then (zbd (rec tM_marked (β - 1) σ [x4, x3, x2]) (fun σ1 r1 => if zb x0 20100 then (if zr (x2 + (Int.tmod (σ1.2.1 32 x0) 1000)) then (if 1 ≤ β then (zbd (rec tM_mark (β - 1) σ1 [(σ1.2.1 31 x0), x1, (x2 + (Int.tmod (σ1.2.1 32 x0) 1000))]) (fun σ2 r2 => rec tM_mark_211 β σ2 [x0, x1, x2])) else none) else none) else none)) else none
def kZ_mark_211 (rec : zF) (β : Nat) (σ : zS) (x0 x1 x2 : Int) : Option zR := some (σ, 0)
def kZ_mark2 (rec : zF) (β : Nat) (σ : zS) (x0 x1 : Int) : Option zR := if zb x0 20100 then (if (σ.2.1 30 x0) = 0 then (some (σ, 0)) else (if (σ.2.1 30 x0) = 6 then (rec tM_mark2_32 β σ [x0, x1]) else (if (σ.2.1 30 x0) = 7 then (rec tM_mark2_32 β σ [x0, x1]) else (rec tM_mark2_46 β σ [x0, x1, 0])))) else none
def kZ_mark2_32 (rec : zF) (β : Nat) (σ : zS) (x0 x1 : Int) : Option zR := if zb x0 20100 then (rec tM_mark2_46 β σ [x0, x1, (Int.tmod (σ.2.1 32 x0) 1000)]) else none
def kZ_mark2_46 (rec : zF) (β : Nat) (σ : zS) (x0 x1 x2 : Int) : Option zR := if x2 ≤ 0 then (rec tM_mark2_58 β σ [x0, x1, x2]) else (if 1 ≤ β then (zbd (rec tM_marked (β - 1) σ [x0, 1, x1]) (fun σ1 r1 => rec tM_mark2_58 β σ1 [x0, x1, x2])) else none)
def kZ_mark2_58 (rec : zF) (β : Nat) (σ : zS) (x0 x1 x2 : Int) : Option zR := if zb x0 20100 then (if zr (x1 + x2) then (if 1 ≤ β then (zbd (rec tM_mark2 (β - 1) σ [(σ.2.1 31 x0), (x1 + x2)]) (fun σ1 r1 => if (σ1.2.1 30 x0) < 2 then (rec tM_mark2_102 β σ1 [x0, x1, x2]) else (if 5 < (σ1.2.1 30 x0) then (rec tM_mark2_102 β σ1 [x0, x1, x2]) else (if 1 ≤ β then (zbd (rec tM_mark2 (β - 1) σ1 [(σ1.2.1 32 x0), x1]) (fun σ2 r2 => rec tM_mark2_102 β σ2 [x0, x1, x2])) else none)))) else none) else none) else none
def kZ_mark2_102 (rec : zF) (β : Nat) (σ : zS) (x0 x1 x2 : Int) : Option zR := some (σ, 0)
def kZ_marked (rec : zF) (β : Nat) (σ : zS) (x0 x1 x2 : Int) : Option zR := rec tM_marked_3 β σ [x0, x1, x2, 0]
def kZ_marked_3 (rec : zF) (β : Nat) (σ : zS) (x0 x1 x2 x3 : Int) : Option zR := if zb x0 20100 then (if (Int.tmod (σ.2.1 32 x0) 1000) ≤ x3 then (some (σ, 0)) else (if x1 = 0 then (if zr (Int.tdiv (σ.2.1 32 x0) 1000) then (if zr ((Int.tdiv (σ.2.1 32 x0) 1000) + x3) then (rec tM_marked_45 β σ [x0, x1, x2, x3, ((Int.tdiv (σ.2.1 32 x0) 1000) + x3)]) else none) else none) else (if zr (Int.tdiv (σ.2.1 32 x0) 1000) then (if zr ((Int.tdiv (σ.2.1 32 x0) 1000) + x3) then (if zb ((Int.tdiv (σ.2.1 32 x0) 1000) + x3) 300 then (lt_ (zA σ 24 ((Int.tdiv (σ.2.1 32 x0) 1000) + x3) 1) (fun σ1 => rec tM_marked_45 β σ1 [x0, x1, x2, x3, ((Int.tdiv (σ.2.1 32 x0) 1000) + x3)])) else none) else none) else none))) else none
def kZ_marked_45 (rec : zF) (β : Nat) (σ : zS) (x0 x1 x2 x3 x4 : Int) : Option zR := if zb x4 300 then (if zr (x2 + x3) then (lt_ (zA σ 58 x4 (x2 + x3)) (fun σ1 => if zr (x3 + 1) then (rec tM_marked_3 β σ1 [x0, x1, x2, (x3 + 1)]) else none)) else none) else none
def kZ_count2 (rec : zF) (β : Nat) (σ : zS) (x0 x1 : Int) : Option zR := if zb x0 20100 then (if (σ.2.1 30 x0) < 0 ∨ 5 < (σ.2.1 30 x0) then (if 1 ≤ β then (zbd (rec tM_count2 (β - 1) σ [(σ.2.1 31 x0), x1]) (fun σ1 r1 => some (σ1, r1))) else none) else (if (σ.2.1 30 x0) = 0 then (some (σ, 1)) else (if (σ.2.1 30 x0) = 1 then (if x1 = 0 then (rec tM_count2_62 β σ [x0, x1, 1, (σ.2.1 31 x0)]) else (rec tM_count2_62 β σ [x0, x1, 0, (σ.2.1 31 x0)])) else (if (σ.2.1 30 x0) = 2 then (if (σ.2.1 30 x0) = 2 then (rec tM_count2_81 β σ [x0, x1, 1]) else (rec tM_count2_81 β σ [x0, x1, 0])) else (if (σ.2.1 30 x0) = 3 then (if (σ.2.1 30 x0) = 2 then (rec tM_count2_81 β σ [x0, x1, 1]) else (rec tM_count2_81 β σ [x0, x1, 0])) else (if (σ.2.1 30 x0) = 4 then (if x1 = 0 then (if 1 ≤ β then (zbd (rec tM_count2 (β - 1) σ [(σ.2.1 31 x0), 1]) (fun σ2 r2 => if 1 ≤ β then (zbd (rec tM_count2 (β - 1) σ2 [(σ2.2.1 32 x0), 0]) (fun σ3 r3 => if zr (r2 + r3) then (if 1 ≤ β then (zbd (rec tM_capped (β - 1) σ3 [(r2 + r3)]) (fun σ4 r4 => rec tM_count2_200 β σ4 [x0, x1, r4])) else none) else none)) else none)) else none) else (if 1 ≤ β then (zbd (rec tM_count2 (β - 1) σ [(σ.2.1 31 x0), 0]) (fun σ5 r5 => if 1 ≤ β then (zbd (rec tM_count2 (β - 1) σ5 [(σ5.2.1 32 x0), 1]) (fun σ6 r6 => if zr (r5 * r6) then (if 1 ≤ β then (zbd (rec tM_capped (β - 1) σ6 [(r5 * r6)]) (fun σ7 r7 => rec tM_count2_200 β σ7 [x0, x1, r7])) else none) else none)) else none)) else none)) else (if 1 ≤ β then (zbd (rec tM_count2 (β - 1) σ [(σ.2.1 31 x0), 1]) (fun σ8 r8 => if 1 ≤ β then (zbd (rec tM_count2 (β - 1) σ8 [(σ8.2.1 32 x0), 1]) (fun σ9 r9 => if 200 < r8 then (rec tM_count2_241 β σ9 [x0, x1, r8, r9]) else (if r9 ≤ 200 then (if 1 ≤ β then (zbd (rec tM_count2 (β - 1) σ9 [(σ9.2.1 31 x0), 0]) (fun σ10 r10 => if 1 ≤ β then (zbd (rec tM_count2 (β - 1) σ10 [(σ10.2.1 32 x0), 0]) (fun σ11 r11 => if x1 = 0 then (if zr (r8 * r9) then (if zr (r10 * r11) then (if zr ((r8 * r9) + (r10 * r11)) then (if 1 ≤ β then (zbd (rec tM_capped (β - 1) σ11 [((r8 * r9) + (r10 * r11))]) (fun σ12 r12 => rec tM_count2_304 β σ12 [x0, x1, r8, r9, r10, r11, r12])) else none) else none) else none) else none) else (if zr (r10 * r9) then (if zr (r11 * r8) then (if zr ((r10 * r9) + (r11 * r8)) then (if 1 ≤ β then (zbd (rec tM_capped (β - 1) σ11 [((r10 * r9) + (r11 * r8))]) (fun σ13 r13 => rec tM_count2_304 β σ13 [x0, x1, r8, r9, r10, r11, r13])) else none) else none) else none) else none))) else none)) else none) else (rec tM_count2_241 β σ9 [x0, x1, r8, r9])))) else none)) else none))))))) else none
def kZ_count2_62 (rec : zF) (β : Nat) (σ : zS) (x0 x1 x2 x3 : Int) : Option zR := if 1 ≤ β then (zbd (rec tM_count2 (β - 1) σ [x3, x2]) (fun σ1 r1 => some (σ1, r1))) else none
def kZ_count2_81 (rec : zF) (β : Nat) (σ : zS) (x0 x1 x2 : Int) : Option zR := if x2 = x1 then (if zb x0 20100 then (if 1 ≤ β then (zbd (rec tM_count2 (β - 1) σ [(σ.2.1 31 x0), x1]) (fun σ4 r4 => if 1 ≤ β then (zbd (rec tM_count2 (β - 1) σ4 [(σ4.2.1 32 x0), x1]) (fun σ5 r5 => if zr (r4 + r5) then (if 1 ≤ β then (zbd (rec tM_capped (β - 1) σ5 [(r4 + r5)]) (fun σ6 r6 => rec tM_count2_140 β σ6 [x0, x1, r6])) else none) else none)) else none)) else none) else none) else (if zb x0 20100 then (if 1 ≤ β then (zbd (rec tM_count2 (β - 1) σ [(σ.2.1 31 x0), x1]) (fun σ1 r1 => if 1 ≤ β then (zbd (rec tM_count2 (β - 1) σ1 [(σ1.2.1 32 x0), x1]) (fun σ2 r2 => if zr (r1 * r2) then (if 1 ≤ β then (zbd (rec tM_capped (β - 1) σ2 [(r1 * r2)]) (fun σ3 r3 => rec tM_count2_140 β σ3 [x0, x1, r3])) else none) else none)) else none)) else none) else none)
def kZ_count2_140 (rec : zF) (β : Nat) (σ : zS) (x0 x1 x2 : Int) : Option zR := some (σ, x2)
def kZ_count2_200 (rec : zF) (β : Nat) (σ : zS) (x0 x1 x2 : Int) : Option zR := some (σ, x2)
def kZ_count2_241 (rec : zF) (β : Nat) (σ : zS) (x0 x1 x2 x3 : Int) : Option zR := some (σ, 201)
def kZ_count2_304 (rec : zF) (β : Nat) (σ : zS) (x0 x1 x2 x3 x4 x5 x6 : Int) : Option zR := some (σ, x6)
def kZ_capped (rec : zF) (β : Nat) (σ : zS) (x0 : Int) : Option zR := some (σ, (if x0 < 201 then x0 else 201))
def kZ_bind2 (rec : zF) (β : Nat) (σ : zS) (x0 x1 : Int) : Option zR := if x1 = 0 then (rec tM_bind2_9 β σ [x0, x1, 1, 0]) else (rec tM_bind2_40 β σ [x0, x1, 1])
def kZ_bind2_9 (rec : zF) (β : Nat) (σ : zS) (x0 x1 x2 x3 : Int) : Option zR := if (σ.1 62) ≤ x3 then (rec tM_bind2_40 β σ [x0, x1, x2]) else (if zb x3 300 then (if zr (x2 + (σ.2.1 60 x3)) then (if zr (x3 + 1) then (rec tM_bind2_9 β σ [x0, x1, (if (x2 + (σ.2.1 60 x3)) < 1000 then (x2 + (σ.2.1 60 x3)) else 1000), (x3 + 1)]) else none) else none) else none)
def kZ_bind2_40 (rec : zF) (β : Nat) (σ : zS) (x0 x1 x2 : Int) : Option zR := if x1 = 0 then (rec tM_bind2_57 β σ [x0, x1, x2, (σ.1 62), x0]) else (rec tM_bind2_57 β σ [x0, x1, x2, (-1), x0])
def kZ_bind2_57 (rec : zF) (β : Nat) (σ : zS) (x0 x1 x2 x3 x4 : Int) : Option zR := if zb x4 300 then (lt_ (zA σ 61 x4 x3) (fun σ1 => if zb (σ1.1 62) 300 then (lt_ (zA σ1 60 (σ1.1 62) x2) (fun σ2 => if zr ((σ2.1 62) + 1) then (lt_ (zI σ2 62 ((σ2.1 62) + 1)) (fun σ3 => if zb (σ2.1 62) 300 then (lt_ (zA σ3 59 (σ2.1 62) x0) (fun σ4 => some (σ4, 0))) else none)) else none)) else none)) else none
def kZ_weightOf (rec : zF) (β : Nat) (σ : zS) (x0 : Int) : Option zR := if zb x0 20100 then (if 0 ≤ (σ.2.1 34 x0) then (rec tM_weightOf_50 β σ [x0, 1, (σ.2.1 35 x0)]) else (rec tM_weightOf_11 β σ [x0, 0])) else none
def kZ_weightOf_11 (rec : zF) (β : Nat) (σ : zS) (x0 x1 : Int) : Option zR := if zb x1 300 then (if zb x0 20100 then (if zr ((-1) - (σ.2.1 34 x0)) then (if (σ.2.1 59 x1) = ((-1) - (σ.2.1 34 x0)) then (some (σ, (σ.2.1 60 x1))) else (if zr (x1 + 1) then (rec tM_weightOf_11 β σ [x0, (x1 + 1)]) else none)) else none) else none) else none
def kZ_weightOf_50 (rec : zF) (β : Nat) (σ : zS) (x0 x1 x2 : Int) : Option zR := if x2 < 0 then (some (σ, x1)) else (if 1 ≤ β then (zbd (rec tM_weightOf (β - 1) σ [x2]) (fun σ1 r1 => if zb x2 20100 then (if zr (x1 + r1) then (rec tM_weightOf_50 β σ1 [x0, (if (x1 + r1) < 1000 then (x1 + r1) else 1000), (σ1.2.1 36 x2)]) else none) else none)) else none)
def kZ_built1 (rec : zF) (β : Nat) (σ : zS) (x0 : Int) : Option zR := if zb x0 20100 then (if 0 ≤ (σ.2.1 34 x0) then (if 1 ≤ β then (zbd (rec tM_built2 (β - 1) σ [(σ.2.1 34 x0), (σ.2.1 35 x0)]) (fun σ1 r1 => rec tM_built1_40 β σ1 [x0, r1])) else none) else (if zr ((-1) - (σ.2.1 34 x0)) then (if 1 ≤ β then (zbd (rec tM_bound1 (β - 1) σ [((-1) - (σ.2.1 34 x0))]) (fun σ2 r2 => rec tM_built1_40 β σ2 [x0, r2])) else none) else none)) else none
def kZ_built1_40 (rec : zF) (β : Nat) (σ : zS) (x0 x1 : Int) : Option zR := some (σ, x1)
def kZ_bound1 (rec : zF) (β : Nat) (σ : zS) (x0 : Int) : Option zR := if zb x0 300 then (if 0 ≤ (σ.2.1 61 x0) then (if 1 ≤ β then (zbd (rec tM_fresh (β - 1) σ [(σ.2.1 23 x0)]) (fun σ1 r1 => rec tM_bound1_41 β σ1 [x0, r1, (σ1.2.1 61 x0), (-1), 0])) else none) else (if zr ((-1) - x0) then (if 1 ≤ β then (zbd (rec tM_fresh (β - 1) σ [((-1) - x0)]) (fun σ2 r2 => some (σ2, r2))) else none) else none)) else none
def kZ_bound1_41 (rec : zF) (β : Nat) (σ : zS) (x0 x1 x2 x3 x4 : Int) : Option zR := if x2 ≤ x4 then (some (σ, x1)) else (if zb x4 300 then (if 1 ≤ β then (zbd (rec tM_bound1 (β - 1) σ [(σ.2.1 59 x4)]) (fun σ1 r1 => if 0 ≤ x3 then (if zb x3 420000 then (lt_ (zA σ1 45 x3 r1) (fun σ2 => rec tM_bound1_85 β σ2 [x0, x1, x2, x3, x4, r1])) else none) else (if zb x1 420000 then (lt_ (zA σ1 44 x1 r1) (fun σ3 => rec tM_bound1_85 β σ3 [x0, x1, x2, x3, x4, r1])) else none))) else none) else none)
def kZ_bound1_85 (rec : zF) (β : Nat) (σ : zS) (x0 x1 x2 x3 x4 x5 : Int) : Option zR := if zb x1 420000 then (if zb x5 420000 then (if zr ((σ.2.1 46 x1) + (σ.2.1 46 x5)) then (lt_ (zA σ 46 x1 ((σ.2.1 46 x1) + (σ.2.1 46 x5))) (fun σ1 => if zr (x4 + 1) then (rec tM_bound1_41 β σ1 [x0, x1, x2, x5, (x4 + 1)]) else none)) else none) else none) else none
def kZ_fresh (rec : zF) (β : Nat) (σ : zS) (x0 : Int) : Option zR := if zb (σ.1 47) 420000 then (lt_ (zA σ 43 (σ.1 47) x0) (fun σ1 => if zb (σ1.1 47) 420000 then (lt_ (zA σ1 44 (σ1.1 47) (-1)) (fun σ2 => if zb (σ2.1 47) 420000 then (lt_ (zA σ2 45 (σ2.1 47) (-1)) (fun σ3 => if zb (σ3.1 47) 420000 then (lt_ (zA σ3 46 (σ3.1 47) 1) (fun σ4 => if zr ((σ4.1 47) + 1) then (lt_ (zI σ4 47 ((σ4.1 47) + 1)) (fun σ5 => some (σ5, (σ4.1 47)))) else none)) else none)) else none)) else none)) else none
def kZ_built2 (rec : zF) (β : Nat) (σ : zS) (x0 x1 : Int) : Option zR := if 1 ≤ β then (zbd (rec tM_fresh (β - 1) σ [x0]) (fun σ1 r1 => rec tM_built2_12 β σ1 [x0, x1, r1, (-1), x1])) else none
def kZ_built2_12 (rec : zF) (β : Nat) (σ : zS) (x0 x1 x2 x3 x4 : Int) : Option zR := if x4 < 0 then (some (σ, x2)) else (if 1 ≤ β then (zbd (rec tM_built1 (β - 1) σ [x4]) (fun σ1 r1 => if 0 ≤ x3 then (if zb x3 420000 then (lt_ (zA σ1 45 x3 r1) (fun σ2 => rec tM_built2_50 β σ2 [x0, x1, x2, x3, x4, r1])) else none) else (if zb x2 420000 then (lt_ (zA σ1 44 x2 r1) (fun σ3 => rec tM_built2_50 β σ3 [x0, x1, x2, x3, x4, r1])) else none))) else none)
def kZ_built2_50 (rec : zF) (β : Nat) (σ : zS) (x0 x1 x2 x3 x4 x5 : Int) : Option zR := if zb x2 420000 then (if zb x5 420000 then (if zr ((σ.2.1 46 x2) + (σ.2.1 46 x5)) then (lt_ (zA σ 46 x2 ((σ.2.1 46 x2) + (σ.2.1 46 x5))) (fun σ1 => if zb x4 20100 then (rec tM_built2_12 β σ1 [x0, x1, x2, x5, (σ1.2.1 36 x4)]) else none)) else none) else none) else none
def kZ_fits (rec : zF) (β : Nat) (σ : zS) (x0 x1 : Int) : Option zR := lt_ (zI σ 98 0) (fun σ1 => rec tM_fits_10 β σ1 [x0, x1, 0, x0])
def kZ_fits_10 (rec : zF) (β : Nat) (σ : zS) (x0 x1 x2 x3 : Int) : Option zR := if zr (x0 + x1) then (if (x0 + x1) ≤ x3 then (if 100 < x2 then (rec tM_fits_94 β σ [x0, x1, x2, x3]) else (if 1 ≤ β then (zbd (rec tM_distinct (β - 1) σ []) (fun σ1 r1 => if 6 < r1 then (rec tM_fits_94 β σ1 [x0, x1, x2, x3]) else (rec tM_fits_95 β σ1 [x0, x1, x2, x3, 1]))) else none)) else (if zb x3 28800 then (if zb (σ.2.1 63 x3) 420000 then (if zr (x3 + 1) then (if zb (x3 + 1) 28800 then (if zb (σ.2.1 63 (x3 + 1)) 420000 then (if 1 ≤ β then (zbd (rec tM_add (β - 1) σ [(σ.2.1 63 x3), (σ.2.1 63 (x3 + 1)), 1]) (fun σ2 r2 => if zr ((σ.2.1 46 (σ.2.1 63 x3)) + (σ.2.1 46 (σ.2.1 63 (x3 + 1)))) then (if zr (x2 + ((σ.2.1 46 (σ.2.1 63 x3)) + (σ.2.1 46 (σ.2.1 63 (x3 + 1))))) then (if zr (x3 + 3) then (rec tM_fits_10 β σ2 [x0, x1, (x2 + ((σ.2.1 46 (σ.2.1 63 x3)) + (σ.2.1 46 (σ.2.1 63 (x3 + 1))))), (x3 + 3)]) else none) else none) else none)) else none) else none) else none) else none) else none) else none)) else none
def kZ_fits_94 (rec : zF) (β : Nat) (σ : zS) (x0 x1 x2 x3 : Int) : Option zR := rec tM_fits_95 β σ [x0, x1, x2, x3, 0]
def kZ_fits_95 (rec : zF) (β : Nat) (σ : zS) (x0 x1 x2 x3 x4 : Int) : Option zR := if x4 = 0 ∨ x4 = 1 then (some (σ, x4)) else none
def kZ_add (rec : zF) (β : Nat) (σ : zS) (x0 x1 x2 : Int) : Option zR := if zb (σ.1 98) 40 then (lt_ (zA σ 95 (σ.1 98) x0) (fun σ1 => if zb (σ1.1 98) 40 then (lt_ (zA σ1 96 (σ1.1 98) x1) (fun σ2 => if zr ((σ2.1 98) + 1) then (lt_ (zI σ2 98 ((σ2.1 98) + 1)) (fun σ3 => if zb (σ2.1 98) 40 then (if x2 = 0 ∨ x2 = 1 then (lt_ (zA σ3 97 (σ2.1 98) x2) (fun σ4 => some (σ4, 0))) else none) else none)) else none)) else none)) else none
def kZ_distinct (rec : zF) (β : Nat) (σ : zS) : Option zR := lt_ (zI σ 101 0) (fun σ1 => rec tM_distinct_7 β σ1 [0])
def kZ_distinct_7 (rec : zF) (β : Nat) (σ : zS) (x0 : Int) : Option zR := if (σ.1 98) ≤ x0 then (some (σ, (σ.1 101))) else (if zb x0 40 then (if 1 ≤ β then (zbd (rec tM_note (β - 1) σ [(σ.2.1 95 x0)]) (fun σ1 r1 => if 1 ≤ β then (zbd (rec tM_note (β - 1) σ1 [(σ1.2.1 96 x0)]) (fun σ2 r2 => if zr (x0 + 1) then (rec tM_distinct_7 β σ2 [(x0 + 1)]) else none)) else none)) else none) else none)
def kZ_note (rec : zF) (β : Nat) (σ : zS) (x0 : Int) : Option zR := if zb x0 420000 then (if 0 ≤ (σ.2.1 43 x0) then (rec tM_note_71 β σ [x0, (σ.2.1 44 x0)]) else (rec tM_note_11 β σ [x0, 0])) else none
def kZ_note_11 (rec : zF) (β : Nat) (σ : zS) (x0 x1 : Int) : Option zR := if (σ.1 101) ≤ x1 then (if zr ((σ.1 101) + 1) then (lt_ (zI σ 101 ((σ.1 101) + 1)) (fun σ1 => if zb x0 420000 then (if zb (σ.1 101) 400 then (lt_ (zA σ1 100 (σ.1 101) (σ1.2.1 43 x0)) (fun σ2 => some (σ2, 0))) else none) else none)) else none) else (if zb x1 400 then (if zb x0 420000 then (if (σ.2.1 100 x1) = (σ.2.1 43 x0) then (some (σ, 0)) else (if zr (x1 + 1) then (rec tM_note_11 β σ [x0, (x1 + 1)]) else none)) else none) else none)
def kZ_note_71 (rec : zF) (β : Nat) (σ : zS) (x0 x1 : Int) : Option zR := if x1 < 0 then (some (σ, 0)) else (if 1 ≤ β then (zbd (rec tM_note (β - 1) σ [x1]) (fun σ1 r1 => if zb x1 420000 then (rec tM_note_71 β σ1 [x0, (σ1.2.1 45 x1)]) else none)) else none)
def kZ_copy (rec : zF) (β : Nat) (σ : zS) (x0 : Int) : Option zR := if zb x0 420000 then (if 1 ≤ β then (zbd (rec tM_fresh (β - 1) σ [(σ.2.1 43 x0)]) (fun σ1 r1 => rec tM_copy_21 β σ1 [x0, r1, (-1), (σ1.2.1 44 x0)])) else none) else none
def kZ_copy_21 (rec : zF) (β : Nat) (σ : zS) (x0 x1 x2 x3 : Int) : Option zR := if x3 < 0 then (some (σ, x1)) else (if 1 ≤ β then (zbd (rec tM_copy (β - 1) σ [x3]) (fun σ1 r1 => if 0 ≤ x2 then (if zb x2 420000 then (lt_ (zA σ1 45 x2 r1) (fun σ2 => rec tM_copy_57 β σ2 [x0, x1, x2, x3, r1])) else none) else (if zb x1 420000 then (lt_ (zA σ1 44 x1 r1) (fun σ3 => rec tM_copy_57 β σ3 [x0, x1, x2, x3, r1])) else none))) else none)
def kZ_copy_57 (rec : zF) (β : Nat) (σ : zS) (x0 x1 x2 x3 x4 : Int) : Option zR := if zb x1 420000 then (if zb x4 420000 then (if zr ((σ.2.1 46 x1) + (σ.2.1 46 x4)) then (lt_ (zA σ 46 x1 ((σ.2.1 46 x1) + (σ.2.1 46 x4))) (fun σ1 => if zb x3 420000 then (rec tM_copy_21 β σ1 [x0, x1, x4, (σ1.2.1 45 x3)]) else none)) else none) else none) else none
def kZ_reduce (rec : zF) (β : Nat) (σ : zS) : Option zR := rec tM_reduce_4 β σ [0, 0]
def kZ_reduce_4 (rec : zF) (β : Nat) (σ : zS) (x0 x1 : Int) : Option zR := if (σ.1 98) ≤ x1 then (lt_ (zI σ 98 x0) (fun σ1 => lt_ (zI σ1 101 0) (fun σ2 => rec tM_reduce_141 β σ2 [x0, 0]))) else (if zb x1 40 then (if (σ.2.1 97 x1) = 0 then (if 1 ≤ β then (zbd (rec tM_same (β - 1) σ [(σ.2.1 95 x1), (σ.2.1 96 x1)]) (fun σ3 r3 => if r3 = 0 then (rec tM_reduce_43 β σ3 [x0, x1]) else (rec tM_reduce_123 β σ3 [x0, x1]))) else none) else (rec tM_reduce_43 β σ [x0, x1])) else none)
def kZ_reduce_43 (rec : zF) (β : Nat) (σ : zS) (x0 x1 : Int) : Option zR := if zb x1 40 then (if zb x0 40 then (lt_ (zA σ 95 x0 (σ.2.1 95 x1)) (fun σ1 => lt_ (zA σ1 96 x0 (σ1.2.1 96 x1)) (fun σ2 => if (σ2.2.1 97 x1) = 0 ∨ (σ2.2.1 97 x1) = 1 then (lt_ (zA σ2 97 x0 (σ2.2.1 97 x1)) (fun σ3 => rec tM_reduce_84 β σ3 [x0, x1, 0, 0])) else none))) else none) else none
def kZ_reduce_84 (rec : zF) (β : Nat) (σ : zS) (x0 x1 x2 x3 : Int) : Option zR := if x0 ≤ x3 then (if x2 = 0 then (if zr (x0 + 1) then (rec tM_reduce_123 β σ [(x0 + 1), x1]) else none) else (rec tM_reduce_123 β σ [x0, x1])) else (if x2 = 0 then (if 1 ≤ β then (zbd (rec tM_sameLiteral (β - 1) σ [x3, x0]) (fun σ1 r1 => if r1 = 0 then (rec tM_reduce_109 β σ1 [x0, x1, x2, x3, 0]) else (rec tM_reduce_104 β σ1 [x0, x1, x2, x3]))) else none) else (rec tM_reduce_104 β σ [x0, x1, x2, x3]))
def kZ_reduce_104 (rec : zF) (β : Nat) (σ : zS) (x0 x1 x2 x3 : Int) : Option zR := rec tM_reduce_109 β σ [x0, x1, x2, x3, 1]
def kZ_reduce_109 (rec : zF) (β : Nat) (σ : zS) (x0 x1 x2 x3 x4 : Int) : Option zR := if zr (x3 + 1) then (rec tM_reduce_84 β σ [x0, x1, x4, (x3 + 1)]) else none
def kZ_reduce_123 (rec : zF) (β : Nat) (σ : zS) (x0 x1 : Int) : Option zR := if zr (x1 + 1) then (rec tM_reduce_4 β σ [x0, (x1 + 1)]) else none
def kZ_reduce_141 (rec : zF) (β : Nat) (σ : zS) (x0 x1 : Int) : Option zR := if (σ.1 98) ≤ x1 then (some (σ, 0)) else (if zb x1 40 then (if 1 ≤ β then (zbd (rec tM_number (β - 1) σ [(σ.2.1 95 x1)]) (fun σ1 r1 => if 1 ≤ β then (zbd (rec tM_number (β - 1) σ1 [(σ1.2.1 96 x1)]) (fun σ2 r2 => if zr (x1 + 1) then (rec tM_reduce_141 β σ2 [x0, (x1 + 1)]) else none)) else none)) else none) else none)
def kZ_same (rec : zF) (β : Nat) (σ : zS) (x0 x1 : Int) : Option zR := if zb x0 420000 then (if zb x1 420000 then (if (σ.2.1 43 x0) = (σ.2.1 43 x1) then (if (σ.2.1 46 x0) = (σ.2.1 46 x1) then (rec tM_same_47 β σ [x0, x1, (σ.2.1 44 x1), (σ.2.1 44 x0)]) else (rec tM_same_30 β σ [x0, x1])) else (rec tM_same_30 β σ [x0, x1])) else none) else none
def kZ_same_30 (rec : zF) (β : Nat) (σ : zS) (x0 x1 : Int) : Option zR := some (σ, 0)
def kZ_same_47 (rec : zF) (β : Nat) (σ : zS) (x0 x1 x2 x3 : Int) : Option zR := if x3 < 0 then (some (σ, 1)) else (if 1 ≤ β then (zbd (rec tM_same (β - 1) σ [x3, x2]) (fun σ1 r1 => if r1 = 0 then (some (σ1, 0)) else (if zb x2 420000 then (if zb x3 420000 then (rec tM_same_47 β σ1 [x0, x1, (σ1.2.1 45 x2), (σ1.2.1 45 x3)]) else none) else none))) else none)
def kZ_sameLiteral (rec : zF) (β : Nat) (σ : zS) (x0 x1 : Int) : Option zR := if zb x0 40 then (if zb x1 40 then (if (σ.2.1 97 x0) = (σ.2.1 97 x1) then (if 1 ≤ β then (zbd (rec tM_alike (β - 1) σ [x0, x1]) (fun σ1 r1 => if r1 = 0 then (rec tM_sameLiteral_28 β σ1 [x0, x1]) else (rec tM_sameLiteral_29 β σ1 [x0, x1, 1]))) else none) else (rec tM_sameLiteral_28 β σ [x0, x1])) else none) else none
def kZ_sameLiteral_28 (rec : zF) (β : Nat) (σ : zS) (x0 x1 : Int) : Option zR := rec tM_sameLiteral_29 β σ [x0, x1, 0]
def kZ_sameLiteral_29 (rec : zF) (β : Nat) (σ : zS) (x0 x1 x2 : Int) : Option zR := if x2 = 0 ∨ x2 = 1 then (some (σ, x2)) else none
def kZ_alike (rec : zF) (β : Nat) (σ : zS) (x0 x1 : Int) : Option zR := if zb x0 40 then (if zb x1 40 then (if 1 ≤ β then (zbd (rec tM_same (β - 1) σ [(σ.2.1 95 x0), (σ.2.1 95 x1)]) (fun σ1 r1 => if r1 = 0 then (rec tM_alike_38 β σ1 [x0, x1]) else (if 1 ≤ β then (zbd (rec tM_same (β - 1) σ1 [(σ1.2.1 96 x0), (σ1.2.1 96 x1)]) (fun σ2 r2 => if r2 = 0 then (rec tM_alike_38 β σ2 [x0, x1]) else (rec tM_alike_76 β σ2 [x0, x1]))) else none))) else none) else none) else none
def kZ_alike_38 (rec : zF) (β : Nat) (σ : zS) (x0 x1 : Int) : Option zR := if zb x0 40 then (if zb x1 40 then (if 1 ≤ β then (zbd (rec tM_same (β - 1) σ [(σ.2.1 95 x0), (σ.2.1 96 x1)]) (fun σ1 r1 => if r1 = 0 then (rec tM_alike_80 β σ1 [x0, x1]) else (if 1 ≤ β then (zbd (rec tM_same (β - 1) σ1 [(σ1.2.1 96 x0), (σ1.2.1 95 x1)]) (fun σ2 r2 => if r2 = 0 then (rec tM_alike_80 β σ2 [x0, x1]) else (rec tM_alike_76 β σ2 [x0, x1]))) else none))) else none) else none) else none
def kZ_alike_76 (rec : zF) (β : Nat) (σ : zS) (x0 x1 : Int) : Option zR := rec tM_alike_81 β σ [x0, x1, 1]
def kZ_alike_80 (rec : zF) (β : Nat) (σ : zS) (x0 x1 : Int) : Option zR := rec tM_alike_81 β σ [x0, x1, 0]
def kZ_alike_81 (rec : zF) (β : Nat) (σ : zS) (x0 x1 x2 : Int) : Option zR := if x2 = 0 ∨ x2 = 1 then (some (σ, x2)) else none
def kZ_number (rec : zF) (β : Nat) (σ : zS) (x0 : Int) : Option zR := if zb x0 420000 then (if 0 ≤ (σ.2.1 43 x0) then (rec tM_number_87 β σ [x0, (σ.2.1 44 x0)]) else (rec tM_number_11 β σ [x0, 0])) else none
def kZ_number_11 (rec : zF) (β : Nat) (σ : zS) (x0 x1 : Int) : Option zR := if (σ.1 101) ≤ x1 then (rec tM_number_40 β σ [x0, x1]) else (if zb x1 400 then (if zb x0 420000 then (if (σ.2.1 100 x1) = (σ.2.1 43 x0) then (rec tM_number_40 β σ [x0, x1]) else (if zr (x1 + 1) then (rec tM_number_11 β σ [x0, (x1 + 1)]) else none)) else none) else none)
def kZ_number_40 (rec : zF) (β : Nat) (σ : zS) (x0 x1 : Int) : Option zR := if x1 = (σ.1 101) then (if zr ((σ.1 101) + 1) then (lt_ (zI σ 101 ((σ.1 101) + 1)) (fun σ1 => if zb x0 420000 then (if zb (σ.1 101) 400 then (lt_ (zA σ1 100 (σ.1 101) (σ1.2.1 43 x0)) (fun σ2 => rec tM_number_70 β σ2 [x0, x1])) else none) else none)) else none) else (rec tM_number_70 β σ [x0, x1])
def kZ_number_70 (rec : zF) (β : Nat) (σ : zS) (x0 x1 : Int) : Option zR := if zb x0 420000 then (if zr ((-1) - x1) then (lt_ (zA σ 43 x0 ((-1) - x1)) (fun σ1 => some (σ1, 0))) else none) else none
def kZ_number_87 (rec : zF) (β : Nat) (σ : zS) (x0 x1 : Int) : Option zR := if x1 < 0 then (some (σ, 0)) else (if 1 ≤ β then (zbd (rec tM_number (β - 1) σ [x1]) (fun σ1 r1 => if zb x1 420000 then (rec tM_number_87 β σ1 [x0, (σ1.2.1 45 x1)]) else none)) else none)
def kZ_tautology (rec : zF) (β : Nat) (σ : zS) : Option zR := rec tM_tautology_2 β σ [0]
def kZ_tautology_2 (rec : zF) (β : Nat) (σ : zS) (x0 : Int) : Option zR := if (σ.1 98) ≤ x0 then (some (σ, 0)) else (if zb x0 40 then (if (σ.2.1 97 x0) = 0 then (rec tM_tautology_79 β σ [x0]) else (if 1 ≤ β then (zbd (rec tM_same (β - 1) σ [(σ.2.1 95 x0), (σ.2.1 96 x0)]) (fun σ1 r1 => if r1 = 0 then (rec tM_tautology_45 β σ1 [x0, 0]) else (some (σ1, 1)))) else none)) else none)
def kZ_tautology_45 (rec : zF) (β : Nat) (σ : zS) (x0 x1 : Int) : Option zR := if (σ.1 98) ≤ x1 then (rec tM_tautology_79 β σ [x0]) else (if zb x1 40 then (if (σ.2.1 97 x1) = 0 then (if 1 ≤ β then (zbd (rec tM_alike (β - 1) σ [x0, x1]) (fun σ1 r1 => if r1 = 0 then (rec tM_tautology_73 β σ1 [x0, x1]) else (some (σ1, 1)))) else none) else (rec tM_tautology_73 β σ [x0, x1])) else none)
def kZ_tautology_73 (rec : zF) (β : Nat) (σ : zS) (x0 x1 : Int) : Option zR := if zr (x1 + 1) then (rec tM_tautology_45 β σ [x0, (x1 + 1)]) else none
def kZ_tautology_79 (rec : zF) (β : Nat) (σ : zS) (x0 : Int) : Option zR := if zr (x0 + 1) then (rec tM_tautology_2 β σ [(x0 + 1)]) else none
def kZ_keep (rec : zF) (β : Nat) (σ : zS) (x0 x1 x2 : Int) : Option zR := if (σ.1 84) = 2000 then (lt_ (zI σ 87 3) (fun σ12 => some (σ12, 0))) else (if zb (σ.1 84) 2001 then (lt_ (zA σ 73 (σ.1 84) (σ.1 72)) (fun σ1 => lt_ (zA σ1 74 (σ.1 84) (σ1.1 98)) (fun σ2 => lt_ (zA σ2 77 (σ.1 84) x0) (fun σ3 => lt_ (zA σ3 78 (σ.1 84) x1) (fun σ4 => lt_ (zA σ4 79 (σ.1 84) x2) (fun σ5 => lt_ (zA σ5 80 (σ.1 84) 0) (fun σ6 => lt_ (zA σ6 81 (σ.1 84) (σ6.1 86)) (fun σ7 => lt_ (zA σ7 82 (σ.1 84) 0) (fun σ8 => lt_ (zA σ8 76 (σ.1 84) (σ8.1 101)) (fun σ9 => lt_ (zA σ9 75 (σ.1 84) 0) (fun σ10 => lt_ (zI σ10 47 (σ10.1 105)) (fun σ11 => rec tM_keep_126 β σ11 [x0, x1, x2, (σ.1 84), 0])))))))))))) else none)
def kZ_keep_126 (rec : zF) (β : Nat) (σ : zS) (x0 x1 x2 x3 x4 : Int) : Option zR := if (σ.1 98) ≤ x4 then (lt_ (zI σ 105 (σ.1 47)) (fun σ1 => if zr ((σ1.1 84) + 1) then (lt_ (zI σ1 84 ((σ1.1 84) + 1)) (fun σ2 => if 1 ≤ β then (zbd (rec tM_looked (β - 1) σ2 [x3]) (fun σ3 r3 => some (σ3, 1))) else none)) else none)) else (if zb x4 40 then (if 1 ≤ β then (zbd (rec tM_copy (β - 1) σ [(σ.2.1 95 x4)]) (fun σ4 r4 => if zb (σ.1 72) 16100 then (lt_ (zA σ4 66 (σ.1 72) r4) (fun σ5 => if 1 ≤ β then (zbd (rec tM_copy (β - 1) σ5 [(σ5.2.1 96 x4)]) (fun σ6 r6 => if zb (σ5.1 72) 16100 then (lt_ (zA σ6 67 (σ5.1 72) r6) (fun σ7 => if zb (σ7.1 72) 16100 then (if (σ7.2.1 97 x4) = 0 ∨ (σ7.2.1 97 x4) = 1 then (lt_ (zA σ7 68 (σ7.1 72) (σ7.2.1 97 x4)) (fun σ8 => if zb (σ8.2.1 95 x4) 420000 then (if zb (σ8.2.1 96 x4) 420000 then (if zb (σ8.1 72) 16100 then (if zr ((σ8.2.1 46 (σ8.2.1 95 x4)) + (σ8.2.1 46 (σ8.2.1 96 x4))) then (lt_ (zA σ8 70 (σ8.1 72) ((σ8.2.1 46 (σ8.2.1 95 x4)) + (σ8.2.1 46 (σ8.2.1 96 x4)))) (fun σ9 => if zb x3 2001 then (if zr ((σ9.1 72) + 1) then (lt_ (zI σ9 72 ((σ9.1 72) + 1)) (fun σ10 => if zb (σ9.1 72) 16100 then (if zr ((σ9.2.1 75 x3) + (σ10.2.1 70 (σ9.1 72))) then (lt_ (zA σ10 75 x3 ((σ9.2.1 75 x3) + (σ10.2.1 70 (σ9.1 72)))) (fun σ11 => if zr (x4 + 1) then (rec tM_keep_126 β σ11 [x0, x1, x2, x3, (x4 + 1)]) else none)) else none) else none)) else none) else none)) else none) else none) else none) else none)) else none) else none)) else none)) else none)) else none)) else none) else none)
def kZ_looked (rec : zF) (β : Nat) (σ : zS) (x0 : Int) : Option zR := if zb x0 2001 then (if zr ((σ.2.1 73 x0) + (σ.2.1 74 x0)) then (rec tM_looked_22 β σ [x0, (σ.2.1 73 x0), ((σ.2.1 73 x0) + (σ.2.1 74 x0)), (-1), (σ.2.1 73 x0)]) else none) else none
def kZ_looked_22 (rec : zF) (β : Nat) (σ : zS) (x0 x1 x2 x3 x4 : Int) : Option zR := if x2 ≤ x4 then (rec tM_looked_131 β σ [x0, x1, x2, x3, x1]) else (if zb x4 16100 then (if 1 ≤ β then (zbd (rec tM_greater (β - 1) σ [(σ.2.1 66 x4), (σ.2.1 67 x4)]) (fun σ1 r1 => if r1 = 0 then (if 1 ≤ β then (zbd (rec tM_greater (β - 1) σ1 [(σ1.2.1 67 x4), (σ1.2.1 66 x4)]) (fun σ2 r2 => if r2 = 0 then (rec tM_looked_85 β σ2 [x0, x1, x2, x3, x4, 0, x4]) else (rec tM_looked_85 β σ2 [x0, x1, x2, x3, x4, 2, x4]))) else none) else (rec tM_looked_85 β σ1 [x0, x1, x2, x3, x4, 1, x4]))) else none) else none)
def kZ_looked_85 (rec : zF) (β : Nat) (σ : zS) (x0 x1 x2 x3 x4 x5 x6 : Int) : Option zR := if zb x6 16100 then (lt_ (zA σ 69 x6 x5) (fun σ1 => if zb x4 16100 then (if (σ1.2.1 68 x4) = 0 then (if x3 < 0 then (rec tM_looked_118 β σ1 [x0, x1, x2, x3, x4]) else (if zb x3 16100 then (if (σ1.2.1 70 x4) ≤ (σ1.2.1 70 x3) then (rec tM_looked_122 β σ1 [x0, x1, x2, x3, x4]) else (rec tM_looked_118 β σ1 [x0, x1, x2, x3, x4])) else none)) else (rec tM_looked_122 β σ1 [x0, x1, x2, x3, x4])) else none)) else none
def kZ_looked_118 (rec : zF) (β : Nat) (σ : zS) (x0 x1 x2 x3 x4 : Int) : Option zR := rec tM_looked_122 β σ [x0, x1, x2, x4, x4]
def kZ_looked_122 (rec : zF) (β : Nat) (σ : zS) (x0 x1 x2 x3 x4 : Int) : Option zR := if zr (x4 + 1) then (rec tM_looked_22 β σ [x0, x1, x2, x3, (x4 + 1)]) else none
def kZ_looked_131 (rec : zF) (β : Nat) (σ : zS) (x0 x1 x2 x3 x4 : Int) : Option zR := if x2 ≤ x4 then (some (σ, 0)) else (if x3 < 0 then (rec tM_looked_155 β σ [x0, x1, x2, x3, x4, x4]) else (if x3 = x4 then (rec tM_looked_155 β σ [x0, x1, x2, x3, x4, x4]) else (rec tM_looked_160 β σ [x0, x1, x2, x3, x4, 0, x4])))
def kZ_looked_155 (rec : zF) (β : Nat) (σ : zS) (x0 x1 x2 x3 x4 x5 : Int) : Option zR := rec tM_looked_160 β σ [x0, x1, x2, x3, x4, 1, x5]
def kZ_looked_160 (rec : zF) (β : Nat) (σ : zS) (x0 x1 x2 x3 x4 x5 x6 : Int) : Option zR := if zb x6 16100 then (if x5 = 0 ∨ x5 = 1 then (lt_ (zA σ 71 x6 x5) (fun σ1 => rec tM_looked_164 β σ1 [x0, x1, x2, x3, x4, x1])) else none) else none
def kZ_looked_164 (rec : zF) (β : Nat) (σ : zS) (x0 x1 x2 x3 x4 x5 : Int) : Option zR := if x2 ≤ x5 then (rec tM_looked_207 β σ [x0, x1, x2, x3, x4, x5]) else (if 0 ≤ x3 then (rec tM_looked_207 β σ [x0, x1, x2, x3, x4, x5]) else (if x5 = x4 then (rec tM_looked_201 β σ [x0, x1, x2, x3, x4, x5]) else (if 1 ≤ β then (zbd (rec tM_greaterLiteral (β - 1) σ [x5, x4]) (fun σ1 r1 => if r1 = 0 then (rec tM_looked_201 β σ1 [x0, x1, x2, x3, x4, x5]) else (if zb x4 16100 then (lt_ (zA σ1 71 x4 0) (fun σ2 => rec tM_looked_201 β σ2 [x0, x1, x2, x3, x4, x5])) else none))) else none)))
def kZ_looked_201 (rec : zF) (β : Nat) (σ : zS) (x0 x1 x2 x3 x4 x5 : Int) : Option zR := if zr (x5 + 1) then (rec tM_looked_164 β σ [x0, x1, x2, x3, x4, (x5 + 1)]) else none
def kZ_looked_207 (rec : zF) (β : Nat) (σ : zS) (x0 x1 x2 x3 x4 x5 : Int) : Option zR := if zr (x4 + 1) then (rec tM_looked_131 β σ [x0, x1, x2, x3, (x4 + 1)]) else none
def kZ_greater (rec : zF) (β : Nat) (σ : zS) (x0 x1 : Int) : Option zR := if zb x0 420000 then (if 0 ≤ (σ.2.1 43 x0) then (lt_ (zFl σ 102 0 8) (fun σ1 => if 1 ≤ β then (zbd (rec tM_times (β - 1) σ1 [x0, 1]) (fun σ2 r2 => if 1 ≤ β then (zbd (rec tM_times (β - 1) σ2 [x1, (-1)]) (fun σ3 r3 => rec tM_greater_33 β σ3 [x0, x1, 0])) else none)) else none)) else (some (σ, 0))) else none
def kZ_greater_33 (rec : zF) (β : Nat) (σ : zS) (x0 x1 x2 : Int) : Option zR := if 8 ≤ x2 then (if 1 ≤ β then (zbd (rec tM_above (β - 1) σ [x0, x1]) (fun σ1 r1 => if r1 = 0 ∨ r1 = 1 then (some (σ1, r1)) else none)) else none) else (if zb x2 8 then (if 0 ≤ (σ.2.1 102 x2) then (if zr (x2 + 1) then (rec tM_greater_33 β σ [x0, x1, (x2 + 1)]) else none) else (some (σ, 0))) else none)
def kZ_times (rec : zF) (β : Nat) (σ : zS) (x0 x1 : Int) : Option zR := if zb x0 420000 then (if 0 ≤ (σ.2.1 43 x0) then (rec tM_times_34 β σ [x0, x1, (σ.2.1 44 x0)]) else (if zr ((-1) - (σ.2.1 43 x0)) then (if zb ((-1) - (σ.2.1 43 x0)) 8 then (if zr ((σ.2.1 102 ((-1) - (σ.2.1 43 x0))) + x1) then (lt_ (zA σ 102 ((-1) - (σ.2.1 43 x0)) ((σ.2.1 102 ((-1) - (σ.2.1 43 x0))) + x1)) (fun σ1 => some (σ1, 0))) else none) else none) else none)) else none
def kZ_times_34 (rec : zF) (β : Nat) (σ : zS) (x0 x1 x2 : Int) : Option zR := if x2 < 0 then (some (σ, 0)) else (if 1 ≤ β then (zbd (rec tM_times (β - 1) σ [x2, x1]) (fun σ1 r1 => if zb x2 420000 then (rec tM_times_34 β σ1 [x0, x1, (σ1.2.1 45 x2)]) else none)) else none)
def kZ_above (rec : zF) (β : Nat) (σ : zS) (x0 x1 : Int) : Option zR := if zb x0 420000 then (if zb x1 420000 then (if (σ.2.1 46 x0) = (σ.2.1 46 x1) then (if 0 ≤ (σ.2.1 43 x1) then (if (σ.2.1 43 x0) = (σ.2.1 43 x1) then (rec tM_above_98 β σ [x0, x1, (σ.2.1 44 x1), (σ.2.1 44 x0)]) else (if (σ.2.1 43 x0) ≤ (σ.2.1 43 x1) then (rec tM_above_82 β σ [x0, x1, 0]) else (rec tM_above_82 β σ [x0, x1, 1]))) else (some (σ, 0))) else (if (σ.2.1 46 x0) ≤ (σ.2.1 46 x1) then (rec tM_above_35 β σ [x0, x1, 0]) else (rec tM_above_35 β σ [x0, x1, 1]))) else none) else none
def kZ_above_35 (rec : zF) (β : Nat) (σ : zS) (x0 x1 x2 : Int) : Option zR := if x2 = 0 ∨ x2 = 1 then (some (σ, x2)) else none
def kZ_above_82 (rec : zF) (β : Nat) (σ : zS) (x0 x1 x2 : Int) : Option zR := if x2 = 0 ∨ x2 = 1 then (some (σ, x2)) else none
def kZ_above_98 (rec : zF) (β : Nat) (σ : zS) (x0 x1 x2 x3 : Int) : Option zR := if x3 < 0 then (some (σ, 0)) else (if 1 ≤ β then (zbd (rec tM_same (β - 1) σ [x3, x2]) (fun σ1 r1 => if r1 = 0 then (if 1 ≤ β then (zbd (rec tM_greater (β - 1) σ1 [x3, x2]) (fun σ2 r2 => if r2 = 0 ∨ r2 = 1 then (some (σ2, r2)) else none)) else none) else (if zb x2 420000 then (if zb x3 420000 then (rec tM_above_98 β σ1 [x0, x1, (σ1.2.1 45 x2), (σ1.2.1 45 x3)]) else none) else none))) else none)
def kZ_greaterLiteral (rec : zF) (β : Nat) (σ : zS) (x0 x1 : Int) : Option zR := if 1 ≤ β then (zbd (rec tM_sides_many (β - 1) σ [x0]) (fun σ1 r1 => if 1 ≤ β then (zbd (rec tM_sides_others (β - 1) σ1 [x1]) (fun σ2 r2 => rec tM_greaterLiteral_24 β σ2 [x0, x1, r1, r2, 0])) else none)) else none
def kZ_greaterLiteral_24 (rec : zF) (β : Nat) (σ : zS) (x0 x1 x2 x3 x4 : Int) : Option zR := if x2 ≤ x4 then (rec tM_greaterLiteral_118 β σ [x0, x1, x2, x3, 0, 0]) else (rec tM_greaterLiteral_33 β σ [x0, x1, x2, x3, x4, 0])
def kZ_greaterLiteral_33 (rec : zF) (β : Nat) (σ : zS) (x0 x1 x2 x3 x4 x5 : Int) : Option zR := if x3 ≤ x5 then (if zr (x4 + 1) then (rec tM_greaterLiteral_24 β σ [x0, x1, x2, x3, (x4 + 1)]) else none) else (if zb x4 4 then (if (σ.2.1 103 x4) < 0 then (rec tM_greaterLiteral_100 β σ [x0, x1, x2, x3, x4, x5]) else (if zb x5 4 then (if (σ.2.1 104 x5) < 0 then (rec tM_greaterLiteral_100 β σ [x0, x1, x2, x3, x4, x5]) else (if 1 ≤ β then (zbd (rec tM_same (β - 1) σ [(σ.2.1 103 x4), (σ.2.1 104 x5)]) (fun σ1 r1 => if r1 = 0 then (rec tM_greaterLiteral_100 β σ1 [x0, x1, x2, x3, x4, x5]) else (lt_ (zA σ1 103 x4 (-1)) (fun σ2 => lt_ (zA σ2 104 x5 (-1)) (fun σ3 => rec tM_greaterLiteral_100 β σ3 [x0, x1, x2, x3, x4, x5]))))) else none)) else none)) else none)
def kZ_greaterLiteral_100 (rec : zF) (β : Nat) (σ : zS) (x0 x1 x2 x3 x4 x5 : Int) : Option zR := if zr (x5 + 1) then (rec tM_greaterLiteral_33 β σ [x0, x1, x2, x3, x4, (x5 + 1)]) else none
def kZ_greaterLiteral_118 (rec : zF) (β : Nat) (σ : zS) (x0 x1 x2 x3 x4 x5 : Int) : Option zR := if x2 ≤ x5 then (if x4 = 0 then (some (σ, 0)) else (rec tM_greaterLiteral_162 β σ [x0, x1, x2, x3, x4, 0])) else (if x4 = 0 then (if zb x5 4 then (if (σ.2.1 103 x5) < 0 then (rec tM_greaterLiteral_144 β σ [x0, x1, x2, x3, x4, x5, 0]) else (rec tM_greaterLiteral_139 β σ [x0, x1, x2, x3, x4, x5])) else none) else (rec tM_greaterLiteral_139 β σ [x0, x1, x2, x3, x4, x5]))
def kZ_greaterLiteral_139 (rec : zF) (β : Nat) (σ : zS) (x0 x1 x2 x3 x4 x5 : Int) : Option zR := rec tM_greaterLiteral_144 β σ [x0, x1, x2, x3, x4, x5, 1]
def kZ_greaterLiteral_144 (rec : zF) (β : Nat) (σ : zS) (x0 x1 x2 x3 x4 x5 x6 : Int) : Option zR := if zr (x5 + 1) then (rec tM_greaterLiteral_118 β σ [x0, x1, x2, x3, x6, (x5 + 1)]) else none
def kZ_greaterLiteral_162 (rec : zF) (β : Nat) (σ : zS) (x0 x1 x2 x3 x4 x5 : Int) : Option zR := if x3 ≤ x5 then (some (σ, 1)) else (if zb x5 4 then (if 0 ≤ (σ.2.1 104 x5) then (rec tM_greaterLiteral_188 β σ [x0, x1, x2, x3, x4, x5, 0, 0]) else (rec tM_greaterLiteral_250 β σ [x0, x1, x2, x3, x4, x5])) else none)
def kZ_greaterLiteral_188 (rec : zF) (β : Nat) (σ : zS) (x0 x1 x2 x3 x4 x5 x6 x7 : Int) : Option zR := if x2 ≤ x7 then (if x6 = 0 then (some (σ, 0)) else (rec tM_greaterLiteral_250 β σ [x0, x1, x2, x3, x4, x5])) else (if x6 = 0 then (if zb x7 4 then (if (σ.2.1 103 x7) < 0 then (rec tM_greaterLiteral_234 β σ [x0, x1, x2, x3, x4, x5, x6, x7]) else (if zb x5 4 then (if 1 ≤ β then (zbd (rec tM_greater (β - 1) σ [(σ.2.1 103 x7), (σ.2.1 104 x5)]) (fun σ1 r1 => if r1 = 0 then (rec tM_greaterLiteral_234 β σ1 [x0, x1, x2, x3, x4, x5, x6, x7]) else (rec tM_greaterLiteral_230 β σ1 [x0, x1, x2, x3, x4, x5, x6, x7]))) else none) else none)) else none) else (rec tM_greaterLiteral_230 β σ [x0, x1, x2, x3, x4, x5, x6, x7]))
def kZ_greaterLiteral_230 (rec : zF) (β : Nat) (σ : zS) (x0 x1 x2 x3 x4 x5 x6 x7 : Int) : Option zR := rec tM_greaterLiteral_235 β σ [x0, x1, x2, x3, x4, x5, x6, x7, 1]
def kZ_greaterLiteral_234 (rec : zF) (β : Nat) (σ : zS) (x0 x1 x2 x3 x4 x5 x6 x7 : Int) : Option zR := rec tM_greaterLiteral_235 β σ [x0, x1, x2, x3, x4, x5, x6, x7, 0]
def kZ_greaterLiteral_235 (rec : zF) (β : Nat) (σ : zS) (x0 x1 x2 x3 x4 x5 x6 x7 x8 : Int) : Option zR := if zr (x7 + 1) then (rec tM_greaterLiteral_188 β σ [x0, x1, x2, x3, x4, x5, x8, (x7 + 1)]) else none
def kZ_greaterLiteral_250 (rec : zF) (β : Nat) (σ : zS) (x0 x1 x2 x3 x4 x5 : Int) : Option zR := if zr (x5 + 1) then (rec tM_greaterLiteral_162 β σ [x0, x1, x2, x3, x4, (x5 + 1)]) else none
def kZ_fault (rec : zF) (β : Nat) (σ : zS) (x0 : Int) : Option zR := lt_ (zI σ 4 0) (fun σ1 => if x0 = 0 then (rec tM_fault_29 β σ1 [x0, (σ1.1 5)]) else (if x0 = 1 then (rec tM_fault_29 β σ1 [x0, (σ1.1 6)]) else (rec tM_fault_29 β σ1 [x0, (-1)])))
def kZ_fault_29 (rec : zF) (β : Nat) (σ : zS) (x0 x1 : Int) : Option zR := some (σ, x1)
def kZ_run (rec : zF) (β : Nat) (σ : zS) (x0 : Int) : Option zR := lt_ (zI σ 4 0) (fun σ1 => if x0 < 1 then (rec tM_run_18 β σ1 [x0, 1]) else (if x0 ≤ 100 then (rec tM_run_23 β σ1 [x0, 0, 1]) else (rec tM_run_18 β σ1 [x0, 1])))
def kZ_run_18 (rec : zF) (β : Nat) (σ : zS) (x0 x1 : Int) : Option zR := rec tM_run_23 β σ [x0, 1, x1]
def kZ_run_23 (rec : zF) (β : Nat) (σ : zS) (x0 x1 x2 : Int) : Option zR := if 1 ≤ β then (zbd (rec tM_refuse (β - 1) σ [x2, x1]) (fun σ1 r1 => if r1 = 0 then (rec tM_run_33 β σ1 [x0, 0]) else (some (σ1, 0)))) else none
def kZ_run_33 (rec : zF) (β : Nat) (σ : zS) (x0 x1 : Int) : Option zR := if x0 ≤ x1 then (rec tM_run_55 β σ [x0, x1]) else (if (σ.1 87) = 0 then (if 1 ≤ β then (zbd (rec tM_step1 (β - 1) σ []) (fun σ1 r1 => if zr (x1 + 1) then (rec tM_run_33 β σ1 [x0, (x1 + 1)]) else none)) else none) else (rec tM_run_55 β σ [x0, x1]))
def kZ_run_55 (rec : zF) (β : Nat) (σ : zS) (x0 x1 : Int) : Option zR := some (σ, (σ.1 87))
def kZ_step1 (rec : zF) (β : Nat) (σ : zS) : Option zR := if 1 ≤ β then (zbd (rec tM_given (β - 1) σ []) (fun σ1 r1 => if 0 ≤ r1 then (lt_ (zI σ1 89 (zwa (σ1.1 89) 1)) (fun σ2 => if zb r1 2001 then (lt_ (zA σ2 80 r1 2) (fun σ3 => if (σ3.2.1 74 r1) = 0 then (if 1 ≤ β then (zbd (rec tM_refuted (β - 1) σ3 [r1]) (fun σ13 r13 => some (σ13, 0))) else none) else (if 1 ≤ β then (zbd (rec tM_rewrite (β - 1) σ3 [r1]) (fun σ4 r4 => if r4 ≤ 0 then (rec tM_step1_192 β σ4 [r1, r4]) else (lt_ (zI σ4 93 (zwa (σ4.1 93) r4)) (fun σ5 => if 1 ≤ β then (zbd (rec tM_reduce (β - 1) σ5 []) (fun σ6 r6 => if 1 ≤ β then (zbd (rec tM_tautology (β - 1) σ6 []) (fun σ7 r7 => if r7 = 0 then (if 1 ≤ β then (zbd (rec tM_keep (β - 1) σ7 [4, r1, (-1)]) (fun σ8 r8 => if r8 = 0 then (some (σ8, 0)) else (if zr ((σ8.1 84) - 1) then (if zb ((σ8.1 84) - 1) 2001 then (lt_ (zA σ8 80 ((σ8.1 84) - 1) 2) (fun σ9 => lt_ (zA σ9 81 ((σ8.1 84) - 1) (σ9.1 86)) (fun σ10 => lt_ (zA σ10 82 ((σ8.1 84) - 1) (σ10.1 120)) (fun σ11 => rec tM_step1_139 β σ11 [((σ8.1 84) - 1), r4, r1, 0])))) else none) else none))) else none) else (lt_ (zI σ7 94 (zwa (σ7.1 94) 1)) (fun σ12 => some (σ12, 0))))) else none)) else none)))) else none))) else none)) else (lt_ (zI σ1 87 2) (fun σ14 => some (σ14, 0))))) else none
def kZ_step1_139 (rec : zF) (β : Nat) (σ : zS) (x0 x1 x2 x3 : Int) : Option zR := if (σ.1 120) ≤ x3 then (if zb x0 2001 then (if (σ.2.1 74 x0) = 0 then (if 1 ≤ β then (zbd (rec tM_refuted (β - 1) σ [x0]) (fun σ1 r1 => some (σ1, 0))) else none) else (rec tM_step1_192 β σ [x0, x1])) else none) else (if zr ((σ.1 86) + 1) then (lt_ (zI σ 86 ((σ.1 86) + 1)) (fun σ2 => if zb x3 60 then (if zb (σ.1 86) 130000 then (lt_ (zA σ2 83 (σ.1 86) (σ2.2.1 119 x3)) (fun σ3 => if zr (x3 + 1) then (rec tM_step1_139 β σ3 [x0, x1, x2, (x3 + 1)]) else none)) else none) else none)) else none)
def kZ_step1_192 (rec : zF) (β : Nat) (σ : zS) (x0 x1 : Int) : Option zR := rec tM_step1_194 β σ [x0, x1, 0]
def kZ_step1_194 (rec : zF) (β : Nat) (σ : zS) (x0 x1 x2 : Int) : Option zR := if (σ.1 84) ≤ x2 then (if 1 ≤ β then (zbd (rec tM_settle (β - 1) σ [x0]) (fun σ1 r1 => some (σ1, 0))) else none) else (if zb x2 2001 then (if (σ.2.1 80 x2) = 1 then (if 1 ≤ β then (zbd (rec tM_subsumes (β - 1) σ [x2, x0]) (fun σ2 r2 => if r2 = 0 then (rec tM_step1_235 β σ2 [x0, x1, x2]) else (lt_ (zI σ2 92 (zwa (σ2.1 92) 1)) (fun σ3 => some (σ3, 0))))) else none) else (rec tM_step1_235 β σ [x0, x1, x2])) else none)
def kZ_step1_235 (rec : zF) (β : Nat) (σ : zS) (x0 x1 x2 : Int) : Option zR := if zr (x2 + 1) then (rec tM_step1_194 β σ [x0, x1, (x2 + 1)]) else none
def kZ_given (rec : zF) (β : Nat) (σ : zS) : Option zR := if (Int.tmod (zwa (σ.1 89) 1) 5) = 0 then (rec tM_given_18 β σ [(-1), 1]) else (rec tM_given_18 β σ [(-1), 0])
def kZ_given_18 (rec : zF) (β : Nat) (σ : zS) (x0 x1 : Int) : Option zR := rec tM_given_21 β σ [x0, x1, 0]
def kZ_given_21 (rec : zF) (β : Nat) (σ : zS) (x0 x1 x2 : Int) : Option zR := if (σ.1 84) ≤ x2 then (some (σ, x0)) else (if zb x2 2001 then (if (σ.2.1 80 x2) = 0 then (if x0 < 0 then (rec tM_given_64 β σ [x0, x1, x2]) else (if x1 = 0 then (if zb x0 2001 then (if (σ.2.1 75 x0) ≤ (σ.2.1 75 x2) then (rec tM_given_66 β σ [x0, x1, x2]) else (rec tM_given_64 β σ [x0, x1, x2])) else none) else (rec tM_given_66 β σ [x0, x1, x2]))) else (rec tM_given_66 β σ [x0, x1, x2])) else none)
def kZ_given_64 (rec : zF) (β : Nat) (σ : zS) (x0 x1 x2 : Int) : Option zR := rec tM_given_66 β σ [x2, x1, x2]
def kZ_given_66 (rec : zF) (β : Nat) (σ : zS) (x0 x1 x2 : Int) : Option zR := if zr (x2 + 1) then (rec tM_given_21 β σ [x0, x1, (x2 + 1)]) else none
def kZ_refuted (rec : zF) (β : Nat) (σ : zS) (x0 : Int) : Option zR := lt_ (zI σ 87 1) (fun σ1 => lt_ (zI σ1 88 x0) (fun σ2 => some (σ2, 0)))
def kZ_rewrite (rec : zF) (β : Nat) (σ : zS) (x0 : Int) : Option zR := lt_ (zI σ 47 205000) (fun σ1 => lt_ (zI σ1 98 0) (fun σ2 => lt_ (zI σ2 120 0) (fun σ3 => if zb x0 2001 then (rec tM_rewrite_24 β σ3 [x0, (σ3.2.1 73 x0)]) else none)))
def kZ_rewrite_24 (rec : zF) (β : Nat) (σ : zS) (x0 x1 : Int) : Option zR := if zb x0 2001 then (if zr ((σ.2.1 73 x0) + (σ.2.1 74 x0)) then (if ((σ.2.1 73 x0) + (σ.2.1 74 x0)) ≤ x1 then (rec tM_rewrite_81 β σ [x0, 0, 1]) else (if zb x1 16100 then (if 1 ≤ β then (zbd (rec tM_copy (β - 1) σ [(σ.2.1 66 x1)]) (fun σ1 r1 => if 1 ≤ β then (zbd (rec tM_copy (β - 1) σ1 [(σ1.2.1 67 x1)]) (fun σ2 r2 => if 1 ≤ β then (zbd (rec tM_add (β - 1) σ2 [r1, r2, (σ2.2.1 68 x1)]) (fun σ3 r3 => if zr (x1 + 1) then (rec tM_rewrite_24 β σ3 [x0, (x1 + 1)]) else none)) else none)) else none)) else none) else none)) else none) else none
def kZ_rewrite_81 (rec : zF) (β : Nat) (σ : zS) (x0 x1 x2 : Int) : Option zR := if x2 = 0 then (rec tM_rewrite_271 β σ [x0, x1, x2]) else (if 60 ≤ x1 then (rec tM_rewrite_271 β σ [x0, x1, x2]) else (rec tM_rewrite_96 β σ [x0, x1, 0, 0]))
def kZ_rewrite_96 (rec : zF) (β : Nat) (σ : zS) (x0 x1 x2 x3 : Int) : Option zR := if (σ.1 98) ≤ x3 then (rec tM_rewrite_186 β σ [x0, x1, x2, x3]) else (if x2 = 0 then (if zb x3 40 then (if 1 ≤ β then (zbd (rec tM_findPlace (β - 1) σ [(σ.2.1 95 x3)]) (fun σ1 r1 => if r1 = 0 then (if 1 ≤ β then (zbd (rec tM_findPlace (β - 1) σ1 [(σ1.2.1 96 x3)]) (fun σ2 r2 => if r2 = 0 then (rec tM_rewrite_180 β σ2 [x0, x1, x2, x3]) else (if 1 ≤ β then (zbd (rec tM_replacedIn (β - 1) σ2 [(σ2.2.1 96 x3)]) (fun σ3 r3 => lt_ (zA σ3 96 x3 r3) (fun σ4 => rec tM_rewrite_180 β σ4 [x0, x1, 1, x3]))) else none))) else none) else (if 1 ≤ β then (zbd (rec tM_replacedIn (β - 1) σ1 [(σ1.2.1 95 x3)]) (fun σ5 r5 => lt_ (zA σ5 95 x3 r5) (fun σ6 => rec tM_rewrite_180 β σ6 [x0, x1, 1, x3]))) else none))) else none) else none) else (rec tM_rewrite_186 β σ [x0, x1, x2, x3]))
def kZ_rewrite_180 (rec : zF) (β : Nat) (σ : zS) (x0 x1 x2 x3 : Int) : Option zR := if zr (x3 + 1) then (rec tM_rewrite_96 β σ [x0, x1, x2, (x3 + 1)]) else none
def kZ_rewrite_186 (rec : zF) (β : Nat) (σ : zS) (x0 x1 x2 x3 : Int) : Option zR := if x2 = 0 then (rec tM_rewrite_271 β σ [x0, x1, x2]) else (if zr (x1 + 1) then (rec tM_rewrite_202 β σ [x0, (x1 + 1), x2, 0, 0]) else none)
def kZ_rewrite_202 (rec : zF) (β : Nat) (σ : zS) (x0 x1 x2 x3 x4 : Int) : Option zR := if (σ.1 120) ≤ x4 then (if x3 = 0 then (if zr ((σ.1 120) + 1) then (lt_ (zI σ 120 ((σ.1 120) + 1)) (fun σ1 => if zb (σ.1 120) 60 then (lt_ (zA σ1 119 (σ.1 120) (σ1.1 118)) (fun σ2 => rec tM_rewrite_268 β σ2 [x0, x1, x2, x3, x4])) else none)) else none) else (rec tM_rewrite_268 β σ [x0, x1, x2, x3, x4])) else (if x3 = 0 then (if zb x4 60 then (if (σ.2.1 119 x4) = (σ.1 118) then (rec tM_rewrite_230 β σ [x0, x1, x2, x3, x4]) else (rec tM_rewrite_235 β σ [x0, x1, x2, x3, x4, 0])) else none) else (rec tM_rewrite_230 β σ [x0, x1, x2, x3, x4]))
def kZ_rewrite_230 (rec : zF) (β : Nat) (σ : zS) (x0 x1 x2 x3 x4 : Int) : Option zR := rec tM_rewrite_235 β σ [x0, x1, x2, x3, x4, 1]
def kZ_rewrite_235 (rec : zF) (β : Nat) (σ : zS) (x0 x1 x2 x3 x4 x5 : Int) : Option zR := if zr (x4 + 1) then (rec tM_rewrite_202 β σ [x0, x1, x2, x5, (x4 + 1)]) else none
def kZ_rewrite_268 (rec : zF) (β : Nat) (σ : zS) (x0 x1 x2 x3 x4 : Int) : Option zR := rec tM_rewrite_81 β σ [x0, x1, x2]
def kZ_rewrite_271 (rec : zF) (β : Nat) (σ : zS) (x0 x1 x2 : Int) : Option zR := some (σ, x1)
def kZ_findPlace (rec : zF) (β : Nat) (σ : zS) (x0 : Int) : Option zR := rec tM_findPlace_2 β σ [x0, 0]
def kZ_findPlace_2 (rec : zF) (β : Nat) (σ : zS) (x0 x1 : Int) : Option zR := if (σ.1 84) ≤ x1 then (if zb x0 420000 then (rec tM_findPlace_104 β σ [x0, (σ.2.1 44 x0)]) else none) else (if zb x1 2001 then (if (σ.2.1 80 x1) = 1 then (if 1 ≤ β then (zbd (rec tM_isUnit (β - 1) σ [x1]) (fun σ1 r1 => if r1 = 0 then (rec tM_findPlace_91 β σ1 [x0, x1]) else (rec tM_findPlace_33 β σ1 [x0, x1, 0]))) else none) else (rec tM_findPlace_91 β σ [x0, x1])) else none)
def kZ_findPlace_33 (rec : zF) (β : Nat) (σ : zS) (x0 x1 x2 : Int) : Option zR := if 2 ≤ x2 then (rec tM_findPlace_91 β σ [x0, x1]) else (if 1 ≤ β then (zbd (rec tM_becomes (β - 1) σ [x1, x2, x0]) (fun σ1 r1 => if 0 ≤ r1 then (lt_ (zI σ1 116 x0) (fun σ2 => lt_ (zI σ2 117 r1) (fun σ3 => lt_ (zI σ3 118 x1) (fun σ4 => some (σ4, 1))))) else (lt_ (zI σ1 47 (σ.1 47)) (fun σ5 => if zr (x2 + 1) then (rec tM_findPlace_33 β σ5 [x0, x1, (x2 + 1)]) else none)))) else none)
def kZ_findPlace_91 (rec : zF) (β : Nat) (σ : zS) (x0 x1 : Int) : Option zR := if zr (x1 + 1) then (rec tM_findPlace_2 β σ [x0, (x1 + 1)]) else none
def kZ_findPlace_104 (rec : zF) (β : Nat) (σ : zS) (x0 x1 : Int) : Option zR := if x1 < 0 then (some (σ, 0)) else (if 1 ≤ β then (zbd (rec tM_findPlace (β - 1) σ [x1]) (fun σ1 r1 => if r1 = 0 then (if zb x1 420000 then (rec tM_findPlace_104 β σ1 [x0, (σ1.2.1 45 x1)]) else none) else (some (σ1, 1)))) else none)
def kZ_isUnit (rec : zF) (β : Nat) (σ : zS) (x0 : Int) : Option zR := if zb x0 2001 then (if (σ.2.1 74 x0) = 1 then (if zb (σ.2.1 73 x0) 16100 then (if (σ.2.1 68 (σ.2.1 73 x0)) = 0 then (rec tM_isUnit_28 β σ [x0]) else (rec tM_isUnit_29 β σ [x0, 1])) else none) else (rec tM_isUnit_28 β σ [x0])) else none
def kZ_isUnit_28 (rec : zF) (β : Nat) (σ : zS) (x0 : Int) : Option zR := rec tM_isUnit_29 β σ [x0, 0]
def kZ_isUnit_29 (rec : zF) (β : Nat) (σ : zS) (x0 x1 : Int) : Option zR := if x1 = 0 ∨ x1 = 1 then (some (σ, x1)) else none
def kZ_becomes (rec : zF) (β : Nat) (σ : zS) (x0 x1 x2 : Int) : Option zR := lt_ (zFl σ 115 (-1) 6) (fun σ1 => if zb x0 2001 then (if 1 ≤ β then (zbd (rec tM_side2 (β - 1) σ1 [(σ1.2.1 73 x0), x1, 0]) (fun σ2 r2 => if 1 ≤ β then (zbd (rec tM_match (β - 1) σ2 [r2, x2]) (fun σ3 r3 => if r3 = 0 then (some (σ3, (-1))) else (if 1 ≤ β then (zbd (rec tM_side2 (β - 1) σ3 [(σ3.2.1 73 x0), x1, 1]) (fun σ4 r4 => if 1 ≤ β then (zbd (rec tM_hasAll (β - 1) σ4 [r4]) (fun σ5 r5 => if r5 = 0 then (rec tM_becomes_68 β σ5 [x0, x1, x2, r4]) else (if 1 ≤ β then (zbd (rec tM_weighMatched (β - 1) σ5 [r4]) (fun σ6 r6 => if zb x2 420000 then (if r6 ≤ (σ6.2.1 46 x2) then (if 1 ≤ β then (zbd (rec tM_withMatched (β - 1) σ6 [r4]) (fun σ7 r7 => if 1 ≤ β then (zbd (rec tM_greater (β - 1) σ7 [x2, r7]) (fun σ8 r8 => if r8 = 0 then (rec tM_becomes_94 β σ8 [x0, x1, x2, r4, r7, (-1)]) else (rec tM_becomes_94 β σ8 [x0, x1, x2, r4, r7, r7]))) else none)) else none) else (rec tM_becomes_68 β σ6 [x0, x1, x2, r4])) else none)) else none))) else none)) else none))) else none)) else none) else none)
def kZ_becomes_68 (rec : zF) (β : Nat) (σ : zS) (x0 x1 x2 x3 : Int) : Option zR := some (σ, (-1))
def kZ_becomes_94 (rec : zF) (β : Nat) (σ : zS) (x0 x1 x2 x3 x4 x5 : Int) : Option zR := some (σ, x5)
def kZ_side2 (rec : zF) (β : Nat) (σ : zS) (x0 x1 x2 : Int) : Option zR := if x1 = 0 then (rec tM_side2_9 β σ [x0, x1, x2, 1]) else (rec tM_side2_9 β σ [x0, x1, x2, 0])
def kZ_side2_9 (rec : zF) (β : Nat) (σ : zS) (x0 x1 x2 x3 : Int) : Option zR := if x3 = x2 then (if zb x0 16100 then (rec tM_side2_28 β σ [x0, x1, x2, (σ.2.1 67 x0)]) else none) else (if zb x0 16100 then (rec tM_side2_28 β σ [x0, x1, x2, (σ.2.1 66 x0)]) else none)
def kZ_side2_28 (rec : zF) (β : Nat) (σ : zS) (x0 x1 x2 x3 : Int) : Option zR := some (σ, x3)
def kZ_match (rec : zF) (β : Nat) (σ : zS) (x0 x1 : Int) : Option zR := if zb x0 420000 then (if 0 ≤ (σ.2.1 43 x0) then (if zb x1 420000 then (if (σ.2.1 43 x0) = (σ.2.1 43 x1) then (rec tM_match_90 β σ [x0, x1, (σ.2.1 44 x1), (σ.2.1 44 x0)]) else (some (σ, 0))) else none) else (if zr ((-1) - (σ.2.1 43 x0)) then (if zb ((-1) - (σ.2.1 43 x0)) 6 then (if (σ.2.1 115 ((-1) - (σ.2.1 43 x0))) < 0 then (if 1 ≤ β then (zbd (rec tM_isPredicate (β - 1) σ [x1]) (fun σ1 r1 => if r1 = 0 then (lt_ (zA σ1 115 ((-1) - (σ.2.1 43 x0)) x1) (fun σ2 => some (σ2, 1))) else (some (σ1, 0)))) else none) else (if 1 ≤ β then (zbd (rec tM_same (β - 1) σ [(σ.2.1 115 ((-1) - (σ.2.1 43 x0))), x1]) (fun σ3 r3 => if r3 = 0 ∨ r3 = 1 then (some (σ3, r3)) else none)) else none)) else none) else none)) else none
def kZ_match_90 (rec : zF) (β : Nat) (σ : zS) (x0 x1 x2 x3 : Int) : Option zR := if x3 < 0 then (some (σ, 1)) else (if 1 ≤ β then (zbd (rec tM_match (β - 1) σ [x3, x2]) (fun σ1 r1 => if r1 = 0 then (some (σ1, 0)) else (if zb x2 420000 then (if zb x3 420000 then (rec tM_match_90 β σ1 [x0, x1, (σ1.2.1 45 x2), (σ1.2.1 45 x3)]) else none) else none))) else none)
def kZ_isPredicate (rec : zF) (β : Nat) (σ : zS) (x0 : Int) : Option zR := if zb x0 420000 then (if (σ.2.1 43 x0) < 0 then (rec tM_isPredicate_27 β σ [x0]) else (if zb (σ.2.1 43 x0) 900 then (if (σ.2.1 49 (σ.2.1 43 x0)) = 0 then (rec tM_isPredicate_27 β σ [x0]) else (rec tM_isPredicate_28 β σ [x0, 1])) else none)) else none
def kZ_isPredicate_27 (rec : zF) (β : Nat) (σ : zS) (x0 : Int) : Option zR := rec tM_isPredicate_28 β σ [x0, 0]
def kZ_isPredicate_28 (rec : zF) (β : Nat) (σ : zS) (x0 x1 : Int) : Option zR := if x1 = 0 ∨ x1 = 1 then (some (σ, x1)) else none
def kZ_hasAll (rec : zF) (β : Nat) (σ : zS) (x0 : Int) : Option zR := if zb x0 420000 then (if 0 ≤ (σ.2.1 43 x0) then (rec tM_hasAll_38 β σ [x0, (σ.2.1 44 x0)]) else (if zr ((-1) - (σ.2.1 43 x0)) then (if zb ((-1) - (σ.2.1 43 x0)) 6 then (if (σ.2.1 115 ((-1) - (σ.2.1 43 x0))) < 0 then (rec tM_hasAll_30 β σ [x0, 0]) else (rec tM_hasAll_30 β σ [x0, 1])) else none) else none)) else none
def kZ_hasAll_30 (rec : zF) (β : Nat) (σ : zS) (x0 x1 : Int) : Option zR := if x1 = 0 ∨ x1 = 1 then (some (σ, x1)) else none
def kZ_hasAll_38 (rec : zF) (β : Nat) (σ : zS) (x0 x1 : Int) : Option zR := if x1 < 0 then (some (σ, 1)) else (if 1 ≤ β then (zbd (rec tM_hasAll (β - 1) σ [x1]) (fun σ1 r1 => if r1 = 0 then (some (σ1, 0)) else (if zb x1 420000 then (rec tM_hasAll_38 β σ1 [x0, (σ1.2.1 45 x1)]) else none))) else none)
def kZ_weighMatched (rec : zF) (β : Nat) (σ : zS) (x0 : Int) : Option zR := if zb x0 420000 then (if 0 ≤ (σ.2.1 43 x0) then (rec tM_weighMatched_37 β σ [x0, 1, (σ.2.1 44 x0)]) else (if zr ((-1) - (σ.2.1 43 x0)) then (if zb ((-1) - (σ.2.1 43 x0)) 6 then (if zb (σ.2.1 115 ((-1) - (σ.2.1 43 x0))) 420000 then (some (σ, (σ.2.1 46 (σ.2.1 115 ((-1) - (σ.2.1 43 x0)))))) else none) else none) else none)) else none
def kZ_weighMatched_37 (rec : zF) (β : Nat) (σ : zS) (x0 x1 x2 : Int) : Option zR := if x2 < 0 then (some (σ, x1)) else (if 1 ≤ β then (zbd (rec tM_weighMatched (β - 1) σ [x2]) (fun σ1 r1 => if zb x2 420000 then (if zr (x1 + r1) then (rec tM_weighMatched_37 β σ1 [x0, (x1 + r1), (σ1.2.1 45 x2)]) else none) else none)) else none)
def kZ_withMatched (rec : zF) (β : Nat) (σ : zS) (x0 : Int) : Option zR := if zb x0 420000 then (if 0 ≤ (σ.2.1 43 x0) then (if 1 ≤ β then (zbd (rec tM_fresh (β - 1) σ [(σ.2.1 43 x0)]) (fun σ1 r1 => rec tM_withMatched_48 β σ1 [x0, r1, (-1), (σ1.2.1 44 x0)])) else none) else (if zr ((-1) - (σ.2.1 43 x0)) then (if zb ((-1) - (σ.2.1 43 x0)) 6 then (if 1 ≤ β then (zbd (rec tM_copy (β - 1) σ [(σ.2.1 115 ((-1) - (σ.2.1 43 x0)))]) (fun σ2 r2 => some (σ2, r2))) else none) else none) else none)) else none
def kZ_withMatched_48 (rec : zF) (β : Nat) (σ : zS) (x0 x1 x2 x3 : Int) : Option zR := if x3 < 0 then (some (σ, x1)) else (if 1 ≤ β then (zbd (rec tM_withMatched (β - 1) σ [x3]) (fun σ1 r1 => if 0 ≤ x2 then (if zb x2 420000 then (lt_ (zA σ1 45 x2 r1) (fun σ2 => rec tM_withMatched_84 β σ2 [x0, x1, x2, x3, r1])) else none) else (if zb x1 420000 then (lt_ (zA σ1 44 x1 r1) (fun σ3 => rec tM_withMatched_84 β σ3 [x0, x1, x2, x3, r1])) else none))) else none)
def kZ_withMatched_84 (rec : zF) (β : Nat) (σ : zS) (x0 x1 x2 x3 x4 : Int) : Option zR := if zb x1 420000 then (if zb x4 420000 then (if zr ((σ.2.1 46 x1) + (σ.2.1 46 x4)) then (lt_ (zA σ 46 x1 ((σ.2.1 46 x1) + (σ.2.1 46 x4))) (fun σ1 => if zb x3 420000 then (rec tM_withMatched_48 β σ1 [x0, x1, x4, (σ1.2.1 45 x3)]) else none)) else none) else none) else none
def kZ_replacedIn (rec : zF) (β : Nat) (σ : zS) (x0 : Int) : Option zR := if x0 = (σ.1 116) then (if 1 ≤ β then (zbd (rec tM_copy (β - 1) σ [(σ.1 117)]) (fun σ2 r2 => some (σ2, r2))) else none) else (if zb x0 420000 then (if 1 ≤ β then (zbd (rec tM_fresh (β - 1) σ [(σ.2.1 43 x0)]) (fun σ1 r1 => rec tM_replacedIn_38 β σ1 [x0, r1, (-1), (σ1.2.1 44 x0)])) else none) else none)
def kZ_replacedIn_38 (rec : zF) (β : Nat) (σ : zS) (x0 x1 x2 x3 : Int) : Option zR := if x3 < 0 then (some (σ, x1)) else (if 1 ≤ β then (zbd (rec tM_replacedIn (β - 1) σ [x3]) (fun σ1 r1 => if 0 ≤ x2 then (if zb x2 420000 then (lt_ (zA σ1 45 x2 r1) (fun σ2 => rec tM_replacedIn_74 β σ2 [x0, x1, x2, x3, r1])) else none) else (if zb x1 420000 then (lt_ (zA σ1 44 x1 r1) (fun σ3 => rec tM_replacedIn_74 β σ3 [x0, x1, x2, x3, r1])) else none))) else none)
def kZ_replacedIn_74 (rec : zF) (β : Nat) (σ : zS) (x0 x1 x2 x3 x4 : Int) : Option zR := if zb x1 420000 then (if zb x4 420000 then (if zr ((σ.2.1 46 x1) + (σ.2.1 46 x4)) then (lt_ (zA σ 46 x1 ((σ.2.1 46 x1) + (σ.2.1 46 x4))) (fun σ1 => if zb x3 420000 then (rec tM_replacedIn_38 β σ1 [x0, x1, x4, (σ1.2.1 45 x3)]) else none)) else none) else none) else none
def kZ_subsumes (rec : zF) (β : Nat) (σ : zS) (x0 x1 : Int) : Option zR := if zb x0 2001 then (if zb x1 2001 then (if (σ.2.1 74 x0) ≤ (σ.2.1 74 x1) then (lt_ (zFl σ 115 (-1) 6) (fun σ1 => if 1 ≤ β then (zbd (rec tM_covers (β - 1) σ1 [x0, x1, 0]) (fun σ2 r2 => if r2 = 0 ∨ r2 = 1 then (some (σ2, r2)) else none)) else none)) else (some (σ, 0))) else none) else none
def kZ_covers (rec : zF) (β : Nat) (σ : zS) (x0 x1 x2 : Int) : Option zR := if zb x0 2001 then (if x2 = (σ.2.1 74 x0) then (some (σ, 1)) else (if zb x2 9 then (if zcp 0 0 6 6 6 then (lt_ (zCp σ 115 (1000 + Int.toNat x2) 0 0 6) (fun σ1 => if zb x1 2001 then (if zr ((σ.2.1 73 x0) + x2) then (rec tM_covers_47 β σ1 [x0, x1, x2, ((σ.2.1 73 x0) + x2), (σ1.2.1 73 x1)]) else none) else none)) else none) else none)) else none
def kZ_covers_47 (rec : zF) (β : Nat) (σ : zS) (x0 x1 x2 x3 x4 : Int) : Option zR := if zb x1 2001 then (if zr ((σ.2.1 73 x1) + (σ.2.1 74 x1)) then (if ((σ.2.1 73 x1) + (σ.2.1 74 x1)) ≤ x4 then (some (σ, 0)) else (if zb x4 16100 then (if zb x3 16100 then (if (σ.2.1 68 x4) = (σ.2.1 68 x3) then (rec tM_covers_88 β σ [x0, x1, x2, x3, x4, 0]) else (rec tM_covers_203 β σ [x0, x1, x2, x3, x4])) else none) else none)) else none) else none
def kZ_covers_88 (rec : zF) (β : Nat) (σ : zS) (x0 x1 x2 x3 x4 x5 : Int) : Option zR := if 2 ≤ x5 then (rec tM_covers_203 β σ [x0, x1, x2, x3, x4]) else (if zb x2 9 then (if zcp 0 0 6 6 6 then (lt_ (zCp σ (1000 + Int.toNat x2) 115 0 0 6) (fun σ1 => if zb x3 16100 then (if x5 = 0 then (if zb x4 16100 then (rec tM_covers_141 β σ1 [x0, x1, x2, x3, x4, x5, (σ1.2.1 66 x4), (σ1.2.1 66 x3)]) else none) else (if zb x4 16100 then (rec tM_covers_141 β σ1 [x0, x1, x2, x3, x4, x5, (σ1.2.1 67 x4), (σ1.2.1 66 x3)]) else none)) else none)) else none) else none)
def kZ_covers_141 (rec : zF) (β : Nat) (σ : zS) (x0 x1 x2 x3 x4 x5 x6 x7 : Int) : Option zR := if 1 ≤ β then (zbd (rec tM_match (β - 1) σ [x7, x6]) (fun σ1 r1 => if r1 = 0 then (rec tM_covers_197 β σ1 [x0, x1, x2, x3, x4, x5]) else (if zb x3 16100 then (if x5 = 0 then (if zb x4 16100 then (rec tM_covers_177 β σ1 [x0, x1, x2, x3, x4, x5, (σ1.2.1 67 x4), (σ1.2.1 67 x3)]) else none) else (if zb x4 16100 then (rec tM_covers_177 β σ1 [x0, x1, x2, x3, x4, x5, (σ1.2.1 66 x4), (σ1.2.1 67 x3)]) else none)) else none))) else none
def kZ_covers_177 (rec : zF) (β : Nat) (σ : zS) (x0 x1 x2 x3 x4 x5 x6 x7 : Int) : Option zR := if 1 ≤ β then (zbd (rec tM_match (β - 1) σ [x7, x6]) (fun σ1 r1 => if r1 = 0 then (rec tM_covers_197 β σ1 [x0, x1, x2, x3, x4, x5]) else (if zr (x2 + 1) then (if 1 ≤ β then (zbd (rec tM_covers (β - 1) σ1 [x0, x1, (x2 + 1)]) (fun σ2 r2 => if r2 = 0 then (rec tM_covers_197 β σ2 [x0, x1, x2, x3, x4, x5]) else (some (σ2, 1)))) else none) else none))) else none
def kZ_covers_197 (rec : zF) (β : Nat) (σ : zS) (x0 x1 x2 x3 x4 x5 : Int) : Option zR := if zr (x5 + 1) then (rec tM_covers_88 β σ [x0, x1, x2, x3, x4, (x5 + 1)]) else none
def kZ_covers_203 (rec : zF) (β : Nat) (σ : zS) (x0 x1 x2 x3 x4 : Int) : Option zR := if zr (x4 + 1) then (rec tM_covers_47 β σ [x0, x1, x2, x3, (x4 + 1)]) else none
def kZ_settle (rec : zF) (β : Nat) (σ : zS) (x0 : Int) : Option zR := rec tM_settle_2 β σ [x0, 0]
def kZ_settle_2 (rec : zF) (β : Nat) (σ : zS) (x0 x1 : Int) : Option zR := if (σ.1 84) ≤ x1 then (rec tM_settle_57 β σ [x0, 0]) else (if zb x1 2001 then (if (σ.2.1 80 x1) = 1 then (if 1 ≤ β then (zbd (rec tM_subsumes (β - 1) σ [x0, x1]) (fun σ1 r1 => if r1 = 0 then (rec tM_settle_49 β σ1 [x0, x1]) else (lt_ (zI σ1 92 (zwa (σ1.1 92) 1)) (fun σ2 => lt_ (zA σ2 80 x1 2) (fun σ3 => rec tM_settle_49 β σ3 [x0, x1]))))) else none) else (rec tM_settle_49 β σ [x0, x1])) else none)
def kZ_settle_49 (rec : zF) (β : Nat) (σ : zS) (x0 x1 : Int) : Option zR := if zr (x1 + 1) then (rec tM_settle_2 β σ [x0, (x1 + 1)]) else none
def kZ_settle_57 (rec : zF) (β : Nat) (σ : zS) (x0 x1 : Int) : Option zR := if (σ.1 84) ≤ x1 then (rec tM_settle_105 β σ [x0, x1]) else (if 1 ≤ β then (zbd (rec tM_isUnit (β - 1) σ [x0]) (fun σ1 r1 => if r1 = 0 then (rec tM_settle_105 β σ1 [x0, x1]) else (if zb x1 2001 then (if (σ1.2.1 80 x1) = 1 then (if 1 ≤ β then (zbd (rec tM_couldRewrite (β - 1) σ1 [x0, x1]) (fun σ2 r2 => if r2 = 0 then (rec tM_settle_99 β σ2 [x0, x1]) else (lt_ (zA σ2 80 x1 0) (fun σ3 => rec tM_settle_99 β σ3 [x0, x1])))) else none) else (rec tM_settle_99 β σ1 [x0, x1])) else none))) else none)
def kZ_settle_99 (rec : zF) (β : Nat) (σ : zS) (x0 x1 : Int) : Option zR := if zr (x1 + 1) then (rec tM_settle_57 β σ [x0, (x1 + 1)]) else none
def kZ_settle_105 (rec : zF) (β : Nat) (σ : zS) (x0 x1 : Int) : Option zR := if zb x0 2001 then (lt_ (zA σ 80 x0 1) (fun σ1 => rec tM_settle_119 β σ1 [x0, (σ1.1 84), 0])) else none
def kZ_settle_119 (rec : zF) (β : Nat) (σ : zS) (x0 x1 x2 : Int) : Option zR := if x1 ≤ x2 then (rec tM_settle_174 β σ [x0, x1, x2]) else (if (σ.1 87) = 0 then (if zb x2 2001 then (if (σ.2.1 80 x2) = 1 then (if 1 ≤ β then (zbd (rec tM_superpose (β - 1) σ [x2, x0]) (fun σ1 r1 => if x2 = x0 then (rec tM_settle_168 β σ1 [x0, x1, x2]) else (if (σ1.1 87) = 0 then (if 1 ≤ β then (zbd (rec tM_superpose (β - 1) σ1 [x0, x2]) (fun σ2 r2 => rec tM_settle_168 β σ2 [x0, x1, x2])) else none) else (rec tM_settle_168 β σ1 [x0, x1, x2])))) else none) else (rec tM_settle_168 β σ [x0, x1, x2])) else none) else (rec tM_settle_174 β σ [x0, x1, x2]))
def kZ_settle_168 (rec : zF) (β : Nat) (σ : zS) (x0 x1 x2 : Int) : Option zR := if zr (x2 + 1) then (rec tM_settle_119 β σ [x0, x1, (x2 + 1)]) else none
def kZ_settle_174 (rec : zF) (β : Nat) (σ : zS) (x0 x1 x2 : Int) : Option zR := if (σ.1 87) = 0 then (if 1 ≤ β then (zbd (rec tM_resolve (β - 1) σ [x0]) (fun σ1 r1 => rec tM_settle_186 β σ1 [x0, x1, x2])) else none) else (rec tM_settle_186 β σ [x0, x1, x2])
def kZ_settle_186 (rec : zF) (β : Nat) (σ : zS) (x0 x1 x2 : Int) : Option zR := if (σ.1 87) = 0 then (if 1 ≤ β then (zbd (rec tM_factor1 (β - 1) σ [x0]) (fun σ1 r1 => rec tM_settle_198 β σ1 [x0, x1, x2])) else none) else (rec tM_settle_198 β σ [x0, x1, x2])
def kZ_settle_198 (rec : zF) (β : Nat) (σ : zS) (x0 x1 x2 : Int) : Option zR := some (σ, 0)
def kZ_couldRewrite (rec : zF) (β : Nat) (σ : zS) (x0 x1 : Int) : Option zR := if zb x1 2001 then (rec tM_couldRewrite_7 β σ [x0, x1, (σ.2.1 73 x1)]) else none
def kZ_couldRewrite_7 (rec : zF) (β : Nat) (σ : zS) (x0 x1 x2 : Int) : Option zR := if zb x1 2001 then (if zr ((σ.2.1 73 x1) + (σ.2.1 74 x1)) then (if ((σ.2.1 73 x1) + (σ.2.1 74 x1)) ≤ x2 then (some (σ, 0)) else (if zb x2 16100 then (if 1 ≤ β then (zbd (rec tM_could (β - 1) σ [x0, (σ.2.1 66 x2)]) (fun σ1 r1 => if r1 = 0 then (if 1 ≤ β then (zbd (rec tM_could (β - 1) σ1 [x0, (σ1.2.1 67 x2)]) (fun σ2 r2 => if r2 = 0 then (if zr (x2 + 1) then (rec tM_couldRewrite_7 β σ2 [x0, x1, (x2 + 1)]) else none) else (rec tM_couldRewrite_52 β σ2 [x0, x1, x2]))) else none) else (rec tM_couldRewrite_52 β σ1 [x0, x1, x2]))) else none) else none)) else none) else none
def kZ_couldRewrite_52 (rec : zF) (β : Nat) (σ : zS) (x0 x1 x2 : Int) : Option zR := some (σ, 1)
def kZ_could (rec : zF) (β : Nat) (σ : zS) (x0 x1 : Int) : Option zR := rec tM_could_2 β σ [x0, x1, 0]
def kZ_could_2 (rec : zF) (β : Nat) (σ : zS) (x0 x1 x2 : Int) : Option zR := if 2 ≤ x2 then (if zb x1 420000 then (rec tM_could_39 β σ [x0, x1, (σ.2.1 44 x1)]) else none) else (lt_ (zI σ 47 205000) (fun σ1 => if 1 ≤ β then (zbd (rec tM_becomes (β - 1) σ1 [x0, x2, x1]) (fun σ2 r2 => if r2 < 0 then (if zr (x2 + 1) then (rec tM_could_2 β σ2 [x0, x1, (x2 + 1)]) else none) else (some (σ2, 1)))) else none))
def kZ_could_39 (rec : zF) (β : Nat) (σ : zS) (x0 x1 x2 : Int) : Option zR := if x2 < 0 then (some (σ, 0)) else (if 1 ≤ β then (zbd (rec tM_could (β - 1) σ [x0, x2]) (fun σ1 r1 => if r1 = 0 then (if zb x2 420000 then (rec tM_could_39 β σ1 [x0, x1, (σ1.2.1 45 x2)]) else none) else (some (σ1, 1)))) else none)
def kZ_superpose (rec : zF) (β : Nat) (σ : zS) (x0 x1 : Int) : Option zR := if zb x0 2001 then (rec tM_superpose_7 β σ [x0, x1, (σ.2.1 73 x0)]) else none
def kZ_superpose_7 (rec : zF) (β : Nat) (σ : zS) (x0 x1 x2 : Int) : Option zR := if zb x0 2001 then (if zr ((σ.2.1 73 x0) + (σ.2.1 74 x0)) then (if ((σ.2.1 73 x0) + (σ.2.1 74 x0)) ≤ x2 then (some (σ, 0)) else (if zb x2 16100 then (if (σ.2.1 68 x2) = 0 then (rec tM_superpose_171 β σ [x0, x1, x2]) else (if (σ.2.1 71 x2) = 0 then (rec tM_superpose_171 β σ [x0, x1, x2]) else (rec tM_superpose_48 β σ [x0, x1, x2, 0]))) else none)) else none) else none
def kZ_superpose_48 (rec : zF) (β : Nat) (σ : zS) (x0 x1 x2 x3 : Int) : Option zR := if 2 ≤ x3 then (rec tM_superpose_171 β σ [x0, x1, x2]) else (if 1 ≤ β then (zbd (rec tM_usable (β - 1) σ [x2, x3]) (fun σ1 r1 => if r1 = 0 then (rec tM_superpose_165 β σ1 [x0, x1, x2, x3]) else (if zb x1 2001 then (rec tM_superpose_75 β σ1 [x0, x1, x2, x3, (σ1.2.1 73 x1)]) else none))) else none)
def kZ_superpose_75 (rec : zF) (β : Nat) (σ : zS) (x0 x1 x2 x3 x4 : Int) : Option zR := if zb x1 2001 then (if zr ((σ.2.1 73 x1) + (σ.2.1 74 x1)) then (if ((σ.2.1 73 x1) + (σ.2.1 74 x1)) ≤ x4 then (rec tM_superpose_165 β σ [x0, x1, x2, x3]) else (if zb x4 16100 then (if (σ.2.1 71 x4) = 0 then (rec tM_superpose_159 β σ [x0, x1, x2, x3, x4]) else (rec tM_superpose_109 β σ [x0, x1, x2, x3, x4, 0])) else none)) else none) else none
def kZ_superpose_109 (rec : zF) (β : Nat) (σ : zS) (x0 x1 x2 x3 x4 x5 : Int) : Option zR := if 2 ≤ x5 then (rec tM_superpose_159 β σ [x0, x1, x2, x3, x4]) else (if (σ.1 87) = 0 then (if 1 ≤ β then (zbd (rec tM_usable (β - 1) σ [x4, x5]) (fun σ1 r1 => if r1 = 0 then (rec tM_superpose_153 β σ1 [x0, x1, x2, x3, x4, x5]) else (if 1 ≤ β then (zbd (rec tM_side2 (β - 1) σ1 [x4, x5, 0]) (fun σ2 r2 => if 1 ≤ β then (zbd (rec tM_into (β - 1) σ2 [x0, x1, x2, x3, x4, r2]) (fun σ3 r3 => rec tM_superpose_153 β σ3 [x0, x1, x2, x3, x4, x5])) else none)) else none))) else none) else (rec tM_superpose_159 β σ [x0, x1, x2, x3, x4]))
def kZ_superpose_153 (rec : zF) (β : Nat) (σ : zS) (x0 x1 x2 x3 x4 x5 : Int) : Option zR := if zr (x5 + 1) then (rec tM_superpose_109 β σ [x0, x1, x2, x3, x4, (x5 + 1)]) else none
def kZ_superpose_159 (rec : zF) (β : Nat) (σ : zS) (x0 x1 x2 x3 x4 : Int) : Option zR := if zr (x4 + 1) then (rec tM_superpose_75 β σ [x0, x1, x2, x3, (x4 + 1)]) else none
def kZ_superpose_165 (rec : zF) (β : Nat) (σ : zS) (x0 x1 x2 x3 : Int) : Option zR := if zr (x3 + 1) then (rec tM_superpose_48 β σ [x0, x1, x2, (x3 + 1)]) else none
def kZ_superpose_171 (rec : zF) (β : Nat) (σ : zS) (x0 x1 x2 : Int) : Option zR := if zr (x2 + 1) then (rec tM_superpose_7 β σ [x0, x1, (x2 + 1)]) else none
def kZ_usable (rec : zF) (β : Nat) (σ : zS) (x0 x1 : Int) : Option zR := if zb x0 16100 then (if zr (2 - x1) then (if (σ.2.1 69 x0) = (2 - x1) then (rec tM_usable_17 β σ [x0, x1, 0]) else (rec tM_usable_17 β σ [x0, x1, 1])) else none) else none
def kZ_usable_17 (rec : zF) (β : Nat) (σ : zS) (x0 x1 x2 : Int) : Option zR := if x2 = 0 ∨ x2 = 1 then (some (σ, x2)) else none
def kZ_into (rec : zF) (β : Nat) (σ : zS) (x0 x1 x2 x3 x4 x5 : Int) : Option zR := if zb x5 420000 then (if (σ.2.1 43 x5) < 0 then (rec tM_into_17 β σ [x0, x1, x2, x3, x4, x5]) else (if (σ.1 87) = 0 then (if 1 ≤ β then (zbd (rec tM_unbind (β - 1) σ []) (fun σ1 r1 => if 1 ≤ β then (zbd (rec tM_side2 (β - 1) σ1 [x2, x3, 0]) (fun σ2 r2 => if 1 ≤ β then (zbd (rec tM_unify (β - 1) σ2 [r2, 0, x5, 6]) (fun σ3 r3 => if r3 = 0 then (rec tM_into_88 β σ3 [x0, x1, x2, x3, x4, x5]) else (if 1 ≤ β then (zbd (rec tM_begin (β - 1) σ3 []) (fun σ4 r4 => if 1 ≤ β then (zbd (rec tM_planOthers (β - 1) σ4 [x0, 0, x2, (-1)]) (fun σ5 r5 => if 1 ≤ β then (zbd (rec tM_planOthers (β - 1) σ5 [x1, 6, (-1), (-1)]) (fun σ6 r6 => lt_ (zI σ6 113 x5) (fun σ7 => if 1 ≤ β then (zbd (rec tM_side2 (β - 1) σ7 [x2, x3, 1]) (fun σ8 r8 => lt_ (zI σ8 114 r8) (fun σ9 => if 1 ≤ β then (zbd (rec tM_conclude (β - 1) σ9 [1, x0, x1]) (fun σ10 r10 => rec tM_into_88 β σ10 [x0, x1, x2, x3, x4, x5])) else none))) else none))) else none)) else none)) else none))) else none)) else none)) else none) else (rec tM_into_17 β σ [x0, x1, x2, x3, x4, x5]))) else none
def kZ_into_17 (rec : zF) (β : Nat) (σ : zS) (x0 x1 x2 x3 x4 x5 : Int) : Option zR := some (σ, 0)
def kZ_into_88 (rec : zF) (β : Nat) (σ : zS) (x0 x1 x2 x3 x4 x5 : Int) : Option zR := if zb x5 420000 then (rec tM_into_97 β σ [x0, x1, x2, x3, x4, x5, (σ.2.1 44 x5)]) else none
def kZ_into_97 (rec : zF) (β : Nat) (σ : zS) (x0 x1 x2 x3 x4 x5 x6 : Int) : Option zR := if x6 < 0 then (some (σ, 0)) else (if 1 ≤ β then (zbd (rec tM_into (β - 1) σ [x0, x1, x2, x3, x4, x6]) (fun σ1 r1 => if zb x6 420000 then (rec tM_into_97 β σ1 [x0, x1, x2, x3, x4, x5, (σ1.2.1 45 x6)]) else none)) else none)
def kZ_unbind (rec : zF) (β : Nat) (σ : zS) : Option zR := lt_ (zFl σ 106 (-1) 12) (fun σ1 => some (σ1, 0))
def kZ_unify (rec : zF) (β : Nat) (σ : zS) (x0 x1 x2 x3 : Int) : Option zR := rec tM_unify_6 β σ [x0, x1, x2, x3, x0, x1]
def kZ_unify_6 (rec : zF) (β : Nat) (σ : zS) (x0 x1 x2 x3 x4 x5 : Int) : Option zR := if zb x4 420000 then (if 0 ≤ (σ.2.1 43 x4) then (rec tM_unify_71 β σ [x0, x1, x2, x3, x4, x5]) else (if zr ((-1) - (σ.2.1 43 x4)) then (if zr (((-1) - (σ.2.1 43 x4)) + x5) then (if zb (((-1) - (σ.2.1 43 x4)) + x5) 12 then (if (σ.2.1 106 (((-1) - (σ.2.1 43 x4)) + x5)) < 0 then (rec tM_unify_71 β σ [x0, x1, x2, x3, x4, x5]) else (rec tM_unify_6 β σ [x0, x1, x2, x3, (σ.2.1 106 (((-1) - (σ.2.1 43 x4)) + x5)), (σ.2.1 107 (((-1) - (σ.2.1 43 x4)) + x5))])) else none) else none) else none)) else none
def kZ_unify_71 (rec : zF) (β : Nat) (σ : zS) (x0 x1 x2 x3 x4 x5 : Int) : Option zR := rec tM_unify_78 β σ [x0, x1, x2, x3, x4, x5, x2, x3]
def kZ_unify_78 (rec : zF) (β : Nat) (σ : zS) (x0 x1 x2 x3 x4 x5 x6 x7 : Int) : Option zR := if zb x6 420000 then (if 0 ≤ (σ.2.1 43 x6) then (rec tM_unify_143 β σ [x0, x1, x2, x3, x4, x5, x6, x7]) else (if zr ((-1) - (σ.2.1 43 x6)) then (if zr (((-1) - (σ.2.1 43 x6)) + x7) then (if zb (((-1) - (σ.2.1 43 x6)) + x7) 12 then (if (σ.2.1 106 (((-1) - (σ.2.1 43 x6)) + x7)) < 0 then (rec tM_unify_143 β σ [x0, x1, x2, x3, x4, x5, x6, x7]) else (rec tM_unify_78 β σ [x0, x1, x2, x3, x4, x5, (σ.2.1 106 (((-1) - (σ.2.1 43 x6)) + x7)), (σ.2.1 107 (((-1) - (σ.2.1 43 x6)) + x7))])) else none) else none) else none)) else none
def kZ_unify_143 (rec : zF) (β : Nat) (σ : zS) (x0 x1 x2 x3 x4 x5 x6 x7 : Int) : Option zR := if zb x4 420000 then (if 0 ≤ (σ.2.1 43 x4) then (rec tM_unify_189 β σ [x0, x1, x2, x3, x4, x5, x6, x7]) else (if zb x6 420000 then (if 0 ≤ (σ.2.1 43 x6) then (rec tM_unify_189 β σ [x0, x1, x2, x3, x4, x5, x6, x7]) else (if (σ.2.1 43 x4) = (σ.2.1 43 x6) then (if x5 = x7 then (some (σ, 1)) else (rec tM_unify_189 β σ [x0, x1, x2, x3, x4, x5, x6, x7])) else (rec tM_unify_189 β σ [x0, x1, x2, x3, x4, x5, x6, x7]))) else none)) else none
def kZ_unify_189 (rec : zF) (β : Nat) (σ : zS) (x0 x1 x2 x3 x4 x5 x6 x7 : Int) : Option zR := if zb x4 420000 then (if 0 ≤ (σ.2.1 43 x4) then (if zb x6 420000 then (if 0 ≤ (σ.2.1 43 x6) then (if (σ.2.1 43 x4) = (σ.2.1 43 x6) then (rec tM_unify_288 β σ [x0, x1, x2, x3, x4, x5, x6, x7, (σ.2.1 44 x6), (σ.2.1 44 x4)]) else (some (σ, 0))) else (if zr ((-1) - (σ.2.1 43 x6)) then (if zr (((-1) - (σ.2.1 43 x6)) + x7) then (if 1 ≤ β then (zbd (rec tM_bind1 (β - 1) σ [(((-1) - (σ.2.1 43 x6)) + x7), x4, x5]) (fun σ1 r1 => if r1 = 0 ∨ r1 = 1 then (some (σ1, r1)) else none)) else none) else none) else none)) else none) else (if zr ((-1) - (σ.2.1 43 x4)) then (if zr (((-1) - (σ.2.1 43 x4)) + x5) then (if 1 ≤ β then (zbd (rec tM_bind1 (β - 1) σ [(((-1) - (σ.2.1 43 x4)) + x5), x6, x7]) (fun σ2 r2 => if r2 = 0 ∨ r2 = 1 then (some (σ2, r2)) else none)) else none) else none) else none)) else none
def kZ_unify_288 (rec : zF) (β : Nat) (σ : zS) (x0 x1 x2 x3 x4 x5 x6 x7 x8 x9 : Int) : Option zR := if x9 < 0 then (some (σ, 1)) else (if 1 ≤ β then (zbd (rec tM_unify (β - 1) σ [x9, x5, x8, x7]) (fun σ1 r1 => if r1 = 0 then (some (σ1, 0)) else (if zb x8 420000 then (if zb x9 420000 then (rec tM_unify_288 β σ1 [x0, x1, x2, x3, x4, x5, x6, x7, (σ1.2.1 45 x8), (σ1.2.1 45 x9)]) else none) else none))) else none)
def kZ_bind1 (rec : zF) (β : Nat) (σ : zS) (x0 x1 x2 : Int) : Option zR := if 1 ≤ β then (zbd (rec tM_isPredicate (β - 1) σ [x1]) (fun σ1 r1 => if r1 = 0 then (if 1 ≤ β then (zbd (rec tM_occurs (β - 1) σ1 [x0, x1, x2]) (fun σ2 r2 => if r2 = 0 then (if zb x0 12 then (lt_ (zA σ2 106 x0 x1) (fun σ3 => lt_ (zA σ3 107 x0 x2) (fun σ4 => some (σ4, 1)))) else none) else (rec tM_bind1_18 β σ2 [x0, x1, x2]))) else none) else (rec tM_bind1_18 β σ1 [x0, x1, x2]))) else none
def kZ_bind1_18 (rec : zF) (β : Nat) (σ : zS) (x0 x1 x2 : Int) : Option zR := some (σ, 0)
def kZ_occurs (rec : zF) (β : Nat) (σ : zS) (x0 x1 x2 : Int) : Option zR := if zb x1 420000 then (if 0 ≤ (σ.2.1 43 x1) then (rec tM_occurs_75 β σ [x0, x1, x2, (σ.2.1 44 x1)]) else (if zr ((-1) - (σ.2.1 43 x1)) then (if zr (((-1) - (σ.2.1 43 x1)) + x2) then (if (((-1) - (σ.2.1 43 x1)) + x2) = x0 then (some (σ, 1)) else (if zb (((-1) - (σ.2.1 43 x1)) + x2) 12 then (if (σ.2.1 106 (((-1) - (σ.2.1 43 x1)) + x2)) < 0 then (rec tM_occurs_65 β σ [x0, x1, x2, (((-1) - (σ.2.1 43 x1)) + x2)]) else (if 1 ≤ β then (zbd (rec tM_occurs (β - 1) σ [x0, (σ.2.1 106 (((-1) - (σ.2.1 43 x1)) + x2)), (σ.2.1 107 (((-1) - (σ.2.1 43 x1)) + x2))]) (fun σ1 r1 => if r1 = 0 then (rec tM_occurs_65 β σ1 [x0, x1, x2, (((-1) - (σ.2.1 43 x1)) + x2)]) else (rec tM_occurs_66 β σ1 [x0, x1, x2, (((-1) - (σ.2.1 43 x1)) + x2), 1]))) else none)) else none)) else none) else none)) else none
def kZ_occurs_65 (rec : zF) (β : Nat) (σ : zS) (x0 x1 x2 x3 : Int) : Option zR := rec tM_occurs_66 β σ [x0, x1, x2, x3, 0]
def kZ_occurs_66 (rec : zF) (β : Nat) (σ : zS) (x0 x1 x2 x3 x4 : Int) : Option zR := if x4 = 0 ∨ x4 = 1 then (some (σ, x4)) else none
def kZ_occurs_75 (rec : zF) (β : Nat) (σ : zS) (x0 x1 x2 x3 : Int) : Option zR := if x3 < 0 then (some (σ, 0)) else (if 1 ≤ β then (zbd (rec tM_occurs (β - 1) σ [x0, x3, x2]) (fun σ1 r1 => if r1 = 0 then (if zb x3 420000 then (rec tM_occurs_75 β σ1 [x0, x1, x2, (σ1.2.1 45 x3)]) else none) else (some (σ1, 1)))) else none)
def kZ_begin (rec : zF) (β : Nat) (σ : zS) : Option zR := lt_ (zI σ 112 0) (fun σ1 => lt_ (zI σ1 113 (-1)) (fun σ2 => some (σ2, 0)))
def kZ_planOthers (rec : zF) (β : Nat) (σ : zS) (x0 x1 x2 x3 : Int) : Option zR := if zb x0 2001 then (rec tM_planOthers_8 β σ [x0, x1, x2, x3, (σ.2.1 73 x0)]) else none
def kZ_planOthers_8 (rec : zF) (β : Nat) (σ : zS) (x0 x1 x2 x3 x4 : Int) : Option zR := if zb x0 2001 then (if zr ((σ.2.1 73 x0) + (σ.2.1 74 x0)) then (if ((σ.2.1 73 x0) + (σ.2.1 74 x0)) ≤ x4 then (some (σ, 0)) else (if x4 = x2 then (rec tM_planOthers_65 β σ [x0, x1, x2, x3, x4]) else (if x4 = x3 then (rec tM_planOthers_65 β σ [x0, x1, x2, x3, x4]) else (if zb x4 16100 then (if 1 ≤ β then (zbd (rec tM_plan (β - 1) σ [(σ.2.1 66 x4), (σ.2.1 67 x4), x1, (σ.2.1 68 x4)]) (fun σ1 r1 => rec tM_planOthers_65 β σ1 [x0, x1, x2, x3, x4])) else none) else none)))) else none) else none
def kZ_planOthers_65 (rec : zF) (β : Nat) (σ : zS) (x0 x1 x2 x3 x4 : Int) : Option zR := if zr (x4 + 1) then (rec tM_planOthers_8 β σ [x0, x1, x2, x3, (x4 + 1)]) else none
def kZ_plan (rec : zF) (β : Nat) (σ : zS) (x0 x1 x2 x3 : Int) : Option zR := if zb (σ.1 112) 20 then (lt_ (zA σ 108 (σ.1 112) x0) (fun σ1 => if zb (σ1.1 112) 20 then (lt_ (zA σ1 109 (σ1.1 112) x1) (fun σ2 => if zb (σ2.1 112) 20 then (lt_ (zA σ2 110 (σ2.1 112) x2) (fun σ3 => if zr ((σ3.1 112) + 1) then (lt_ (zI σ3 112 ((σ3.1 112) + 1)) (fun σ4 => if zb (σ3.1 112) 20 then (if x3 = 0 ∨ x3 = 1 then (lt_ (zA σ4 111 (σ3.1 112) x3) (fun σ5 => some (σ5, 0))) else none) else none)) else none)) else none)) else none)) else none
def kZ_conclude (rec : zF) (β : Nat) (σ : zS) (x0 x1 x2 : Int) : Option zR := lt_ (zI σ 90 (zwa (σ.1 90) 1)) (fun σ1 => if (σ1.1 112) ≤ 8 then (rec tM_conclude_36 β σ1 [x0, x1, x2, 0, 0]) else (lt_ (zI σ1 91 (zwa (σ1.1 91) 1)) (fun σ2 => some (σ2, 0))))
def kZ_conclude_36 (rec : zF) (β : Nat) (σ : zS) (x0 x1 x2 x3 x4 : Int) : Option zR := if (σ.1 112) ≤ x4 then (if x3 ≤ 100 then (lt_ (zI σ 47 205000) (fun σ1 => lt_ (zI σ1 98 0) (fun σ2 => rec tM_conclude_148 β σ2 [x0, x1, x2, x3, 0]))) else (lt_ (zI σ 91 (zwa (σ.1 91) 1)) (fun σ3 => some (σ3, 0)))) else (if zb x4 20 then (if 1 ≤ β then (zbd (rec tM_placeIn (β - 1) σ [x4]) (fun σ4 r4 => if 1 ≤ β then (zbd (rec tM_weigh (β - 1) σ4 [(σ.2.1 108 x4), (σ.2.1 110 x4), r4, (σ4.1 114), 0]) (fun σ5 r5 => if 1 ≤ β then (zbd (rec tM_placeIn (β - 1) σ5 [x4]) (fun σ6 r6 => if 1 ≤ β then (zbd (rec tM_weigh (β - 1) σ6 [(σ5.2.1 109 x4), (σ5.2.1 110 x4), r6, (σ6.1 114), 0]) (fun σ7 r7 => if zr (r5 + r7) then (if zr (x3 + (r5 + r7)) then (if zr (x4 + 1) then (rec tM_conclude_36 β σ7 [x0, x1, x2, (x3 + (r5 + r7)), (x4 + 1)]) else none) else none) else none)) else none)) else none)) else none)) else none) else none)
def kZ_conclude_148 (rec : zF) (β : Nat) (σ : zS) (x0 x1 x2 x3 x4 : Int) : Option zR := if (σ.1 112) ≤ x4 then (if 1 ≤ β then (zbd (rec tM_distinct (β - 1) σ []) (fun σ1 r1 => if r1 ≤ 6 then (if 1 ≤ β then (zbd (rec tM_reduce (β - 1) σ1 []) (fun σ2 r2 => if 1 ≤ β then (zbd (rec tM_tautology (β - 1) σ2 []) (fun σ3 r3 => if r3 = 0 then (if 1 ≤ β then (zbd (rec tM_keep (β - 1) σ3 [x0, x1, x2]) (fun σ4 r4 => rec tM_conclude_284 β σ4 [x0, x1, x2, x3, x4])) else none) else (lt_ (zI σ3 94 (zwa (σ3.1 94) 1)) (fun σ5 => rec tM_conclude_284 β σ5 [x0, x1, x2, x3, x4])))) else none)) else none) else (lt_ (zI σ1 91 (zwa (σ1.1 91) 1)) (fun σ6 => some (σ6, 0))))) else none) else (if zb x4 20 then (if 1 ≤ β then (zbd (rec tM_placeIn (β - 1) σ [x4]) (fun σ7 r7 => if 1 ≤ β then (zbd (rec tM_with (β - 1) σ7 [(σ.2.1 108 x4), (σ.2.1 110 x4), r7, (σ7.1 114), 0]) (fun σ8 r8 => if 1 ≤ β then (zbd (rec tM_placeIn (β - 1) σ8 [x4]) (fun σ9 r9 => if 1 ≤ β then (zbd (rec tM_with (β - 1) σ9 [(σ8.2.1 109 x4), (σ8.2.1 110 x4), r9, (σ9.1 114), 0]) (fun σ10 r10 => if 1 ≤ β then (zbd (rec tM_add (β - 1) σ10 [r8, r10, (σ10.2.1 111 x4)]) (fun σ11 r11 => if zr (x4 + 1) then (rec tM_conclude_148 β σ11 [x0, x1, x2, x3, (x4 + 1)]) else none)) else none)) else none)) else none)) else none)) else none) else none)
def kZ_conclude_284 (rec : zF) (β : Nat) (σ : zS) (x0 x1 x2 x3 x4 : Int) : Option zR := some (σ, 0)
def kZ_placeIn (rec : zF) (β : Nat) (σ : zS) (x0 : Int) : Option zR := if zb x0 20 then (if (σ.2.1 110 x0) = 6 then (rec tM_placeIn_19 β σ [x0, (σ.1 113)]) else (rec tM_placeIn_19 β σ [x0, (-1)])) else none
def kZ_placeIn_19 (rec : zF) (β : Nat) (σ : zS) (x0 x1 : Int) : Option zR := some (σ, x1)
def kZ_weigh (rec : zF) (β : Nat) (σ : zS) (x0 x1 x2 x3 x4 : Int) : Option zR := if x0 = x2 then (if 1 ≤ β then (zbd (rec tM_weigh (β - 1) σ [x3, x4, (-1), (-1), 0]) (fun σ2 r2 => some (σ2, r2))) else none) else (if zb x0 420000 then (if 0 ≤ (σ.2.1 43 x0) then (rec tM_weigh_85 β σ [x0, x1, x2, x3, x4, 1, (σ.2.1 44 x0)]) else (if zr ((-1) - (σ.2.1 43 x0)) then (if zr (((-1) - (σ.2.1 43 x0)) + x1) then (if zb (((-1) - (σ.2.1 43 x0)) + x1) 12 then (if 0 ≤ (σ.2.1 106 (((-1) - (σ.2.1 43 x0)) + x1)) then (if 1 ≤ β then (zbd (rec tM_weigh (β - 1) σ [(σ.2.1 106 (((-1) - (σ.2.1 43 x0)) + x1)), (σ.2.1 107 (((-1) - (σ.2.1 43 x0)) + x1)), (-1), (-1), 0]) (fun σ1 r1 => rec tM_weigh_73 β σ1 [x0, x1, x2, x3, x4, (((-1) - (σ.2.1 43 x0)) + x1), r1])) else none) else (rec tM_weigh_73 β σ [x0, x1, x2, x3, x4, (((-1) - (σ.2.1 43 x0)) + x1), 1])) else none) else none) else none)) else none)
def kZ_weigh_73 (rec : zF) (β : Nat) (σ : zS) (x0 x1 x2 x3 x4 x5 x6 : Int) : Option zR := some (σ, x6)
def kZ_weigh_85 (rec : zF) (β : Nat) (σ : zS) (x0 x1 x2 x3 x4 x5 x6 : Int) : Option zR := if x6 < 0 then (rec tM_weigh_127 β σ [x0, x1, x2, x3, x4, x5, x6]) else (if 1000 ≤ x5 then (rec tM_weigh_127 β σ [x0, x1, x2, x3, x4, x5, x6]) else (if 1 ≤ β then (zbd (rec tM_weigh (β - 1) σ [x6, x1, x2, x3, x4]) (fun σ1 r1 => if zb x6 420000 then (if zr (x5 + r1) then (rec tM_weigh_85 β σ1 [x0, x1, x2, x3, x4, (x5 + r1), (σ1.2.1 45 x6)]) else none) else none)) else none))
def kZ_weigh_127 (rec : zF) (β : Nat) (σ : zS) (x0 x1 x2 x3 x4 x5 x6 : Int) : Option zR := some (σ, (if x5 < 1000 then x5 else 1000))
def kZ_with (rec : zF) (β : Nat) (σ : zS) (x0 x1 x2 x3 x4 : Int) : Option zR := if x0 = x2 then (if 1 ≤ β then (zbd (rec tM_with (β - 1) σ [x3, x4, (-1), (-1), 0]) (fun σ4 r4 => some (σ4, r4))) else none) else (if zb x0 420000 then (if 0 ≤ (σ.2.1 43 x0) then (if 1 ≤ β then (zbd (rec tM_fresh (β - 1) σ [(σ.2.1 43 x0)]) (fun σ1 r1 => rec tM_with_104 β σ1 [x0, x1, x2, x3, x4, r1, (-1), (σ1.2.1 44 x0)])) else none) else (if zr ((-1) - (σ.2.1 43 x0)) then (if zr (((-1) - (σ.2.1 43 x0)) + x1) then (if zb (((-1) - (σ.2.1 43 x0)) + x1) 12 then (if 0 ≤ (σ.2.1 106 (((-1) - (σ.2.1 43 x0)) + x1)) then (if 1 ≤ β then (zbd (rec tM_with (β - 1) σ [(σ.2.1 106 (((-1) - (σ.2.1 43 x0)) + x1)), (σ.2.1 107 (((-1) - (σ.2.1 43 x0)) + x1)), (-1), (-1), 0]) (fun σ2 r2 => rec tM_with_80 β σ2 [x0, x1, x2, x3, x4, (((-1) - (σ.2.1 43 x0)) + x1), r2])) else none) else (if zr ((-1) - (((-1) - (σ.2.1 43 x0)) + x1)) then (if 1 ≤ β then (zbd (rec tM_fresh (β - 1) σ [((-1) - (((-1) - (σ.2.1 43 x0)) + x1))]) (fun σ3 r3 => rec tM_with_80 β σ3 [x0, x1, x2, x3, x4, (((-1) - (σ.2.1 43 x0)) + x1), r3])) else none) else none)) else none) else none) else none)) else none)
def kZ_with_80 (rec : zF) (β : Nat) (σ : zS) (x0 x1 x2 x3 x4 x5 x6 : Int) : Option zR := some (σ, x6)
def kZ_with_104 (rec : zF) (β : Nat) (σ : zS) (x0 x1 x2 x3 x4 x5 x6 x7 : Int) : Option zR := if x7 < 0 then (some (σ, x5)) else (if 1 ≤ β then (zbd (rec tM_with (β - 1) σ [x7, x1, x2, x3, x4]) (fun σ1 r1 => if 0 ≤ x6 then (if zb x6 420000 then (lt_ (zA σ1 45 x6 r1) (fun σ2 => rec tM_with_149 β σ2 [x0, x1, x2, x3, x4, x5, x6, x7, r1])) else none) else (if zb x5 420000 then (lt_ (zA σ1 44 x5 r1) (fun σ3 => rec tM_with_149 β σ3 [x0, x1, x2, x3, x4, x5, x6, x7, r1])) else none))) else none)
def kZ_with_149 (rec : zF) (β : Nat) (σ : zS) (x0 x1 x2 x3 x4 x5 x6 x7 x8 : Int) : Option zR := if zb x5 420000 then (if zb x8 420000 then (if zr ((σ.2.1 46 x5) + (σ.2.1 46 x8)) then (lt_ (zA σ 46 x5 ((σ.2.1 46 x5) + (σ.2.1 46 x8))) (fun σ1 => if zb x7 420000 then (rec tM_with_104 β σ1 [x0, x1, x2, x3, x4, x5, x8, (σ1.2.1 45 x7)]) else none)) else none) else none) else none
def kZ_resolve (rec : zF) (β : Nat) (σ : zS) (x0 : Int) : Option zR := if zb x0 2001 then (rec tM_resolve_7 β σ [x0, (σ.2.1 73 x0)]) else none
def kZ_resolve_7 (rec : zF) (β : Nat) (σ : zS) (x0 x1 : Int) : Option zR := if zb x0 2001 then (if zr ((σ.2.1 73 x0) + (σ.2.1 74 x0)) then (if ((σ.2.1 73 x0) + (σ.2.1 74 x0)) ≤ x1 then (rec tM_resolve_105 β σ [x0, x1]) else (if (σ.1 87) = 0 then (if zb x1 16100 then (if (σ.2.1 68 x1) = 0 then (if (σ.2.1 71 x1) = 0 then (rec tM_resolve_99 β σ [x0, x1]) else (if 1 ≤ β then (zbd (rec tM_unbind (β - 1) σ []) (fun σ1 r1 => if 1 ≤ β then (zbd (rec tM_unify (β - 1) σ1 [(σ1.2.1 66 x1), 0, (σ1.2.1 67 x1), 0]) (fun σ2 r2 => if r2 = 0 then (rec tM_resolve_99 β σ2 [x0, x1]) else (if 1 ≤ β then (zbd (rec tM_begin (β - 1) σ2 []) (fun σ3 r3 => if 1 ≤ β then (zbd (rec tM_planOthers (β - 1) σ3 [x0, 0, x1, (-1)]) (fun σ4 r4 => if 1 ≤ β then (zbd (rec tM_conclude (β - 1) σ4 [2, x0, (-1)]) (fun σ5 r5 => rec tM_resolve_99 β σ5 [x0, x1])) else none)) else none)) else none))) else none)) else none)) else (rec tM_resolve_99 β σ [x0, x1])) else none) else (rec tM_resolve_105 β σ [x0, x1]))) else none) else none
def kZ_resolve_99 (rec : zF) (β : Nat) (σ : zS) (x0 x1 : Int) : Option zR := if zr (x1 + 1) then (rec tM_resolve_7 β σ [x0, (x1 + 1)]) else none
def kZ_resolve_105 (rec : zF) (β : Nat) (σ : zS) (x0 x1 : Int) : Option zR := some (σ, 0)
def kZ_factor1 (rec : zF) (β : Nat) (σ : zS) (x0 : Int) : Option zR := if 1 ≤ β then (zbd (rec tM_isSelected (β - 1) σ [x0]) (fun σ1 r1 => if r1 = 0 then (if zb x0 2001 then (rec tM_factor1_16 β σ1 [x0, (σ1.2.1 73 x0)]) else none) else (some (σ1, 0)))) else none
def kZ_factor1_16 (rec : zF) (β : Nat) (σ : zS) (x0 x1 : Int) : Option zR := if zb x0 2001 then (if zr ((σ.2.1 73 x0) + (σ.2.1 74 x0)) then (if ((σ.2.1 73 x0) + (σ.2.1 74 x0)) ≤ x1 then (some (σ, 0)) else (if zb x1 16100 then (if (σ.2.1 71 x1) = 0 then (rec tM_factor1_132 β σ [x0, x1]) else (rec tM_factor1_52 β σ [x0, x1, (σ.2.1 73 x0)])) else none)) else none) else none
def kZ_factor1_52 (rec : zF) (β : Nat) (σ : zS) (x0 x1 x2 : Int) : Option zR := if zb x0 2001 then (if zr ((σ.2.1 73 x0) + (σ.2.1 74 x0)) then (if ((σ.2.1 73 x0) + (σ.2.1 74 x0)) ≤ x2 then (rec tM_factor1_132 β σ [x0, x1]) else (if x2 = x1 then (rec tM_factor1_126 β σ [x0, x1, x2]) else (rec tM_factor1_80 β σ [x0, x1, x2, 0]))) else none) else none
def kZ_factor1_80 (rec : zF) (β : Nat) (σ : zS) (x0 x1 x2 x3 : Int) : Option zR := if 4 ≤ x3 then (rec tM_factor1_126 β σ [x0, x1, x2]) else (if (σ.1 87) = 0 then (if zr (Int.tdiv x3 2) then (if 1 ≤ β then (zbd (rec tM_usable (β - 1) σ [x1, (Int.tdiv x3 2)]) (fun σ1 r1 => if r1 = 0 then (rec tM_factor1_120 β σ1 [x0, x1, x2, x3]) else (if 1 ≤ β then (zbd (rec tM_factor2 (β - 1) σ1 [x0, x1, x2, (Int.tdiv x3 2), (Int.tmod x3 2)]) (fun σ2 r2 => rec tM_factor1_120 β σ2 [x0, x1, x2, x3])) else none))) else none) else none) else (rec tM_factor1_126 β σ [x0, x1, x2]))
def kZ_factor1_120 (rec : zF) (β : Nat) (σ : zS) (x0 x1 x2 x3 : Int) : Option zR := if zr (x3 + 1) then (rec tM_factor1_80 β σ [x0, x1, x2, (x3 + 1)]) else none
def kZ_factor1_126 (rec : zF) (β : Nat) (σ : zS) (x0 x1 x2 : Int) : Option zR := if zr (x2 + 1) then (rec tM_factor1_52 β σ [x0, x1, (x2 + 1)]) else none
def kZ_factor1_132 (rec : zF) (β : Nat) (σ : zS) (x0 x1 : Int) : Option zR := if zr (x1 + 1) then (rec tM_factor1_16 β σ [x0, (x1 + 1)]) else none
def kZ_isSelected (rec : zF) (β : Nat) (σ : zS) (x0 : Int) : Option zR := if zb x0 2001 then (rec tM_isSelected_7 β σ [x0, (σ.2.1 73 x0)]) else none
def kZ_isSelected_7 (rec : zF) (β : Nat) (σ : zS) (x0 x1 : Int) : Option zR := if zb x0 2001 then (if zr ((σ.2.1 73 x0) + (σ.2.1 74 x0)) then (if ((σ.2.1 73 x0) + (σ.2.1 74 x0)) ≤ x1 then (some (σ, 0)) else (if zb x1 16100 then (if (σ.2.1 68 x1) = 0 then (some (σ, 1)) else (if zr (x1 + 1) then (rec tM_isSelected_7 β σ [x0, (x1 + 1)]) else none)) else none)) else none) else none
def kZ_factor2 (rec : zF) (β : Nat) (σ : zS) (x0 x1 x2 x3 x4 : Int) : Option zR := if 1 ≤ β then (zbd (rec tM_unbind (β - 1) σ []) (fun σ1 r1 => if 1 ≤ β then (zbd (rec tM_side2 (β - 1) σ1 [x1, x3, 0]) (fun σ2 r2 => if 1 ≤ β then (zbd (rec tM_side2 (β - 1) σ2 [x2, x4, 0]) (fun σ3 r3 => if 1 ≤ β then (zbd (rec tM_unify (β - 1) σ3 [r2, 0, r3, 0]) (fun σ4 r4 => if r4 = 0 then (some (σ4, 0)) else (if 1 ≤ β then (zbd (rec tM_begin (β - 1) σ4 []) (fun σ5 r5 => if 1 ≤ β then (zbd (rec tM_planOthers (β - 1) σ5 [x0, 0, x1, x2]) (fun σ6 r6 => if 1 ≤ β then (zbd (rec tM_side2 (β - 1) σ6 [x1, x3, 1]) (fun σ7 r7 => if 1 ≤ β then (zbd (rec tM_side2 (β - 1) σ7 [x2, x4, 1]) (fun σ8 r8 => if 1 ≤ β then (zbd (rec tM_plan (β - 1) σ8 [r7, r8, 0, 0]) (fun σ9 r9 => if 1 ≤ β then (zbd (rec tM_side2 (β - 1) σ9 [x1, x3, 0]) (fun σ10 r10 => if 1 ≤ β then (zbd (rec tM_side2 (β - 1) σ10 [x2, x4, 1]) (fun σ11 r11 => if 1 ≤ β then (zbd (rec tM_plan (β - 1) σ11 [r10, r11, 0, 1]) (fun σ12 r12 => if 1 ≤ β then (zbd (rec tM_conclude (β - 1) σ12 [3, x0, (-1)]) (fun σ13 r13 => some (σ13, 0))) else none)) else none)) else none)) else none)) else none)) else none)) else none)) else none)) else none))) else none)) else none)) else none)) else none
def kZ_clause (rec : zF) (β : Nat) (σ : zS) (x0 x1 : Int) : Option zR := if 1 ≤ β then (zbd (rec tM_none (β - 1) σ [x0]) (fun σ1 r1 => if r1 = 0 then (if x1 < 0 ∨ 7 < x1 then (lt_ (zI σ1 4 2) (fun σ2 => some (σ2, 0))) else (if x1 = 0 then (if zb x0 2001 then (some (σ1, (σ1.2.1 77 x0))) else none) else (if x1 = 1 then (if zb x0 2001 then (some (σ1, (σ1.2.1 78 x0))) else none) else (if x1 = 2 then (if zb x0 2001 then (some (σ1, (σ1.2.1 79 x0))) else none) else (if x1 = 3 then (if zb x0 2001 then (some (σ1, (σ1.2.1 74 x0))) else none) else (if x1 = 4 then (if zb x0 2001 then (some (σ1, (σ1.2.1 75 x0))) else none) else (if x1 = 5 then (if zb x0 2001 then (some (σ1, (σ1.2.1 76 x0))) else none) else (if x1 = 6 then (if zb x0 2001 then (some (σ1, (σ1.2.1 80 x0))) else none) else (if zb x0 2001 then (some (σ1, (σ1.2.1 82 x0))) else none))))))))) else (some (σ1, 0)))) else none
def kZ_none (rec : zF) (β : Nat) (σ : zS) (x0 : Int) : Option zR := lt_ (zI σ 4 0) (fun σ1 => if x0 < 0 then (rec tM_none_19 β σ1 [x0, 1]) else (if x0 < (σ1.1 84) then (rec tM_none_24 β σ1 [x0, 0, 1]) else (rec tM_none_19 β σ1 [x0, 1])))
def kZ_none_19 (rec : zF) (β : Nat) (σ : zS) (x0 x1 : Int) : Option zR := rec tM_none_24 β σ [x0, 1, x1]
def kZ_none_24 (rec : zF) (β : Nat) (σ : zS) (x0 x1 x2 : Int) : Option zR := if 1 ≤ β then (zbd (rec tM_refuse (β - 1) σ [x2, x1]) (fun σ1 r1 => if r1 = 0 ∨ r1 = 1 then (some (σ1, r1)) else none)) else none
def kZ_rewrote (rec : zF) (β : Nat) (σ : zS) (x0 x1 : Int) : Option zR := if 1 ≤ β then (zbd (rec tM_none (β - 1) σ [x0]) (fun σ1 r1 => if r1 = 0 then (if x1 < 0 then (rec tM_rewrote_24 β σ1 [x0, x1, 1]) else (if zb x0 2001 then (if x1 < (σ1.2.1 82 x0) then (rec tM_rewrote_29 β σ1 [x0, x1, 0, 1]) else (rec tM_rewrote_24 β σ1 [x0, x1, 1])) else none)) else (rec tM_rewrote_35 β σ1 [x0, x1]))) else none
def kZ_rewrote_24 (rec : zF) (β : Nat) (σ : zS) (x0 x1 x2 : Int) : Option zR := rec tM_rewrote_29 β σ [x0, x1, 1, x2]
def kZ_rewrote_29 (rec : zF) (β : Nat) (σ : zS) (x0 x1 x2 x3 : Int) : Option zR := if 1 ≤ β then (zbd (rec tM_refuse (β - 1) σ [x3, x2]) (fun σ1 r1 => if r1 = 0 then (if zb x0 2001 then (if zr ((σ1.2.1 81 x0) + x1) then (if zb ((σ1.2.1 81 x0) + x1) 130000 then (some (σ1, (σ1.2.1 83 ((σ1.2.1 81 x0) + x1)))) else none) else none) else none) else (rec tM_rewrote_35 β σ1 [x0, x1]))) else none
def kZ_rewrote_35 (rec : zF) (β : Nat) (σ : zS) (x0 x1 : Int) : Option zR := some (σ, 0)
def kZ_literal (rec : zF) (β : Nat) (σ : zS) (x0 x1 x2 : Int) : Option zR := if 1 ≤ β then (zbd (rec tM_none (β - 1) σ [x0]) (fun σ1 r1 => if r1 = 0 then (if x1 < 0 then (rec tM_literal_24 β σ1 [x0, x1, x2, 1]) else (if zb x0 2001 then (if x1 < (σ1.2.1 74 x0) then (rec tM_literal_29 β σ1 [x0, x1, x2, 0, 1]) else (rec tM_literal_24 β σ1 [x0, x1, x2, 1])) else none)) else (rec tM_literal_35 β σ1 [x0, x1, x2]))) else none
def kZ_literal_24 (rec : zF) (β : Nat) (σ : zS) (x0 x1 x2 x3 : Int) : Option zR := rec tM_literal_29 β σ [x0, x1, x2, 1, x3]
def kZ_literal_29 (rec : zF) (β : Nat) (σ : zS) (x0 x1 x2 x3 x4 : Int) : Option zR := if 1 ≤ β then (zbd (rec tM_refuse (β - 1) σ [x4, x3]) (fun σ1 r1 => if r1 = 0 then (if zb x0 2001 then (if x2 < 0 ∨ 3 < x2 then (lt_ (zI σ1 4 2) (fun σ2 => some (σ2, 0))) else (if x2 = 0 then (if zr ((σ1.2.1 73 x0) + x1) then (if zb ((σ1.2.1 73 x0) + x1) 16100 then (if (σ1.2.1 68 ((σ1.2.1 73 x0) + x1)) = 0 then (rec tM_literal_95 β σ1 [x0, x1, x2, ((σ1.2.1 73 x0) + x1), 0]) else (rec tM_literal_95 β σ1 [x0, x1, x2, ((σ1.2.1 73 x0) + x1), 1])) else none) else none) else (if x2 = 1 then (if zr ((σ1.2.1 73 x0) + x1) then (if zb ((σ1.2.1 73 x0) + x1) 16100 then (some (σ1, (σ1.2.1 69 ((σ1.2.1 73 x0) + x1)))) else none) else none) else (if x2 = 2 then (if zr ((σ1.2.1 73 x0) + x1) then (if zb ((σ1.2.1 73 x0) + x1) 16100 then (if (σ1.2.1 71 ((σ1.2.1 73 x0) + x1)) = 0 then (rec tM_literal_119 β σ1 [x0, x1, x2, ((σ1.2.1 73 x0) + x1), 0]) else (rec tM_literal_119 β σ1 [x0, x1, x2, ((σ1.2.1 73 x0) + x1), 1])) else none) else none) else (if zr ((σ1.2.1 73 x0) + x1) then (if zb ((σ1.2.1 73 x0) + x1) 16100 then (some (σ1, (σ1.2.1 70 ((σ1.2.1 73 x0) + x1)))) else none) else none))))) else none) else (rec tM_literal_35 β σ1 [x0, x1, x2]))) else none
def kZ_literal_35 (rec : zF) (β : Nat) (σ : zS) (x0 x1 x2 : Int) : Option zR := some (σ, 0)
def kZ_literal_95 (rec : zF) (β : Nat) (σ : zS) (x0 x1 x2 x3 x4 : Int) : Option zR := some (σ, x4)
def kZ_literal_119 (rec : zF) (β : Nat) (σ : zS) (x0 x1 x2 x3 x4 : Int) : Option zR := some (σ, x4)
def kZ_out (rec : zF) (β : Nat) (σ : zS) (x0 : Int) : Option zR := lt_ (zI σ 4 0) (fun σ1 => if x0 < 0 then (rec tM_out_19 β σ1 [x0, 1]) else (if x0 < (σ1.1 3) then (rec tM_out_24 β σ1 [x0, 0, 1]) else (rec tM_out_19 β σ1 [x0, 1])))
def kZ_out_19 (rec : zF) (β : Nat) (σ : zS) (x0 x1 : Int) : Option zR := rec tM_out_24 β σ [x0, 1, x1]
def kZ_out_24 (rec : zF) (β : Nat) (σ : zS) (x0 x1 x2 : Int) : Option zR := if 1 ≤ β then (zbd (rec tM_refuse (β - 1) σ [x2, x1]) (fun σ1 r1 => if r1 = 0 then (if zb x0 (σ1.2.2 1) then (some (σ1, (σ1.2.1 1 x0))) else none) else (some (σ1, 0)))) else none
def kZ_symbol2 (rec : zF) (β : Nat) (σ : zS) (x0 x1 : Int) : Option zR := lt_ (zI σ 4 0) (fun σ1 => if x0 < 0 then (rec tM_symbol2_19 β σ1 [x0, x1, 1]) else (if x0 < (σ1.1 19) then (rec tM_symbol2_24 β σ1 [x0, x1, 0, 1]) else (rec tM_symbol2_19 β σ1 [x0, x1, 1])))
def kZ_symbol2_19 (rec : zF) (β : Nat) (σ : zS) (x0 x1 x2 : Int) : Option zR := rec tM_symbol2_24 β σ [x0, x1, 1, x2]
def kZ_symbol2_24 (rec : zF) (β : Nat) (σ : zS) (x0 x1 x2 x3 : Int) : Option zR := if 1 ≤ β then (zbd (rec tM_refuse (β - 1) σ [x3, x2]) (fun σ1 r1 => if r1 = 0 then (if x1 < 0 then (rec tM_symbol2_41 β σ1 [x0, x1, 2]) else (if x1 ≤ 2 then (rec tM_symbol2_46 β σ1 [x0, x1, 0, 2]) else (rec tM_symbol2_41 β σ1 [x0, x1, 2]))) else (rec tM_symbol2_52 β σ1 [x0, x1]))) else none
def kZ_symbol2_41 (rec : zF) (β : Nat) (σ : zS) (x0 x1 x2 : Int) : Option zR := rec tM_symbol2_46 β σ [x0, x1, 1, x2]
def kZ_symbol2_46 (rec : zF) (β : Nat) (σ : zS) (x0 x1 x2 x3 : Int) : Option zR := if 1 ≤ β then (zbd (rec tM_refuse (β - 1) σ [x3, x2]) (fun σ1 r1 => if r1 = 0 then (if x1 = 0 then (if zb x0 900 then (rec tM_symbol2_102 β σ1 [x0, x1, (σ1.2.1 48 x0)]) else none) else (if x1 = 1 then (if zb x0 900 then (if (σ1.2.1 49 x0) = 0 then (rec tM_symbol2_102 β σ1 [x0, x1, 0]) else (rec tM_symbol2_102 β σ1 [x0, x1, 1])) else none) else (if x0 ≤ (σ1.1 20) then (rec tM_symbol2_102 β σ1 [x0, x1, 0]) else (rec tM_symbol2_102 β σ1 [x0, x1, 1])))) else (rec tM_symbol2_52 β σ1 [x0, x1]))) else none
def kZ_symbol2_52 (rec : zF) (β : Nat) (σ : zS) (x0 x1 : Int) : Option zR := some (σ, 0)
def kZ_symbol2_102 (rec : zF) (β : Nat) (σ : zS) (x0 x1 x2 : Int) : Option zR := some (σ, x2)
def kZ_proof (rec : zF) (β : Nat) (σ : zS) : Option zR := lt_ (zI σ 4 0) (fun σ1 => if 1 ≤ β then (zbd (rec tM_prove (β - 1) σ1 []) (fun σ2 r2 => some (σ2, r2))) else none)
def kZ_prove (rec : zF) (β : Nat) (σ : zS) : Option zR := lt_ (zFl σ 123 0 2001) (fun σ1 => if 0 ≤ (σ1.1 88) then (if zb (σ1.1 88) 2001 then (lt_ (zA σ1 123 (σ1.1 88) 1) (fun σ2 => if zr ((σ2.1 84) - 1) then (rec tM_prove_36 β σ2 [0, ((σ2.1 84) - 1)]) else none)) else none) else (some (σ1, 0)))
def kZ_prove_36 (rec : zF) (β : Nat) (σ : zS) (x0 x1 : Int) : Option zR := if x1 < 0 then (some (σ, x0)) else (if zb x1 2001 then (if (σ.2.1 123 x1) = 0 then (rec tM_prove_134 β σ [x0, x1]) else (if (σ.2.1 78 x1) < 0 then (if zr (x0 + 1) then (rec tM_prove_76 β σ [(x0 + 1), x1]) else none) else (if zb (σ.2.1 78 x1) 2001 then (lt_ (zA σ 123 (σ.2.1 78 x1) 1) (fun σ1 => if zr (x0 + 1) then (rec tM_prove_76 β σ1 [(x0 + 1), x1]) else none)) else none))) else none)
def kZ_prove_76 (rec : zF) (β : Nat) (σ : zS) (x0 x1 : Int) : Option zR := if zb x1 2001 then (if (σ.2.1 79 x1) < 0 then (rec tM_prove_97 β σ [x0, x1]) else (if zb (σ.2.1 79 x1) 2001 then (lt_ (zA σ 123 (σ.2.1 79 x1) 1) (fun σ1 => rec tM_prove_97 β σ1 [x0, x1])) else none)) else none
def kZ_prove_97 (rec : zF) (β : Nat) (σ : zS) (x0 x1 : Int) : Option zR := rec tM_prove_99 β σ [x0, x1, 0]
def kZ_prove_99 (rec : zF) (β : Nat) (σ : zS) (x0 x1 x2 : Int) : Option zR := if zb x1 2001 then (if (σ.2.1 82 x1) ≤ x2 then (rec tM_prove_134 β σ [x0, x1]) else (if zr ((σ.2.1 81 x1) + x2) then (if zb ((σ.2.1 81 x1) + x2) 130000 then (if zb (σ.2.1 83 ((σ.2.1 81 x1) + x2)) 2001 then (lt_ (zA σ 123 (σ.2.1 83 ((σ.2.1 81 x1) + x2)) 1) (fun σ1 => if zr (x2 + 1) then (rec tM_prove_99 β σ1 [x0, x1, (x2 + 1)]) else none)) else none) else none) else none)) else none
def kZ_prove_134 (rec : zF) (β : Nat) (σ : zS) (x0 x1 : Int) : Option zR := if zr (x1 + (-1)) then (rec tM_prove_36 β σ [x0, (x1 + (-1))]) else none
def kZ_step2 (rec : zF) (β : Nat) (σ : zS) (x0 : Int) : Option zR := lt_ (zI σ 4 0) (fun σ1 => if 1 ≤ β then (zbd (rec tM_prove (β - 1) σ1 []) (fun σ2 r2 => if x0 < 0 then (rec tM_step2_21 β σ2 [x0, r2, 1]) else (if x0 < r2 then (rec tM_step2_26 β σ2 [x0, r2, 0, 1]) else (rec tM_step2_21 β σ2 [x0, r2, 1])))) else none)
def kZ_step2_21 (rec : zF) (β : Nat) (σ : zS) (x0 x1 x2 : Int) : Option zR := rec tM_step2_26 β σ [x0, x1, 1, x2]
def kZ_step2_26 (rec : zF) (β : Nat) (σ : zS) (x0 x1 x2 x3 : Int) : Option zR := if 1 ≤ β then (zbd (rec tM_refuse (β - 1) σ [x3, x2]) (fun σ1 r1 => if r1 = 0 then (rec tM_step2_39 β σ1 [x0, x1, (-1), x0]) else (some (σ1, 0)))) else none
def kZ_step2_39 (rec : zF) (β : Nat) (σ : zS) (x0 x1 x2 x3 : Int) : Option zR := if x3 < 0 then (some (σ, x2)) else (if zr (x2 + 1) then (rec tM_step2_47 β σ [x0, x1, (x2 + 1), x3]) else none)
def kZ_step2_47 (rec : zF) (β : Nat) (σ : zS) (x0 x1 x2 x3 : Int) : Option zR := if zb x2 2001 then (if (σ.2.1 123 x2) = 0 then (if zr (x2 + 1) then (rec tM_step2_47 β σ [x0, x1, (x2 + 1), x3]) else none) else (if zr (x3 + (-1)) then (rec tM_step2_39 β σ [x0, x1, x2, (x3 + (-1))]) else none)) else none
def kZ_look (rec : zF) (β : Nat) (σ : zS) (x0 x1 : Int) : Option zR := lt_ (zI σ 4 0) (fun σ1 => if x1 < 1 then (rec tM_look_17 β σ1 [x0, x1, 1]) else (if x1 ≤ 3 then (rec tM_look_22 β σ1 [x0, x1, 0, 1]) else (rec tM_look_17 β σ1 [x0, x1, 1])))
def kZ_look_17 (rec : zF) (β : Nat) (σ : zS) (x0 x1 x2 : Int) : Option zR := rec tM_look_22 β σ [x0, x1, 1, x2]
def kZ_look_22 (rec : zF) (β : Nat) (σ : zS) (x0 x1 x2 x3 : Int) : Option zR := if 1 ≤ β then (zbd (rec tM_refuse (β - 1) σ [x3, x2]) (fun σ1 r1 => if r1 = 0 then (lt_ (zI σ1 124 x0) (fun σ2 => lt_ (zI σ2 125 x1) (fun σ3 => if 1 ≤ β then (zbd (rec tM_textIsTrue (β - 1) σ3 []) (fun σ4 r4 => if r4 = 0 then (some (σ4, (-1))) else (rec tM_look_54 β σ4 [x0, x1, 0, 0]))) else none))) else (some (σ1, 0)))) else none
def kZ_look_54 (rec : zF) (β : Nat) (σ : zS) (x0 x1 x2 x3 : Int) : Option zR := if (σ.1 84) ≤ x3 then (some (σ, x2)) else (if 1 ≤ β then (zbd (rec tM_isTrue (β - 1) σ [x3]) (fun σ1 r1 => if r1 = 0 then (if zr (x2 + 1) then (rec tM_look_75 β σ1 [x0, x1, (x2 + 1), x3]) else none) else (rec tM_look_75 β σ1 [x0, x1, x2, x3]))) else none)
def kZ_look_75 (rec : zF) (β : Nat) (σ : zS) (x0 x1 x2 x3 : Int) : Option zR := if zr (x3 + 1) then (rec tM_look_54 β σ [x0, x1, x2, (x3 + 1)]) else none
def kZ_textIsTrue (rec : zF) (β : Nat) (σ : zS) : Option zR := rec tM_textIsTrue_2 β σ [0]
def kZ_textIsTrue_2 (rec : zF) (β : Nat) (σ : zS) (x0 : Int) : Option zR := if (σ.1 85) ≤ x0 then (some (σ, 1)) else (if 1 ≤ β then (zbd (rec tM_isTrue (β - 1) σ [x0]) (fun σ1 r1 => if r1 = 0 then (some (σ1, 0)) else (if zr (x0 + 1) then (rec tM_textIsTrue_2 β σ1 [(x0 + 1)]) else none))) else none)
def kZ_isTrue (rec : zF) (β : Nat) (σ : zS) (x0 : Int) : Option zR := rec tM_isTrue_4 β σ [x0, 1, 0]
def kZ_isTrue_4 (rec : zF) (β : Nat) (σ : zS) (x0 x1 x2 : Int) : Option zR := if zb x0 2001 then (if (σ.2.1 76 x0) ≤ x2 then (rec tM_isTrue_29 β σ [x0, x1, 0]) else (if zr (x1 * (σ.1 125)) then (if zr (x2 + 1) then (rec tM_isTrue_4 β σ [x0, (x1 * (σ.1 125)), (x2 + 1)]) else none) else none)) else none
def kZ_isTrue_29 (rec : zF) (β : Nat) (σ : zS) (x0 x1 x2 : Int) : Option zR := if x1 ≤ x2 then (some (σ, 1)) else (rec tM_isTrue_40 β σ [x0, x1, x2, x2, 0])
def kZ_isTrue_40 (rec : zF) (β : Nat) (σ : zS) (x0 x1 x2 x3 x4 : Int) : Option zR := if zb x0 2001 then (if (σ.2.1 76 x0) ≤ x4 then (rec tM_isTrue_91 β σ [x0, x1, x2, x3, 0, (σ.2.1 73 x0)]) else (if (σ.1 125) = 0 then none else (if zb x4 6 then (lt_ (zA σ 126 x4 (Int.tmod x3 (σ.1 125))) (fun σ1 => if (σ1.1 125) = 0 then none else (if zr (Int.tdiv x3 (σ1.1 125)) then (if zr (x4 + 1) then (rec tM_isTrue_40 β σ1 [x0, x1, x2, (Int.tdiv x3 (σ1.1 125)), (x4 + 1)]) else none) else none))) else none))) else none
def kZ_isTrue_91 (rec : zF) (β : Nat) (σ : zS) (x0 x1 x2 x3 x4 x5 : Int) : Option zR := if zb x0 2001 then (if zr ((σ.2.1 73 x0) + (σ.2.1 74 x0)) then (if ((σ.2.1 73 x0) + (σ.2.1 74 x0)) ≤ x5 then (rec tM_isTrue_167 β σ [x0, x1, x2, x3, x4, x5]) else (if x4 = 0 then (if zb x5 16100 then (if 1 ≤ β then (zbd (rec tM_meaning (β - 1) σ [(σ.2.1 66 x5)]) (fun σ1 r1 => if 1 ≤ β then (zbd (rec tM_meaning (β - 1) σ1 [(σ1.2.1 67 x5)]) (fun σ2 r2 => if r1 = r2 then (rec tM_isTrue_144 β σ2 [x0, x1, x2, x3, x4, x5, 1]) else (rec tM_isTrue_144 β σ2 [x0, x1, x2, x3, x4, x5, 0]))) else none)) else none) else none) else (rec tM_isTrue_167 β σ [x0, x1, x2, x3, x4, x5]))) else none) else none
def kZ_isTrue_144 (rec : zF) (β : Nat) (σ : zS) (x0 x1 x2 x3 x4 x5 x6 : Int) : Option zR := if zb x5 16100 then (if x6 = (σ.2.1 68 x5) then (rec tM_isTrue_159 β σ [x0, x1, x2, x3, x4, x5, 1]) else (rec tM_isTrue_159 β σ [x0, x1, x2, x3, x4, x5, 0])) else none
def kZ_isTrue_159 (rec : zF) (β : Nat) (σ : zS) (x0 x1 x2 x3 x4 x5 x6 : Int) : Option zR := if zr (x5 + 1) then (rec tM_isTrue_91 β σ [x0, x1, x2, x3, x6, (x5 + 1)]) else none
def kZ_isTrue_167 (rec : zF) (β : Nat) (σ : zS) (x0 x1 x2 x3 x4 x5 : Int) : Option zR := if x4 = 0 then (some (σ, 0)) else (if zr (x2 + 1) then (rec tM_isTrue_29 β σ [x0, x1, (x2 + 1)]) else none)
def kZ_meaning (rec : zF) (β : Nat) (σ : zS) (x0 : Int) : Option zR := if zb x0 420000 then (if 0 ≤ (σ.2.1 43 x0) then (if (σ.2.1 43 x0) = 0 then (some (σ, 1)) else (if 1 ≤ β then (zbd (rec tM_mixed (β - 1) σ [(σ.1 124), (σ.2.1 43 x0)]) (fun σ1 r1 => rec tM_meaning_56 β σ1 [x0, r1, (σ1.2.1 44 x0)])) else none)) else (if zb (zws (-1) (σ.2.1 43 x0)) 6 then (some (σ, (σ.2.1 126 (zws (-1) (σ.2.1 43 x0))))) else none)) else none
def kZ_meaning_56 (rec : zF) (β : Nat) (σ : zS) (x0 x1 x2 : Int) : Option zR := if x2 < 0 then (if zb x0 420000 then (if zb (σ.2.1 43 x0) 900 then (if (σ.2.1 49 (σ.2.1 43 x0)) = 0 then (if (σ.1 125) = 0 then none else (rec tM_meaning_129 β σ [x0, (zxor (zwm (zxor x1 (zushr x1 15)) 739982445) (zushr (zwm (zxor x1 (zushr x1 15)) 739982445) 12)), x2, (Int.tmod (zand (zxor (zwm (zxor x1 (zushr x1 15)) 739982445) (zushr (zwm (zxor x1 (zushr x1 15)) 739982445) 12)) 2147483647) (σ.1 125))])) else (rec tM_meaning_129 β σ [x0, (zxor (zwm (zxor x1 (zushr x1 15)) 739982445) (zushr (zwm (zxor x1 (zushr x1 15)) 739982445) 12)), x2, (zand (zxor (zwm (zxor x1 (zushr x1 15)) 739982445) (zushr (zwm (zxor x1 (zushr x1 15)) 739982445) 12)) 1)])) else none) else none) else (if 1 ≤ β then (zbd (rec tM_meaning (β - 1) σ [x2]) (fun σ1 r1 => if 1 ≤ β then (zbd (rec tM_mixed (β - 1) σ1 [x1, r1]) (fun σ2 r2 => if zb x2 420000 then (rec tM_meaning_56 β σ2 [x0, r2, (σ2.2.1 45 x2)]) else none)) else none)) else none)
def kZ_meaning_129 (rec : zF) (β : Nat) (σ : zS) (x0 x1 x2 x3 : Int) : Option zR := some (σ, x3)
def kZ_mixed (rec : zF) (β : Nat) (σ : zS) (x0 x1 : Int) : Option zR := some (σ, (zwa (zwa (zwm 31 (zxor x0 (zushr x0 7))) x1) 1))
def kZ_search (rec : zF) (β : Nat) (σ : zS) (x0 x1 x2 : Int) : Option zR := lt_ (zI σ 4 0) (fun σ1 => if x1 < 1 then (rec tM_search_28 β σ1 [x0, x1, x2, 1]) else (if 3 < x1 then (rec tM_search_28 β σ1 [x0, x1, x2, 1]) else (if x2 < 1 then (rec tM_search_28 β σ1 [x0, x1, x2, 1]) else (if x2 ≤ 50 then (rec tM_search_33 β σ1 [x0, x1, x2, 0, 1]) else (rec tM_search_28 β σ1 [x0, x1, x2, 1])))))
def kZ_search_28 (rec : zF) (β : Nat) (σ : zS) (x0 x1 x2 x3 : Int) : Option zR := rec tM_search_33 β σ [x0, x1, x2, 1, x3]
def kZ_search_33 (rec : zF) (β : Nat) (σ : zS) (x0 x1 x2 x3 x4 : Int) : Option zR := if 1 ≤ β then (zbd (rec tM_refuse (β - 1) σ [x4, x3]) (fun σ1 r1 => if r1 = 0 then (lt_ (zI σ1 125 x1) (fun σ2 => rec tM_search_49 β σ2 [x0, x1, x2, 0])) else (some (σ1, 0)))) else none
def kZ_search_49 (rec : zF) (β : Nat) (σ : zS) (x0 x1 x2 x3 : Int) : Option zR := if x2 ≤ x3 then (some (σ, (-1))) else (lt_ (zI σ 124 (zwa x0 x3)) (fun σ1 => if 1 ≤ β then (zbd (rec tM_textIsTrue (β - 1) σ1 []) (fun σ2 r2 => if r2 = 0 then (if zr (x3 + 1) then (rec tM_search_49 β σ2 [x0, x1, x2, (x3 + 1)]) else none) else (some (σ2, x3)))) else none))
def kZ_count1 (rec : zF) (β : Nat) (σ : zS) (x0 : Int) : Option zR := lt_ (zI σ 4 0) (fun σ1 => if x0 < 0 ∨ 13 < x0 then (some (σ1, (-1))) else (if x0 = 0 then (some (σ1, (σ1.1 84))) else (if x0 = 1 then (some (σ1, (σ1.1 85))) else (if x0 = 2 then (if 1 ≤ β then (zbd (rec tM_inState (β - 1) σ1 [0]) (fun σ2 r2 => some (σ2, r2))) else none) else (if x0 = 3 then (if 1 ≤ β then (zbd (rec tM_inState (β - 1) σ1 [1]) (fun σ3 r3 => some (σ3, r3))) else none) else (if x0 = 4 then (some (σ1, (σ1.1 89))) else (if x0 = 5 then (some (σ1, (σ1.1 90))) else (if x0 = 6 then (some (σ1, (σ1.1 91))) else (if x0 = 7 then (some (σ1, (σ1.1 92))) else (if x0 = 8 then (some (σ1, (σ1.1 93))) else (if x0 = 9 then (some (σ1, (σ1.1 94))) else (if x0 = 10 then (some (σ1, (σ1.1 87))) else (if x0 = 11 then (some (σ1, (σ1.1 19))) else (if x0 = 12 then (some (σ1, (σ1.1 2))) else (some (σ1, (σ1.1 3)))))))))))))))))
def kZ_inState (rec : zF) (β : Nat) (σ : zS) (x0 : Int) : Option zR := rec tM_inState_4 β σ [x0, 0, 0]
def kZ_inState_4 (rec : zF) (β : Nat) (σ : zS) (x0 x1 x2 : Int) : Option zR := if (σ.1 84) ≤ x2 then (some (σ, x1)) else (if zb x2 2001 then (if (σ.2.1 80 x2) = x0 then (if zr (x1 + 1) then (rec tM_inState_25 β σ [x0, (x1 + 1), x2]) else none) else (rec tM_inState_25 β σ [x0, x1, x2])) else none)
def kZ_inState_25 (rec : zF) (β : Nat) (σ : zS) (x0 x1 x2 : Int) : Option zR := if zr (x2 + 1) then (rec tM_inState_4 β σ [x0, x1, (x2 + 1)]) else none
def kZ_sides_many (rec : zF) (β : Nat) (σ : zS) (x0 : Int) : Option zR := if zb x0 16100 then (if zb 0 4 then (lt_ (zA σ 103 0 (σ.2.1 66 x0)) (fun σ1 => if zb 1 4 then (lt_ (zA σ1 103 1 (σ1.2.1 67 x0)) (fun σ2 => if (σ2.2.1 68 x0) = 0 then (if zb 2 4 then (lt_ (zA σ2 103 2 (σ2.2.1 66 x0)) (fun σ3 => if zb 3 4 then (lt_ (zA σ3 103 3 (σ3.2.1 67 x0)) (fun σ4 => some (σ4, 4))) else none)) else none) else (some (σ2, 2)))) else none)) else none) else none
def kZ_sides_others (rec : zF) (β : Nat) (σ : zS) (x0 : Int) : Option zR := if zb x0 16100 then (if zb 0 4 then (lt_ (zA σ 104 0 (σ.2.1 66 x0)) (fun σ1 => if zb 1 4 then (lt_ (zA σ1 104 1 (σ1.2.1 67 x0)) (fun σ2 => if (σ2.2.1 68 x0) = 0 then (if zb 2 4 then (lt_ (zA σ2 104 2 (σ2.2.1 66 x0)) (fun σ3 => if zb 3 4 then (lt_ (zA σ3 104 3 (σ3.2.1 67 x0)) (fun σ4 => some (σ4, 4))) else none)) else none) else (some (σ2, 2)))) else none)) else none) else none
def uz_0 (f : Option zR) (xs : List Int) : Option zR := match xs with
  | [] => f
  | _ => none
theorem uR_0 {β : Nat} {kz : Option zR} {km : Option mR} (h : Rf (kz) (km) β) (xs : List Int) (hx : ∀ x ∈ xs, zr x) : Rf (uz_0 kz xs) (u_0 km (xs.map i32)) β := by
  match xs, hx with
  | [], hx => exact h
  | _ :: _, _ => exact Rf_none
def uz_1 (f : Int → Option zR) (xs : List Int) : Option zR := match xs with
  | [x0] => f x0
  | _ => none
theorem uR_1 {β : Nat} {kz : Int → Option zR} {km : Int32 → Option mR} (h : ∀ x0, zr x0 → Rf (kz x0) (km (i32 x0)) β) (xs : List Int) (hx : ∀ x ∈ xs, zr x) : Rf (uz_1 kz xs) (u_1 km (xs.map i32)) β := by
  match xs, hx with
  | [x0], hx => exact h x0 (hx x0 (by simp))
  | [], _ => exact Rf_none
  | _ :: _ :: _, _ => exact Rf_none
def uz_2 (f : Int → Int → Option zR) (xs : List Int) : Option zR := match xs with
  | [x0, x1] => f x0 x1
  | _ => none
theorem uR_2 {β : Nat} {kz : Int → Int → Option zR} {km : Int32 → Int32 → Option mR} (h : ∀ x0 x1, zr x0 → zr x1 → Rf (kz x0 x1) (km (i32 x0) (i32 x1)) β) (xs : List Int) (hx : ∀ x ∈ xs, zr x) : Rf (uz_2 kz xs) (u_2 km (xs.map i32)) β := by
  match xs, hx with
  | [x0, x1], hx => exact h x0 x1 (hx x0 (by simp)) (hx x1 (by simp))
  | [], _ => exact Rf_none
  | [_], _ => exact Rf_none
  | _ :: _ :: _ :: _, _ => exact Rf_none
def uz_3 (f : Int → Int → Int → Option zR) (xs : List Int) : Option zR := match xs with
  | [x0, x1, x2] => f x0 x1 x2
  | _ => none
theorem uR_3 {β : Nat} {kz : Int → Int → Int → Option zR} {km : Int32 → Int32 → Int32 → Option mR} (h : ∀ x0 x1 x2, zr x0 → zr x1 → zr x2 → Rf (kz x0 x1 x2) (km (i32 x0) (i32 x1) (i32 x2)) β) (xs : List Int) (hx : ∀ x ∈ xs, zr x) : Rf (uz_3 kz xs) (u_3 km (xs.map i32)) β := by
  match xs, hx with
  | [x0, x1, x2], hx => exact h x0 x1 x2 (hx x0 (by simp)) (hx x1 (by simp)) (hx x2 (by simp))
  | [], _ => exact Rf_none
  | [_], _ => exact Rf_none
  | [_, _], _ => exact Rf_none
  | _ :: _ :: _ :: _ :: _, _ => exact Rf_none
def uz_4 (f : Int → Int → Int → Int → Option zR) (xs : List Int) : Option zR := match xs with
  | [x0, x1, x2, x3] => f x0 x1 x2 x3
  | _ => none
theorem uR_4 {β : Nat} {kz : Int → Int → Int → Int → Option zR} {km : Int32 → Int32 → Int32 → Int32 → Option mR} (h : ∀ x0 x1 x2 x3, zr x0 → zr x1 → zr x2 → zr x3 → Rf (kz x0 x1 x2 x3) (km (i32 x0) (i32 x1) (i32 x2) (i32 x3)) β) (xs : List Int) (hx : ∀ x ∈ xs, zr x) : Rf (uz_4 kz xs) (u_4 km (xs.map i32)) β := by
  match xs, hx with
  | [x0, x1, x2, x3], hx => exact h x0 x1 x2 x3 (hx x0 (by simp)) (hx x1 (by simp)) (hx x2 (by simp)) (hx x3 (by simp))
  | [], _ => exact Rf_none
  | [_], _ => exact Rf_none
  | [_, _], _ => exact Rf_none
  | [_, _, _], _ => exact Rf_none
  | _ :: _ :: _ :: _ :: _ :: _, _ => exact Rf_none
def uz_5 (f : Int → Int → Int → Int → Int → Option zR) (xs : List Int) : Option zR := match xs with
  | [x0, x1, x2, x3, x4] => f x0 x1 x2 x3 x4
  | _ => none
theorem uR_5 {β : Nat} {kz : Int → Int → Int → Int → Int → Option zR} {km : Int32 → Int32 → Int32 → Int32 → Int32 → Option mR} (h : ∀ x0 x1 x2 x3 x4, zr x0 → zr x1 → zr x2 → zr x3 → zr x4 → Rf (kz x0 x1 x2 x3 x4) (km (i32 x0) (i32 x1) (i32 x2) (i32 x3) (i32 x4)) β) (xs : List Int) (hx : ∀ x ∈ xs, zr x) : Rf (uz_5 kz xs) (u_5 km (xs.map i32)) β := by
  match xs, hx with
  | [x0, x1, x2, x3, x4], hx => exact h x0 x1 x2 x3 x4 (hx x0 (by simp)) (hx x1 (by simp)) (hx x2 (by simp)) (hx x3 (by simp)) (hx x4 (by simp))
  | [], _ => exact Rf_none
  | [_], _ => exact Rf_none
  | [_, _], _ => exact Rf_none
  | [_, _, _], _ => exact Rf_none
  | [_, _, _, _], _ => exact Rf_none
  | _ :: _ :: _ :: _ :: _ :: _ :: _, _ => exact Rf_none
def uz_6 (f : Int → Int → Int → Int → Int → Int → Option zR) (xs : List Int) : Option zR := match xs with
  | [x0, x1, x2, x3, x4, x5] => f x0 x1 x2 x3 x4 x5
  | _ => none
theorem uR_6 {β : Nat} {kz : Int → Int → Int → Int → Int → Int → Option zR} {km : Int32 → Int32 → Int32 → Int32 → Int32 → Int32 → Option mR} (h : ∀ x0 x1 x2 x3 x4 x5, zr x0 → zr x1 → zr x2 → zr x3 → zr x4 → zr x5 → Rf (kz x0 x1 x2 x3 x4 x5) (km (i32 x0) (i32 x1) (i32 x2) (i32 x3) (i32 x4) (i32 x5)) β) (xs : List Int) (hx : ∀ x ∈ xs, zr x) : Rf (uz_6 kz xs) (u_6 km (xs.map i32)) β := by
  match xs, hx with
  | [x0, x1, x2, x3, x4, x5], hx => exact h x0 x1 x2 x3 x4 x5 (hx x0 (by simp)) (hx x1 (by simp)) (hx x2 (by simp)) (hx x3 (by simp)) (hx x4 (by simp)) (hx x5 (by simp))
  | [], _ => exact Rf_none
  | [_], _ => exact Rf_none
  | [_, _], _ => exact Rf_none
  | [_, _, _], _ => exact Rf_none
  | [_, _, _, _], _ => exact Rf_none
  | [_, _, _, _, _], _ => exact Rf_none
  | _ :: _ :: _ :: _ :: _ :: _ :: _ :: _, _ => exact Rf_none
def uz_7 (f : Int → Int → Int → Int → Int → Int → Int → Option zR) (xs : List Int) : Option zR := match xs with
  | [x0, x1, x2, x3, x4, x5, x6] => f x0 x1 x2 x3 x4 x5 x6
  | _ => none
theorem uR_7 {β : Nat} {kz : Int → Int → Int → Int → Int → Int → Int → Option zR} {km : Int32 → Int32 → Int32 → Int32 → Int32 → Int32 → Int32 → Option mR} (h : ∀ x0 x1 x2 x3 x4 x5 x6, zr x0 → zr x1 → zr x2 → zr x3 → zr x4 → zr x5 → zr x6 → Rf (kz x0 x1 x2 x3 x4 x5 x6) (km (i32 x0) (i32 x1) (i32 x2) (i32 x3) (i32 x4) (i32 x5) (i32 x6)) β) (xs : List Int) (hx : ∀ x ∈ xs, zr x) : Rf (uz_7 kz xs) (u_7 km (xs.map i32)) β := by
  match xs, hx with
  | [x0, x1, x2, x3, x4, x5, x6], hx => exact h x0 x1 x2 x3 x4 x5 x6 (hx x0 (by simp)) (hx x1 (by simp)) (hx x2 (by simp)) (hx x3 (by simp)) (hx x4 (by simp)) (hx x5 (by simp)) (hx x6 (by simp))
  | [], _ => exact Rf_none
  | [_], _ => exact Rf_none
  | [_, _], _ => exact Rf_none
  | [_, _, _], _ => exact Rf_none
  | [_, _, _, _], _ => exact Rf_none
  | [_, _, _, _, _], _ => exact Rf_none
  | [_, _, _, _, _, _], _ => exact Rf_none
  | _ :: _ :: _ :: _ :: _ :: _ :: _ :: _ :: _, _ => exact Rf_none
def uz_8 (f : Int → Int → Int → Int → Int → Int → Int → Int → Option zR) (xs : List Int) : Option zR := match xs with
  | [x0, x1, x2, x3, x4, x5, x6, x7] => f x0 x1 x2 x3 x4 x5 x6 x7
  | _ => none
theorem uR_8 {β : Nat} {kz : Int → Int → Int → Int → Int → Int → Int → Int → Option zR} {km : Int32 → Int32 → Int32 → Int32 → Int32 → Int32 → Int32 → Int32 → Option mR} (h : ∀ x0 x1 x2 x3 x4 x5 x6 x7, zr x0 → zr x1 → zr x2 → zr x3 → zr x4 → zr x5 → zr x6 → zr x7 → Rf (kz x0 x1 x2 x3 x4 x5 x6 x7) (km (i32 x0) (i32 x1) (i32 x2) (i32 x3) (i32 x4) (i32 x5) (i32 x6) (i32 x7)) β) (xs : List Int) (hx : ∀ x ∈ xs, zr x) : Rf (uz_8 kz xs) (u_8 km (xs.map i32)) β := by
  match xs, hx with
  | [x0, x1, x2, x3, x4, x5, x6, x7], hx => exact h x0 x1 x2 x3 x4 x5 x6 x7 (hx x0 (by simp)) (hx x1 (by simp)) (hx x2 (by simp)) (hx x3 (by simp)) (hx x4 (by simp)) (hx x5 (by simp)) (hx x6 (by simp)) (hx x7 (by simp))
  | [], _ => exact Rf_none
  | [_], _ => exact Rf_none
  | [_, _], _ => exact Rf_none
  | [_, _, _], _ => exact Rf_none
  | [_, _, _, _], _ => exact Rf_none
  | [_, _, _, _, _], _ => exact Rf_none
  | [_, _, _, _, _, _], _ => exact Rf_none
  | [_, _, _, _, _, _, _], _ => exact Rf_none
  | _ :: _ :: _ :: _ :: _ :: _ :: _ :: _ :: _ :: _, _ => exact Rf_none
def uz_9 (f : Int → Int → Int → Int → Int → Int → Int → Int → Int → Option zR) (xs : List Int) : Option zR := match xs with
  | [x0, x1, x2, x3, x4, x5, x6, x7, x8] => f x0 x1 x2 x3 x4 x5 x6 x7 x8
  | _ => none
theorem uR_9 {β : Nat} {kz : Int → Int → Int → Int → Int → Int → Int → Int → Int → Option zR} {km : Int32 → Int32 → Int32 → Int32 → Int32 → Int32 → Int32 → Int32 → Int32 → Option mR} (h : ∀ x0 x1 x2 x3 x4 x5 x6 x7 x8, zr x0 → zr x1 → zr x2 → zr x3 → zr x4 → zr x5 → zr x6 → zr x7 → zr x8 → Rf (kz x0 x1 x2 x3 x4 x5 x6 x7 x8) (km (i32 x0) (i32 x1) (i32 x2) (i32 x3) (i32 x4) (i32 x5) (i32 x6) (i32 x7) (i32 x8)) β) (xs : List Int) (hx : ∀ x ∈ xs, zr x) : Rf (uz_9 kz xs) (u_9 km (xs.map i32)) β := by
  match xs, hx with
  | [x0, x1, x2, x3, x4, x5, x6, x7, x8], hx => exact h x0 x1 x2 x3 x4 x5 x6 x7 x8 (hx x0 (by simp)) (hx x1 (by simp)) (hx x2 (by simp)) (hx x3 (by simp)) (hx x4 (by simp)) (hx x5 (by simp)) (hx x6 (by simp)) (hx x7 (by simp)) (hx x8 (by simp))
  | [], _ => exact Rf_none
  | [_], _ => exact Rf_none
  | [_, _], _ => exact Rf_none
  | [_, _, _], _ => exact Rf_none
  | [_, _, _, _], _ => exact Rf_none
  | [_, _, _, _, _], _ => exact Rf_none
  | [_, _, _, _, _, _], _ => exact Rf_none
  | [_, _, _, _, _, _, _], _ => exact Rf_none
  | [_, _, _, _, _, _, _, _], _ => exact Rf_none
  | _ :: _ :: _ :: _ :: _ :: _ :: _ :: _ :: _ :: _ :: _, _ => exact Rf_none
def uz_10 (f : Int → Int → Int → Int → Int → Int → Int → Int → Int → Int → Option zR) (xs : List Int) : Option zR := match xs with
  | [x0, x1, x2, x3, x4, x5, x6, x7, x8, x9] => f x0 x1 x2 x3 x4 x5 x6 x7 x8 x9
  | _ => none
theorem uR_10 {β : Nat} {kz : Int → Int → Int → Int → Int → Int → Int → Int → Int → Int → Option zR} {km : Int32 → Int32 → Int32 → Int32 → Int32 → Int32 → Int32 → Int32 → Int32 → Int32 → Option mR} (h : ∀ x0 x1 x2 x3 x4 x5 x6 x7 x8 x9, zr x0 → zr x1 → zr x2 → zr x3 → zr x4 → zr x5 → zr x6 → zr x7 → zr x8 → zr x9 → Rf (kz x0 x1 x2 x3 x4 x5 x6 x7 x8 x9) (km (i32 x0) (i32 x1) (i32 x2) (i32 x3) (i32 x4) (i32 x5) (i32 x6) (i32 x7) (i32 x8) (i32 x9)) β) (xs : List Int) (hx : ∀ x ∈ xs, zr x) : Rf (uz_10 kz xs) (u_10 km (xs.map i32)) β := by
  match xs, hx with
  | [x0, x1, x2, x3, x4, x5, x6, x7, x8, x9], hx => exact h x0 x1 x2 x3 x4 x5 x6 x7 x8 x9 (hx x0 (by simp)) (hx x1 (by simp)) (hx x2 (by simp)) (hx x3 (by simp)) (hx x4 (by simp)) (hx x5 (by simp)) (hx x6 (by simp)) (hx x7 (by simp)) (hx x8 (by simp)) (hx x9 (by simp))
  | [], _ => exact Rf_none
  | [_], _ => exact Rf_none
  | [_, _], _ => exact Rf_none
  | [_, _, _], _ => exact Rf_none
  | [_, _, _, _], _ => exact Rf_none
  | [_, _, _, _, _], _ => exact Rf_none
  | [_, _, _, _, _, _], _ => exact Rf_none
  | [_, _, _, _, _, _, _], _ => exact Rf_none
  | [_, _, _, _, _, _, _, _], _ => exact Rf_none
  | [_, _, _, _, _, _, _, _, _], _ => exact Rf_none
  | _ :: _ :: _ :: _ :: _ :: _ :: _ :: _ :: _ :: _ :: _ :: _, _ => exact Rf_none
theorem rZ_thrown (rz : zF) (rm : mF) (hR : Rc rz rm) (β : Nat) (σ : zS) (hσ : zOK σ) : Rf (kZ_thrown rz β σ) (kM_thrown rm (cv σ)) β := by
  unfold kZ_thrown kM_thrown
  exact Rf_some hσ (hσ.1 4) rfl
theorem rZ_feed (rz : zF) (rm : mF) (hR : Rc rz rm) (β : Nat) (σ : zS) (hσ : zOK σ) (x0 x1 x2 x3 x4 : Int) (hx0 : zr x0) (hx1 : zr x1) (hx2 : zr x2) (hx3 : zr x3) (hx4 : zr x4) : Rf (kZ_feed rz β σ x0 x1 x2 x3 x4) (kM_feed rm (cv σ) (i32 x0) (i32 x1) (i32 x2) (i32 x3) (i32 x4)) β := by
  unfold kZ_feed kM_feed
  refine Rf_I (by decide) (by decide) hσ (fun σ1 hσ1 => ?_)
  refine Rf_le rfl (by decide) (hσ1.1 2) (by decide) (fun _ => ?_) (fun _ => ?_)
  · exact Rf_tail hR hσ1 (zrs_cons hx0 (zrs_cons hx1 (zrs_cons hx2 (zrs_cons hx3 (zrs_cons hx4 (zrs_cons (by decide) (zrs_cons (by decide) zrs_nil))))))) (e_cons rfl (e_cons rfl (e_cons rfl (e_cons rfl (e_cons rfl (e_cons (by decide) (e_cons (by decide) rfl)))))))
  · exact Rf_tail hR hσ1 (zrs_cons hx0 (zrs_cons hx1 (zrs_cons hx2 (zrs_cons hx3 (zrs_cons hx4 (zrs_cons (by decide) (zrs_cons (by decide) zrs_nil))))))) (e_cons rfl (e_cons rfl (e_cons rfl (e_cons rfl (e_cons rfl (e_cons (by decide) (e_cons (by decide) rfl)))))))
theorem rZ_feed_22 (rz : zF) (rm : mF) (hR : Rc rz rm) (β : Nat) (σ : zS) (hσ : zOK σ) (x0 x1 x2 x3 x4 x5 x6 : Int) (hx0 : zr x0) (hx1 : zr x1) (hx2 : zr x2) (hx3 : zr x3) (hx4 : zr x4) (hx5 : zr x5) (hx6 : zr x6) : Rf (kZ_feed_22 rz β σ x0 x1 x2 x3 x4 x5 x6) (kM_feed_22 rm (cv σ) (i32 x0) (i32 x1) (i32 x2) (i32 x3) (i32 x4) (i32 x5) (i32 x6)) β := by
  unfold kZ_feed_22 kM_feed_22
  refine Rf_bnd hR hσ (zrs_cons hx6 (zrs_cons hx5 zrs_nil)) (e_cons rfl (e_cons rfl rfl)) (fun σ1 r1 hσ1 hr1 => ?_)
  refine Rf_eq rfl (by decide) hr1 (by decide) (fun _ => ?_) (fun _ => ?_)
  · exact Rf_tail hR hσ1 (zrs_cons hx0 (zrs_cons hx1 (zrs_cons hx2 (zrs_cons hx3 (zrs_cons hx4 (zrs_cons (by decide) zrs_nil)))))) (e_cons rfl (e_cons rfl (e_cons rfl (e_cons rfl (e_cons rfl (e_cons (by decide) rfl))))))
  · exact Rf_some hσ1 (by decide) (by decide)
theorem rZ_feed_33 (rz : zF) (rm : mF) (hR : Rc rz rm) (β : Nat) (σ : zS) (hσ : zOK σ) (x0 x1 x2 x3 x4 x5 : Int) (hx0 : zr x0) (hx1 : zr x1) (hx2 : zr x2) (hx3 : zr x3) (hx4 : zr x4) (hx5 : zr x5) : Rf (kZ_feed_33 rz β σ x0 x1 x2 x3 x4 x5) (kM_feed_33 rm (cv σ) (i32 x0) (i32 x1) (i32 x2) (i32 x3) (i32 x4) (i32 x5)) β := by
  unfold kZ_feed_33 kM_feed_33
  refine Rf_le (by decide) rfl (by decide) hx5 (fun _ => ?_) (fun _ => ?_)
  · exact Rf_some hσ (hσ.1 2) rfl
  · refine Rf_le (by decide) rfl (by decide) hx5 (fun _ => ?_) (fun _ => ?_)
    · refine Rf_le (by decide) rfl (by decide) hx5 (fun _ => ?_) (fun _ => ?_)
      · refine Rf_le (by decide) rfl (by decide) hx5 (fun _ => ?_) (fun _ => ?_)
        · refine Rf_le (by decide) rfl (by decide) hx5 (fun _ => ?_) (fun _ => ?_)
          · exact Rf_tail hR hσ (zrs_cons hx0 (zrs_cons hx1 (zrs_cons hx2 (zrs_cons hx3 (zrs_cons hx4 (zrs_cons hx5 (zrs_cons hx4 zrs_nil))))))) (e_cons rfl (e_cons rfl (e_cons rfl (e_cons rfl (e_cons rfl (e_cons rfl (e_cons rfl rfl)))))))
          · exact Rf_tail hR hσ (zrs_cons hx0 (zrs_cons hx1 (zrs_cons hx2 (zrs_cons hx3 (zrs_cons hx4 (zrs_cons hx5 (zrs_cons hx3 zrs_nil))))))) (e_cons rfl (e_cons rfl (e_cons rfl (e_cons rfl (e_cons rfl (e_cons rfl (e_cons rfl rfl)))))))
        · exact Rf_tail hR hσ (zrs_cons hx0 (zrs_cons hx1 (zrs_cons hx2 (zrs_cons hx3 (zrs_cons hx4 (zrs_cons hx5 (zrs_cons hx2 zrs_nil))))))) (e_cons rfl (e_cons rfl (e_cons rfl (e_cons rfl (e_cons rfl (e_cons rfl (e_cons rfl rfl)))))))
      · exact Rf_tail hR hσ (zrs_cons hx0 (zrs_cons hx1 (zrs_cons hx2 (zrs_cons hx3 (zrs_cons hx4 (zrs_cons hx5 (zrs_cons hx1 zrs_nil))))))) (e_cons rfl (e_cons rfl (e_cons rfl (e_cons rfl (e_cons rfl (e_cons rfl (e_cons rfl rfl)))))))
    · exact Rf_tail hR hσ (zrs_cons hx0 (zrs_cons hx1 (zrs_cons hx2 (zrs_cons hx3 (zrs_cons hx4 (zrs_cons hx5 (zrs_cons hx0 zrs_nil))))))) (e_cons rfl (e_cons rfl (e_cons rfl (e_cons rfl (e_cons rfl (e_cons rfl (e_cons rfl rfl)))))))
theorem rZ_feed_86 (rz : zF) (rm : mF) (hR : Rc rz rm) (β : Nat) (σ : zS) (hσ : zOK σ) (x0 x1 x2 x3 x4 x5 x6 : Int) (hx0 : zr x0) (hx1 : zr x1) (hx2 : zr x2) (hx3 : zr x3) (hx4 : zr x4) (hx5 : zr x5) (hx6 : zr x6) : Rf (kZ_feed_86 rz β σ x0 x1 x2 x3 x4 x5 x6) (kM_feed_86 rm (cv σ) (i32 x0) (i32 x1) (i32 x2) (i32 x3) (i32 x4) (i32 x5) (i32 x6)) β := by
  unfold kZ_feed_86 kM_feed_86
  refine Rf_g (fun hg1 => ?_)
  refine Rf_I (e_add rfl (by decide)) hg1 hσ (fun σ1 hσ1 => ?_)
  refine Rf_nz (by decide) ?_
  refine Rf_rd rfl (hσ.1 2) (fun hb2 => ?_)
  refine Rf_g (fun hg3 => ?_)
  refine Rf_g (fun hg4 => ?_)
  refine Rf_A rfl hb2 (e_nb (e_i2b (e_ushr rfl (e_sub (by decide) (e_mul (by decide) (e_mod rfl (by decide) hx5 (by decide))))))) (zr_to _) hσ1 (fun σ2 hσ2 => ?_)
  refine Rf_g (fun hg5 => ?_)
  exact Rf_tail hR hσ2 (zrs_cons hx0 (zrs_cons hx1 (zrs_cons hx2 (zrs_cons hx3 (zrs_cons hx4 (zrs_cons hg5 zrs_nil)))))) (e_cons rfl (e_cons rfl (e_cons rfl (e_cons rfl (e_cons rfl (e_cons (e_add rfl (by decide)) rfl))))))
theorem rZ_refuse (rz : zF) (rm : mF) (hR : Rc rz rm) (β : Nat) (σ : zS) (hσ : zOK σ) (x0 x1 : Int) (hx0 : zr x0) (hx1 : zr x1) : Rf (kZ_refuse rz β σ x0 x1) (kM_refuse rm (cv σ) (i32 x0) (i32 x1)) β := by
  unfold kZ_refuse kM_refuse
  refine Rf_eq rfl (by decide) hx1 (by decide) (fun _ => ?_) (fun _ => ?_)
  · exact Rf_tail hR hσ (zrs_cons hx0 (zrs_cons hx1 zrs_nil)) (e_cons rfl (e_cons rfl rfl))
  · refine Rf_I rfl hx0 hσ (fun σ1 hσ1 => ?_)
    exact Rf_tail hR hσ1 (zrs_cons hx0 (zrs_cons hx1 zrs_nil)) (e_cons rfl (e_cons rfl rfl))
theorem rZ_refuse_9 (rz : zF) (rm : mF) (hR : Rc rz rm) (β : Nat) (σ : zS) (hσ : zOK σ) (x0 x1 : Int) (hx0 : zr x0) (hx1 : zr x1) : Rf (kZ_refuse_9 rz β σ x0 x1) (kM_refuse_9 rm (cv σ) (i32 x0) (i32 x1)) β := by
  unfold kZ_refuse_9 kM_refuse_9
  refine Rf_01 rfl hx1 (fun hb1 => ?_)
  exact Rf_some hσ hx1 rfl
theorem rZ_end (rz : zF) (rm : mF) (hR : Rc rz rm) (β : Nat) (σ : zS) (hσ : zOK σ) (x0 : Int) (hx0 : zr x0) : Rf (kZ_end rz β σ x0) (kM_end rm (cv σ) (i32 x0)) β := by
  unfold kZ_end kM_end
  refine Rf_I (by decide) (by decide) hσ (fun σ1 hσ1 => ?_)
  refine Rf_lt rfl (by decide) hx0 (by decide) (fun _ => ?_) (fun _ => ?_)
  · exact Rf_tail hR hσ1 (zrs_cons hx0 (zrs_cons (by decide) zrs_nil)) (e_cons rfl (e_cons (by decide) rfl))
  · refine Rf_le rfl rfl hx0 (hσ1.1 2) (fun _ => ?_) (fun _ => ?_)
    · exact Rf_tail hR hσ1 (zrs_cons hx0 (zrs_cons (by decide) (zrs_cons (by decide) zrs_nil))) (e_cons rfl (e_cons (by decide) (e_cons (by decide) rfl)))
    · exact Rf_tail hR hσ1 (zrs_cons hx0 (zrs_cons (by decide) zrs_nil)) (e_cons rfl (e_cons (by decide) rfl))
theorem rZ_end_19 (rz : zF) (rm : mF) (hR : Rc rz rm) (β : Nat) (σ : zS) (hσ : zOK σ) (x0 x1 : Int) (hx0 : zr x0) (hx1 : zr x1) : Rf (kZ_end_19 rz β σ x0 x1) (kM_end_19 rm (cv σ) (i32 x0) (i32 x1)) β := by
  unfold kZ_end_19 kM_end_19
  exact Rf_tail hR hσ (zrs_cons hx0 (zrs_cons (by decide) (zrs_cons hx1 zrs_nil))) (e_cons rfl (e_cons (by decide) (e_cons rfl rfl)))
theorem rZ_end_24 (rz : zF) (rm : mF) (hR : Rc rz rm) (β : Nat) (σ : zS) (hσ : zOK σ) (x0 x1 x2 : Int) (hx0 : zr x0) (hx1 : zr x1) (hx2 : zr x2) : Rf (kZ_end_24 rz β σ x0 x1 x2) (kM_end_24 rm (cv σ) (i32 x0) (i32 x1) (i32 x2)) β := by
  unfold kZ_end_24 kM_end_24
  refine Rf_bnd hR hσ (zrs_cons hx2 (zrs_cons hx1 zrs_nil)) (e_cons rfl (e_cons rfl rfl)) (fun σ1 r1 hσ1 hr1 => ?_)
  refine Rf_eq rfl (by decide) hr1 (by decide) (fun _ => ?_) (fun _ => ?_)
  · refine Rf_I rfl hx0 hσ1 (fun σ2 hσ2 => ?_)
    exact Rf_some hσ2 hx0 rfl
  · exact Rf_some hσ1 (by decide) (by decide)
theorem rZ_peek (rz : zF) (rm : mF) (hR : Rc rz rm) (β : Nat) (σ : zS) (hσ : zOK σ) : Rf (kZ_peek rz β σ) (kM_peek rm (cv σ)) β := by
  unfold kZ_peek kM_peek
  refine Rf_eq rfl (by decide) (hσ.1 11) (by decide) (fun _ => ?_) (fun _ => ?_)
  · refine Rf_bnd hR hσ zrs_nil rfl (fun σ1 r1 hσ1 hr1 => ?_)
    refine Rf_I (by decide) (by decide) hσ1 (fun σ2 hσ2 => ?_)
    refine Rf_I rfl (hσ2.1 7) hσ2 (fun σ3 hσ3 => ?_)
    refine Rf_I rfl (hσ3.1 7) hσ3 (fun σ4 hσ4 => ?_)
    refine Rf_eq rfl rfl (hσ4.1 7) (hσ4.1 2) (fun _ => ?_) (fun _ => ?_)
    · refine Rf_I (by decide) (by decide) hσ4 (fun σ10 hσ10 => ?_)
      exact Rf_some hσ10 (by decide) (by decide)
    · refine Rf_g (fun hg1 => ?_)
      refine Rf_I (e_add rfl (by decide)) hg1 hσ4 (fun σ5 hσ5 => ?_)
      refine Rf_I (by decide) (by decide) hσ5 (fun σ6 hσ6 => ?_)
      refine Rf_le rfl (by decide) (hσ6.1 12) (by decide) (fun _ => ?_) (fun _ => ?_)
      · refine Rf_rd rfl (hσ6.1 7) (fun hb2 => ?_)
        refine Rf_bnd hR hσ6 (zrs_cons (hσ6.2.1 _ _) zrs_nil) (e_cons (e_rd rfl hb2) rfl) (fun σ7 r7 hσ7 hr7 => ?_)
        refine Rf_eq rfl (by decide) hr7 (by decide) (fun _ => ?_) (fun _ => ?_)
        · refine Rf_bnd hR hσ7 (zrs_cons (hσ6.2.1 _ _) zrs_nil) (e_cons (e_rd rfl hb2) rfl) (fun σ8 r8 hσ8 hr8 => ?_)
          refine Rf_I rfl hr8 hσ8 (fun σ9 hσ9 => ?_)
          exact Rf_some hσ9 (hσ9.1 8) rfl
        · exact Rf_tail hR hσ7 (zrs_cons (hσ6.2.1 _ _) zrs_nil) (e_cons (e_rd rfl hb2) rfl)
      · exact Rf_some hσ6 (by decide) (by decide)
  · exact Rf_some hσ (hσ.1 8) rfl
theorem rZ_peek_104 (rz : zF) (rm : mF) (hR : Rc rz rm) (β : Nat) (σ : zS) (hσ : zOK σ) (x0 : Int) (hx0 : zr x0) : Rf (kZ_peek_104 rz β σ x0) (kM_peek_104 rm (cv σ) (i32 x0)) β := by
  unfold kZ_peek_104 kM_peek_104
  refine Rf_le rfl rfl (hσ.1 2) (hσ.1 10) (fun _ => ?_) (fun _ => ?_)
  · exact Rf_tail hR hσ (zrs_cons hx0 zrs_nil) (e_cons rfl rfl)
  · refine Rf_rd rfl (hσ.1 10) (fun hb1 => ?_)
    refine Rf_bnd hR hσ (zrs_cons (hσ.2.1 _ _) zrs_nil) (e_cons (e_rd rfl hb1) rfl) (fun σ1 r1 hσ1 hr1 => ?_)
    refine Rf_eq rfl (by decide) hr1 (by decide) (fun _ => ?_) (fun _ => ?_)
    · exact Rf_tail hR hσ1 (zrs_cons hx0 zrs_nil) (e_cons rfl rfl)
    · refine Rf_g (fun hg2 => ?_)
      refine Rf_I (e_add rfl (by decide)) hg2 hσ1 (fun σ2 hσ2 => ?_)
      exact Rf_tail hR hσ2 (zrs_cons hx0 zrs_nil) (e_cons rfl rfl)
theorem rZ_peek_144 (rz : zF) (rm : mF) (hR : Rc rz rm) (β : Nat) (σ : zS) (hσ : zOK σ) (x0 : Int) (hx0 : zr x0) : Rf (kZ_peek_144 rz β σ x0) (kM_peek_144 rm (cv σ) (i32 x0)) β := by
  unfold kZ_peek_144 kM_peek_144
  refine Rf_g (fun hg1 => ?_)
  refine Rf_le (e_sub rfl rfl) (by decide) hg1 (by decide) (fun _ => ?_) (fun _ => ?_)
  · refine Rf_le (by decide) rfl (by decide) hx0 (fun _ => ?_) (fun _ => ?_)
    · exact Rf_tail hR hσ (zrs_cons hx0 (zrs_cons (by decide) zrs_nil)) (e_cons rfl (e_cons (by decide) rfl))
    · exact Rf_tail hR hσ (zrs_cons hx0 (zrs_cons (by decide) zrs_nil)) (e_cons rfl (e_cons (by decide) rfl))
  · exact Rf_tail hR hσ (zrs_cons hx0 (zrs_cons (by decide) zrs_nil)) (e_cons rfl (e_cons (by decide) rfl))
theorem rZ_peek_176 (rz : zF) (rm : mF) (hR : Rc rz rm) (β : Nat) (σ : zS) (hσ : zOK σ) (x0 x1 : Int) (hx0 : zr x0) (hx1 : zr x1) : Rf (kZ_peek_176 rz β σ x0 x1) (kM_peek_176 rm (cv σ) (i32 x0) (i32 x1)) β := by
  unfold kZ_peek_176 kM_peek_176
  refine Rf_I rfl hx1 hσ (fun σ1 hσ1 => ?_)
  exact Rf_some hσ1 (hσ1.1 8) rfl
theorem rZ_parts (rz : zF) (rm : mF) (hR : Rc rz rm) (β : Nat) (σ : zS) (hσ : zOK σ) : Rf (kZ_parts rz β σ) (kM_parts rm (cv σ)) β := by
  unfold kZ_parts kM_parts
  exact Rf_tail hR hσ (zrs_cons (by decide) zrs_nil) (e_cons (by decide) rfl)
theorem rZ_parts_2 (rz : zF) (rm : mF) (hR : Rc rz rm) (β : Nat) (σ : zS) (hσ : zOK σ) (x0 : Int) (hx0 : zr x0) : Rf (kZ_parts_2 rz β σ x0) (kM_parts_2 rm (cv σ) (i32 x0)) β := by
  unfold kZ_parts_2 kM_parts_2
  refine Rf_eq rfl (by decide) hx0 (by decide) (fun _ => ?_) (fun _ => ?_)
  · exact Rf_some hσ (by decide) (by decide)
  · exact Rf_tail hR hσ (zrs_cons (by decide) zrs_nil) (e_cons (by decide) rfl)
theorem rZ_parts_8 (rz : zF) (rm : mF) (hR : Rc rz rm) (β : Nat) (σ : zS) (hσ : zOK σ) (x0 : Int) (hx0 : zr x0) : Rf (kZ_parts_8 rz β σ x0) (kM_parts_8 rm (cv σ) (i32 x0)) β := by
  unfold kZ_parts_8 kM_parts_8
  refine Rf_le rfl rfl (hσ.1 2) (hσ.1 7) (fun _ => ?_) (fun _ => ?_)
  · exact Rf_tail hR hσ (zrs_cons hx0 zrs_nil) (e_cons rfl rfl)
  · refine Rf_rd rfl (hσ.1 7) (fun hb1 => ?_)
    refine Rf_eq (e_rd rfl hb1) (by decide) (hσ.2.1 _ _) (by decide) (fun _ => ?_) (fun _ => ?_)
    · exact Rf_tail hR hσ (zrs_cons hx0 zrs_nil) (e_cons rfl rfl)
    · refine Rf_rd2 rfl hb1 ?_
      refine Rf_eq (e_rd rfl hb1) (by decide) (hσ.2.1 _ _) (by decide) (fun _ => ?_) (fun _ => ?_)
      · exact Rf_tail hR hσ (zrs_cons hx0 zrs_nil) (e_cons rfl rfl)
      · refine Rf_rd2 rfl hb1 ?_
        refine Rf_eq (e_rd rfl hb1) (by decide) (hσ.2.1 _ _) (by decide) (fun _ => ?_) (fun _ => ?_)
        · exact Rf_tail hR hσ (zrs_cons hx0 zrs_nil) (e_cons rfl rfl)
        · refine Rf_rd2 rfl hb1 ?_
          refine Rf_eq (e_rd rfl hb1) (by decide) (hσ.2.1 _ _) (by decide) (fun _ => ?_) (fun _ => ?_)
          · exact Rf_tail hR hσ (zrs_cons hx0 zrs_nil) (e_cons rfl rfl)
          · exact Rf_tail hR hσ (zrs_cons hx0 zrs_nil) (e_cons rfl rfl)
theorem rZ_parts_75 (rz : zF) (rm : mF) (hR : Rc rz rm) (β : Nat) (σ : zS) (hσ : zOK σ) (x0 : Int) (hx0 : zr x0) : Rf (kZ_parts_75 rz β σ x0) (kM_parts_75 rm (cv σ) (i32 x0)) β := by
  unfold kZ_parts_75 kM_parts_75
  refine Rf_g (fun hg1 => ?_)
  refine Rf_I (e_add rfl (by decide)) hg1 hσ (fun σ1 hσ1 => ?_)
  exact Rf_tail hR hσ1 (zrs_cons hx0 zrs_nil) (e_cons rfl rfl)
theorem rZ_parts_88 (rz : zF) (rm : mF) (hR : Rc rz rm) (β : Nat) (σ : zS) (hσ : zOK σ) (x0 : Int) (hx0 : zr x0) : Rf (kZ_parts_88 rz β σ x0) (kM_parts_88 rm (cv σ) (i32 x0)) β := by
  unfold kZ_parts_88 kM_parts_88
  refine Rf_le rfl rfl (hσ.1 2) (hσ.1 7) (fun _ => ?_) (fun _ => ?_)
  · exact Rf_tail hR hσ (zrs_cons hx0 zrs_nil) (e_cons rfl rfl)
  · refine Rf_rd rfl (hσ.1 7) (fun hb1 => ?_)
    refine Rf_eq (e_rd rfl hb1) (by decide) (hσ.2.1 _ _) (by decide) (fun _ => ?_) (fun _ => ?_)
    · exact Rf_tail hR hσ (zrs_cons hx0 zrs_nil) (e_cons rfl rfl)
    · exact Rf_tail hR hσ (zrs_cons hx0 zrs_nil) (e_cons rfl rfl)
theorem rZ_parts_113 (rz : zF) (rm : mF) (hR : Rc rz rm) (β : Nat) (σ : zS) (hσ : zOK σ) (x0 : Int) (hx0 : zr x0) : Rf (kZ_parts_113 rz β σ x0) (kM_parts_113 rm (cv σ) (i32 x0)) β := by
  unfold kZ_parts_113 kM_parts_113
  refine Rf_le rfl rfl (hσ.1 2) (hσ.1 7) (fun _ => ?_) (fun _ => ?_)
  · exact Rf_tail hR hσ (zrs_cons hx0 zrs_nil) (e_cons rfl rfl)
  · refine Rf_rd rfl (hσ.1 7) (fun hb1 => ?_)
    refine Rf_eq (e_rd rfl hb1) (by decide) (hσ.2.1 _ _) (by decide) (fun _ => ?_) (fun _ => ?_)
    · exact Rf_tail hR hσ (zrs_cons hx0 zrs_nil) (e_cons rfl rfl)
    · refine Rf_g (fun hg2 => ?_)
      refine Rf_I (e_add rfl (by decide)) hg2 hσ (fun σ1 hσ1 => ?_)
      exact Rf_tail hR hσ1 (zrs_cons hx0 zrs_nil) (e_cons rfl rfl)
theorem rZ_parts_151 (rz : zF) (rm : mF) (hR : Rc rz rm) (β : Nat) (σ : zS) (hσ : zOK σ) (x0 : Int) (hx0 : zr x0) : Rf (kZ_parts_151 rz β σ x0) (kM_parts_151 rm (cv σ) (i32 x0)) β := by
  unfold kZ_parts_151 kM_parts_151
  exact Rf_tail hR hσ (zrs_cons (by decide) zrs_nil) (e_cons (by decide) rfl)
theorem rZ_letter (rz : zF) (rm : mF) (hR : Rc rz rm) (β : Nat) (σ : zS) (hσ : zOK σ) (x0 : Int) (hx0 : zr x0) : Rf (kZ_letter rz β σ x0) (kM_letter rm (cv σ) (i32 x0)) β := by
  unfold kZ_letter kM_letter
  refine Rf_lt rfl (by decide) hx0 (by decide) (fun _ => ?_) (fun _ => ?_)
  · exact Rf_tail hR hσ (zrs_cons hx0 zrs_nil) (e_cons rfl rfl)
  · refine Rf_le rfl (by decide) hx0 (by decide) (fun _ => ?_) (fun _ => ?_)
    · exact Rf_tail hR hσ (zrs_cons hx0 zrs_nil) (e_cons rfl rfl)
    · exact Rf_tail hR hσ (zrs_cons hx0 zrs_nil) (e_cons rfl rfl)
theorem rZ_letter_12 (rz : zF) (rm : mF) (hR : Rc rz rm) (β : Nat) (σ : zS) (hσ : zOK σ) (x0 : Int) (hx0 : zr x0) : Rf (kZ_letter_12 rz β σ x0) (kM_letter_12 rm (cv σ) (i32 x0)) β := by
  unfold kZ_letter_12 kM_letter_12
  refine Rf_lt rfl (by decide) hx0 (by decide) (fun _ => ?_) (fun _ => ?_)
  · exact Rf_tail hR hσ (zrs_cons hx0 zrs_nil) (e_cons rfl rfl)
  · refine Rf_lt (by decide) rfl (by decide) hx0 (fun _ => ?_) (fun _ => ?_)
    · exact Rf_tail hR hσ (zrs_cons hx0 zrs_nil) (e_cons rfl rfl)
    · exact Rf_tail hR hσ (zrs_cons hx0 zrs_nil) (e_cons rfl rfl)
theorem rZ_letter_24 (rz : zF) (rm : mF) (hR : Rc rz rm) (β : Nat) (σ : zS) (hσ : zOK σ) (x0 : Int) (hx0 : zr x0) : Rf (kZ_letter_24 rz β σ x0) (kM_letter_24 rm (cv σ) (i32 x0)) β := by
  unfold kZ_letter_24 kM_letter_24
  exact Rf_tail hR hσ (zrs_cons hx0 (zrs_cons (by decide) zrs_nil)) (e_cons rfl (e_cons (by decide) rfl))
theorem rZ_letter_28 (rz : zF) (rm : mF) (hR : Rc rz rm) (β : Nat) (σ : zS) (hσ : zOK σ) (x0 : Int) (hx0 : zr x0) : Rf (kZ_letter_28 rz β σ x0) (kM_letter_28 rm (cv σ) (i32 x0)) β := by
  unfold kZ_letter_28 kM_letter_28
  exact Rf_tail hR hσ (zrs_cons hx0 (zrs_cons (by decide) zrs_nil)) (e_cons rfl (e_cons (by decide) rfl))
theorem rZ_letter_29 (rz : zF) (rm : mF) (hR : Rc rz rm) (β : Nat) (σ : zS) (hσ : zOK σ) (x0 x1 : Int) (hx0 : zr x0) (hx1 : zr x1) : Rf (kZ_letter_29 rz β σ x0 x1) (kM_letter_29 rm (cv σ) (i32 x0) (i32 x1)) β := by
  unfold kZ_letter_29 kM_letter_29
  refine Rf_01 rfl hx1 (fun hb1 => ?_)
  exact Rf_some hσ hx1 rfl
theorem rZ_inWord (rz : zF) (rm : mF) (hR : Rc rz rm) (β : Nat) (σ : zS) (hσ : zOK σ) (x0 : Int) (hx0 : zr x0) : Rf (kZ_inWord rz β σ x0) (kM_inWord rm (cv σ) (i32 x0)) β := by
  unfold kZ_inWord kM_inWord
  refine Rf_bnd hR hσ (zrs_cons hx0 zrs_nil) (e_cons rfl rfl) (fun σ1 r1 hσ1 hr1 => ?_)
  refine Rf_eq rfl (by decide) hr1 (by decide) (fun _ => ?_) (fun _ => ?_)
  · refine Rf_lt rfl (by decide) hx0 (by decide) (fun _ => ?_) (fun _ => ?_)
    · exact Rf_tail hR hσ1 (zrs_cons hx0 zrs_nil) (e_cons rfl rfl)
    · refine Rf_le rfl (by decide) hx0 (by decide) (fun _ => ?_) (fun _ => ?_)
      · exact Rf_tail hR hσ1 (zrs_cons hx0 zrs_nil) (e_cons rfl rfl)
      · exact Rf_tail hR hσ1 (zrs_cons hx0 zrs_nil) (e_cons rfl rfl)
  · exact Rf_tail hR hσ1 (zrs_cons hx0 zrs_nil) (e_cons rfl rfl)
theorem rZ_inWord_20 (rz : zF) (rm : mF) (hR : Rc rz rm) (β : Nat) (σ : zS) (hσ : zOK σ) (x0 : Int) (hx0 : zr x0) : Rf (kZ_inWord_20 rz β σ x0) (kM_inWord_20 rm (cv σ) (i32 x0)) β := by
  unfold kZ_inWord_20 kM_inWord_20
  refine Rf_eq rfl (by decide) hx0 (by decide) (fun _ => ?_) (fun _ => ?_)
  · exact Rf_tail hR hσ (zrs_cons hx0 zrs_nil) (e_cons rfl rfl)
  · exact Rf_tail hR hσ (zrs_cons hx0 (zrs_cons (by decide) zrs_nil)) (e_cons rfl (e_cons (by decide) rfl))
theorem rZ_inWord_26 (rz : zF) (rm : mF) (hR : Rc rz rm) (β : Nat) (σ : zS) (hσ : zOK σ) (x0 : Int) (hx0 : zr x0) : Rf (kZ_inWord_26 rz β σ x0) (kM_inWord_26 rm (cv σ) (i32 x0)) β := by
  unfold kZ_inWord_26 kM_inWord_26
  exact Rf_tail hR hσ (zrs_cons hx0 (zrs_cons (by decide) zrs_nil)) (e_cons rfl (e_cons (by decide) rfl))
theorem rZ_inWord_31 (rz : zF) (rm : mF) (hR : Rc rz rm) (β : Nat) (σ : zS) (hσ : zOK σ) (x0 x1 : Int) (hx0 : zr x0) (hx1 : zr x1) : Rf (kZ_inWord_31 rz β σ x0 x1) (kM_inWord_31 rm (cv σ) (i32 x0) (i32 x1)) β := by
  unfold kZ_inWord_31 kM_inWord_31
  refine Rf_01 rfl hx1 (fun hb1 => ?_)
  exact Rf_some hσ hx1 rfl
theorem rZ_sign (rz : zF) (rm : mF) (hR : Rc rz rm) (β : Nat) (σ : zS) (hσ : zOK σ) (x0 : Int) (hx0 : zr x0) : Rf (kZ_sign rz β σ x0) (kM_sign rm (cv σ) (i32 x0)) β := by
  unfold kZ_sign kM_sign
  refine Rf_g (fun hg1 => ?_)
  refine Rf_I (e_add rfl (by decide)) hg1 hσ (fun σ1 hσ1 => ?_)
  refine Rf_eq rfl (by decide) hx0 (by decide) (fun _ => ?_) (fun _ => ?_)
  · refine Rf_g (fun hg2 => ?_)
    refine Rf_bnd hR hσ1 (zrs_cons hg2 (zrs_cons (by decide) zrs_nil)) (e_cons (e_add rfl (by decide)) (e_cons (by decide) rfl)) (fun σ2 r2 hσ2 hr2 => ?_)
    refine Rf_eq rfl (by decide) hr2 (by decide) (fun _ => ?_) (fun _ => ?_)
    · exact Rf_some hσ2 hx0 rfl
    · refine Rf_g (fun hg3 => ?_)
      refine Rf_I (e_add rfl (by decide)) hg3 hσ2 (fun σ3 hσ3 => ?_)
      exact Rf_some hσ3 (by decide) (by decide)
  · refine Rf_eq rfl (by decide) hx0 (by decide) (fun _ => ?_) (fun _ => ?_)
    · exact Rf_some hσ1 hx0 rfl
    · refine Rf_eq rfl (by decide) hx0 (by decide) (fun _ => ?_) (fun _ => ?_)
      · exact Rf_some hσ1 hx0 rfl
      · refine Rf_eq rfl (by decide) hx0 (by decide) (fun _ => ?_) (fun _ => ?_)
        · exact Rf_some hσ1 hx0 rfl
        · refine Rf_eq rfl (by decide) hx0 (by decide) (fun _ => ?_) (fun _ => ?_)
          · exact Rf_some hσ1 hx0 rfl
          · refine Rf_eq rfl (by decide) hx0 (by decide) (fun _ => ?_) (fun _ => ?_)
            · exact Rf_some hσ1 hx0 rfl
            · refine Rf_eq rfl (by decide) hx0 (by decide) (fun _ => ?_) (fun _ => ?_)
              · exact Rf_some hσ1 hx0 rfl
              · refine Rf_eq rfl (by decide) hx0 (by decide) (fun _ => ?_) (fun _ => ?_)
                · refine Rf_g (fun hg4 => ?_)
                  refine Rf_bnd hR hσ1 (zrs_cons hg4 (zrs_cons (by decide) zrs_nil)) (e_cons (e_add rfl (by decide)) (e_cons (by decide) rfl)) (fun σ4 r4 hσ4 hr4 => ?_)
                  refine Rf_eq rfl (by decide) hr4 (by decide) (fun _ => ?_) (fun _ => ?_)
                  · exact Rf_tail hR hσ4 (zrs_cons hx0 zrs_nil) (e_cons rfl rfl)
                  · refine Rf_g (fun hg5 => ?_)
                    refine Rf_bnd hR hσ4 (zrs_cons hg5 (zrs_cons (by decide) zrs_nil)) (e_cons (e_add rfl (by decide)) (e_cons (by decide) rfl)) (fun σ5 r5 hσ5 hr5 => ?_)
                    refine Rf_eq rfl (by decide) hr5 (by decide) (fun _ => ?_) (fun _ => ?_)
                    · exact Rf_tail hR hσ5 (zrs_cons hx0 zrs_nil) (e_cons rfl rfl)
                    · refine Rf_g (fun hg6 => ?_)
                      refine Rf_I (e_add rfl (by decide)) hg6 hσ5 (fun σ6 hσ6 => ?_)
                      exact Rf_some hσ6 (by decide) (by decide)
                · refine Rf_eq rfl (by decide) hx0 (by decide) (fun _ => ?_) (fun _ => ?_)
                  · refine Rf_g (fun hg7 => ?_)
                    refine Rf_bnd hR hσ1 (zrs_cons hg7 (zrs_cons (by decide) zrs_nil)) (e_cons (e_add rfl (by decide)) (e_cons (by decide) rfl)) (fun σ7 r7 hσ7 hr7 => ?_)
                    refine Rf_eq rfl (by decide) hr7 (by decide) (fun _ => ?_) (fun _ => ?_)
                    · exact Rf_some hσ7 hx0 rfl
                    · refine Rf_g (fun hg8 => ?_)
                      refine Rf_I (e_add rfl (by decide)) hg8 hσ7 (fun σ8 hσ8 => ?_)
                      exact Rf_some hσ8 (by decide) (by decide)
                  · refine Rf_eq rfl (by decide) hx0 (by decide) (fun _ => ?_) (fun _ => ?_)
                    · exact Rf_some hσ1 hx0 rfl
                    · refine Rf_eq rfl (by decide) hx0 (by decide) (fun _ => ?_) (fun _ => ?_)
                      · exact Rf_some hσ1 hx0 rfl
                      · refine Rf_eq rfl (by decide) hx0 (by decide) (fun _ => ?_) (fun _ => ?_)
                        · exact Rf_some hσ1 hx0 rfl
                        · exact Rf_some hσ1 (by decide) (by decide)
theorem rZ_sign_210 (rz : zF) (rm : mF) (hR : Rc rz rm) (β : Nat) (σ : zS) (hσ : zOK σ) (x0 : Int) (hx0 : zr x0) : Rf (kZ_sign_210 rz β σ x0) (kM_sign_210 rm (cv σ) (i32 x0)) β := by
  unfold kZ_sign_210 kM_sign_210
  exact Rf_some hσ (by decide) (by decide)
theorem rZ_at (rz : zF) (rm : mF) (hR : Rc rz rm) (β : Nat) (σ : zS) (hσ : zOK σ) (x0 x1 : Int) (hx0 : zr x0) (hx1 : zr x1) : Rf (kZ_at rz β σ x0 x1) (kM_at rm (cv σ) (i32 x0) (i32 x1)) β := by
  unfold kZ_at kM_at
  refine Rf_le rfl rfl (hσ.1 2) hx0 (fun _ => ?_) (fun _ => ?_)
  · exact Rf_tail hR hσ (zrs_cons hx0 (zrs_cons hx1 zrs_nil)) (e_cons rfl (e_cons rfl rfl))
  · refine Rf_rd rfl hx0 (fun hb1 => ?_)
    refine Rf_eq (e_rd rfl hb1) rfl (hσ.2.1 _ _) hx1 (fun _ => ?_) (fun _ => ?_)
    · exact Rf_tail hR hσ (zrs_cons hx0 (zrs_cons hx1 (zrs_cons (by decide) zrs_nil))) (e_cons rfl (e_cons rfl (e_cons (by decide) rfl)))
    · exact Rf_tail hR hσ (zrs_cons hx0 (zrs_cons hx1 zrs_nil)) (e_cons rfl (e_cons rfl rfl))
theorem rZ_at_22 (rz : zF) (rm : mF) (hR : Rc rz rm) (β : Nat) (σ : zS) (hσ : zOK σ) (x0 x1 : Int) (hx0 : zr x0) (hx1 : zr x1) : Rf (kZ_at_22 rz β σ x0 x1) (kM_at_22 rm (cv σ) (i32 x0) (i32 x1)) β := by
  unfold kZ_at_22 kM_at_22
  exact Rf_tail hR hσ (zrs_cons hx0 (zrs_cons hx1 (zrs_cons (by decide) zrs_nil))) (e_cons rfl (e_cons rfl (e_cons (by decide) rfl)))
theorem rZ_at_23 (rz : zF) (rm : mF) (hR : Rc rz rm) (β : Nat) (σ : zS) (hσ : zOK σ) (x0 x1 x2 : Int) (hx0 : zr x0) (hx1 : zr x1) (hx2 : zr x2) : Rf (kZ_at_23 rz β σ x0 x1 x2) (kM_at_23 rm (cv σ) (i32 x0) (i32 x1) (i32 x2)) β := by
  unfold kZ_at_23 kM_at_23
  refine Rf_01 rfl hx2 (fun hb1 => ?_)
  exact Rf_some hσ hx2 rfl
theorem rZ_take (rz : zF) (rm : mF) (hR : Rc rz rm) (β : Nat) (σ : zS) (hσ : zOK σ) : Rf (kZ_take rz β σ) (kM_take rm (cv σ)) β := by
  unfold kZ_take kM_take
  refine Rf_bnd hR hσ zrs_nil rfl (fun σ1 r1 hσ1 hr1 => ?_)
  refine Rf_I rfl (hσ1.1 10) hσ1 (fun σ2 hσ2 => ?_)
  refine Rf_I (by decide) (by decide) hσ2 (fun σ3 hσ3 => ?_)
  exact Rf_some hσ3 (by decide) (by decide)
theorem rZ_node (rz : zF) (rm : mF) (hR : Rc rz rm) (β : Nat) (σ : zS) (hσ : zOK σ) (x0 x1 x2 x3 : Int) (hx0 : zr x0) (hx1 : zr x1) (hx2 : zr x2) (hx3 : zr x3) : Rf (kZ_node rz β σ x0 x1 x2 x3) (kM_node rm (cv σ) (i32 x0) (i32 x1) (i32 x2) (i32 x3)) β := by
  unfold kZ_node kM_node
  refine Rf_rd rfl (hσ.1 37) (fun hb1 => ?_)
  refine Rf_A rfl hb1 rfl hx0 hσ (fun σ1 hσ1 => ?_)
  refine Rf_rd rfl (hσ1.1 37) (fun hb2 => ?_)
  refine Rf_A rfl hb2 rfl hx1 hσ1 (fun σ2 hσ2 => ?_)
  refine Rf_rd rfl (hσ2.1 37) (fun hb3 => ?_)
  refine Rf_A rfl hb3 rfl hx2 hσ2 (fun σ3 hσ3 => ?_)
  refine Rf_rd rfl (hσ3.1 37) (fun hb4 => ?_)
  refine Rf_A rfl hb4 rfl hx3 hσ3 (fun σ4 hσ4 => ?_)
  refine Rf_g (fun hg5 => ?_)
  refine Rf_I (e_add rfl (by decide)) hg5 hσ4 (fun σ5 hσ5 => ?_)
  exact Rf_some hσ5 (hσ4.1 37) rfl
theorem rZ_isBinder (rz : zF) (rm : mF) (hR : Rc rz rm) (β : Nat) (σ : zS) (hσ : zOK σ) (x0 : Int) (hx0 : zr x0) : Rf (kZ_isBinder rz β σ x0) (kM_isBinder rm (cv σ) (i32 x0)) β := by
  unfold kZ_isBinder kM_isBinder
  refine Rf_rd rfl hx0 (fun hb1 => ?_)
  refine Rf_g (fun hg2 => ?_)
  refine Rf_eq (e_rd rfl hb1) (e_sub rfl rfl) (hσ.2.1 _ _) hg2 (fun _ => ?_) (fun _ => ?_)
  · exact Rf_tail hR hσ (zrs_cons hx0 (zrs_cons (by decide) zrs_nil)) (e_cons rfl (e_cons (by decide) rfl))
  · exact Rf_some hσ (by decide) (by decide)
theorem rZ_isBinder_22 (rz : zF) (rm : mF) (hR : Rc rz rm) (β : Nat) (σ : zS) (hσ : zOK σ) (x0 x1 : Int) (hx0 : zr x0) (hx1 : zr x1) : Rf (kZ_isBinder_22 rz β σ x0 x1) (kM_isBinder_22 rm (cv σ) (i32 x0) (i32 x1)) β := by
  unfold kZ_isBinder_22 kM_isBinder_22
  refine Rf_rd rfl hx0 (fun hb1 => ?_)
  refine Rf_le (e_rd rfl hb1) rfl (hσ.2.1 _ _) hx1 (fun _ => ?_) (fun _ => ?_)
  · exact Rf_some hσ (by decide) (by decide)
  · refine Rf_rd2 rfl hb1 ?_
    refine Rf_g (fun hg2 => ?_)
    refine Rf_rd (e_add (e_rd rfl hb1) rfl) hg2 (fun hb3 => ?_)
    refine Rf_g (fun hg4 => ?_)
    refine Rf_rd (e_add rfl rfl) hg4 (fun hb5 => ?_)
    refine Rf_eq (e_rd (e_add (e_rd rfl hb1) rfl) hb3) (e_rd (e_add rfl rfl) hb5) (hσ.2.1 _ _) (hσ.2.1 _ _) (fun _ => ?_) (fun _ => ?_)
    · refine Rf_g (fun hg6 => ?_)
      exact Rf_tail hR hσ (zrs_cons hx0 (zrs_cons hg6 zrs_nil)) (e_cons rfl (e_cons (e_add rfl (by decide)) rfl))
    · exact Rf_some hσ (by decide) (by decide)
theorem rZ_term (rz : zF) (rm : mF) (hR : Rc rz rm) (β : Nat) (σ : zS) (hσ : zOK σ) (x0 x1 : Int) (hx0 : zr x0) (hx1 : zr x1) : Rf (kZ_term rz β σ x0 x1) (kM_term rm (cv σ) (i32 x0) (i32 x1)) β := by
  unfold kZ_term kM_term
  refine Rf_rd rfl (hσ.1 38) (fun hb1 => ?_)
  refine Rf_A rfl hb1 rfl hx0 hσ (fun σ1 hσ1 => ?_)
  refine Rf_rd rfl (hσ1.1 38) (fun hb2 => ?_)
  refine Rf_A rfl hb2 rfl hx1 hσ1 (fun σ2 hσ2 => ?_)
  refine Rf_rd rfl (hσ2.1 38) (fun hb3 => ?_)
  refine Rf_A rfl hb3 (by decide) (by decide) hσ2 (fun σ3 hσ3 => ?_)
  refine Rf_g (fun hg4 => ?_)
  refine Rf_I (e_add rfl (by decide)) hg4 hσ3 (fun σ4 hσ4 => ?_)
  exact Rf_some hσ4 (hσ3.1 38) rfl
theorem rZ_length (rz : zF) (rm : mF) (hR : Rc rz rm) (β : Nat) (σ : zS) (hσ : zOK σ) (x0 : Int) (hx0 : zr x0) : Rf (kZ_length rz β σ x0) (kM_length rm (cv σ) (i32 x0)) β := by
  unfold kZ_length kM_length
  exact Rf_tail hR hσ (zrs_cons hx0 (zrs_cons (by decide) (zrs_cons hx0 zrs_nil))) (e_cons rfl (e_cons (by decide) (e_cons rfl rfl)))
theorem rZ_length_4 (rz : zF) (rm : mF) (hR : Rc rz rm) (β : Nat) (σ : zS) (hσ : zOK σ) (x0 x1 x2 : Int) (hx0 : zr x0) (hx1 : zr x1) (hx2 : zr x2) : Rf (kZ_length_4 rz β σ x0 x1 x2) (kM_length_4 rm (cv σ) (i32 x0) (i32 x1) (i32 x2)) β := by
  unfold kZ_length_4 kM_length_4
  refine Rf_lt rfl (by decide) hx2 (by decide) (fun _ => ?_) (fun _ => ?_)
  · exact Rf_some hσ hx1 rfl
  · refine Rf_rd rfl hx2 (fun hb1 => ?_)
    refine Rf_g (fun hg2 => ?_)
    exact Rf_tail hR hσ (zrs_cons hx0 (zrs_cons hg2 (zrs_cons (hσ.2.1 _ _) zrs_nil))) (e_cons rfl (e_cons (e_add rfl (by decide)) (e_cons (e_rd rfl hb1) rfl)))
theorem rZ_termOf (rz : zF) (rm : mF) (hR : Rc rz rm) (β : Nat) (σ : zS) (hσ : zOK σ) (x0 x1 : Int) (hx0 : zr x0) (hx1 : zr x1) : Rf (kZ_termOf rz β σ x0 x1) (kM_termOf rm (cv σ) (i32 x0) (i32 x1)) β := by
  unfold kZ_termOf kM_termOf
  refine Rf_rd rfl (hσ.1 40) (fun hb1 => ?_)
  refine Rf_A rfl hb1 rfl hx0 hσ (fun σ1 hσ1 => ?_)
  refine Rf_rd rfl (hσ1.1 40) (fun hb2 => ?_)
  refine Rf_A rfl hb2 rfl hx1 hσ1 (fun σ2 hσ2 => ?_)
  refine Rf_g (fun hg3 => ?_)
  refine Rf_I (e_add rfl (by decide)) hg3 hσ2 (fun σ3 hσ3 => ?_)
  refine Rf_I rfl (hσ2.1 40) hσ3 (fun σ4 hσ4 => ?_)
  exact Rf_some hσ4 (by decide) (by decide)
theorem rZ_joined1 (rz : zF) (rm : mF) (hR : Rc rz rm) (β : Nat) (σ : zS) (hσ : zOK σ) (x0 x1 x2 : Int) (hx0 : zr x0) (hx1 : zr x1) (hx2 : zr x2) : Rf (kZ_joined1 rz β σ x0 x1 x2) (kM_joined1 rm (cv σ) (i32 x0) (i32 x1) (i32 x2)) β := by
  unfold kZ_joined1 kM_joined1
  refine Rf_rd rfl hx1 (fun hb1 => ?_)
  refine Rf_rd rfl hx2 (fun hb2 => ?_)
  refine Rf_g (fun hg3 => ?_)
  refine Rf_bnd hR hσ (zrs_cons hx0 (zrs_cons hx1 (zrs_cons hx2 (zrs_cons hg3 zrs_nil)))) (e_cons rfl (e_cons rfl (e_cons rfl (e_cons (e_add (by decide) (e_ite (e_rd rfl hb1) (e_rd rfl hb2) (hσ.2.1 _ _) (hσ.2.1 _ _) (e_rd rfl hb2) (e_rd rfl hb1))) rfl)))) (fun σ1 r1 hσ1 hr1 => ?_)
  exact Rf_some hσ1 hr1 rfl
theorem rZ_mark (rz : zF) (rm : mF) (hR : Rc rz rm) (β : Nat) (σ : zS) (hσ : zOK σ) (x0 x1 x2 : Int) (hx0 : zr x0) (hx1 : zr x1) (hx2 : zr x2) : Rf (kZ_mark rz β σ x0 x1 x2) (kM_mark rm (cv σ) (i32 x0) (i32 x1) (i32 x2)) β := by
  unfold kZ_mark kM_mark
  refine Rf_rd rfl hx0 (fun hb1 => ?_)
  refine Rf_out (e_rd rfl hb1) (hσ.2.1 _ _) (fun _ => ?_) (fun _ => ?_)
  · refine Rf_rd2 rfl hb1 ?_
    refine Rf_eq (e_rd rfl hb1) (by decide) (hσ.2.1 _ _) (by decide) (fun _ => ?_) (fun _ => ?_)
    · exact Rf_tail hR hσ (zrs_cons hx0 (zrs_cons hx1 (zrs_cons hx2 (zrs_cons (by decide) (zrs_cons hx0 zrs_nil))))) (e_cons rfl (e_cons rfl (e_cons rfl (e_cons (by decide) (e_cons rfl rfl)))))
    · exact Rf_tail hR hσ (zrs_cons hx0 (zrs_cons hx1 (zrs_cons hx2 (zrs_cons (by decide) (zrs_cons hx0 zrs_nil))))) (e_cons rfl (e_cons rfl (e_cons rfl (e_cons (by decide) (e_cons rfl rfl)))))
  · refine Rf_eq (e_rd rfl hb1) (by decide) (hσ.2.1 _ _) (by decide) (fun _ => ?_) (fun _ => ?_)
    · exact Rf_tail hR hσ (zrs_cons hx0 (zrs_cons hx1 (zrs_cons hx2 zrs_nil))) (e_cons rfl (e_cons rfl (e_cons rfl rfl)))
    · refine Rf_eq (e_rd rfl hb1) (by decide) (hσ.2.1 _ _) (by decide) (fun _ => ?_) (fun _ => ?_)
      · refine Rf_rd2 rfl hb1 ?_
        refine Rf_eq rfl (by decide) hx1 (by decide) (fun _ => ?_) (fun _ => ?_)
        · exact Rf_tail hR hσ (zrs_cons hx0 (zrs_cons hx1 (zrs_cons hx2 (zrs_cons (by decide) (zrs_cons (hσ.2.1 _ _) zrs_nil))))) (e_cons rfl (e_cons rfl (e_cons rfl (e_cons (by decide) (e_cons (e_rd rfl hb1) rfl)))))
        · exact Rf_tail hR hσ (zrs_cons hx0 (zrs_cons hx1 (zrs_cons hx2 (zrs_cons (by decide) (zrs_cons (hσ.2.1 _ _) zrs_nil))))) (e_cons rfl (e_cons rfl (e_cons rfl (e_cons (by decide) (e_cons (e_rd rfl hb1) rfl)))))
      · refine Rf_eq (e_rd rfl hb1) (by decide) (hσ.2.1 _ _) (by decide) (fun _ => ?_) (fun _ => ?_)
        · refine Rf_rd2 rfl hb1 ?_
          refine Rf_bnd hR hσ (zrs_cons (hσ.2.1 _ _) (zrs_cons hx1 (zrs_cons hx2 zrs_nil))) (e_cons (e_rd rfl hb1) (e_cons rfl (e_cons rfl rfl))) (fun σ1 r1 hσ1 hr1 => ?_)
          refine Rf_rd2 rfl hb1 ?_
          refine Rf_bnd hR hσ1 (zrs_cons (hσ1.2.1 _ _) (zrs_cons hx1 (zrs_cons hx2 zrs_nil))) (e_cons (e_rd rfl hb1) (e_cons rfl (e_cons rfl rfl))) (fun σ2 r2 hσ2 hr2 => ?_)
          exact Rf_tail hR hσ2 (zrs_cons hx0 (zrs_cons hx1 (zrs_cons hx2 zrs_nil))) (e_cons rfl (e_cons rfl (e_cons rfl rfl)))
        · refine Rf_eq (e_rd rfl hb1) (by decide) (hσ.2.1 _ _) (by decide) (fun _ => ?_) (fun _ => ?_)
          · refine Rf_rd2 rfl hb1 ?_
            refine Rf_bnd hR hσ (zrs_cons (hσ.2.1 _ _) (zrs_cons hx1 (zrs_cons hx2 zrs_nil))) (e_cons (e_rd rfl hb1) (e_cons rfl (e_cons rfl rfl))) (fun σ3 r3 hσ3 hr3 => ?_)
            refine Rf_rd2 rfl hb1 ?_
            refine Rf_bnd hR hσ3 (zrs_cons (hσ3.2.1 _ _) (zrs_cons hx1 (zrs_cons hx2 zrs_nil))) (e_cons (e_rd rfl hb1) (e_cons rfl (e_cons rfl rfl))) (fun σ4 r4 hσ4 hr4 => ?_)
            exact Rf_tail hR hσ4 (zrs_cons hx0 (zrs_cons hx1 (zrs_cons hx2 zrs_nil))) (e_cons rfl (e_cons rfl (e_cons rfl rfl)))
          · refine Rf_eq (e_rd rfl hb1) (by decide) (hσ.2.1 _ _) (by decide) (fun _ => ?_) (fun _ => ?_)
            · refine Rf_rd2 rfl hb1 ?_
              refine Rf_eq rfl (by decide) hx1 (by decide) (fun _ => ?_) (fun _ => ?_)
              · exact Rf_tail hR hσ (zrs_cons hx0 (zrs_cons hx1 (zrs_cons hx2 (zrs_cons (by decide) (zrs_cons (hσ.2.1 _ _) zrs_nil))))) (e_cons rfl (e_cons rfl (e_cons rfl (e_cons (by decide) (e_cons (e_rd rfl hb1) rfl)))))
              · exact Rf_tail hR hσ (zrs_cons hx0 (zrs_cons hx1 (zrs_cons hx2 (zrs_cons (by decide) (zrs_cons (hσ.2.1 _ _) zrs_nil))))) (e_cons rfl (e_cons rfl (e_cons rfl (e_cons (by decide) (e_cons (e_rd rfl hb1) rfl)))))
            · refine Rf_rd2 rfl hb1 ?_
              refine Rf_bnd hR hσ (zrs_cons (hσ.2.1 _ _) (zrs_cons hx2 zrs_nil)) (e_cons (e_rd rfl hb1) (e_cons rfl rfl)) (fun σ5 r5 hσ5 hr5 => ?_)
              refine Rf_rd2 rfl hb1 ?_
              refine Rf_bnd hR hσ5 (zrs_cons (hσ5.2.1 _ _) (zrs_cons hx2 zrs_nil)) (e_cons (e_rd rfl hb1) (e_cons rfl rfl)) (fun σ6 r6 hσ6 hr6 => ?_)
              exact Rf_tail hR hσ6 (zrs_cons hx0 (zrs_cons hx1 (zrs_cons hx2 zrs_nil))) (e_cons rfl (e_cons rfl (e_cons rfl rfl)))
theorem rZ_mark_63 (rz : zF) (rm : mF) (hR : Rc rz rm) (β : Nat) (σ : zS) (hσ : zOK σ) (x0 x1 x2 x3 x4 : Int) (hx0 : zr x0) (hx1 : zr x1) (hx2 : zr x2) (hx3 : zr x3) (hx4 : zr x4) : Rf (kZ_mark_63 rz β σ x0 x1 x2 x3 x4) (kM_mark_63 rm (cv σ) (i32 x0) (i32 x1) (i32 x2) (i32 x3) (i32 x4)) β := by
  unfold kZ_mark_63 kM_mark_63
  refine Rf_bnd hR hσ (zrs_cons hx4 (zrs_cons hx3 (zrs_cons hx2 zrs_nil))) (e_cons rfl (e_cons rfl (e_cons rfl rfl))) (fun σ1 r1 hσ1 hr1 => ?_)
  exact Rf_tail hR hσ1 (zrs_cons hx0 (zrs_cons hx1 (zrs_cons hx2 zrs_nil))) (e_cons rfl (e_cons rfl (e_cons rfl rfl)))
theorem rZ_mark_113 (rz : zF) (rm : mF) (hR : Rc rz rm) (β : Nat) (σ : zS) (hσ : zOK σ) (x0 x1 x2 x3 x4 : Int) (hx0 : zr x0) (hx1 : zr x1) (hx2 : zr x2) (hx3 : zr x3) (hx4 : zr x4) : Rf (kZ_mark_113 rz β σ x0 x1 x2 x3 x4) (kM_mark_113 rm (cv σ) (i32 x0) (i32 x1) (i32 x2) (i32 x3) (i32 x4)) β := by
  unfold kZ_mark_113 kM_mark_113
  refine Rf_bnd hR hσ (zrs_cons hx4 (zrs_cons hx3 (zrs_cons hx2 zrs_nil))) (e_cons rfl (e_cons rfl (e_cons rfl rfl))) (fun σ1 r1 hσ1 hr1 => ?_)
  refine Rf_rd rfl hx0 (fun hb1 => ?_)
  refine Rf_bnd hR hσ1 (zrs_cons (hσ1.2.1 _ _) (zrs_cons hx1 (zrs_cons hx2 zrs_nil))) (e_cons (e_rd rfl hb1) (e_cons rfl (e_cons rfl rfl))) (fun σ2 r2 hσ2 hr2 => ?_)
  exact Rf_tail hR hσ2 (zrs_cons hx0 (zrs_cons hx1 (zrs_cons hx2 zrs_nil))) (e_cons rfl (e_cons rfl (e_cons rfl rfl)))
theorem rZ_mark_175 (rz : zF) (rm : mF) (hR : Rc rz rm) (β : Nat) (σ : zS) (hσ : zOK σ) (x0 x1 x2 x3 x4 : Int) (hx0 : zr x0) (hx1 : zr x1) (hx2 : zr x2) (hx3 : zr x3) (hx4 : zr x4) : Rf (kZ_mark_175 rz β σ x0 x1 x2 x3 x4) (kM_mark_175 rm (cv σ) (i32 x0) (i32 x1) (i32 x2) (i32 x3) (i32 x4)) β := by
  unfold kZ_mark_175 kM_mark_175
  refine Rf_eq rfl rfl hx3 hx1 (fun _ => ?_) (fun _ => ?_)
  · exact Rf_tail hR hσ (zrs_cons hx0 (zrs_cons hx1 (zrs_cons hx2 (zrs_cons (by decide) (zrs_cons hx4 zrs_nil))))) (e_cons rfl (e_cons rfl (e_cons rfl (e_cons (by decide) (e_cons rfl rfl)))))
  · exact Rf_tail hR hσ (zrs_cons hx0 (zrs_cons hx1 (zrs_cons hx2 (zrs_cons (by decide) (zrs_cons hx4 zrs_nil))))) (e_cons rfl (e_cons rfl (e_cons rfl (e_cons (by decide) (e_cons rfl rfl)))))
theorem rZ_mark_184 (rz : zF) (rm : mF) (hR : Rc rz rm) (β : Nat) (σ : zS) (hσ : zOK σ) (x0 x1 x2 x3 x4 : Int) (hx0 : zr x0) (hx1 : zr x1) (hx2 : zr x2) (hx3 : zr x3) (hx4 : zr x4) : Rf (kZ_mark_184 rz β σ x0 x1 x2 x3 x4) (kM_mark_184 rm (cv σ) (i32 x0) (i32 x1) (i32 x2) (i32 x3) (i32 x4)) β := by
  unfold kZ_mark_184 kM_mark_184
  refine Rf_bnd hR hσ (zrs_cons hx4 (zrs_cons hx3 (zrs_cons hx2 zrs_nil))) (e_cons rfl (e_cons rfl (e_cons rfl rfl))) (fun σ1 r1 hσ1 hr1 => ?_)
  refine Rf_rd rfl hx0 (fun hb1 => ?_)
  refine Rf_rd2 rfl hb1 ?_
  refine Rf_nz (by decide) ?_
  refine Rf_g (fun hg2 => ?_)
  refine Rf_bnd hR hσ1 (zrs_cons (hσ1.2.1 _ _) (zrs_cons hx1 (zrs_cons hg2 zrs_nil))) (e_cons (e_rd rfl hb1) (e_cons rfl (e_cons (e_add rfl (e_mod (e_rd rfl hb1) (by decide) (hσ1.2.1 _ _) (by decide))) rfl))) (fun σ2 r2 hσ2 hr2 => ?_)
  exact Rf_tail hR hσ2 (zrs_cons hx0 (zrs_cons hx1 (zrs_cons hx2 zrs_nil))) (e_cons rfl (e_cons rfl (e_cons rfl rfl)))
theorem rZ_mark_211 (rz : zF) (rm : mF) (hR : Rc rz rm) (β : Nat) (σ : zS) (hσ : zOK σ) (x0 x1 x2 : Int) (hx0 : zr x0) (hx1 : zr x1) (hx2 : zr x2) : Rf (kZ_mark_211 rz β σ x0 x1 x2) (kM_mark_211 rm (cv σ) (i32 x0) (i32 x1) (i32 x2)) β := by
  unfold kZ_mark_211 kM_mark_211
  exact Rf_some hσ (by decide) (by decide)
theorem rZ_mark2 (rz : zF) (rm : mF) (hR : Rc rz rm) (β : Nat) (σ : zS) (hσ : zOK σ) (x0 x1 : Int) (hx0 : zr x0) (hx1 : zr x1) : Rf (kZ_mark2 rz β σ x0 x1) (kM_mark2 rm (cv σ) (i32 x0) (i32 x1)) β := by
  unfold kZ_mark2 kM_mark2
  refine Rf_rd rfl hx0 (fun hb1 => ?_)
  refine Rf_eq (e_rd rfl hb1) (by decide) (hσ.2.1 _ _) (by decide) (fun _ => ?_) (fun _ => ?_)
  · exact Rf_some hσ (by decide) (by decide)
  · refine Rf_rd2 rfl hb1 ?_
    refine Rf_eq (e_rd rfl hb1) (by decide) (hσ.2.1 _ _) (by decide) (fun _ => ?_) (fun _ => ?_)
    · exact Rf_tail hR hσ (zrs_cons hx0 (zrs_cons hx1 zrs_nil)) (e_cons rfl (e_cons rfl rfl))
    · refine Rf_rd2 rfl hb1 ?_
      refine Rf_eq (e_rd rfl hb1) (by decide) (hσ.2.1 _ _) (by decide) (fun _ => ?_) (fun _ => ?_)
      · exact Rf_tail hR hσ (zrs_cons hx0 (zrs_cons hx1 zrs_nil)) (e_cons rfl (e_cons rfl rfl))
      · exact Rf_tail hR hσ (zrs_cons hx0 (zrs_cons hx1 (zrs_cons (by decide) zrs_nil))) (e_cons rfl (e_cons rfl (e_cons (by decide) rfl)))
theorem rZ_mark2_32 (rz : zF) (rm : mF) (hR : Rc rz rm) (β : Nat) (σ : zS) (hσ : zOK σ) (x0 x1 : Int) (hx0 : zr x0) (hx1 : zr x1) : Rf (kZ_mark2_32 rz β σ x0 x1) (kM_mark2_32 rm (cv σ) (i32 x0) (i32 x1)) β := by
  unfold kZ_mark2_32 kM_mark2_32
  refine Rf_rd rfl hx0 (fun hb1 => ?_)
  refine Rf_nz (by decide) ?_
  exact Rf_tail hR hσ (zrs_cons hx0 (zrs_cons hx1 (zrs_cons (zr_tmod (hσ.2.1 _ _) _) zrs_nil))) (e_cons rfl (e_cons rfl (e_cons (e_mod (e_rd rfl hb1) (by decide) (hσ.2.1 _ _) (by decide)) rfl)))
theorem rZ_mark2_46 (rz : zF) (rm : mF) (hR : Rc rz rm) (β : Nat) (σ : zS) (hσ : zOK σ) (x0 x1 x2 : Int) (hx0 : zr x0) (hx1 : zr x1) (hx2 : zr x2) : Rf (kZ_mark2_46 rz β σ x0 x1 x2) (kM_mark2_46 rm (cv σ) (i32 x0) (i32 x1) (i32 x2)) β := by
  unfold kZ_mark2_46 kM_mark2_46
  refine Rf_le rfl (by decide) hx2 (by decide) (fun _ => ?_) (fun _ => ?_)
  · exact Rf_tail hR hσ (zrs_cons hx0 (zrs_cons hx1 (zrs_cons hx2 zrs_nil))) (e_cons rfl (e_cons rfl (e_cons rfl rfl)))
  · refine Rf_bnd hR hσ (zrs_cons hx0 (zrs_cons (by decide) (zrs_cons hx1 zrs_nil))) (e_cons rfl (e_cons (by decide) (e_cons rfl rfl))) (fun σ1 r1 hσ1 hr1 => ?_)
    exact Rf_tail hR hσ1 (zrs_cons hx0 (zrs_cons hx1 (zrs_cons hx2 zrs_nil))) (e_cons rfl (e_cons rfl (e_cons rfl rfl)))
theorem rZ_mark2_58 (rz : zF) (rm : mF) (hR : Rc rz rm) (β : Nat) (σ : zS) (hσ : zOK σ) (x0 x1 x2 : Int) (hx0 : zr x0) (hx1 : zr x1) (hx2 : zr x2) : Rf (kZ_mark2_58 rz β σ x0 x1 x2) (kM_mark2_58 rm (cv σ) (i32 x0) (i32 x1) (i32 x2)) β := by
  unfold kZ_mark2_58 kM_mark2_58
  refine Rf_rd rfl hx0 (fun hb1 => ?_)
  refine Rf_g (fun hg2 => ?_)
  refine Rf_bnd hR hσ (zrs_cons (hσ.2.1 _ _) (zrs_cons hg2 zrs_nil)) (e_cons (e_rd rfl hb1) (e_cons (e_add rfl rfl) rfl)) (fun σ1 r1 hσ1 hr1 => ?_)
  refine Rf_rd2 rfl hb1 ?_
  refine Rf_lt (e_rd rfl hb1) (by decide) (hσ1.2.1 _ _) (by decide) (fun _ => ?_) (fun _ => ?_)
  · exact Rf_tail hR hσ1 (zrs_cons hx0 (zrs_cons hx1 (zrs_cons hx2 zrs_nil))) (e_cons rfl (e_cons rfl (e_cons rfl rfl)))
  · refine Rf_rd2 rfl hb1 ?_
    refine Rf_lt (by decide) (e_rd rfl hb1) (by decide) (hσ1.2.1 _ _) (fun _ => ?_) (fun _ => ?_)
    · exact Rf_tail hR hσ1 (zrs_cons hx0 (zrs_cons hx1 (zrs_cons hx2 zrs_nil))) (e_cons rfl (e_cons rfl (e_cons rfl rfl)))
    · refine Rf_rd2 rfl hb1 ?_
      refine Rf_bnd hR hσ1 (zrs_cons (hσ1.2.1 _ _) (zrs_cons hx1 zrs_nil)) (e_cons (e_rd rfl hb1) (e_cons rfl rfl)) (fun σ2 r2 hσ2 hr2 => ?_)
      exact Rf_tail hR hσ2 (zrs_cons hx0 (zrs_cons hx1 (zrs_cons hx2 zrs_nil))) (e_cons rfl (e_cons rfl (e_cons rfl rfl)))
theorem rZ_mark2_102 (rz : zF) (rm : mF) (hR : Rc rz rm) (β : Nat) (σ : zS) (hσ : zOK σ) (x0 x1 x2 : Int) (hx0 : zr x0) (hx1 : zr x1) (hx2 : zr x2) : Rf (kZ_mark2_102 rz β σ x0 x1 x2) (kM_mark2_102 rm (cv σ) (i32 x0) (i32 x1) (i32 x2)) β := by
  unfold kZ_mark2_102 kM_mark2_102
  exact Rf_some hσ (by decide) (by decide)
theorem rZ_marked (rz : zF) (rm : mF) (hR : Rc rz rm) (β : Nat) (σ : zS) (hσ : zOK σ) (x0 x1 x2 : Int) (hx0 : zr x0) (hx1 : zr x1) (hx2 : zr x2) : Rf (kZ_marked rz β σ x0 x1 x2) (kM_marked rm (cv σ) (i32 x0) (i32 x1) (i32 x2)) β := by
  unfold kZ_marked kM_marked
  exact Rf_tail hR hσ (zrs_cons hx0 (zrs_cons hx1 (zrs_cons hx2 (zrs_cons (by decide) zrs_nil)))) (e_cons rfl (e_cons rfl (e_cons rfl (e_cons (by decide) rfl))))
theorem rZ_marked_3 (rz : zF) (rm : mF) (hR : Rc rz rm) (β : Nat) (σ : zS) (hσ : zOK σ) (x0 x1 x2 x3 : Int) (hx0 : zr x0) (hx1 : zr x1) (hx2 : zr x2) (hx3 : zr x3) : Rf (kZ_marked_3 rz β σ x0 x1 x2 x3) (kM_marked_3 rm (cv σ) (i32 x0) (i32 x1) (i32 x2) (i32 x3)) β := by
  unfold kZ_marked_3 kM_marked_3
  refine Rf_rd rfl hx0 (fun hb1 => ?_)
  refine Rf_nz (by decide) ?_
  refine Rf_le (e_mod (e_rd rfl hb1) (by decide) (hσ.2.1 _ _) (by decide)) rfl (zr_tmod (hσ.2.1 _ _) _) hx3 (fun _ => ?_) (fun _ => ?_)
  · exact Rf_some hσ (by decide) (by decide)
  · refine Rf_rd2 rfl hb1 ?_
    refine Rf_nz (by decide) ?_
    refine Rf_eq rfl (by decide) hx1 (by decide) (fun _ => ?_) (fun _ => ?_)
    · refine Rf_g (fun hg2 => ?_)
      refine Rf_g (fun hg3 => ?_)
      exact Rf_tail hR hσ (zrs_cons hx0 (zrs_cons hx1 (zrs_cons hx2 (zrs_cons hx3 (zrs_cons hg3 zrs_nil))))) (e_cons rfl (e_cons rfl (e_cons rfl (e_cons rfl (e_cons (e_add (e_div (e_rd rfl hb1) (by decide) (hσ.2.1 _ _) (by decide)) rfl) rfl)))))
    · refine Rf_g (fun hg4 => ?_)
      refine Rf_g (fun hg5 => ?_)
      refine Rf_rd (e_add (e_div (e_rd rfl hb1) (by decide) (hσ.2.1 _ _) (by decide)) rfl) hg5 (fun hb6 => ?_)
      have hg7 : (1 : Int) = 0 ∨ (1 : Int) = 1 := by decide
      refine Rf_A (e_add (e_div (e_rd rfl hb1) (by decide) (hσ.2.1 _ _) (by decide)) rfl) hb6 (e_bool (by decide) hg7) (by decide) hσ (fun σ1 hσ1 => ?_)
      exact Rf_tail hR hσ1 (zrs_cons hx0 (zrs_cons hx1 (zrs_cons hx2 (zrs_cons hx3 (zrs_cons hg5 zrs_nil))))) (e_cons rfl (e_cons rfl (e_cons rfl (e_cons rfl (e_cons (e_add (e_div (e_rd rfl hb1) (by decide) (hσ.2.1 _ _) (by decide)) rfl) rfl)))))
theorem rZ_marked_45 (rz : zF) (rm : mF) (hR : Rc rz rm) (β : Nat) (σ : zS) (hσ : zOK σ) (x0 x1 x2 x3 x4 : Int) (hx0 : zr x0) (hx1 : zr x1) (hx2 : zr x2) (hx3 : zr x3) (hx4 : zr x4) : Rf (kZ_marked_45 rz β σ x0 x1 x2 x3 x4) (kM_marked_45 rm (cv σ) (i32 x0) (i32 x1) (i32 x2) (i32 x3) (i32 x4)) β := by
  unfold kZ_marked_45 kM_marked_45
  refine Rf_rd rfl hx4 (fun hb1 => ?_)
  refine Rf_g (fun hg2 => ?_)
  refine Rf_A rfl hb1 (e_add rfl rfl) hg2 hσ (fun σ1 hσ1 => ?_)
  refine Rf_g (fun hg3 => ?_)
  exact Rf_tail hR hσ1 (zrs_cons hx0 (zrs_cons hx1 (zrs_cons hx2 (zrs_cons hg3 zrs_nil)))) (e_cons rfl (e_cons rfl (e_cons rfl (e_cons (e_add rfl (by decide)) rfl))))
theorem rZ_count2 (rz : zF) (rm : mF) (hR : Rc rz rm) (β : Nat) (σ : zS) (hσ : zOK σ) (x0 x1 : Int) (hx0 : zr x0) (hx1 : zr x1) : Rf (kZ_count2 rz β σ x0 x1) (kM_count2 rm (cv σ) (i32 x0) (i32 x1)) β := by
  unfold kZ_count2 kM_count2
  refine Rf_rd rfl hx0 (fun hb1 => ?_)
  refine Rf_out (e_rd rfl hb1) (hσ.2.1 _ _) (fun _ => ?_) (fun _ => ?_)
  · refine Rf_rd2 rfl hb1 ?_
    refine Rf_bnd hR hσ (zrs_cons (hσ.2.1 _ _) (zrs_cons hx1 zrs_nil)) (e_cons (e_rd rfl hb1) (e_cons rfl rfl)) (fun σ1 r1 hσ1 hr1 => ?_)
    exact Rf_some hσ1 hr1 rfl
  · refine Rf_eq (e_rd rfl hb1) (by decide) (hσ.2.1 _ _) (by decide) (fun _ => ?_) (fun _ => ?_)
    · exact Rf_some hσ (by decide) (by decide)
    · refine Rf_eq (e_rd rfl hb1) (by decide) (hσ.2.1 _ _) (by decide) (fun _ => ?_) (fun _ => ?_)
      · refine Rf_rd2 rfl hb1 ?_
        refine Rf_eq rfl (by decide) hx1 (by decide) (fun _ => ?_) (fun _ => ?_)
        · exact Rf_tail hR hσ (zrs_cons hx0 (zrs_cons hx1 (zrs_cons (by decide) (zrs_cons (hσ.2.1 _ _) zrs_nil)))) (e_cons rfl (e_cons rfl (e_cons (by decide) (e_cons (e_rd rfl hb1) rfl))))
        · exact Rf_tail hR hσ (zrs_cons hx0 (zrs_cons hx1 (zrs_cons (by decide) (zrs_cons (hσ.2.1 _ _) zrs_nil)))) (e_cons rfl (e_cons rfl (e_cons (by decide) (e_cons (e_rd rfl hb1) rfl))))
      · refine Rf_eq (e_rd rfl hb1) (by decide) (hσ.2.1 _ _) (by decide) (fun _ => ?_) (fun _ => ?_)
        · refine Rf_rd2 rfl hb1 ?_
          refine Rf_eq (e_rd rfl hb1) (by decide) (hσ.2.1 _ _) (by decide) (fun _ => ?_) (fun _ => ?_)
          · exact Rf_tail hR hσ (zrs_cons hx0 (zrs_cons hx1 (zrs_cons (by decide) zrs_nil))) (e_cons rfl (e_cons rfl (e_cons (by decide) rfl)))
          · exact Rf_tail hR hσ (zrs_cons hx0 (zrs_cons hx1 (zrs_cons (by decide) zrs_nil))) (e_cons rfl (e_cons rfl (e_cons (by decide) rfl)))
        · refine Rf_eq (e_rd rfl hb1) (by decide) (hσ.2.1 _ _) (by decide) (fun _ => ?_) (fun _ => ?_)
          · refine Rf_rd2 rfl hb1 ?_
            refine Rf_eq (e_rd rfl hb1) (by decide) (hσ.2.1 _ _) (by decide) (fun _ => ?_) (fun _ => ?_)
            · exact Rf_tail hR hσ (zrs_cons hx0 (zrs_cons hx1 (zrs_cons (by decide) zrs_nil))) (e_cons rfl (e_cons rfl (e_cons (by decide) rfl)))
            · exact Rf_tail hR hσ (zrs_cons hx0 (zrs_cons hx1 (zrs_cons (by decide) zrs_nil))) (e_cons rfl (e_cons rfl (e_cons (by decide) rfl)))
          · refine Rf_eq (e_rd rfl hb1) (by decide) (hσ.2.1 _ _) (by decide) (fun _ => ?_) (fun _ => ?_)
            · refine Rf_eq rfl (by decide) hx1 (by decide) (fun _ => ?_) (fun _ => ?_)
              · refine Rf_rd2 rfl hb1 ?_
                refine Rf_bnd hR hσ (zrs_cons (hσ.2.1 _ _) (zrs_cons (by decide) zrs_nil)) (e_cons (e_rd rfl hb1) (e_cons (by decide) rfl)) (fun σ2 r2 hσ2 hr2 => ?_)
                refine Rf_rd2 rfl hb1 ?_
                refine Rf_bnd hR hσ2 (zrs_cons (hσ2.2.1 _ _) (zrs_cons (by decide) zrs_nil)) (e_cons (e_rd rfl hb1) (e_cons (by decide) rfl)) (fun σ3 r3 hσ3 hr3 => ?_)
                refine Rf_g (fun hg2 => ?_)
                refine Rf_bnd hR hσ3 (zrs_cons hg2 zrs_nil) (e_cons (e_add rfl rfl) rfl) (fun σ4 r4 hσ4 hr4 => ?_)
                exact Rf_tail hR hσ4 (zrs_cons hx0 (zrs_cons hx1 (zrs_cons hr4 zrs_nil))) (e_cons rfl (e_cons rfl (e_cons rfl rfl)))
              · refine Rf_rd2 rfl hb1 ?_
                refine Rf_bnd hR hσ (zrs_cons (hσ.2.1 _ _) (zrs_cons (by decide) zrs_nil)) (e_cons (e_rd rfl hb1) (e_cons (by decide) rfl)) (fun σ5 r5 hσ5 hr5 => ?_)
                refine Rf_rd2 rfl hb1 ?_
                refine Rf_bnd hR hσ5 (zrs_cons (hσ5.2.1 _ _) (zrs_cons (by decide) zrs_nil)) (e_cons (e_rd rfl hb1) (e_cons (by decide) rfl)) (fun σ6 r6 hσ6 hr6 => ?_)
                refine Rf_g (fun hg3 => ?_)
                refine Rf_bnd hR hσ6 (zrs_cons hg3 zrs_nil) (e_cons (e_mul rfl rfl) rfl) (fun σ7 r7 hσ7 hr7 => ?_)
                exact Rf_tail hR hσ7 (zrs_cons hx0 (zrs_cons hx1 (zrs_cons hr7 zrs_nil))) (e_cons rfl (e_cons rfl (e_cons rfl rfl)))
            · refine Rf_rd2 rfl hb1 ?_
              refine Rf_bnd hR hσ (zrs_cons (hσ.2.1 _ _) (zrs_cons (by decide) zrs_nil)) (e_cons (e_rd rfl hb1) (e_cons (by decide) rfl)) (fun σ8 r8 hσ8 hr8 => ?_)
              refine Rf_rd2 rfl hb1 ?_
              refine Rf_bnd hR hσ8 (zrs_cons (hσ8.2.1 _ _) (zrs_cons (by decide) zrs_nil)) (e_cons (e_rd rfl hb1) (e_cons (by decide) rfl)) (fun σ9 r9 hσ9 hr9 => ?_)
              refine Rf_lt (by decide) rfl (by decide) hr8 (fun _ => ?_) (fun _ => ?_)
              · exact Rf_tail hR hσ9 (zrs_cons hx0 (zrs_cons hx1 (zrs_cons hr8 (zrs_cons hr9 zrs_nil)))) (e_cons rfl (e_cons rfl (e_cons rfl (e_cons rfl rfl))))
              · refine Rf_le rfl (by decide) hr9 (by decide) (fun _ => ?_) (fun _ => ?_)
                · refine Rf_rd2 rfl hb1 ?_
                  refine Rf_bnd hR hσ9 (zrs_cons (hσ9.2.1 _ _) (zrs_cons (by decide) zrs_nil)) (e_cons (e_rd rfl hb1) (e_cons (by decide) rfl)) (fun σ10 r10 hσ10 hr10 => ?_)
                  refine Rf_rd2 rfl hb1 ?_
                  refine Rf_bnd hR hσ10 (zrs_cons (hσ10.2.1 _ _) (zrs_cons (by decide) zrs_nil)) (e_cons (e_rd rfl hb1) (e_cons (by decide) rfl)) (fun σ11 r11 hσ11 hr11 => ?_)
                  refine Rf_eq rfl (by decide) hx1 (by decide) (fun _ => ?_) (fun _ => ?_)
                  · refine Rf_g (fun hg4 => ?_)
                    refine Rf_g (fun hg5 => ?_)
                    refine Rf_g (fun hg6 => ?_)
                    refine Rf_bnd hR hσ11 (zrs_cons hg6 zrs_nil) (e_cons (e_add (e_mul rfl rfl) (e_mul rfl rfl)) rfl) (fun σ12 r12 hσ12 hr12 => ?_)
                    exact Rf_tail hR hσ12 (zrs_cons hx0 (zrs_cons hx1 (zrs_cons hr8 (zrs_cons hr9 (zrs_cons hr10 (zrs_cons hr11 (zrs_cons hr12 zrs_nil))))))) (e_cons rfl (e_cons rfl (e_cons rfl (e_cons rfl (e_cons rfl (e_cons rfl (e_cons rfl rfl)))))))
                  · refine Rf_g (fun hg7 => ?_)
                    refine Rf_g (fun hg8 => ?_)
                    refine Rf_g (fun hg9 => ?_)
                    refine Rf_bnd hR hσ11 (zrs_cons hg9 zrs_nil) (e_cons (e_add (e_mul rfl rfl) (e_mul rfl rfl)) rfl) (fun σ13 r13 hσ13 hr13 => ?_)
                    exact Rf_tail hR hσ13 (zrs_cons hx0 (zrs_cons hx1 (zrs_cons hr8 (zrs_cons hr9 (zrs_cons hr10 (zrs_cons hr11 (zrs_cons hr13 zrs_nil))))))) (e_cons rfl (e_cons rfl (e_cons rfl (e_cons rfl (e_cons rfl (e_cons rfl (e_cons rfl rfl)))))))
                · exact Rf_tail hR hσ9 (zrs_cons hx0 (zrs_cons hx1 (zrs_cons hr8 (zrs_cons hr9 zrs_nil)))) (e_cons rfl (e_cons rfl (e_cons rfl (e_cons rfl rfl))))
theorem rZ_count2_62 (rz : zF) (rm : mF) (hR : Rc rz rm) (β : Nat) (σ : zS) (hσ : zOK σ) (x0 x1 x2 x3 : Int) (hx0 : zr x0) (hx1 : zr x1) (hx2 : zr x2) (hx3 : zr x3) : Rf (kZ_count2_62 rz β σ x0 x1 x2 x3) (kM_count2_62 rm (cv σ) (i32 x0) (i32 x1) (i32 x2) (i32 x3)) β := by
  unfold kZ_count2_62 kM_count2_62
  refine Rf_bnd hR hσ (zrs_cons hx3 (zrs_cons hx2 zrs_nil)) (e_cons rfl (e_cons rfl rfl)) (fun σ1 r1 hσ1 hr1 => ?_)
  exact Rf_some hσ1 hr1 rfl
theorem rZ_count2_81 (rz : zF) (rm : mF) (hR : Rc rz rm) (β : Nat) (σ : zS) (hσ : zOK σ) (x0 x1 x2 : Int) (hx0 : zr x0) (hx1 : zr x1) (hx2 : zr x2) : Rf (kZ_count2_81 rz β σ x0 x1 x2) (kM_count2_81 rm (cv σ) (i32 x0) (i32 x1) (i32 x2)) β := by
  unfold kZ_count2_81 kM_count2_81
  refine Rf_eq rfl rfl hx2 hx1 (fun _ => ?_) (fun _ => ?_)
  · refine Rf_rd rfl hx0 (fun hb1 => ?_)
    refine Rf_bnd hR hσ (zrs_cons (hσ.2.1 _ _) (zrs_cons hx1 zrs_nil)) (e_cons (e_rd rfl hb1) (e_cons rfl rfl)) (fun σ4 r4 hσ4 hr4 => ?_)
    refine Rf_rd2 rfl hb1 ?_
    refine Rf_bnd hR hσ4 (zrs_cons (hσ4.2.1 _ _) (zrs_cons hx1 zrs_nil)) (e_cons (e_rd rfl hb1) (e_cons rfl rfl)) (fun σ5 r5 hσ5 hr5 => ?_)
    refine Rf_g (fun hg2 => ?_)
    refine Rf_bnd hR hσ5 (zrs_cons hg2 zrs_nil) (e_cons (e_add rfl rfl) rfl) (fun σ6 r6 hσ6 hr6 => ?_)
    exact Rf_tail hR hσ6 (zrs_cons hx0 (zrs_cons hx1 (zrs_cons hr6 zrs_nil))) (e_cons rfl (e_cons rfl (e_cons rfl rfl)))
  · refine Rf_rd rfl hx0 (fun hb3 => ?_)
    refine Rf_bnd hR hσ (zrs_cons (hσ.2.1 _ _) (zrs_cons hx1 zrs_nil)) (e_cons (e_rd rfl hb3) (e_cons rfl rfl)) (fun σ1 r1 hσ1 hr1 => ?_)
    refine Rf_rd2 rfl hb3 ?_
    refine Rf_bnd hR hσ1 (zrs_cons (hσ1.2.1 _ _) (zrs_cons hx1 zrs_nil)) (e_cons (e_rd rfl hb3) (e_cons rfl rfl)) (fun σ2 r2 hσ2 hr2 => ?_)
    refine Rf_g (fun hg4 => ?_)
    refine Rf_bnd hR hσ2 (zrs_cons hg4 zrs_nil) (e_cons (e_mul rfl rfl) rfl) (fun σ3 r3 hσ3 hr3 => ?_)
    exact Rf_tail hR hσ3 (zrs_cons hx0 (zrs_cons hx1 (zrs_cons hr3 zrs_nil))) (e_cons rfl (e_cons rfl (e_cons rfl rfl)))
theorem rZ_count2_140 (rz : zF) (rm : mF) (hR : Rc rz rm) (β : Nat) (σ : zS) (hσ : zOK σ) (x0 x1 x2 : Int) (hx0 : zr x0) (hx1 : zr x1) (hx2 : zr x2) : Rf (kZ_count2_140 rz β σ x0 x1 x2) (kM_count2_140 rm (cv σ) (i32 x0) (i32 x1) (i32 x2)) β := by
  unfold kZ_count2_140 kM_count2_140
  exact Rf_some hσ hx2 rfl
theorem rZ_count2_200 (rz : zF) (rm : mF) (hR : Rc rz rm) (β : Nat) (σ : zS) (hσ : zOK σ) (x0 x1 x2 : Int) (hx0 : zr x0) (hx1 : zr x1) (hx2 : zr x2) : Rf (kZ_count2_200 rz β σ x0 x1 x2) (kM_count2_200 rm (cv σ) (i32 x0) (i32 x1) (i32 x2)) β := by
  unfold kZ_count2_200 kM_count2_200
  exact Rf_some hσ hx2 rfl
theorem rZ_count2_241 (rz : zF) (rm : mF) (hR : Rc rz rm) (β : Nat) (σ : zS) (hσ : zOK σ) (x0 x1 x2 x3 : Int) (hx0 : zr x0) (hx1 : zr x1) (hx2 : zr x2) (hx3 : zr x3) : Rf (kZ_count2_241 rz β σ x0 x1 x2 x3) (kM_count2_241 rm (cv σ) (i32 x0) (i32 x1) (i32 x2) (i32 x3)) β := by
  unfold kZ_count2_241 kM_count2_241
  exact Rf_some hσ (by decide) (by decide)
theorem rZ_count2_304 (rz : zF) (rm : mF) (hR : Rc rz rm) (β : Nat) (σ : zS) (hσ : zOK σ) (x0 x1 x2 x3 x4 x5 x6 : Int) (hx0 : zr x0) (hx1 : zr x1) (hx2 : zr x2) (hx3 : zr x3) (hx4 : zr x4) (hx5 : zr x5) (hx6 : zr x6) : Rf (kZ_count2_304 rz β σ x0 x1 x2 x3 x4 x5 x6) (kM_count2_304 rm (cv σ) (i32 x0) (i32 x1) (i32 x2) (i32 x3) (i32 x4) (i32 x5) (i32 x6)) β := by
  unfold kZ_count2_304 kM_count2_304
  exact Rf_some hσ hx6 rfl
theorem rZ_capped (rz : zF) (rm : mF) (hR : Rc rz rm) (β : Nat) (σ : zS) (hσ : zOK σ) (x0 : Int) (hx0 : zr x0) : Rf (kZ_capped rz β σ x0) (kM_capped rm (cv σ) (i32 x0)) β := by
  unfold kZ_capped kM_capped
  exact Rf_some hσ (zr_ite hx0 (by decide)) (e_ite rfl (by decide) hx0 (by decide) rfl (by decide))
theorem rZ_bind2 (rz : zF) (rm : mF) (hR : Rc rz rm) (β : Nat) (σ : zS) (hσ : zOK σ) (x0 x1 : Int) (hx0 : zr x0) (hx1 : zr x1) : Rf (kZ_bind2 rz β σ x0 x1) (kM_bind2 rm (cv σ) (i32 x0) (i32 x1)) β := by
  unfold kZ_bind2 kM_bind2
  refine Rf_eq rfl (by decide) hx1 (by decide) (fun _ => ?_) (fun _ => ?_)
  · exact Rf_tail hR hσ (zrs_cons hx0 (zrs_cons hx1 (zrs_cons (by decide) (zrs_cons (by decide) zrs_nil)))) (e_cons rfl (e_cons rfl (e_cons (by decide) (e_cons (by decide) rfl))))
  · exact Rf_tail hR hσ (zrs_cons hx0 (zrs_cons hx1 (zrs_cons (by decide) zrs_nil))) (e_cons rfl (e_cons rfl (e_cons (by decide) rfl)))
theorem rZ_bind2_9 (rz : zF) (rm : mF) (hR : Rc rz rm) (β : Nat) (σ : zS) (hσ : zOK σ) (x0 x1 x2 x3 : Int) (hx0 : zr x0) (hx1 : zr x1) (hx2 : zr x2) (hx3 : zr x3) : Rf (kZ_bind2_9 rz β σ x0 x1 x2 x3) (kM_bind2_9 rm (cv σ) (i32 x0) (i32 x1) (i32 x2) (i32 x3)) β := by
  unfold kZ_bind2_9 kM_bind2_9
  refine Rf_le rfl rfl (hσ.1 62) hx3 (fun _ => ?_) (fun _ => ?_)
  · exact Rf_tail hR hσ (zrs_cons hx0 (zrs_cons hx1 (zrs_cons hx2 zrs_nil))) (e_cons rfl (e_cons rfl (e_cons rfl rfl)))
  · refine Rf_rd rfl hx3 (fun hb1 => ?_)
    refine Rf_g (fun hg2 => ?_)
    refine Rf_g (fun hg3 => ?_)
    exact Rf_tail hR hσ (zrs_cons hx0 (zrs_cons hx1 (zrs_cons (zr_ite hg2 (by decide)) (zrs_cons hg3 zrs_nil)))) (e_cons rfl (e_cons rfl (e_cons (e_ite (e_add rfl (e_rd rfl hb1)) (by decide) hg2 (by decide) (e_add rfl (e_rd rfl hb1)) (by decide)) (e_cons (e_add rfl (by decide)) rfl))))
theorem rZ_bind2_40 (rz : zF) (rm : mF) (hR : Rc rz rm) (β : Nat) (σ : zS) (hσ : zOK σ) (x0 x1 x2 : Int) (hx0 : zr x0) (hx1 : zr x1) (hx2 : zr x2) : Rf (kZ_bind2_40 rz β σ x0 x1 x2) (kM_bind2_40 rm (cv σ) (i32 x0) (i32 x1) (i32 x2)) β := by
  unfold kZ_bind2_40 kM_bind2_40
  refine Rf_eq rfl (by decide) hx1 (by decide) (fun _ => ?_) (fun _ => ?_)
  · exact Rf_tail hR hσ (zrs_cons hx0 (zrs_cons hx1 (zrs_cons hx2 (zrs_cons (hσ.1 62) (zrs_cons hx0 zrs_nil))))) (e_cons rfl (e_cons rfl (e_cons rfl (e_cons rfl (e_cons rfl rfl)))))
  · exact Rf_tail hR hσ (zrs_cons hx0 (zrs_cons hx1 (zrs_cons hx2 (zrs_cons (by decide) (zrs_cons hx0 zrs_nil))))) (e_cons rfl (e_cons rfl (e_cons rfl (e_cons (by decide) (e_cons rfl rfl)))))
theorem rZ_bind2_57 (rz : zF) (rm : mF) (hR : Rc rz rm) (β : Nat) (σ : zS) (hσ : zOK σ) (x0 x1 x2 x3 x4 : Int) (hx0 : zr x0) (hx1 : zr x1) (hx2 : zr x2) (hx3 : zr x3) (hx4 : zr x4) : Rf (kZ_bind2_57 rz β σ x0 x1 x2 x3 x4) (kM_bind2_57 rm (cv σ) (i32 x0) (i32 x1) (i32 x2) (i32 x3) (i32 x4)) β := by
  unfold kZ_bind2_57 kM_bind2_57
  refine Rf_rd rfl hx4 (fun hb1 => ?_)
  refine Rf_A rfl hb1 rfl hx3 hσ (fun σ1 hσ1 => ?_)
  refine Rf_rd rfl (hσ1.1 62) (fun hb2 => ?_)
  refine Rf_A rfl hb2 rfl hx2 hσ1 (fun σ2 hσ2 => ?_)
  refine Rf_g (fun hg3 => ?_)
  refine Rf_I (e_add rfl (by decide)) hg3 hσ2 (fun σ3 hσ3 => ?_)
  refine Rf_rd rfl (hσ2.1 62) (fun hb4 => ?_)
  refine Rf_A rfl hb4 rfl hx0 hσ3 (fun σ4 hσ4 => ?_)
  exact Rf_some hσ4 (by decide) (by decide)
theorem rZ_weightOf (rz : zF) (rm : mF) (hR : Rc rz rm) (β : Nat) (σ : zS) (hσ : zOK σ) (x0 : Int) (hx0 : zr x0) : Rf (kZ_weightOf rz β σ x0) (kM_weightOf rm (cv σ) (i32 x0)) β := by
  unfold kZ_weightOf kM_weightOf
  refine Rf_rd rfl hx0 (fun hb1 => ?_)
  refine Rf_le (by decide) (e_rd rfl hb1) (by decide) (hσ.2.1 _ _) (fun _ => ?_) (fun _ => ?_)
  · refine Rf_rd2 rfl hb1 ?_
    exact Rf_tail hR hσ (zrs_cons hx0 (zrs_cons (by decide) (zrs_cons (hσ.2.1 _ _) zrs_nil))) (e_cons rfl (e_cons (by decide) (e_cons (e_rd rfl hb1) rfl)))
  · exact Rf_tail hR hσ (zrs_cons hx0 (zrs_cons (by decide) zrs_nil)) (e_cons rfl (e_cons (by decide) rfl))
theorem rZ_weightOf_11 (rz : zF) (rm : mF) (hR : Rc rz rm) (β : Nat) (σ : zS) (hσ : zOK σ) (x0 x1 : Int) (hx0 : zr x0) (hx1 : zr x1) : Rf (kZ_weightOf_11 rz β σ x0 x1) (kM_weightOf_11 rm (cv σ) (i32 x0) (i32 x1)) β := by
  unfold kZ_weightOf_11 kM_weightOf_11
  refine Rf_rd rfl hx1 (fun hb1 => ?_)
  refine Rf_rd rfl hx0 (fun hb2 => ?_)
  refine Rf_g (fun hg3 => ?_)
  refine Rf_eq (e_rd rfl hb1) (e_sub (by decide) (e_rd rfl hb2)) (hσ.2.1 _ _) hg3 (fun _ => ?_) (fun _ => ?_)
  · refine Rf_rd2 rfl hb1 ?_
    exact Rf_some hσ (hσ.2.1 _ _) (e_rd rfl hb1)
  · refine Rf_g (fun hg4 => ?_)
    exact Rf_tail hR hσ (zrs_cons hx0 (zrs_cons hg4 zrs_nil)) (e_cons rfl (e_cons (e_add rfl (by decide)) rfl))
theorem rZ_weightOf_50 (rz : zF) (rm : mF) (hR : Rc rz rm) (β : Nat) (σ : zS) (hσ : zOK σ) (x0 x1 x2 : Int) (hx0 : zr x0) (hx1 : zr x1) (hx2 : zr x2) : Rf (kZ_weightOf_50 rz β σ x0 x1 x2) (kM_weightOf_50 rm (cv σ) (i32 x0) (i32 x1) (i32 x2)) β := by
  unfold kZ_weightOf_50 kM_weightOf_50
  refine Rf_lt rfl (by decide) hx2 (by decide) (fun _ => ?_) (fun _ => ?_)
  · exact Rf_some hσ hx1 rfl
  · refine Rf_bnd hR hσ (zrs_cons hx2 zrs_nil) (e_cons rfl rfl) (fun σ1 r1 hσ1 hr1 => ?_)
    refine Rf_rd rfl hx2 (fun hb1 => ?_)
    refine Rf_g (fun hg2 => ?_)
    exact Rf_tail hR hσ1 (zrs_cons hx0 (zrs_cons (zr_ite hg2 (by decide)) (zrs_cons (hσ1.2.1 _ _) zrs_nil))) (e_cons rfl (e_cons (e_ite (e_add rfl rfl) (by decide) hg2 (by decide) (e_add rfl rfl) (by decide)) (e_cons (e_rd rfl hb1) rfl)))
theorem rZ_built1 (rz : zF) (rm : mF) (hR : Rc rz rm) (β : Nat) (σ : zS) (hσ : zOK σ) (x0 : Int) (hx0 : zr x0) : Rf (kZ_built1 rz β σ x0) (kM_built1 rm (cv σ) (i32 x0)) β := by
  unfold kZ_built1 kM_built1
  refine Rf_rd rfl hx0 (fun hb1 => ?_)
  refine Rf_le (by decide) (e_rd rfl hb1) (by decide) (hσ.2.1 _ _) (fun _ => ?_) (fun _ => ?_)
  · refine Rf_rd2 rfl hb1 ?_
    refine Rf_rd2 rfl hb1 ?_
    refine Rf_bnd hR hσ (zrs_cons (hσ.2.1 _ _) (zrs_cons (hσ.2.1 _ _) zrs_nil)) (e_cons (e_rd rfl hb1) (e_cons (e_rd rfl hb1) rfl)) (fun σ1 r1 hσ1 hr1 => ?_)
    exact Rf_tail hR hσ1 (zrs_cons hx0 (zrs_cons hr1 zrs_nil)) (e_cons rfl (e_cons rfl rfl))
  · refine Rf_rd2 rfl hb1 ?_
    refine Rf_g (fun hg2 => ?_)
    refine Rf_bnd hR hσ (zrs_cons hg2 zrs_nil) (e_cons (e_sub (by decide) (e_rd rfl hb1)) rfl) (fun σ2 r2 hσ2 hr2 => ?_)
    exact Rf_tail hR hσ2 (zrs_cons hx0 (zrs_cons hr2 zrs_nil)) (e_cons rfl (e_cons rfl rfl))
theorem rZ_built1_40 (rz : zF) (rm : mF) (hR : Rc rz rm) (β : Nat) (σ : zS) (hσ : zOK σ) (x0 x1 : Int) (hx0 : zr x0) (hx1 : zr x1) : Rf (kZ_built1_40 rz β σ x0 x1) (kM_built1_40 rm (cv σ) (i32 x0) (i32 x1)) β := by
  unfold kZ_built1_40 kM_built1_40
  exact Rf_some hσ hx1 rfl
theorem rZ_bound1 (rz : zF) (rm : mF) (hR : Rc rz rm) (β : Nat) (σ : zS) (hσ : zOK σ) (x0 : Int) (hx0 : zr x0) : Rf (kZ_bound1 rz β σ x0) (kM_bound1 rm (cv σ) (i32 x0)) β := by
  unfold kZ_bound1 kM_bound1
  refine Rf_rd rfl hx0 (fun hb1 => ?_)
  refine Rf_le (by decide) (e_rd rfl hb1) (by decide) (hσ.2.1 _ _) (fun _ => ?_) (fun _ => ?_)
  · refine Rf_rd2 rfl hb1 ?_
    refine Rf_bnd hR hσ (zrs_cons (hσ.2.1 _ _) zrs_nil) (e_cons (e_rd rfl hb1) rfl) (fun σ1 r1 hσ1 hr1 => ?_)
    refine Rf_rd2 rfl hb1 ?_
    exact Rf_tail hR hσ1 (zrs_cons hx0 (zrs_cons hr1 (zrs_cons (hσ1.2.1 _ _) (zrs_cons (by decide) (zrs_cons (by decide) zrs_nil))))) (e_cons rfl (e_cons rfl (e_cons (e_rd rfl hb1) (e_cons (by decide) (e_cons (by decide) rfl)))))
  · refine Rf_g (fun hg2 => ?_)
    refine Rf_bnd hR hσ (zrs_cons hg2 zrs_nil) (e_cons (e_sub (by decide) rfl) rfl) (fun σ2 r2 hσ2 hr2 => ?_)
    exact Rf_some hσ2 hr2 rfl
theorem rZ_bound1_41 (rz : zF) (rm : mF) (hR : Rc rz rm) (β : Nat) (σ : zS) (hσ : zOK σ) (x0 x1 x2 x3 x4 : Int) (hx0 : zr x0) (hx1 : zr x1) (hx2 : zr x2) (hx3 : zr x3) (hx4 : zr x4) : Rf (kZ_bound1_41 rz β σ x0 x1 x2 x3 x4) (kM_bound1_41 rm (cv σ) (i32 x0) (i32 x1) (i32 x2) (i32 x3) (i32 x4)) β := by
  unfold kZ_bound1_41 kM_bound1_41
  refine Rf_le rfl rfl hx2 hx4 (fun _ => ?_) (fun _ => ?_)
  · exact Rf_some hσ hx1 rfl
  · refine Rf_rd rfl hx4 (fun hb1 => ?_)
    refine Rf_bnd hR hσ (zrs_cons (hσ.2.1 _ _) zrs_nil) (e_cons (e_rd rfl hb1) rfl) (fun σ1 r1 hσ1 hr1 => ?_)
    refine Rf_le (by decide) rfl (by decide) hx3 (fun _ => ?_) (fun _ => ?_)
    · refine Rf_rd rfl hx3 (fun hb2 => ?_)
      refine Rf_A rfl hb2 rfl hr1 hσ1 (fun σ2 hσ2 => ?_)
      exact Rf_tail hR hσ2 (zrs_cons hx0 (zrs_cons hx1 (zrs_cons hx2 (zrs_cons hx3 (zrs_cons hx4 (zrs_cons hr1 zrs_nil)))))) (e_cons rfl (e_cons rfl (e_cons rfl (e_cons rfl (e_cons rfl (e_cons rfl rfl))))))
    · refine Rf_rd rfl hx1 (fun hb3 => ?_)
      refine Rf_A rfl hb3 rfl hr1 hσ1 (fun σ3 hσ3 => ?_)
      exact Rf_tail hR hσ3 (zrs_cons hx0 (zrs_cons hx1 (zrs_cons hx2 (zrs_cons hx3 (zrs_cons hx4 (zrs_cons hr1 zrs_nil)))))) (e_cons rfl (e_cons rfl (e_cons rfl (e_cons rfl (e_cons rfl (e_cons rfl rfl))))))
theorem rZ_bound1_85 (rz : zF) (rm : mF) (hR : Rc rz rm) (β : Nat) (σ : zS) (hσ : zOK σ) (x0 x1 x2 x3 x4 x5 : Int) (hx0 : zr x0) (hx1 : zr x1) (hx2 : zr x2) (hx3 : zr x3) (hx4 : zr x4) (hx5 : zr x5) : Rf (kZ_bound1_85 rz β σ x0 x1 x2 x3 x4 x5) (kM_bound1_85 rm (cv σ) (i32 x0) (i32 x1) (i32 x2) (i32 x3) (i32 x4) (i32 x5)) β := by
  unfold kZ_bound1_85 kM_bound1_85
  refine Rf_rd rfl hx1 (fun hb1 => ?_)
  refine Rf_rd rfl hx5 (fun hb2 => ?_)
  refine Rf_rd2 rfl hb1 ?_
  refine Rf_g (fun hg3 => ?_)
  refine Rf_A rfl hb1 (e_add (e_rd rfl hb1) (e_rd rfl hb2)) hg3 hσ (fun σ1 hσ1 => ?_)
  refine Rf_g (fun hg4 => ?_)
  exact Rf_tail hR hσ1 (zrs_cons hx0 (zrs_cons hx1 (zrs_cons hx2 (zrs_cons hx5 (zrs_cons hg4 zrs_nil))))) (e_cons rfl (e_cons rfl (e_cons rfl (e_cons rfl (e_cons (e_add rfl (by decide)) rfl)))))
theorem rZ_fresh (rz : zF) (rm : mF) (hR : Rc rz rm) (β : Nat) (σ : zS) (hσ : zOK σ) (x0 : Int) (hx0 : zr x0) : Rf (kZ_fresh rz β σ x0) (kM_fresh rm (cv σ) (i32 x0)) β := by
  unfold kZ_fresh kM_fresh
  refine Rf_rd rfl (hσ.1 47) (fun hb1 => ?_)
  refine Rf_A rfl hb1 rfl hx0 hσ (fun σ1 hσ1 => ?_)
  refine Rf_rd rfl (hσ1.1 47) (fun hb2 => ?_)
  refine Rf_A rfl hb2 (by decide) (by decide) hσ1 (fun σ2 hσ2 => ?_)
  refine Rf_rd rfl (hσ2.1 47) (fun hb3 => ?_)
  refine Rf_A rfl hb3 (by decide) (by decide) hσ2 (fun σ3 hσ3 => ?_)
  refine Rf_rd rfl (hσ3.1 47) (fun hb4 => ?_)
  refine Rf_A rfl hb4 (by decide) (by decide) hσ3 (fun σ4 hσ4 => ?_)
  refine Rf_g (fun hg5 => ?_)
  refine Rf_I (e_add rfl (by decide)) hg5 hσ4 (fun σ5 hσ5 => ?_)
  exact Rf_some hσ5 (hσ4.1 47) rfl
theorem rZ_built2 (rz : zF) (rm : mF) (hR : Rc rz rm) (β : Nat) (σ : zS) (hσ : zOK σ) (x0 x1 : Int) (hx0 : zr x0) (hx1 : zr x1) : Rf (kZ_built2 rz β σ x0 x1) (kM_built2 rm (cv σ) (i32 x0) (i32 x1)) β := by
  unfold kZ_built2 kM_built2
  refine Rf_bnd hR hσ (zrs_cons hx0 zrs_nil) (e_cons rfl rfl) (fun σ1 r1 hσ1 hr1 => ?_)
  exact Rf_tail hR hσ1 (zrs_cons hx0 (zrs_cons hx1 (zrs_cons hr1 (zrs_cons (by decide) (zrs_cons hx1 zrs_nil))))) (e_cons rfl (e_cons rfl (e_cons rfl (e_cons (by decide) (e_cons rfl rfl)))))
theorem rZ_built2_12 (rz : zF) (rm : mF) (hR : Rc rz rm) (β : Nat) (σ : zS) (hσ : zOK σ) (x0 x1 x2 x3 x4 : Int) (hx0 : zr x0) (hx1 : zr x1) (hx2 : zr x2) (hx3 : zr x3) (hx4 : zr x4) : Rf (kZ_built2_12 rz β σ x0 x1 x2 x3 x4) (kM_built2_12 rm (cv σ) (i32 x0) (i32 x1) (i32 x2) (i32 x3) (i32 x4)) β := by
  unfold kZ_built2_12 kM_built2_12
  refine Rf_lt rfl (by decide) hx4 (by decide) (fun _ => ?_) (fun _ => ?_)
  · exact Rf_some hσ hx2 rfl
  · refine Rf_bnd hR hσ (zrs_cons hx4 zrs_nil) (e_cons rfl rfl) (fun σ1 r1 hσ1 hr1 => ?_)
    refine Rf_le (by decide) rfl (by decide) hx3 (fun _ => ?_) (fun _ => ?_)
    · refine Rf_rd rfl hx3 (fun hb1 => ?_)
      refine Rf_A rfl hb1 rfl hr1 hσ1 (fun σ2 hσ2 => ?_)
      exact Rf_tail hR hσ2 (zrs_cons hx0 (zrs_cons hx1 (zrs_cons hx2 (zrs_cons hx3 (zrs_cons hx4 (zrs_cons hr1 zrs_nil)))))) (e_cons rfl (e_cons rfl (e_cons rfl (e_cons rfl (e_cons rfl (e_cons rfl rfl))))))
    · refine Rf_rd rfl hx2 (fun hb2 => ?_)
      refine Rf_A rfl hb2 rfl hr1 hσ1 (fun σ3 hσ3 => ?_)
      exact Rf_tail hR hσ3 (zrs_cons hx0 (zrs_cons hx1 (zrs_cons hx2 (zrs_cons hx3 (zrs_cons hx4 (zrs_cons hr1 zrs_nil)))))) (e_cons rfl (e_cons rfl (e_cons rfl (e_cons rfl (e_cons rfl (e_cons rfl rfl))))))
theorem rZ_built2_50 (rz : zF) (rm : mF) (hR : Rc rz rm) (β : Nat) (σ : zS) (hσ : zOK σ) (x0 x1 x2 x3 x4 x5 : Int) (hx0 : zr x0) (hx1 : zr x1) (hx2 : zr x2) (hx3 : zr x3) (hx4 : zr x4) (hx5 : zr x5) : Rf (kZ_built2_50 rz β σ x0 x1 x2 x3 x4 x5) (kM_built2_50 rm (cv σ) (i32 x0) (i32 x1) (i32 x2) (i32 x3) (i32 x4) (i32 x5)) β := by
  unfold kZ_built2_50 kM_built2_50
  refine Rf_rd rfl hx2 (fun hb1 => ?_)
  refine Rf_rd rfl hx5 (fun hb2 => ?_)
  refine Rf_rd2 rfl hb1 ?_
  refine Rf_g (fun hg3 => ?_)
  refine Rf_A rfl hb1 (e_add (e_rd rfl hb1) (e_rd rfl hb2)) hg3 hσ (fun σ1 hσ1 => ?_)
  refine Rf_rd rfl hx4 (fun hb4 => ?_)
  exact Rf_tail hR hσ1 (zrs_cons hx0 (zrs_cons hx1 (zrs_cons hx2 (zrs_cons hx5 (zrs_cons (hσ1.2.1 _ _) zrs_nil))))) (e_cons rfl (e_cons rfl (e_cons rfl (e_cons rfl (e_cons (e_rd rfl hb4) rfl)))))
theorem rZ_fits (rz : zF) (rm : mF) (hR : Rc rz rm) (β : Nat) (σ : zS) (hσ : zOK σ) (x0 x1 : Int) (hx0 : zr x0) (hx1 : zr x1) : Rf (kZ_fits rz β σ x0 x1) (kM_fits rm (cv σ) (i32 x0) (i32 x1)) β := by
  unfold kZ_fits kM_fits
  refine Rf_I (by decide) (by decide) hσ (fun σ1 hσ1 => ?_)
  exact Rf_tail hR hσ1 (zrs_cons hx0 (zrs_cons hx1 (zrs_cons (by decide) (zrs_cons hx0 zrs_nil)))) (e_cons rfl (e_cons rfl (e_cons (by decide) (e_cons rfl rfl))))
theorem rZ_fits_10 (rz : zF) (rm : mF) (hR : Rc rz rm) (β : Nat) (σ : zS) (hσ : zOK σ) (x0 x1 x2 x3 : Int) (hx0 : zr x0) (hx1 : zr x1) (hx2 : zr x2) (hx3 : zr x3) : Rf (kZ_fits_10 rz β σ x0 x1 x2 x3) (kM_fits_10 rm (cv σ) (i32 x0) (i32 x1) (i32 x2) (i32 x3)) β := by
  unfold kZ_fits_10 kM_fits_10
  refine Rf_g (fun hg1 => ?_)
  refine Rf_le (e_add rfl rfl) rfl hg1 hx3 (fun _ => ?_) (fun _ => ?_)
  · refine Rf_lt (by decide) rfl (by decide) hx2 (fun _ => ?_) (fun _ => ?_)
    · exact Rf_tail hR hσ (zrs_cons hx0 (zrs_cons hx1 (zrs_cons hx2 (zrs_cons hx3 zrs_nil)))) (e_cons rfl (e_cons rfl (e_cons rfl (e_cons rfl rfl))))
    · refine Rf_bnd hR hσ zrs_nil rfl (fun σ1 r1 hσ1 hr1 => ?_)
      refine Rf_lt (by decide) rfl (by decide) hr1 (fun _ => ?_) (fun _ => ?_)
      · exact Rf_tail hR hσ1 (zrs_cons hx0 (zrs_cons hx1 (zrs_cons hx2 (zrs_cons hx3 zrs_nil)))) (e_cons rfl (e_cons rfl (e_cons rfl (e_cons rfl rfl))))
      · exact Rf_tail hR hσ1 (zrs_cons hx0 (zrs_cons hx1 (zrs_cons hx2 (zrs_cons hx3 (zrs_cons (by decide) zrs_nil))))) (e_cons rfl (e_cons rfl (e_cons rfl (e_cons rfl (e_cons (by decide) rfl)))))
  · refine Rf_rd rfl hx3 (fun hb2 => ?_)
    refine Rf_rd (e_rd rfl hb2) (hσ.2.1 _ _) (fun hb3 => ?_)
    refine Rf_g (fun hg4 => ?_)
    refine Rf_rd (e_add rfl (by decide)) hg4 (fun hb5 => ?_)
    refine Rf_rd (e_rd (e_add rfl (by decide)) hb5) (hσ.2.1 _ _) (fun hb6 => ?_)
    refine Rf_rd2 rfl hb2 ?_
    refine Rf_rd2 (e_add rfl (by decide)) hb5 ?_
    refine Rf_bnd hR hσ (zrs_cons (hσ.2.1 _ _) (zrs_cons (hσ.2.1 _ _) (zrs_cons (by decide) zrs_nil))) (e_cons (e_rd rfl hb2) (e_cons (e_rd (e_add rfl (by decide)) hb5) (e_cons (by decide) rfl))) (fun σ2 r2 hσ2 hr2 => ?_)
    refine Rf_g (fun hg7 => ?_)
    refine Rf_g (fun hg8 => ?_)
    refine Rf_g (fun hg9 => ?_)
    exact Rf_tail hR hσ2 (zrs_cons hx0 (zrs_cons hx1 (zrs_cons hg8 (zrs_cons hg9 zrs_nil)))) (e_cons rfl (e_cons rfl (e_cons (e_add rfl (e_add (e_rd (e_rd rfl hb2) hb3) (e_rd (e_rd (e_add rfl (by decide)) hb5) hb6))) (e_cons (e_add rfl (by decide)) rfl))))
theorem rZ_fits_94 (rz : zF) (rm : mF) (hR : Rc rz rm) (β : Nat) (σ : zS) (hσ : zOK σ) (x0 x1 x2 x3 : Int) (hx0 : zr x0) (hx1 : zr x1) (hx2 : zr x2) (hx3 : zr x3) : Rf (kZ_fits_94 rz β σ x0 x1 x2 x3) (kM_fits_94 rm (cv σ) (i32 x0) (i32 x1) (i32 x2) (i32 x3)) β := by
  unfold kZ_fits_94 kM_fits_94
  exact Rf_tail hR hσ (zrs_cons hx0 (zrs_cons hx1 (zrs_cons hx2 (zrs_cons hx3 (zrs_cons (by decide) zrs_nil))))) (e_cons rfl (e_cons rfl (e_cons rfl (e_cons rfl (e_cons (by decide) rfl)))))
theorem rZ_fits_95 (rz : zF) (rm : mF) (hR : Rc rz rm) (β : Nat) (σ : zS) (hσ : zOK σ) (x0 x1 x2 x3 x4 : Int) (hx0 : zr x0) (hx1 : zr x1) (hx2 : zr x2) (hx3 : zr x3) (hx4 : zr x4) : Rf (kZ_fits_95 rz β σ x0 x1 x2 x3 x4) (kM_fits_95 rm (cv σ) (i32 x0) (i32 x1) (i32 x2) (i32 x3) (i32 x4)) β := by
  unfold kZ_fits_95 kM_fits_95
  refine Rf_01 rfl hx4 (fun hb1 => ?_)
  exact Rf_some hσ hx4 rfl
theorem rZ_add (rz : zF) (rm : mF) (hR : Rc rz rm) (β : Nat) (σ : zS) (hσ : zOK σ) (x0 x1 x2 : Int) (hx0 : zr x0) (hx1 : zr x1) (hx2 : zr x2) : Rf (kZ_add rz β σ x0 x1 x2) (kM_add rm (cv σ) (i32 x0) (i32 x1) (i32 x2)) β := by
  unfold kZ_add kM_add
  refine Rf_rd rfl (hσ.1 98) (fun hb1 => ?_)
  refine Rf_A rfl hb1 rfl hx0 hσ (fun σ1 hσ1 => ?_)
  refine Rf_rd rfl (hσ1.1 98) (fun hb2 => ?_)
  refine Rf_A rfl hb2 rfl hx1 hσ1 (fun σ2 hσ2 => ?_)
  refine Rf_g (fun hg3 => ?_)
  refine Rf_I (e_add rfl (by decide)) hg3 hσ2 (fun σ3 hσ3 => ?_)
  refine Rf_rd rfl (hσ2.1 98) (fun hb4 => ?_)
  refine Rf_g (fun hg5 => ?_)
  refine Rf_A rfl hb4 (e_bool rfl hg5) hx2 hσ3 (fun σ4 hσ4 => ?_)
  exact Rf_some hσ4 (by decide) (by decide)
theorem rZ_distinct (rz : zF) (rm : mF) (hR : Rc rz rm) (β : Nat) (σ : zS) (hσ : zOK σ) : Rf (kZ_distinct rz β σ) (kM_distinct rm (cv σ)) β := by
  unfold kZ_distinct kM_distinct
  refine Rf_I (by decide) (by decide) hσ (fun σ1 hσ1 => ?_)
  exact Rf_tail hR hσ1 (zrs_cons (by decide) zrs_nil) (e_cons (by decide) rfl)
theorem rZ_distinct_7 (rz : zF) (rm : mF) (hR : Rc rz rm) (β : Nat) (σ : zS) (hσ : zOK σ) (x0 : Int) (hx0 : zr x0) : Rf (kZ_distinct_7 rz β σ x0) (kM_distinct_7 rm (cv σ) (i32 x0)) β := by
  unfold kZ_distinct_7 kM_distinct_7
  refine Rf_le rfl rfl (hσ.1 98) hx0 (fun _ => ?_) (fun _ => ?_)
  · exact Rf_some hσ (hσ.1 101) rfl
  · refine Rf_rd rfl hx0 (fun hb1 => ?_)
    refine Rf_bnd hR hσ (zrs_cons (hσ.2.1 _ _) zrs_nil) (e_cons (e_rd rfl hb1) rfl) (fun σ1 r1 hσ1 hr1 => ?_)
    refine Rf_rd2 rfl hb1 ?_
    refine Rf_bnd hR hσ1 (zrs_cons (hσ1.2.1 _ _) zrs_nil) (e_cons (e_rd rfl hb1) rfl) (fun σ2 r2 hσ2 hr2 => ?_)
    refine Rf_g (fun hg2 => ?_)
    exact Rf_tail hR hσ2 (zrs_cons hg2 zrs_nil) (e_cons (e_add rfl (by decide)) rfl)
theorem rZ_note (rz : zF) (rm : mF) (hR : Rc rz rm) (β : Nat) (σ : zS) (hσ : zOK σ) (x0 : Int) (hx0 : zr x0) : Rf (kZ_note rz β σ x0) (kM_note rm (cv σ) (i32 x0)) β := by
  unfold kZ_note kM_note
  refine Rf_rd rfl hx0 (fun hb1 => ?_)
  refine Rf_le (by decide) (e_rd rfl hb1) (by decide) (hσ.2.1 _ _) (fun _ => ?_) (fun _ => ?_)
  · refine Rf_rd2 rfl hb1 ?_
    exact Rf_tail hR hσ (zrs_cons hx0 (zrs_cons (hσ.2.1 _ _) zrs_nil)) (e_cons rfl (e_cons (e_rd rfl hb1) rfl))
  · exact Rf_tail hR hσ (zrs_cons hx0 (zrs_cons (by decide) zrs_nil)) (e_cons rfl (e_cons (by decide) rfl))
theorem rZ_note_11 (rz : zF) (rm : mF) (hR : Rc rz rm) (β : Nat) (σ : zS) (hσ : zOK σ) (x0 x1 : Int) (hx0 : zr x0) (hx1 : zr x1) : Rf (kZ_note_11 rz β σ x0 x1) (kM_note_11 rm (cv σ) (i32 x0) (i32 x1)) β := by
  unfold kZ_note_11 kM_note_11
  refine Rf_le rfl rfl (hσ.1 101) hx1 (fun _ => ?_) (fun _ => ?_)
  · refine Rf_g (fun hg1 => ?_)
    refine Rf_I (e_add rfl (by decide)) hg1 hσ (fun σ1 hσ1 => ?_)
    refine Rf_rd rfl hx0 (fun hb2 => ?_)
    refine Rf_rd rfl (hσ.1 101) (fun hb3 => ?_)
    refine Rf_A rfl hb3 (e_rd rfl hb2) (hσ1.2.1 _ _) hσ1 (fun σ2 hσ2 => ?_)
    exact Rf_some hσ2 (by decide) (by decide)
  · refine Rf_rd rfl hx1 (fun hb4 => ?_)
    refine Rf_rd rfl hx0 (fun hb5 => ?_)
    refine Rf_eq (e_rd rfl hb4) (e_rd rfl hb5) (hσ.2.1 _ _) (hσ.2.1 _ _) (fun _ => ?_) (fun _ => ?_)
    · exact Rf_some hσ (by decide) (by decide)
    · refine Rf_g (fun hg6 => ?_)
      exact Rf_tail hR hσ (zrs_cons hx0 (zrs_cons hg6 zrs_nil)) (e_cons rfl (e_cons (e_add rfl (by decide)) rfl))
theorem rZ_note_71 (rz : zF) (rm : mF) (hR : Rc rz rm) (β : Nat) (σ : zS) (hσ : zOK σ) (x0 x1 : Int) (hx0 : zr x0) (hx1 : zr x1) : Rf (kZ_note_71 rz β σ x0 x1) (kM_note_71 rm (cv σ) (i32 x0) (i32 x1)) β := by
  unfold kZ_note_71 kM_note_71
  refine Rf_lt rfl (by decide) hx1 (by decide) (fun _ => ?_) (fun _ => ?_)
  · exact Rf_some hσ (by decide) (by decide)
  · refine Rf_bnd hR hσ (zrs_cons hx1 zrs_nil) (e_cons rfl rfl) (fun σ1 r1 hσ1 hr1 => ?_)
    refine Rf_rd rfl hx1 (fun hb1 => ?_)
    exact Rf_tail hR hσ1 (zrs_cons hx0 (zrs_cons (hσ1.2.1 _ _) zrs_nil)) (e_cons rfl (e_cons (e_rd rfl hb1) rfl))
theorem rZ_copy (rz : zF) (rm : mF) (hR : Rc rz rm) (β : Nat) (σ : zS) (hσ : zOK σ) (x0 : Int) (hx0 : zr x0) : Rf (kZ_copy rz β σ x0) (kM_copy rm (cv σ) (i32 x0)) β := by
  unfold kZ_copy kM_copy
  refine Rf_rd rfl hx0 (fun hb1 => ?_)
  refine Rf_bnd hR hσ (zrs_cons (hσ.2.1 _ _) zrs_nil) (e_cons (e_rd rfl hb1) rfl) (fun σ1 r1 hσ1 hr1 => ?_)
  refine Rf_rd2 rfl hb1 ?_
  exact Rf_tail hR hσ1 (zrs_cons hx0 (zrs_cons hr1 (zrs_cons (by decide) (zrs_cons (hσ1.2.1 _ _) zrs_nil)))) (e_cons rfl (e_cons rfl (e_cons (by decide) (e_cons (e_rd rfl hb1) rfl))))
theorem rZ_copy_21 (rz : zF) (rm : mF) (hR : Rc rz rm) (β : Nat) (σ : zS) (hσ : zOK σ) (x0 x1 x2 x3 : Int) (hx0 : zr x0) (hx1 : zr x1) (hx2 : zr x2) (hx3 : zr x3) : Rf (kZ_copy_21 rz β σ x0 x1 x2 x3) (kM_copy_21 rm (cv σ) (i32 x0) (i32 x1) (i32 x2) (i32 x3)) β := by
  unfold kZ_copy_21 kM_copy_21
  refine Rf_lt rfl (by decide) hx3 (by decide) (fun _ => ?_) (fun _ => ?_)
  · exact Rf_some hσ hx1 rfl
  · refine Rf_bnd hR hσ (zrs_cons hx3 zrs_nil) (e_cons rfl rfl) (fun σ1 r1 hσ1 hr1 => ?_)
    refine Rf_le (by decide) rfl (by decide) hx2 (fun _ => ?_) (fun _ => ?_)
    · refine Rf_rd rfl hx2 (fun hb1 => ?_)
      refine Rf_A rfl hb1 rfl hr1 hσ1 (fun σ2 hσ2 => ?_)
      exact Rf_tail hR hσ2 (zrs_cons hx0 (zrs_cons hx1 (zrs_cons hx2 (zrs_cons hx3 (zrs_cons hr1 zrs_nil))))) (e_cons rfl (e_cons rfl (e_cons rfl (e_cons rfl (e_cons rfl rfl)))))
    · refine Rf_rd rfl hx1 (fun hb2 => ?_)
      refine Rf_A rfl hb2 rfl hr1 hσ1 (fun σ3 hσ3 => ?_)
      exact Rf_tail hR hσ3 (zrs_cons hx0 (zrs_cons hx1 (zrs_cons hx2 (zrs_cons hx3 (zrs_cons hr1 zrs_nil))))) (e_cons rfl (e_cons rfl (e_cons rfl (e_cons rfl (e_cons rfl rfl)))))
theorem rZ_copy_57 (rz : zF) (rm : mF) (hR : Rc rz rm) (β : Nat) (σ : zS) (hσ : zOK σ) (x0 x1 x2 x3 x4 : Int) (hx0 : zr x0) (hx1 : zr x1) (hx2 : zr x2) (hx3 : zr x3) (hx4 : zr x4) : Rf (kZ_copy_57 rz β σ x0 x1 x2 x3 x4) (kM_copy_57 rm (cv σ) (i32 x0) (i32 x1) (i32 x2) (i32 x3) (i32 x4)) β := by
  unfold kZ_copy_57 kM_copy_57
  refine Rf_rd rfl hx1 (fun hb1 => ?_)
  refine Rf_rd rfl hx4 (fun hb2 => ?_)
  refine Rf_rd2 rfl hb1 ?_
  refine Rf_g (fun hg3 => ?_)
  refine Rf_A rfl hb1 (e_add (e_rd rfl hb1) (e_rd rfl hb2)) hg3 hσ (fun σ1 hσ1 => ?_)
  refine Rf_rd rfl hx3 (fun hb4 => ?_)
  exact Rf_tail hR hσ1 (zrs_cons hx0 (zrs_cons hx1 (zrs_cons hx4 (zrs_cons (hσ1.2.1 _ _) zrs_nil)))) (e_cons rfl (e_cons rfl (e_cons rfl (e_cons (e_rd rfl hb4) rfl))))
theorem rZ_reduce (rz : zF) (rm : mF) (hR : Rc rz rm) (β : Nat) (σ : zS) (hσ : zOK σ) : Rf (kZ_reduce rz β σ) (kM_reduce rm (cv σ)) β := by
  unfold kZ_reduce kM_reduce
  exact Rf_tail hR hσ (zrs_cons (by decide) (zrs_cons (by decide) zrs_nil)) (e_cons (by decide) (e_cons (by decide) rfl))
theorem rZ_reduce_4 (rz : zF) (rm : mF) (hR : Rc rz rm) (β : Nat) (σ : zS) (hσ : zOK σ) (x0 x1 : Int) (hx0 : zr x0) (hx1 : zr x1) : Rf (kZ_reduce_4 rz β σ x0 x1) (kM_reduce_4 rm (cv σ) (i32 x0) (i32 x1)) β := by
  unfold kZ_reduce_4 kM_reduce_4
  refine Rf_le rfl rfl (hσ.1 98) hx1 (fun _ => ?_) (fun _ => ?_)
  · refine Rf_I rfl hx0 hσ (fun σ1 hσ1 => ?_)
    refine Rf_I (by decide) (by decide) hσ1 (fun σ2 hσ2 => ?_)
    exact Rf_tail hR hσ2 (zrs_cons hx0 (zrs_cons (by decide) zrs_nil)) (e_cons rfl (e_cons (by decide) rfl))
  · refine Rf_rd rfl hx1 (fun hb1 => ?_)
    refine Rf_eq (e_rd rfl hb1) (by decide) (hσ.2.1 _ _) (by decide) (fun _ => ?_) (fun _ => ?_)
    · refine Rf_rd2 rfl hb1 ?_
      refine Rf_rd2 rfl hb1 ?_
      refine Rf_bnd hR hσ (zrs_cons (hσ.2.1 _ _) (zrs_cons (hσ.2.1 _ _) zrs_nil)) (e_cons (e_rd rfl hb1) (e_cons (e_rd rfl hb1) rfl)) (fun σ3 r3 hσ3 hr3 => ?_)
      refine Rf_eq rfl (by decide) hr3 (by decide) (fun _ => ?_) (fun _ => ?_)
      · exact Rf_tail hR hσ3 (zrs_cons hx0 (zrs_cons hx1 zrs_nil)) (e_cons rfl (e_cons rfl rfl))
      · exact Rf_tail hR hσ3 (zrs_cons hx0 (zrs_cons hx1 zrs_nil)) (e_cons rfl (e_cons rfl rfl))
    · exact Rf_tail hR hσ (zrs_cons hx0 (zrs_cons hx1 zrs_nil)) (e_cons rfl (e_cons rfl rfl))
theorem rZ_reduce_43 (rz : zF) (rm : mF) (hR : Rc rz rm) (β : Nat) (σ : zS) (hσ : zOK σ) (x0 x1 : Int) (hx0 : zr x0) (hx1 : zr x1) : Rf (kZ_reduce_43 rz β σ x0 x1) (kM_reduce_43 rm (cv σ) (i32 x0) (i32 x1)) β := by
  unfold kZ_reduce_43 kM_reduce_43
  refine Rf_rd rfl hx1 (fun hb1 => ?_)
  refine Rf_rd rfl hx0 (fun hb2 => ?_)
  refine Rf_A rfl hb2 (e_rd rfl hb1) (hσ.2.1 _ _) hσ (fun σ1 hσ1 => ?_)
  refine Rf_rd2 rfl hb1 ?_
  refine Rf_rd2 rfl hb2 ?_
  refine Rf_A rfl hb2 (e_rd rfl hb1) (hσ1.2.1 _ _) hσ1 (fun σ2 hσ2 => ?_)
  refine Rf_rd2 rfl hb1 ?_
  refine Rf_rd2 rfl hb2 ?_
  refine Rf_g (fun hg3 => ?_)
  refine Rf_A rfl hb2 (e_bool (e_rd rfl hb1) hg3) (hσ2.2.1 _ _) hσ2 (fun σ3 hσ3 => ?_)
  exact Rf_tail hR hσ3 (zrs_cons hx0 (zrs_cons hx1 (zrs_cons (by decide) (zrs_cons (by decide) zrs_nil)))) (e_cons rfl (e_cons rfl (e_cons (by decide) (e_cons (by decide) rfl))))
theorem rZ_reduce_84 (rz : zF) (rm : mF) (hR : Rc rz rm) (β : Nat) (σ : zS) (hσ : zOK σ) (x0 x1 x2 x3 : Int) (hx0 : zr x0) (hx1 : zr x1) (hx2 : zr x2) (hx3 : zr x3) : Rf (kZ_reduce_84 rz β σ x0 x1 x2 x3) (kM_reduce_84 rm (cv σ) (i32 x0) (i32 x1) (i32 x2) (i32 x3)) β := by
  unfold kZ_reduce_84 kM_reduce_84
  refine Rf_le rfl rfl hx0 hx3 (fun _ => ?_) (fun _ => ?_)
  · refine Rf_eq rfl (by decide) hx2 (by decide) (fun _ => ?_) (fun _ => ?_)
    · refine Rf_g (fun hg1 => ?_)
      exact Rf_tail hR hσ (zrs_cons hg1 (zrs_cons hx1 zrs_nil)) (e_cons (e_add rfl (by decide)) (e_cons rfl rfl))
    · exact Rf_tail hR hσ (zrs_cons hx0 (zrs_cons hx1 zrs_nil)) (e_cons rfl (e_cons rfl rfl))
  · refine Rf_eq rfl (by decide) hx2 (by decide) (fun _ => ?_) (fun _ => ?_)
    · refine Rf_bnd hR hσ (zrs_cons hx3 (zrs_cons hx0 zrs_nil)) (e_cons rfl (e_cons rfl rfl)) (fun σ1 r1 hσ1 hr1 => ?_)
      refine Rf_eq rfl (by decide) hr1 (by decide) (fun _ => ?_) (fun _ => ?_)
      · exact Rf_tail hR hσ1 (zrs_cons hx0 (zrs_cons hx1 (zrs_cons hx2 (zrs_cons hx3 (zrs_cons (by decide) zrs_nil))))) (e_cons rfl (e_cons rfl (e_cons rfl (e_cons rfl (e_cons (by decide) rfl)))))
      · exact Rf_tail hR hσ1 (zrs_cons hx0 (zrs_cons hx1 (zrs_cons hx2 (zrs_cons hx3 zrs_nil)))) (e_cons rfl (e_cons rfl (e_cons rfl (e_cons rfl rfl))))
    · exact Rf_tail hR hσ (zrs_cons hx0 (zrs_cons hx1 (zrs_cons hx2 (zrs_cons hx3 zrs_nil)))) (e_cons rfl (e_cons rfl (e_cons rfl (e_cons rfl rfl))))
theorem rZ_reduce_104 (rz : zF) (rm : mF) (hR : Rc rz rm) (β : Nat) (σ : zS) (hσ : zOK σ) (x0 x1 x2 x3 : Int) (hx0 : zr x0) (hx1 : zr x1) (hx2 : zr x2) (hx3 : zr x3) : Rf (kZ_reduce_104 rz β σ x0 x1 x2 x3) (kM_reduce_104 rm (cv σ) (i32 x0) (i32 x1) (i32 x2) (i32 x3)) β := by
  unfold kZ_reduce_104 kM_reduce_104
  exact Rf_tail hR hσ (zrs_cons hx0 (zrs_cons hx1 (zrs_cons hx2 (zrs_cons hx3 (zrs_cons (by decide) zrs_nil))))) (e_cons rfl (e_cons rfl (e_cons rfl (e_cons rfl (e_cons (by decide) rfl)))))
theorem rZ_reduce_109 (rz : zF) (rm : mF) (hR : Rc rz rm) (β : Nat) (σ : zS) (hσ : zOK σ) (x0 x1 x2 x3 x4 : Int) (hx0 : zr x0) (hx1 : zr x1) (hx2 : zr x2) (hx3 : zr x3) (hx4 : zr x4) : Rf (kZ_reduce_109 rz β σ x0 x1 x2 x3 x4) (kM_reduce_109 rm (cv σ) (i32 x0) (i32 x1) (i32 x2) (i32 x3) (i32 x4)) β := by
  unfold kZ_reduce_109 kM_reduce_109
  refine Rf_g (fun hg1 => ?_)
  exact Rf_tail hR hσ (zrs_cons hx0 (zrs_cons hx1 (zrs_cons hx4 (zrs_cons hg1 zrs_nil)))) (e_cons rfl (e_cons rfl (e_cons rfl (e_cons (e_add rfl (by decide)) rfl))))
theorem rZ_reduce_123 (rz : zF) (rm : mF) (hR : Rc rz rm) (β : Nat) (σ : zS) (hσ : zOK σ) (x0 x1 : Int) (hx0 : zr x0) (hx1 : zr x1) : Rf (kZ_reduce_123 rz β σ x0 x1) (kM_reduce_123 rm (cv σ) (i32 x0) (i32 x1)) β := by
  unfold kZ_reduce_123 kM_reduce_123
  refine Rf_g (fun hg1 => ?_)
  exact Rf_tail hR hσ (zrs_cons hx0 (zrs_cons hg1 zrs_nil)) (e_cons rfl (e_cons (e_add rfl (by decide)) rfl))
theorem rZ_reduce_141 (rz : zF) (rm : mF) (hR : Rc rz rm) (β : Nat) (σ : zS) (hσ : zOK σ) (x0 x1 : Int) (hx0 : zr x0) (hx1 : zr x1) : Rf (kZ_reduce_141 rz β σ x0 x1) (kM_reduce_141 rm (cv σ) (i32 x0) (i32 x1)) β := by
  unfold kZ_reduce_141 kM_reduce_141
  refine Rf_le rfl rfl (hσ.1 98) hx1 (fun _ => ?_) (fun _ => ?_)
  · exact Rf_some hσ (by decide) (by decide)
  · refine Rf_rd rfl hx1 (fun hb1 => ?_)
    refine Rf_bnd hR hσ (zrs_cons (hσ.2.1 _ _) zrs_nil) (e_cons (e_rd rfl hb1) rfl) (fun σ1 r1 hσ1 hr1 => ?_)
    refine Rf_rd2 rfl hb1 ?_
    refine Rf_bnd hR hσ1 (zrs_cons (hσ1.2.1 _ _) zrs_nil) (e_cons (e_rd rfl hb1) rfl) (fun σ2 r2 hσ2 hr2 => ?_)
    refine Rf_g (fun hg2 => ?_)
    exact Rf_tail hR hσ2 (zrs_cons hx0 (zrs_cons hg2 zrs_nil)) (e_cons rfl (e_cons (e_add rfl (by decide)) rfl))
theorem rZ_same (rz : zF) (rm : mF) (hR : Rc rz rm) (β : Nat) (σ : zS) (hσ : zOK σ) (x0 x1 : Int) (hx0 : zr x0) (hx1 : zr x1) : Rf (kZ_same rz β σ x0 x1) (kM_same rm (cv σ) (i32 x0) (i32 x1)) β := by
  unfold kZ_same kM_same
  refine Rf_rd rfl hx0 (fun hb1 => ?_)
  refine Rf_rd rfl hx1 (fun hb2 => ?_)
  refine Rf_eq (e_rd rfl hb1) (e_rd rfl hb2) (hσ.2.1 _ _) (hσ.2.1 _ _) (fun _ => ?_) (fun _ => ?_)
  · refine Rf_rd2 rfl hb1 ?_
    refine Rf_rd2 rfl hb2 ?_
    refine Rf_eq (e_rd rfl hb1) (e_rd rfl hb2) (hσ.2.1 _ _) (hσ.2.1 _ _) (fun _ => ?_) (fun _ => ?_)
    · refine Rf_rd2 rfl hb2 ?_
      refine Rf_rd2 rfl hb1 ?_
      exact Rf_tail hR hσ (zrs_cons hx0 (zrs_cons hx1 (zrs_cons (hσ.2.1 _ _) (zrs_cons (hσ.2.1 _ _) zrs_nil)))) (e_cons rfl (e_cons rfl (e_cons (e_rd rfl hb2) (e_cons (e_rd rfl hb1) rfl))))
    · exact Rf_tail hR hσ (zrs_cons hx0 (zrs_cons hx1 zrs_nil)) (e_cons rfl (e_cons rfl rfl))
  · exact Rf_tail hR hσ (zrs_cons hx0 (zrs_cons hx1 zrs_nil)) (e_cons rfl (e_cons rfl rfl))
theorem rZ_same_30 (rz : zF) (rm : mF) (hR : Rc rz rm) (β : Nat) (σ : zS) (hσ : zOK σ) (x0 x1 : Int) (hx0 : zr x0) (hx1 : zr x1) : Rf (kZ_same_30 rz β σ x0 x1) (kM_same_30 rm (cv σ) (i32 x0) (i32 x1)) β := by
  unfold kZ_same_30 kM_same_30
  exact Rf_some hσ (by decide) (by decide)
theorem rZ_same_47 (rz : zF) (rm : mF) (hR : Rc rz rm) (β : Nat) (σ : zS) (hσ : zOK σ) (x0 x1 x2 x3 : Int) (hx0 : zr x0) (hx1 : zr x1) (hx2 : zr x2) (hx3 : zr x3) : Rf (kZ_same_47 rz β σ x0 x1 x2 x3) (kM_same_47 rm (cv σ) (i32 x0) (i32 x1) (i32 x2) (i32 x3)) β := by
  unfold kZ_same_47 kM_same_47
  refine Rf_lt rfl (by decide) hx3 (by decide) (fun _ => ?_) (fun _ => ?_)
  · exact Rf_some hσ (by decide) (by decide)
  · refine Rf_bnd hR hσ (zrs_cons hx3 (zrs_cons hx2 zrs_nil)) (e_cons rfl (e_cons rfl rfl)) (fun σ1 r1 hσ1 hr1 => ?_)
    refine Rf_eq rfl (by decide) hr1 (by decide) (fun _ => ?_) (fun _ => ?_)
    · exact Rf_some hσ1 (by decide) (by decide)
    · refine Rf_rd rfl hx2 (fun hb1 => ?_)
      refine Rf_rd rfl hx3 (fun hb2 => ?_)
      exact Rf_tail hR hσ1 (zrs_cons hx0 (zrs_cons hx1 (zrs_cons (hσ1.2.1 _ _) (zrs_cons (hσ1.2.1 _ _) zrs_nil)))) (e_cons rfl (e_cons rfl (e_cons (e_rd rfl hb1) (e_cons (e_rd rfl hb2) rfl))))
theorem rZ_sameLiteral (rz : zF) (rm : mF) (hR : Rc rz rm) (β : Nat) (σ : zS) (hσ : zOK σ) (x0 x1 : Int) (hx0 : zr x0) (hx1 : zr x1) : Rf (kZ_sameLiteral rz β σ x0 x1) (kM_sameLiteral rm (cv σ) (i32 x0) (i32 x1)) β := by
  unfold kZ_sameLiteral kM_sameLiteral
  refine Rf_rd rfl hx0 (fun hb1 => ?_)
  refine Rf_rd rfl hx1 (fun hb2 => ?_)
  refine Rf_eq (e_rd rfl hb1) (e_rd rfl hb2) (hσ.2.1 _ _) (hσ.2.1 _ _) (fun _ => ?_) (fun _ => ?_)
  · refine Rf_bnd hR hσ (zrs_cons hx0 (zrs_cons hx1 zrs_nil)) (e_cons rfl (e_cons rfl rfl)) (fun σ1 r1 hσ1 hr1 => ?_)
    refine Rf_eq rfl (by decide) hr1 (by decide) (fun _ => ?_) (fun _ => ?_)
    · exact Rf_tail hR hσ1 (zrs_cons hx0 (zrs_cons hx1 zrs_nil)) (e_cons rfl (e_cons rfl rfl))
    · exact Rf_tail hR hσ1 (zrs_cons hx0 (zrs_cons hx1 (zrs_cons (by decide) zrs_nil))) (e_cons rfl (e_cons rfl (e_cons (by decide) rfl)))
  · exact Rf_tail hR hσ (zrs_cons hx0 (zrs_cons hx1 zrs_nil)) (e_cons rfl (e_cons rfl rfl))
theorem rZ_sameLiteral_28 (rz : zF) (rm : mF) (hR : Rc rz rm) (β : Nat) (σ : zS) (hσ : zOK σ) (x0 x1 : Int) (hx0 : zr x0) (hx1 : zr x1) : Rf (kZ_sameLiteral_28 rz β σ x0 x1) (kM_sameLiteral_28 rm (cv σ) (i32 x0) (i32 x1)) β := by
  unfold kZ_sameLiteral_28 kM_sameLiteral_28
  exact Rf_tail hR hσ (zrs_cons hx0 (zrs_cons hx1 (zrs_cons (by decide) zrs_nil))) (e_cons rfl (e_cons rfl (e_cons (by decide) rfl)))
theorem rZ_sameLiteral_29 (rz : zF) (rm : mF) (hR : Rc rz rm) (β : Nat) (σ : zS) (hσ : zOK σ) (x0 x1 x2 : Int) (hx0 : zr x0) (hx1 : zr x1) (hx2 : zr x2) : Rf (kZ_sameLiteral_29 rz β σ x0 x1 x2) (kM_sameLiteral_29 rm (cv σ) (i32 x0) (i32 x1) (i32 x2)) β := by
  unfold kZ_sameLiteral_29 kM_sameLiteral_29
  refine Rf_01 rfl hx2 (fun hb1 => ?_)
  exact Rf_some hσ hx2 rfl
theorem rZ_alike (rz : zF) (rm : mF) (hR : Rc rz rm) (β : Nat) (σ : zS) (hσ : zOK σ) (x0 x1 : Int) (hx0 : zr x0) (hx1 : zr x1) : Rf (kZ_alike rz β σ x0 x1) (kM_alike rm (cv σ) (i32 x0) (i32 x1)) β := by
  unfold kZ_alike kM_alike
  refine Rf_rd rfl hx0 (fun hb1 => ?_)
  refine Rf_rd rfl hx1 (fun hb2 => ?_)
  refine Rf_bnd hR hσ (zrs_cons (hσ.2.1 _ _) (zrs_cons (hσ.2.1 _ _) zrs_nil)) (e_cons (e_rd rfl hb1) (e_cons (e_rd rfl hb2) rfl)) (fun σ1 r1 hσ1 hr1 => ?_)
  refine Rf_eq rfl (by decide) hr1 (by decide) (fun _ => ?_) (fun _ => ?_)
  · exact Rf_tail hR hσ1 (zrs_cons hx0 (zrs_cons hx1 zrs_nil)) (e_cons rfl (e_cons rfl rfl))
  · refine Rf_rd2 rfl hb1 ?_
    refine Rf_rd2 rfl hb2 ?_
    refine Rf_bnd hR hσ1 (zrs_cons (hσ1.2.1 _ _) (zrs_cons (hσ1.2.1 _ _) zrs_nil)) (e_cons (e_rd rfl hb1) (e_cons (e_rd rfl hb2) rfl)) (fun σ2 r2 hσ2 hr2 => ?_)
    refine Rf_eq rfl (by decide) hr2 (by decide) (fun _ => ?_) (fun _ => ?_)
    · exact Rf_tail hR hσ2 (zrs_cons hx0 (zrs_cons hx1 zrs_nil)) (e_cons rfl (e_cons rfl rfl))
    · exact Rf_tail hR hσ2 (zrs_cons hx0 (zrs_cons hx1 zrs_nil)) (e_cons rfl (e_cons rfl rfl))
theorem rZ_alike_38 (rz : zF) (rm : mF) (hR : Rc rz rm) (β : Nat) (σ : zS) (hσ : zOK σ) (x0 x1 : Int) (hx0 : zr x0) (hx1 : zr x1) : Rf (kZ_alike_38 rz β σ x0 x1) (kM_alike_38 rm (cv σ) (i32 x0) (i32 x1)) β := by
  unfold kZ_alike_38 kM_alike_38
  refine Rf_rd rfl hx0 (fun hb1 => ?_)
  refine Rf_rd rfl hx1 (fun hb2 => ?_)
  refine Rf_bnd hR hσ (zrs_cons (hσ.2.1 _ _) (zrs_cons (hσ.2.1 _ _) zrs_nil)) (e_cons (e_rd rfl hb1) (e_cons (e_rd rfl hb2) rfl)) (fun σ1 r1 hσ1 hr1 => ?_)
  refine Rf_eq rfl (by decide) hr1 (by decide) (fun _ => ?_) (fun _ => ?_)
  · exact Rf_tail hR hσ1 (zrs_cons hx0 (zrs_cons hx1 zrs_nil)) (e_cons rfl (e_cons rfl rfl))
  · refine Rf_rd2 rfl hb1 ?_
    refine Rf_rd2 rfl hb2 ?_
    refine Rf_bnd hR hσ1 (zrs_cons (hσ1.2.1 _ _) (zrs_cons (hσ1.2.1 _ _) zrs_nil)) (e_cons (e_rd rfl hb1) (e_cons (e_rd rfl hb2) rfl)) (fun σ2 r2 hσ2 hr2 => ?_)
    refine Rf_eq rfl (by decide) hr2 (by decide) (fun _ => ?_) (fun _ => ?_)
    · exact Rf_tail hR hσ2 (zrs_cons hx0 (zrs_cons hx1 zrs_nil)) (e_cons rfl (e_cons rfl rfl))
    · exact Rf_tail hR hσ2 (zrs_cons hx0 (zrs_cons hx1 zrs_nil)) (e_cons rfl (e_cons rfl rfl))
theorem rZ_alike_76 (rz : zF) (rm : mF) (hR : Rc rz rm) (β : Nat) (σ : zS) (hσ : zOK σ) (x0 x1 : Int) (hx0 : zr x0) (hx1 : zr x1) : Rf (kZ_alike_76 rz β σ x0 x1) (kM_alike_76 rm (cv σ) (i32 x0) (i32 x1)) β := by
  unfold kZ_alike_76 kM_alike_76
  exact Rf_tail hR hσ (zrs_cons hx0 (zrs_cons hx1 (zrs_cons (by decide) zrs_nil))) (e_cons rfl (e_cons rfl (e_cons (by decide) rfl)))
theorem rZ_alike_80 (rz : zF) (rm : mF) (hR : Rc rz rm) (β : Nat) (σ : zS) (hσ : zOK σ) (x0 x1 : Int) (hx0 : zr x0) (hx1 : zr x1) : Rf (kZ_alike_80 rz β σ x0 x1) (kM_alike_80 rm (cv σ) (i32 x0) (i32 x1)) β := by
  unfold kZ_alike_80 kM_alike_80
  exact Rf_tail hR hσ (zrs_cons hx0 (zrs_cons hx1 (zrs_cons (by decide) zrs_nil))) (e_cons rfl (e_cons rfl (e_cons (by decide) rfl)))
theorem rZ_alike_81 (rz : zF) (rm : mF) (hR : Rc rz rm) (β : Nat) (σ : zS) (hσ : zOK σ) (x0 x1 x2 : Int) (hx0 : zr x0) (hx1 : zr x1) (hx2 : zr x2) : Rf (kZ_alike_81 rz β σ x0 x1 x2) (kM_alike_81 rm (cv σ) (i32 x0) (i32 x1) (i32 x2)) β := by
  unfold kZ_alike_81 kM_alike_81
  refine Rf_01 rfl hx2 (fun hb1 => ?_)
  exact Rf_some hσ hx2 rfl
theorem rZ_number (rz : zF) (rm : mF) (hR : Rc rz rm) (β : Nat) (σ : zS) (hσ : zOK σ) (x0 : Int) (hx0 : zr x0) : Rf (kZ_number rz β σ x0) (kM_number rm (cv σ) (i32 x0)) β := by
  unfold kZ_number kM_number
  refine Rf_rd rfl hx0 (fun hb1 => ?_)
  refine Rf_le (by decide) (e_rd rfl hb1) (by decide) (hσ.2.1 _ _) (fun _ => ?_) (fun _ => ?_)
  · refine Rf_rd2 rfl hb1 ?_
    exact Rf_tail hR hσ (zrs_cons hx0 (zrs_cons (hσ.2.1 _ _) zrs_nil)) (e_cons rfl (e_cons (e_rd rfl hb1) rfl))
  · exact Rf_tail hR hσ (zrs_cons hx0 (zrs_cons (by decide) zrs_nil)) (e_cons rfl (e_cons (by decide) rfl))
theorem rZ_number_11 (rz : zF) (rm : mF) (hR : Rc rz rm) (β : Nat) (σ : zS) (hσ : zOK σ) (x0 x1 : Int) (hx0 : zr x0) (hx1 : zr x1) : Rf (kZ_number_11 rz β σ x0 x1) (kM_number_11 rm (cv σ) (i32 x0) (i32 x1)) β := by
  unfold kZ_number_11 kM_number_11
  refine Rf_le rfl rfl (hσ.1 101) hx1 (fun _ => ?_) (fun _ => ?_)
  · exact Rf_tail hR hσ (zrs_cons hx0 (zrs_cons hx1 zrs_nil)) (e_cons rfl (e_cons rfl rfl))
  · refine Rf_rd rfl hx1 (fun hb1 => ?_)
    refine Rf_rd rfl hx0 (fun hb2 => ?_)
    refine Rf_eq (e_rd rfl hb1) (e_rd rfl hb2) (hσ.2.1 _ _) (hσ.2.1 _ _) (fun _ => ?_) (fun _ => ?_)
    · exact Rf_tail hR hσ (zrs_cons hx0 (zrs_cons hx1 zrs_nil)) (e_cons rfl (e_cons rfl rfl))
    · refine Rf_g (fun hg3 => ?_)
      exact Rf_tail hR hσ (zrs_cons hx0 (zrs_cons hg3 zrs_nil)) (e_cons rfl (e_cons (e_add rfl (by decide)) rfl))
theorem rZ_number_40 (rz : zF) (rm : mF) (hR : Rc rz rm) (β : Nat) (σ : zS) (hσ : zOK σ) (x0 x1 : Int) (hx0 : zr x0) (hx1 : zr x1) : Rf (kZ_number_40 rz β σ x0 x1) (kM_number_40 rm (cv σ) (i32 x0) (i32 x1)) β := by
  unfold kZ_number_40 kM_number_40
  refine Rf_eq rfl rfl hx1 (hσ.1 101) (fun _ => ?_) (fun _ => ?_)
  · refine Rf_g (fun hg1 => ?_)
    refine Rf_I (e_add rfl (by decide)) hg1 hσ (fun σ1 hσ1 => ?_)
    refine Rf_rd rfl hx0 (fun hb2 => ?_)
    refine Rf_rd rfl (hσ.1 101) (fun hb3 => ?_)
    refine Rf_A rfl hb3 (e_rd rfl hb2) (hσ1.2.1 _ _) hσ1 (fun σ2 hσ2 => ?_)
    exact Rf_tail hR hσ2 (zrs_cons hx0 (zrs_cons hx1 zrs_nil)) (e_cons rfl (e_cons rfl rfl))
  · exact Rf_tail hR hσ (zrs_cons hx0 (zrs_cons hx1 zrs_nil)) (e_cons rfl (e_cons rfl rfl))
theorem rZ_number_70 (rz : zF) (rm : mF) (hR : Rc rz rm) (β : Nat) (σ : zS) (hσ : zOK σ) (x0 x1 : Int) (hx0 : zr x0) (hx1 : zr x1) : Rf (kZ_number_70 rz β σ x0 x1) (kM_number_70 rm (cv σ) (i32 x0) (i32 x1)) β := by
  unfold kZ_number_70 kM_number_70
  refine Rf_rd rfl hx0 (fun hb1 => ?_)
  refine Rf_g (fun hg2 => ?_)
  refine Rf_A rfl hb1 (e_sub (by decide) rfl) hg2 hσ (fun σ1 hσ1 => ?_)
  exact Rf_some hσ1 (by decide) (by decide)
theorem rZ_number_87 (rz : zF) (rm : mF) (hR : Rc rz rm) (β : Nat) (σ : zS) (hσ : zOK σ) (x0 x1 : Int) (hx0 : zr x0) (hx1 : zr x1) : Rf (kZ_number_87 rz β σ x0 x1) (kM_number_87 rm (cv σ) (i32 x0) (i32 x1)) β := by
  unfold kZ_number_87 kM_number_87
  refine Rf_lt rfl (by decide) hx1 (by decide) (fun _ => ?_) (fun _ => ?_)
  · exact Rf_some hσ (by decide) (by decide)
  · refine Rf_bnd hR hσ (zrs_cons hx1 zrs_nil) (e_cons rfl rfl) (fun σ1 r1 hσ1 hr1 => ?_)
    refine Rf_rd rfl hx1 (fun hb1 => ?_)
    exact Rf_tail hR hσ1 (zrs_cons hx0 (zrs_cons (hσ1.2.1 _ _) zrs_nil)) (e_cons rfl (e_cons (e_rd rfl hb1) rfl))
theorem rZ_tautology (rz : zF) (rm : mF) (hR : Rc rz rm) (β : Nat) (σ : zS) (hσ : zOK σ) : Rf (kZ_tautology rz β σ) (kM_tautology rm (cv σ)) β := by
  unfold kZ_tautology kM_tautology
  exact Rf_tail hR hσ (zrs_cons (by decide) zrs_nil) (e_cons (by decide) rfl)
theorem rZ_tautology_2 (rz : zF) (rm : mF) (hR : Rc rz rm) (β : Nat) (σ : zS) (hσ : zOK σ) (x0 : Int) (hx0 : zr x0) : Rf (kZ_tautology_2 rz β σ x0) (kM_tautology_2 rm (cv σ) (i32 x0)) β := by
  unfold kZ_tautology_2 kM_tautology_2
  refine Rf_le rfl rfl (hσ.1 98) hx0 (fun _ => ?_) (fun _ => ?_)
  · exact Rf_some hσ (by decide) (by decide)
  · refine Rf_rd rfl hx0 (fun hb1 => ?_)
    refine Rf_eq (e_rd rfl hb1) (by decide) (hσ.2.1 _ _) (by decide) (fun _ => ?_) (fun _ => ?_)
    · exact Rf_tail hR hσ (zrs_cons hx0 zrs_nil) (e_cons rfl rfl)
    · refine Rf_rd2 rfl hb1 ?_
      refine Rf_rd2 rfl hb1 ?_
      refine Rf_bnd hR hσ (zrs_cons (hσ.2.1 _ _) (zrs_cons (hσ.2.1 _ _) zrs_nil)) (e_cons (e_rd rfl hb1) (e_cons (e_rd rfl hb1) rfl)) (fun σ1 r1 hσ1 hr1 => ?_)
      refine Rf_eq rfl (by decide) hr1 (by decide) (fun _ => ?_) (fun _ => ?_)
      · exact Rf_tail hR hσ1 (zrs_cons hx0 (zrs_cons (by decide) zrs_nil)) (e_cons rfl (e_cons (by decide) rfl))
      · exact Rf_some hσ1 (by decide) (by decide)
theorem rZ_tautology_45 (rz : zF) (rm : mF) (hR : Rc rz rm) (β : Nat) (σ : zS) (hσ : zOK σ) (x0 x1 : Int) (hx0 : zr x0) (hx1 : zr x1) : Rf (kZ_tautology_45 rz β σ x0 x1) (kM_tautology_45 rm (cv σ) (i32 x0) (i32 x1)) β := by
  unfold kZ_tautology_45 kM_tautology_45
  refine Rf_le rfl rfl (hσ.1 98) hx1 (fun _ => ?_) (fun _ => ?_)
  · exact Rf_tail hR hσ (zrs_cons hx0 zrs_nil) (e_cons rfl rfl)
  · refine Rf_rd rfl hx1 (fun hb1 => ?_)
    refine Rf_eq (e_rd rfl hb1) (by decide) (hσ.2.1 _ _) (by decide) (fun _ => ?_) (fun _ => ?_)
    · refine Rf_bnd hR hσ (zrs_cons hx0 (zrs_cons hx1 zrs_nil)) (e_cons rfl (e_cons rfl rfl)) (fun σ1 r1 hσ1 hr1 => ?_)
      refine Rf_eq rfl (by decide) hr1 (by decide) (fun _ => ?_) (fun _ => ?_)
      · exact Rf_tail hR hσ1 (zrs_cons hx0 (zrs_cons hx1 zrs_nil)) (e_cons rfl (e_cons rfl rfl))
      · exact Rf_some hσ1 (by decide) (by decide)
    · exact Rf_tail hR hσ (zrs_cons hx0 (zrs_cons hx1 zrs_nil)) (e_cons rfl (e_cons rfl rfl))
theorem rZ_tautology_73 (rz : zF) (rm : mF) (hR : Rc rz rm) (β : Nat) (σ : zS) (hσ : zOK σ) (x0 x1 : Int) (hx0 : zr x0) (hx1 : zr x1) : Rf (kZ_tautology_73 rz β σ x0 x1) (kM_tautology_73 rm (cv σ) (i32 x0) (i32 x1)) β := by
  unfold kZ_tautology_73 kM_tautology_73
  refine Rf_g (fun hg1 => ?_)
  exact Rf_tail hR hσ (zrs_cons hx0 (zrs_cons hg1 zrs_nil)) (e_cons rfl (e_cons (e_add rfl (by decide)) rfl))
theorem rZ_tautology_79 (rz : zF) (rm : mF) (hR : Rc rz rm) (β : Nat) (σ : zS) (hσ : zOK σ) (x0 : Int) (hx0 : zr x0) : Rf (kZ_tautology_79 rz β σ x0) (kM_tautology_79 rm (cv σ) (i32 x0)) β := by
  unfold kZ_tautology_79 kM_tautology_79
  refine Rf_g (fun hg1 => ?_)
  exact Rf_tail hR hσ (zrs_cons hg1 zrs_nil) (e_cons (e_add rfl (by decide)) rfl)
theorem rZ_keep (rz : zF) (rm : mF) (hR : Rc rz rm) (β : Nat) (σ : zS) (hσ : zOK σ) (x0 x1 x2 : Int) (hx0 : zr x0) (hx1 : zr x1) (hx2 : zr x2) : Rf (kZ_keep rz β σ x0 x1 x2) (kM_keep rm (cv σ) (i32 x0) (i32 x1) (i32 x2)) β := by
  unfold kZ_keep kM_keep
  refine Rf_eq rfl (by decide) (hσ.1 84) (by decide) (fun _ => ?_) (fun _ => ?_)
  · refine Rf_I (by decide) (by decide) hσ (fun σ12 hσ12 => ?_)
    exact Rf_some hσ12 (by decide) (by decide)
  · refine Rf_rd rfl (hσ.1 84) (fun hb1 => ?_)
    refine Rf_A rfl hb1 rfl (hσ.1 72) hσ (fun σ1 hσ1 => ?_)
    refine Rf_rd2 rfl hb1 ?_
    refine Rf_A rfl hb1 rfl (hσ1.1 98) hσ1 (fun σ2 hσ2 => ?_)
    refine Rf_rd2 rfl hb1 ?_
    refine Rf_A rfl hb1 rfl hx0 hσ2 (fun σ3 hσ3 => ?_)
    refine Rf_rd2 rfl hb1 ?_
    refine Rf_A rfl hb1 rfl hx1 hσ3 (fun σ4 hσ4 => ?_)
    refine Rf_rd2 rfl hb1 ?_
    refine Rf_A rfl hb1 rfl hx2 hσ4 (fun σ5 hσ5 => ?_)
    refine Rf_rd2 rfl hb1 ?_
    refine Rf_A rfl hb1 (by decide) (by decide) hσ5 (fun σ6 hσ6 => ?_)
    refine Rf_rd2 rfl hb1 ?_
    refine Rf_A rfl hb1 rfl (hσ6.1 86) hσ6 (fun σ7 hσ7 => ?_)
    refine Rf_rd2 rfl hb1 ?_
    refine Rf_A rfl hb1 (by decide) (by decide) hσ7 (fun σ8 hσ8 => ?_)
    refine Rf_rd2 rfl hb1 ?_
    refine Rf_A rfl hb1 rfl (hσ8.1 101) hσ8 (fun σ9 hσ9 => ?_)
    refine Rf_rd2 rfl hb1 ?_
    refine Rf_A rfl hb1 (by decide) (by decide) hσ9 (fun σ10 hσ10 => ?_)
    refine Rf_I rfl (hσ10.1 105) hσ10 (fun σ11 hσ11 => ?_)
    exact Rf_tail hR hσ11 (zrs_cons hx0 (zrs_cons hx1 (zrs_cons hx2 (zrs_cons (hσ.1 84) (zrs_cons (by decide) zrs_nil))))) (e_cons rfl (e_cons rfl (e_cons rfl (e_cons rfl (e_cons (by decide) rfl)))))
theorem rZ_keep_126 (rz : zF) (rm : mF) (hR : Rc rz rm) (β : Nat) (σ : zS) (hσ : zOK σ) (x0 x1 x2 x3 x4 : Int) (hx0 : zr x0) (hx1 : zr x1) (hx2 : zr x2) (hx3 : zr x3) (hx4 : zr x4) : Rf (kZ_keep_126 rz β σ x0 x1 x2 x3 x4) (kM_keep_126 rm (cv σ) (i32 x0) (i32 x1) (i32 x2) (i32 x3) (i32 x4)) β := by
  unfold kZ_keep_126 kM_keep_126
  refine Rf_le rfl rfl (hσ.1 98) hx4 (fun _ => ?_) (fun _ => ?_)
  · refine Rf_I rfl (hσ.1 47) hσ (fun σ1 hσ1 => ?_)
    refine Rf_g (fun hg1 => ?_)
    refine Rf_I (e_add rfl (by decide)) hg1 hσ1 (fun σ2 hσ2 => ?_)
    refine Rf_bnd hR hσ2 (zrs_cons hx3 zrs_nil) (e_cons rfl rfl) (fun σ3 r3 hσ3 hr3 => ?_)
    exact Rf_some hσ3 (by decide) (by decide)
  · refine Rf_rd rfl hx4 (fun hb2 => ?_)
    refine Rf_bnd hR hσ (zrs_cons (hσ.2.1 _ _) zrs_nil) (e_cons (e_rd rfl hb2) rfl) (fun σ4 r4 hσ4 hr4 => ?_)
    refine Rf_rd rfl (hσ.1 72) (fun hb3 => ?_)
    refine Rf_A rfl hb3 rfl hr4 hσ4 (fun σ5 hσ5 => ?_)
    refine Rf_rd2 rfl hb2 ?_
    refine Rf_bnd hR hσ5 (zrs_cons (hσ5.2.1 _ _) zrs_nil) (e_cons (e_rd rfl hb2) rfl) (fun σ6 r6 hσ6 hr6 => ?_)
    refine Rf_rd rfl (hσ5.1 72) (fun hb4 => ?_)
    refine Rf_A rfl hb4 rfl hr6 hσ6 (fun σ7 hσ7 => ?_)
    refine Rf_rd2 rfl hb2 ?_
    refine Rf_rd rfl (hσ7.1 72) (fun hb5 => ?_)
    refine Rf_g (fun hg6 => ?_)
    refine Rf_A rfl hb5 (e_bool (e_rd rfl hb2) hg6) (hσ7.2.1 _ _) hσ7 (fun σ8 hσ8 => ?_)
    refine Rf_rd2 rfl hb2 ?_
    refine Rf_rd (e_rd rfl hb2) (hσ8.2.1 _ _) (fun hb7 => ?_)
    refine Rf_rd2 rfl hb2 ?_
    refine Rf_rd (e_rd rfl hb2) (hσ8.2.1 _ _) (fun hb8 => ?_)
    refine Rf_rd rfl (hσ8.1 72) (fun hb9 => ?_)
    refine Rf_g (fun hg10 => ?_)
    refine Rf_A rfl hb9 (e_add (e_rd (e_rd rfl hb2) hb7) (e_rd (e_rd rfl hb2) hb8)) hg10 hσ8 (fun σ9 hσ9 => ?_)
    refine Rf_rd rfl hx3 (fun hb11 => ?_)
    refine Rf_g (fun hg12 => ?_)
    refine Rf_I (e_add rfl (by decide)) hg12 hσ9 (fun σ10 hσ10 => ?_)
    refine Rf_rd rfl (hσ9.1 72) (fun hb13 => ?_)
    refine Rf_rd2 rfl hb11 ?_
    refine Rf_g (fun hg14 => ?_)
    refine Rf_A rfl hb11 (e_add (e_rd rfl hb11) (e_rd rfl hb13)) hg14 hσ10 (fun σ11 hσ11 => ?_)
    refine Rf_g (fun hg15 => ?_)
    exact Rf_tail hR hσ11 (zrs_cons hx0 (zrs_cons hx1 (zrs_cons hx2 (zrs_cons hx3 (zrs_cons hg15 zrs_nil))))) (e_cons rfl (e_cons rfl (e_cons rfl (e_cons rfl (e_cons (e_add rfl (by decide)) rfl)))))
theorem rZ_looked (rz : zF) (rm : mF) (hR : Rc rz rm) (β : Nat) (σ : zS) (hσ : zOK σ) (x0 : Int) (hx0 : zr x0) : Rf (kZ_looked rz β σ x0) (kM_looked rm (cv σ) (i32 x0)) β := by
  unfold kZ_looked kM_looked
  refine Rf_rd rfl hx0 (fun hb1 => ?_)
  refine Rf_rd2 rfl hb1 ?_
  refine Rf_g (fun hg2 => ?_)
  exact Rf_tail hR hσ (zrs_cons hx0 (zrs_cons (hσ.2.1 _ _) (zrs_cons hg2 (zrs_cons (by decide) (zrs_cons (hσ.2.1 _ _) zrs_nil))))) (e_cons rfl (e_cons (e_rd rfl hb1) (e_cons (e_add (e_rd rfl hb1) (e_rd rfl hb1)) (e_cons (by decide) (e_cons (e_rd rfl hb1) rfl)))))
theorem rZ_looked_22 (rz : zF) (rm : mF) (hR : Rc rz rm) (β : Nat) (σ : zS) (hσ : zOK σ) (x0 x1 x2 x3 x4 : Int) (hx0 : zr x0) (hx1 : zr x1) (hx2 : zr x2) (hx3 : zr x3) (hx4 : zr x4) : Rf (kZ_looked_22 rz β σ x0 x1 x2 x3 x4) (kM_looked_22 rm (cv σ) (i32 x0) (i32 x1) (i32 x2) (i32 x3) (i32 x4)) β := by
  unfold kZ_looked_22 kM_looked_22
  refine Rf_le rfl rfl hx2 hx4 (fun _ => ?_) (fun _ => ?_)
  · exact Rf_tail hR hσ (zrs_cons hx0 (zrs_cons hx1 (zrs_cons hx2 (zrs_cons hx3 (zrs_cons hx1 zrs_nil))))) (e_cons rfl (e_cons rfl (e_cons rfl (e_cons rfl (e_cons rfl rfl)))))
  · refine Rf_rd rfl hx4 (fun hb1 => ?_)
    refine Rf_rd2 rfl hb1 ?_
    refine Rf_bnd hR hσ (zrs_cons (hσ.2.1 _ _) (zrs_cons (hσ.2.1 _ _) zrs_nil)) (e_cons (e_rd rfl hb1) (e_cons (e_rd rfl hb1) rfl)) (fun σ1 r1 hσ1 hr1 => ?_)
    refine Rf_eq rfl (by decide) hr1 (by decide) (fun _ => ?_) (fun _ => ?_)
    · refine Rf_rd2 rfl hb1 ?_
      refine Rf_rd2 rfl hb1 ?_
      refine Rf_bnd hR hσ1 (zrs_cons (hσ1.2.1 _ _) (zrs_cons (hσ1.2.1 _ _) zrs_nil)) (e_cons (e_rd rfl hb1) (e_cons (e_rd rfl hb1) rfl)) (fun σ2 r2 hσ2 hr2 => ?_)
      refine Rf_eq rfl (by decide) hr2 (by decide) (fun _ => ?_) (fun _ => ?_)
      · exact Rf_tail hR hσ2 (zrs_cons hx0 (zrs_cons hx1 (zrs_cons hx2 (zrs_cons hx3 (zrs_cons hx4 (zrs_cons (by decide) (zrs_cons hx4 zrs_nil))))))) (e_cons rfl (e_cons rfl (e_cons rfl (e_cons rfl (e_cons rfl (e_cons (by decide) (e_cons rfl rfl)))))))
      · exact Rf_tail hR hσ2 (zrs_cons hx0 (zrs_cons hx1 (zrs_cons hx2 (zrs_cons hx3 (zrs_cons hx4 (zrs_cons (by decide) (zrs_cons hx4 zrs_nil))))))) (e_cons rfl (e_cons rfl (e_cons rfl (e_cons rfl (e_cons rfl (e_cons (by decide) (e_cons rfl rfl)))))))
    · exact Rf_tail hR hσ1 (zrs_cons hx0 (zrs_cons hx1 (zrs_cons hx2 (zrs_cons hx3 (zrs_cons hx4 (zrs_cons (by decide) (zrs_cons hx4 zrs_nil))))))) (e_cons rfl (e_cons rfl (e_cons rfl (e_cons rfl (e_cons rfl (e_cons (by decide) (e_cons rfl rfl)))))))
theorem rZ_looked_85 (rz : zF) (rm : mF) (hR : Rc rz rm) (β : Nat) (σ : zS) (hσ : zOK σ) (x0 x1 x2 x3 x4 x5 x6 : Int) (hx0 : zr x0) (hx1 : zr x1) (hx2 : zr x2) (hx3 : zr x3) (hx4 : zr x4) (hx5 : zr x5) (hx6 : zr x6) : Rf (kZ_looked_85 rz β σ x0 x1 x2 x3 x4 x5 x6) (kM_looked_85 rm (cv σ) (i32 x0) (i32 x1) (i32 x2) (i32 x3) (i32 x4) (i32 x5) (i32 x6)) β := by
  unfold kZ_looked_85 kM_looked_85
  refine Rf_rd rfl hx6 (fun hb1 => ?_)
  refine Rf_A rfl hb1 rfl hx5 hσ (fun σ1 hσ1 => ?_)
  refine Rf_rd rfl hx4 (fun hb2 => ?_)
  refine Rf_eq (e_rd rfl hb2) (by decide) (hσ1.2.1 _ _) (by decide) (fun _ => ?_) (fun _ => ?_)
  · refine Rf_lt rfl (by decide) hx3 (by decide) (fun _ => ?_) (fun _ => ?_)
    · exact Rf_tail hR hσ1 (zrs_cons hx0 (zrs_cons hx1 (zrs_cons hx2 (zrs_cons hx3 (zrs_cons hx4 zrs_nil))))) (e_cons rfl (e_cons rfl (e_cons rfl (e_cons rfl (e_cons rfl rfl)))))
    · refine Rf_rd2 rfl hb2 ?_
      refine Rf_rd rfl hx3 (fun hb3 => ?_)
      refine Rf_le (e_rd rfl hb2) (e_rd rfl hb3) (hσ1.2.1 _ _) (hσ1.2.1 _ _) (fun _ => ?_) (fun _ => ?_)
      · exact Rf_tail hR hσ1 (zrs_cons hx0 (zrs_cons hx1 (zrs_cons hx2 (zrs_cons hx3 (zrs_cons hx4 zrs_nil))))) (e_cons rfl (e_cons rfl (e_cons rfl (e_cons rfl (e_cons rfl rfl)))))
      · exact Rf_tail hR hσ1 (zrs_cons hx0 (zrs_cons hx1 (zrs_cons hx2 (zrs_cons hx3 (zrs_cons hx4 zrs_nil))))) (e_cons rfl (e_cons rfl (e_cons rfl (e_cons rfl (e_cons rfl rfl)))))
  · exact Rf_tail hR hσ1 (zrs_cons hx0 (zrs_cons hx1 (zrs_cons hx2 (zrs_cons hx3 (zrs_cons hx4 zrs_nil))))) (e_cons rfl (e_cons rfl (e_cons rfl (e_cons rfl (e_cons rfl rfl)))))
theorem rZ_looked_118 (rz : zF) (rm : mF) (hR : Rc rz rm) (β : Nat) (σ : zS) (hσ : zOK σ) (x0 x1 x2 x3 x4 : Int) (hx0 : zr x0) (hx1 : zr x1) (hx2 : zr x2) (hx3 : zr x3) (hx4 : zr x4) : Rf (kZ_looked_118 rz β σ x0 x1 x2 x3 x4) (kM_looked_118 rm (cv σ) (i32 x0) (i32 x1) (i32 x2) (i32 x3) (i32 x4)) β := by
  unfold kZ_looked_118 kM_looked_118
  exact Rf_tail hR hσ (zrs_cons hx0 (zrs_cons hx1 (zrs_cons hx2 (zrs_cons hx4 (zrs_cons hx4 zrs_nil))))) (e_cons rfl (e_cons rfl (e_cons rfl (e_cons rfl (e_cons rfl rfl)))))
theorem rZ_looked_122 (rz : zF) (rm : mF) (hR : Rc rz rm) (β : Nat) (σ : zS) (hσ : zOK σ) (x0 x1 x2 x3 x4 : Int) (hx0 : zr x0) (hx1 : zr x1) (hx2 : zr x2) (hx3 : zr x3) (hx4 : zr x4) : Rf (kZ_looked_122 rz β σ x0 x1 x2 x3 x4) (kM_looked_122 rm (cv σ) (i32 x0) (i32 x1) (i32 x2) (i32 x3) (i32 x4)) β := by
  unfold kZ_looked_122 kM_looked_122
  refine Rf_g (fun hg1 => ?_)
  exact Rf_tail hR hσ (zrs_cons hx0 (zrs_cons hx1 (zrs_cons hx2 (zrs_cons hx3 (zrs_cons hg1 zrs_nil))))) (e_cons rfl (e_cons rfl (e_cons rfl (e_cons rfl (e_cons (e_add rfl (by decide)) rfl)))))
theorem rZ_looked_131 (rz : zF) (rm : mF) (hR : Rc rz rm) (β : Nat) (σ : zS) (hσ : zOK σ) (x0 x1 x2 x3 x4 : Int) (hx0 : zr x0) (hx1 : zr x1) (hx2 : zr x2) (hx3 : zr x3) (hx4 : zr x4) : Rf (kZ_looked_131 rz β σ x0 x1 x2 x3 x4) (kM_looked_131 rm (cv σ) (i32 x0) (i32 x1) (i32 x2) (i32 x3) (i32 x4)) β := by
  unfold kZ_looked_131 kM_looked_131
  refine Rf_le rfl rfl hx2 hx4 (fun _ => ?_) (fun _ => ?_)
  · exact Rf_some hσ (by decide) (by decide)
  · refine Rf_lt rfl (by decide) hx3 (by decide) (fun _ => ?_) (fun _ => ?_)
    · exact Rf_tail hR hσ (zrs_cons hx0 (zrs_cons hx1 (zrs_cons hx2 (zrs_cons hx3 (zrs_cons hx4 (zrs_cons hx4 zrs_nil)))))) (e_cons rfl (e_cons rfl (e_cons rfl (e_cons rfl (e_cons rfl (e_cons rfl rfl))))))
    · refine Rf_eq rfl rfl hx3 hx4 (fun _ => ?_) (fun _ => ?_)
      · exact Rf_tail hR hσ (zrs_cons hx0 (zrs_cons hx1 (zrs_cons hx2 (zrs_cons hx3 (zrs_cons hx4 (zrs_cons hx4 zrs_nil)))))) (e_cons rfl (e_cons rfl (e_cons rfl (e_cons rfl (e_cons rfl (e_cons rfl rfl))))))
      · exact Rf_tail hR hσ (zrs_cons hx0 (zrs_cons hx1 (zrs_cons hx2 (zrs_cons hx3 (zrs_cons hx4 (zrs_cons (by decide) (zrs_cons hx4 zrs_nil))))))) (e_cons rfl (e_cons rfl (e_cons rfl (e_cons rfl (e_cons rfl (e_cons (by decide) (e_cons rfl rfl)))))))
theorem rZ_looked_155 (rz : zF) (rm : mF) (hR : Rc rz rm) (β : Nat) (σ : zS) (hσ : zOK σ) (x0 x1 x2 x3 x4 x5 : Int) (hx0 : zr x0) (hx1 : zr x1) (hx2 : zr x2) (hx3 : zr x3) (hx4 : zr x4) (hx5 : zr x5) : Rf (kZ_looked_155 rz β σ x0 x1 x2 x3 x4 x5) (kM_looked_155 rm (cv σ) (i32 x0) (i32 x1) (i32 x2) (i32 x3) (i32 x4) (i32 x5)) β := by
  unfold kZ_looked_155 kM_looked_155
  exact Rf_tail hR hσ (zrs_cons hx0 (zrs_cons hx1 (zrs_cons hx2 (zrs_cons hx3 (zrs_cons hx4 (zrs_cons (by decide) (zrs_cons hx5 zrs_nil))))))) (e_cons rfl (e_cons rfl (e_cons rfl (e_cons rfl (e_cons rfl (e_cons (by decide) (e_cons rfl rfl)))))))
theorem rZ_looked_160 (rz : zF) (rm : mF) (hR : Rc rz rm) (β : Nat) (σ : zS) (hσ : zOK σ) (x0 x1 x2 x3 x4 x5 x6 : Int) (hx0 : zr x0) (hx1 : zr x1) (hx2 : zr x2) (hx3 : zr x3) (hx4 : zr x4) (hx5 : zr x5) (hx6 : zr x6) : Rf (kZ_looked_160 rz β σ x0 x1 x2 x3 x4 x5 x6) (kM_looked_160 rm (cv σ) (i32 x0) (i32 x1) (i32 x2) (i32 x3) (i32 x4) (i32 x5) (i32 x6)) β := by
  unfold kZ_looked_160 kM_looked_160
  refine Rf_rd rfl hx6 (fun hb1 => ?_)
  refine Rf_g (fun hg2 => ?_)
  refine Rf_A rfl hb1 (e_bool rfl hg2) hx5 hσ (fun σ1 hσ1 => ?_)
  exact Rf_tail hR hσ1 (zrs_cons hx0 (zrs_cons hx1 (zrs_cons hx2 (zrs_cons hx3 (zrs_cons hx4 (zrs_cons hx1 zrs_nil)))))) (e_cons rfl (e_cons rfl (e_cons rfl (e_cons rfl (e_cons rfl (e_cons rfl rfl))))))
theorem rZ_looked_164 (rz : zF) (rm : mF) (hR : Rc rz rm) (β : Nat) (σ : zS) (hσ : zOK σ) (x0 x1 x2 x3 x4 x5 : Int) (hx0 : zr x0) (hx1 : zr x1) (hx2 : zr x2) (hx3 : zr x3) (hx4 : zr x4) (hx5 : zr x5) : Rf (kZ_looked_164 rz β σ x0 x1 x2 x3 x4 x5) (kM_looked_164 rm (cv σ) (i32 x0) (i32 x1) (i32 x2) (i32 x3) (i32 x4) (i32 x5)) β := by
  unfold kZ_looked_164 kM_looked_164
  refine Rf_le rfl rfl hx2 hx5 (fun _ => ?_) (fun _ => ?_)
  · exact Rf_tail hR hσ (zrs_cons hx0 (zrs_cons hx1 (zrs_cons hx2 (zrs_cons hx3 (zrs_cons hx4 (zrs_cons hx5 zrs_nil)))))) (e_cons rfl (e_cons rfl (e_cons rfl (e_cons rfl (e_cons rfl (e_cons rfl rfl))))))
  · refine Rf_le (by decide) rfl (by decide) hx3 (fun _ => ?_) (fun _ => ?_)
    · exact Rf_tail hR hσ (zrs_cons hx0 (zrs_cons hx1 (zrs_cons hx2 (zrs_cons hx3 (zrs_cons hx4 (zrs_cons hx5 zrs_nil)))))) (e_cons rfl (e_cons rfl (e_cons rfl (e_cons rfl (e_cons rfl (e_cons rfl rfl))))))
    · refine Rf_eq rfl rfl hx5 hx4 (fun _ => ?_) (fun _ => ?_)
      · exact Rf_tail hR hσ (zrs_cons hx0 (zrs_cons hx1 (zrs_cons hx2 (zrs_cons hx3 (zrs_cons hx4 (zrs_cons hx5 zrs_nil)))))) (e_cons rfl (e_cons rfl (e_cons rfl (e_cons rfl (e_cons rfl (e_cons rfl rfl))))))
      · refine Rf_bnd hR hσ (zrs_cons hx5 (zrs_cons hx4 zrs_nil)) (e_cons rfl (e_cons rfl rfl)) (fun σ1 r1 hσ1 hr1 => ?_)
        refine Rf_eq rfl (by decide) hr1 (by decide) (fun _ => ?_) (fun _ => ?_)
        · exact Rf_tail hR hσ1 (zrs_cons hx0 (zrs_cons hx1 (zrs_cons hx2 (zrs_cons hx3 (zrs_cons hx4 (zrs_cons hx5 zrs_nil)))))) (e_cons rfl (e_cons rfl (e_cons rfl (e_cons rfl (e_cons rfl (e_cons rfl rfl))))))
        · refine Rf_rd rfl hx4 (fun hb1 => ?_)
          have hg2 : (0 : Int) = 0 ∨ (0 : Int) = 1 := by decide
          refine Rf_A rfl hb1 (e_bool (by decide) hg2) (by decide) hσ1 (fun σ2 hσ2 => ?_)
          exact Rf_tail hR hσ2 (zrs_cons hx0 (zrs_cons hx1 (zrs_cons hx2 (zrs_cons hx3 (zrs_cons hx4 (zrs_cons hx5 zrs_nil)))))) (e_cons rfl (e_cons rfl (e_cons rfl (e_cons rfl (e_cons rfl (e_cons rfl rfl))))))
theorem rZ_looked_201 (rz : zF) (rm : mF) (hR : Rc rz rm) (β : Nat) (σ : zS) (hσ : zOK σ) (x0 x1 x2 x3 x4 x5 : Int) (hx0 : zr x0) (hx1 : zr x1) (hx2 : zr x2) (hx3 : zr x3) (hx4 : zr x4) (hx5 : zr x5) : Rf (kZ_looked_201 rz β σ x0 x1 x2 x3 x4 x5) (kM_looked_201 rm (cv σ) (i32 x0) (i32 x1) (i32 x2) (i32 x3) (i32 x4) (i32 x5)) β := by
  unfold kZ_looked_201 kM_looked_201
  refine Rf_g (fun hg1 => ?_)
  exact Rf_tail hR hσ (zrs_cons hx0 (zrs_cons hx1 (zrs_cons hx2 (zrs_cons hx3 (zrs_cons hx4 (zrs_cons hg1 zrs_nil)))))) (e_cons rfl (e_cons rfl (e_cons rfl (e_cons rfl (e_cons rfl (e_cons (e_add rfl (by decide)) rfl))))))
theorem rZ_looked_207 (rz : zF) (rm : mF) (hR : Rc rz rm) (β : Nat) (σ : zS) (hσ : zOK σ) (x0 x1 x2 x3 x4 x5 : Int) (hx0 : zr x0) (hx1 : zr x1) (hx2 : zr x2) (hx3 : zr x3) (hx4 : zr x4) (hx5 : zr x5) : Rf (kZ_looked_207 rz β σ x0 x1 x2 x3 x4 x5) (kM_looked_207 rm (cv σ) (i32 x0) (i32 x1) (i32 x2) (i32 x3) (i32 x4) (i32 x5)) β := by
  unfold kZ_looked_207 kM_looked_207
  refine Rf_g (fun hg1 => ?_)
  exact Rf_tail hR hσ (zrs_cons hx0 (zrs_cons hx1 (zrs_cons hx2 (zrs_cons hx3 (zrs_cons hg1 zrs_nil))))) (e_cons rfl (e_cons rfl (e_cons rfl (e_cons rfl (e_cons (e_add rfl (by decide)) rfl)))))
theorem rZ_greater (rz : zF) (rm : mF) (hR : Rc rz rm) (β : Nat) (σ : zS) (hσ : zOK σ) (x0 x1 : Int) (hx0 : zr x0) (hx1 : zr x1) : Rf (kZ_greater rz β σ x0 x1) (kM_greater rm (cv σ) (i32 x0) (i32 x1)) β := by
  unfold kZ_greater kM_greater
  refine Rf_rd rfl hx0 (fun hb1 => ?_)
  refine Rf_le (by decide) (e_rd rfl hb1) (by decide) (hσ.2.1 _ _) (fun _ => ?_) (fun _ => ?_)
  · refine Rf_Fl (by decide) (by decide) hσ (fun σ1 hσ1 => ?_)
    refine Rf_bnd hR hσ1 (zrs_cons hx0 (zrs_cons (by decide) zrs_nil)) (e_cons rfl (e_cons (by decide) rfl)) (fun σ2 r2 hσ2 hr2 => ?_)
    refine Rf_bnd hR hσ2 (zrs_cons hx1 (zrs_cons (by decide) zrs_nil)) (e_cons rfl (e_cons (by decide) rfl)) (fun σ3 r3 hσ3 hr3 => ?_)
    exact Rf_tail hR hσ3 (zrs_cons hx0 (zrs_cons hx1 (zrs_cons (by decide) zrs_nil))) (e_cons rfl (e_cons rfl (e_cons (by decide) rfl)))
  · exact Rf_some hσ (by decide) (by decide)
theorem rZ_greater_33 (rz : zF) (rm : mF) (hR : Rc rz rm) (β : Nat) (σ : zS) (hσ : zOK σ) (x0 x1 x2 : Int) (hx0 : zr x0) (hx1 : zr x1) (hx2 : zr x2) : Rf (kZ_greater_33 rz β σ x0 x1 x2) (kM_greater_33 rm (cv σ) (i32 x0) (i32 x1) (i32 x2)) β := by
  unfold kZ_greater_33 kM_greater_33
  refine Rf_le (by decide) rfl (by decide) hx2 (fun _ => ?_) (fun _ => ?_)
  · refine Rf_bnd hR hσ (zrs_cons hx0 (zrs_cons hx1 zrs_nil)) (e_cons rfl (e_cons rfl rfl)) (fun σ1 r1 hσ1 hr1 => ?_)
    refine Rf_01 rfl hr1 (fun hb1 => ?_)
    exact Rf_some hσ1 hr1 rfl
  · refine Rf_rd rfl hx2 (fun hb2 => ?_)
    refine Rf_le (by decide) (e_rd rfl hb2) (by decide) (hσ.2.1 _ _) (fun _ => ?_) (fun _ => ?_)
    · refine Rf_g (fun hg3 => ?_)
      exact Rf_tail hR hσ (zrs_cons hx0 (zrs_cons hx1 (zrs_cons hg3 zrs_nil))) (e_cons rfl (e_cons rfl (e_cons (e_add rfl (by decide)) rfl)))
    · exact Rf_some hσ (by decide) (by decide)
theorem rZ_times (rz : zF) (rm : mF) (hR : Rc rz rm) (β : Nat) (σ : zS) (hσ : zOK σ) (x0 x1 : Int) (hx0 : zr x0) (hx1 : zr x1) : Rf (kZ_times rz β σ x0 x1) (kM_times rm (cv σ) (i32 x0) (i32 x1)) β := by
  unfold kZ_times kM_times
  refine Rf_rd rfl hx0 (fun hb1 => ?_)
  refine Rf_le (by decide) (e_rd rfl hb1) (by decide) (hσ.2.1 _ _) (fun _ => ?_) (fun _ => ?_)
  · refine Rf_rd2 rfl hb1 ?_
    exact Rf_tail hR hσ (zrs_cons hx0 (zrs_cons hx1 (zrs_cons (hσ.2.1 _ _) zrs_nil))) (e_cons rfl (e_cons rfl (e_cons (e_rd rfl hb1) rfl)))
  · refine Rf_rd2 rfl hb1 ?_
    refine Rf_g (fun hg2 => ?_)
    refine Rf_rd (e_sub (by decide) (e_rd rfl hb1)) hg2 (fun hb3 => ?_)
    refine Rf_rd2 (e_sub (by decide) (e_rd rfl hb1)) hb3 ?_
    refine Rf_g (fun hg4 => ?_)
    refine Rf_A (e_sub (by decide) (e_rd rfl hb1)) hb3 (e_add (e_rd (e_sub (by decide) (e_rd rfl hb1)) hb3) rfl) hg4 hσ (fun σ1 hσ1 => ?_)
    exact Rf_some hσ1 (by decide) (by decide)
theorem rZ_times_34 (rz : zF) (rm : mF) (hR : Rc rz rm) (β : Nat) (σ : zS) (hσ : zOK σ) (x0 x1 x2 : Int) (hx0 : zr x0) (hx1 : zr x1) (hx2 : zr x2) : Rf (kZ_times_34 rz β σ x0 x1 x2) (kM_times_34 rm (cv σ) (i32 x0) (i32 x1) (i32 x2)) β := by
  unfold kZ_times_34 kM_times_34
  refine Rf_lt rfl (by decide) hx2 (by decide) (fun _ => ?_) (fun _ => ?_)
  · exact Rf_some hσ (by decide) (by decide)
  · refine Rf_bnd hR hσ (zrs_cons hx2 (zrs_cons hx1 zrs_nil)) (e_cons rfl (e_cons rfl rfl)) (fun σ1 r1 hσ1 hr1 => ?_)
    refine Rf_rd rfl hx2 (fun hb1 => ?_)
    exact Rf_tail hR hσ1 (zrs_cons hx0 (zrs_cons hx1 (zrs_cons (hσ1.2.1 _ _) zrs_nil))) (e_cons rfl (e_cons rfl (e_cons (e_rd rfl hb1) rfl)))
theorem rZ_above (rz : zF) (rm : mF) (hR : Rc rz rm) (β : Nat) (σ : zS) (hσ : zOK σ) (x0 x1 : Int) (hx0 : zr x0) (hx1 : zr x1) : Rf (kZ_above rz β σ x0 x1) (kM_above rm (cv σ) (i32 x0) (i32 x1)) β := by
  unfold kZ_above kM_above
  refine Rf_rd rfl hx0 (fun hb1 => ?_)
  refine Rf_rd rfl hx1 (fun hb2 => ?_)
  refine Rf_eq (e_rd rfl hb1) (e_rd rfl hb2) (hσ.2.1 _ _) (hσ.2.1 _ _) (fun _ => ?_) (fun _ => ?_)
  · refine Rf_rd2 rfl hb2 ?_
    refine Rf_le (by decide) (e_rd rfl hb2) (by decide) (hσ.2.1 _ _) (fun _ => ?_) (fun _ => ?_)
    · refine Rf_rd2 rfl hb1 ?_
      refine Rf_rd2 rfl hb2 ?_
      refine Rf_eq (e_rd rfl hb1) (e_rd rfl hb2) (hσ.2.1 _ _) (hσ.2.1 _ _) (fun _ => ?_) (fun _ => ?_)
      · refine Rf_rd2 rfl hb2 ?_
        refine Rf_rd2 rfl hb1 ?_
        exact Rf_tail hR hσ (zrs_cons hx0 (zrs_cons hx1 (zrs_cons (hσ.2.1 _ _) (zrs_cons (hσ.2.1 _ _) zrs_nil)))) (e_cons rfl (e_cons rfl (e_cons (e_rd rfl hb2) (e_cons (e_rd rfl hb1) rfl))))
      · refine Rf_rd2 rfl hb1 ?_
        refine Rf_rd2 rfl hb2 ?_
        refine Rf_le (e_rd rfl hb1) (e_rd rfl hb2) (hσ.2.1 _ _) (hσ.2.1 _ _) (fun _ => ?_) (fun _ => ?_)
        · exact Rf_tail hR hσ (zrs_cons hx0 (zrs_cons hx1 (zrs_cons (by decide) zrs_nil))) (e_cons rfl (e_cons rfl (e_cons (by decide) rfl)))
        · exact Rf_tail hR hσ (zrs_cons hx0 (zrs_cons hx1 (zrs_cons (by decide) zrs_nil))) (e_cons rfl (e_cons rfl (e_cons (by decide) rfl)))
    · exact Rf_some hσ (by decide) (by decide)
  · refine Rf_rd2 rfl hb1 ?_
    refine Rf_rd2 rfl hb2 ?_
    refine Rf_le (e_rd rfl hb1) (e_rd rfl hb2) (hσ.2.1 _ _) (hσ.2.1 _ _) (fun _ => ?_) (fun _ => ?_)
    · exact Rf_tail hR hσ (zrs_cons hx0 (zrs_cons hx1 (zrs_cons (by decide) zrs_nil))) (e_cons rfl (e_cons rfl (e_cons (by decide) rfl)))
    · exact Rf_tail hR hσ (zrs_cons hx0 (zrs_cons hx1 (zrs_cons (by decide) zrs_nil))) (e_cons rfl (e_cons rfl (e_cons (by decide) rfl)))
theorem rZ_above_35 (rz : zF) (rm : mF) (hR : Rc rz rm) (β : Nat) (σ : zS) (hσ : zOK σ) (x0 x1 x2 : Int) (hx0 : zr x0) (hx1 : zr x1) (hx2 : zr x2) : Rf (kZ_above_35 rz β σ x0 x1 x2) (kM_above_35 rm (cv σ) (i32 x0) (i32 x1) (i32 x2)) β := by
  unfold kZ_above_35 kM_above_35
  refine Rf_01 rfl hx2 (fun hb1 => ?_)
  exact Rf_some hσ hx2 rfl
theorem rZ_above_82 (rz : zF) (rm : mF) (hR : Rc rz rm) (β : Nat) (σ : zS) (hσ : zOK σ) (x0 x1 x2 : Int) (hx0 : zr x0) (hx1 : zr x1) (hx2 : zr x2) : Rf (kZ_above_82 rz β σ x0 x1 x2) (kM_above_82 rm (cv σ) (i32 x0) (i32 x1) (i32 x2)) β := by
  unfold kZ_above_82 kM_above_82
  refine Rf_01 rfl hx2 (fun hb1 => ?_)
  exact Rf_some hσ hx2 rfl
theorem rZ_above_98 (rz : zF) (rm : mF) (hR : Rc rz rm) (β : Nat) (σ : zS) (hσ : zOK σ) (x0 x1 x2 x3 : Int) (hx0 : zr x0) (hx1 : zr x1) (hx2 : zr x2) (hx3 : zr x3) : Rf (kZ_above_98 rz β σ x0 x1 x2 x3) (kM_above_98 rm (cv σ) (i32 x0) (i32 x1) (i32 x2) (i32 x3)) β := by
  unfold kZ_above_98 kM_above_98
  refine Rf_lt rfl (by decide) hx3 (by decide) (fun _ => ?_) (fun _ => ?_)
  · exact Rf_some hσ (by decide) (by decide)
  · refine Rf_bnd hR hσ (zrs_cons hx3 (zrs_cons hx2 zrs_nil)) (e_cons rfl (e_cons rfl rfl)) (fun σ1 r1 hσ1 hr1 => ?_)
    refine Rf_eq rfl (by decide) hr1 (by decide) (fun _ => ?_) (fun _ => ?_)
    · refine Rf_bnd hR hσ1 (zrs_cons hx3 (zrs_cons hx2 zrs_nil)) (e_cons rfl (e_cons rfl rfl)) (fun σ2 r2 hσ2 hr2 => ?_)
      refine Rf_01 rfl hr2 (fun hb1 => ?_)
      exact Rf_some hσ2 hr2 rfl
    · refine Rf_rd rfl hx2 (fun hb2 => ?_)
      refine Rf_rd rfl hx3 (fun hb3 => ?_)
      exact Rf_tail hR hσ1 (zrs_cons hx0 (zrs_cons hx1 (zrs_cons (hσ1.2.1 _ _) (zrs_cons (hσ1.2.1 _ _) zrs_nil)))) (e_cons rfl (e_cons rfl (e_cons (e_rd rfl hb2) (e_cons (e_rd rfl hb3) rfl))))
theorem rZ_greaterLiteral (rz : zF) (rm : mF) (hR : Rc rz rm) (β : Nat) (σ : zS) (hσ : zOK σ) (x0 x1 : Int) (hx0 : zr x0) (hx1 : zr x1) : Rf (kZ_greaterLiteral rz β σ x0 x1) (kM_greaterLiteral rm (cv σ) (i32 x0) (i32 x1)) β := by
  unfold kZ_greaterLiteral kM_greaterLiteral
  refine Rf_bnd hR hσ (zrs_cons hx0 zrs_nil) (e_cons rfl rfl) (fun σ1 r1 hσ1 hr1 => ?_)
  refine Rf_bnd hR hσ1 (zrs_cons hx1 zrs_nil) (e_cons rfl rfl) (fun σ2 r2 hσ2 hr2 => ?_)
  exact Rf_tail hR hσ2 (zrs_cons hx0 (zrs_cons hx1 (zrs_cons hr1 (zrs_cons hr2 (zrs_cons (by decide) zrs_nil))))) (e_cons rfl (e_cons rfl (e_cons rfl (e_cons rfl (e_cons (by decide) rfl)))))
theorem rZ_greaterLiteral_24 (rz : zF) (rm : mF) (hR : Rc rz rm) (β : Nat) (σ : zS) (hσ : zOK σ) (x0 x1 x2 x3 x4 : Int) (hx0 : zr x0) (hx1 : zr x1) (hx2 : zr x2) (hx3 : zr x3) (hx4 : zr x4) : Rf (kZ_greaterLiteral_24 rz β σ x0 x1 x2 x3 x4) (kM_greaterLiteral_24 rm (cv σ) (i32 x0) (i32 x1) (i32 x2) (i32 x3) (i32 x4)) β := by
  unfold kZ_greaterLiteral_24 kM_greaterLiteral_24
  refine Rf_le rfl rfl hx2 hx4 (fun _ => ?_) (fun _ => ?_)
  · exact Rf_tail hR hσ (zrs_cons hx0 (zrs_cons hx1 (zrs_cons hx2 (zrs_cons hx3 (zrs_cons (by decide) (zrs_cons (by decide) zrs_nil)))))) (e_cons rfl (e_cons rfl (e_cons rfl (e_cons rfl (e_cons (by decide) (e_cons (by decide) rfl))))))
  · exact Rf_tail hR hσ (zrs_cons hx0 (zrs_cons hx1 (zrs_cons hx2 (zrs_cons hx3 (zrs_cons hx4 (zrs_cons (by decide) zrs_nil)))))) (e_cons rfl (e_cons rfl (e_cons rfl (e_cons rfl (e_cons rfl (e_cons (by decide) rfl))))))
theorem rZ_greaterLiteral_33 (rz : zF) (rm : mF) (hR : Rc rz rm) (β : Nat) (σ : zS) (hσ : zOK σ) (x0 x1 x2 x3 x4 x5 : Int) (hx0 : zr x0) (hx1 : zr x1) (hx2 : zr x2) (hx3 : zr x3) (hx4 : zr x4) (hx5 : zr x5) : Rf (kZ_greaterLiteral_33 rz β σ x0 x1 x2 x3 x4 x5) (kM_greaterLiteral_33 rm (cv σ) (i32 x0) (i32 x1) (i32 x2) (i32 x3) (i32 x4) (i32 x5)) β := by
  unfold kZ_greaterLiteral_33 kM_greaterLiteral_33
  refine Rf_le rfl rfl hx3 hx5 (fun _ => ?_) (fun _ => ?_)
  · refine Rf_g (fun hg1 => ?_)
    exact Rf_tail hR hσ (zrs_cons hx0 (zrs_cons hx1 (zrs_cons hx2 (zrs_cons hx3 (zrs_cons hg1 zrs_nil))))) (e_cons rfl (e_cons rfl (e_cons rfl (e_cons rfl (e_cons (e_add rfl (by decide)) rfl)))))
  · refine Rf_rd rfl hx4 (fun hb2 => ?_)
    refine Rf_lt (e_rd rfl hb2) (by decide) (hσ.2.1 _ _) (by decide) (fun _ => ?_) (fun _ => ?_)
    · exact Rf_tail hR hσ (zrs_cons hx0 (zrs_cons hx1 (zrs_cons hx2 (zrs_cons hx3 (zrs_cons hx4 (zrs_cons hx5 zrs_nil)))))) (e_cons rfl (e_cons rfl (e_cons rfl (e_cons rfl (e_cons rfl (e_cons rfl rfl))))))
    · refine Rf_rd rfl hx5 (fun hb3 => ?_)
      refine Rf_lt (e_rd rfl hb3) (by decide) (hσ.2.1 _ _) (by decide) (fun _ => ?_) (fun _ => ?_)
      · exact Rf_tail hR hσ (zrs_cons hx0 (zrs_cons hx1 (zrs_cons hx2 (zrs_cons hx3 (zrs_cons hx4 (zrs_cons hx5 zrs_nil)))))) (e_cons rfl (e_cons rfl (e_cons rfl (e_cons rfl (e_cons rfl (e_cons rfl rfl))))))
      · refine Rf_rd2 rfl hb2 ?_
        refine Rf_rd2 rfl hb3 ?_
        refine Rf_bnd hR hσ (zrs_cons (hσ.2.1 _ _) (zrs_cons (hσ.2.1 _ _) zrs_nil)) (e_cons (e_rd rfl hb2) (e_cons (e_rd rfl hb3) rfl)) (fun σ1 r1 hσ1 hr1 => ?_)
        refine Rf_eq rfl (by decide) hr1 (by decide) (fun _ => ?_) (fun _ => ?_)
        · exact Rf_tail hR hσ1 (zrs_cons hx0 (zrs_cons hx1 (zrs_cons hx2 (zrs_cons hx3 (zrs_cons hx4 (zrs_cons hx5 zrs_nil)))))) (e_cons rfl (e_cons rfl (e_cons rfl (e_cons rfl (e_cons rfl (e_cons rfl rfl))))))
        · refine Rf_rd2 rfl hb2 ?_
          refine Rf_A rfl hb2 (by decide) (by decide) hσ1 (fun σ2 hσ2 => ?_)
          refine Rf_rd2 rfl hb3 ?_
          refine Rf_A rfl hb3 (by decide) (by decide) hσ2 (fun σ3 hσ3 => ?_)
          exact Rf_tail hR hσ3 (zrs_cons hx0 (zrs_cons hx1 (zrs_cons hx2 (zrs_cons hx3 (zrs_cons hx4 (zrs_cons hx5 zrs_nil)))))) (e_cons rfl (e_cons rfl (e_cons rfl (e_cons rfl (e_cons rfl (e_cons rfl rfl))))))
theorem rZ_greaterLiteral_100 (rz : zF) (rm : mF) (hR : Rc rz rm) (β : Nat) (σ : zS) (hσ : zOK σ) (x0 x1 x2 x3 x4 x5 : Int) (hx0 : zr x0) (hx1 : zr x1) (hx2 : zr x2) (hx3 : zr x3) (hx4 : zr x4) (hx5 : zr x5) : Rf (kZ_greaterLiteral_100 rz β σ x0 x1 x2 x3 x4 x5) (kM_greaterLiteral_100 rm (cv σ) (i32 x0) (i32 x1) (i32 x2) (i32 x3) (i32 x4) (i32 x5)) β := by
  unfold kZ_greaterLiteral_100 kM_greaterLiteral_100
  refine Rf_g (fun hg1 => ?_)
  exact Rf_tail hR hσ (zrs_cons hx0 (zrs_cons hx1 (zrs_cons hx2 (zrs_cons hx3 (zrs_cons hx4 (zrs_cons hg1 zrs_nil)))))) (e_cons rfl (e_cons rfl (e_cons rfl (e_cons rfl (e_cons rfl (e_cons (e_add rfl (by decide)) rfl))))))
theorem rZ_greaterLiteral_118 (rz : zF) (rm : mF) (hR : Rc rz rm) (β : Nat) (σ : zS) (hσ : zOK σ) (x0 x1 x2 x3 x4 x5 : Int) (hx0 : zr x0) (hx1 : zr x1) (hx2 : zr x2) (hx3 : zr x3) (hx4 : zr x4) (hx5 : zr x5) : Rf (kZ_greaterLiteral_118 rz β σ x0 x1 x2 x3 x4 x5) (kM_greaterLiteral_118 rm (cv σ) (i32 x0) (i32 x1) (i32 x2) (i32 x3) (i32 x4) (i32 x5)) β := by
  unfold kZ_greaterLiteral_118 kM_greaterLiteral_118
  refine Rf_le rfl rfl hx2 hx5 (fun _ => ?_) (fun _ => ?_)
  · refine Rf_eq rfl (by decide) hx4 (by decide) (fun _ => ?_) (fun _ => ?_)
    · exact Rf_some hσ (by decide) (by decide)
    · exact Rf_tail hR hσ (zrs_cons hx0 (zrs_cons hx1 (zrs_cons hx2 (zrs_cons hx3 (zrs_cons hx4 (zrs_cons (by decide) zrs_nil)))))) (e_cons rfl (e_cons rfl (e_cons rfl (e_cons rfl (e_cons rfl (e_cons (by decide) rfl))))))
  · refine Rf_eq rfl (by decide) hx4 (by decide) (fun _ => ?_) (fun _ => ?_)
    · refine Rf_rd rfl hx5 (fun hb1 => ?_)
      refine Rf_lt (e_rd rfl hb1) (by decide) (hσ.2.1 _ _) (by decide) (fun _ => ?_) (fun _ => ?_)
      · exact Rf_tail hR hσ (zrs_cons hx0 (zrs_cons hx1 (zrs_cons hx2 (zrs_cons hx3 (zrs_cons hx4 (zrs_cons hx5 (zrs_cons (by decide) zrs_nil))))))) (e_cons rfl (e_cons rfl (e_cons rfl (e_cons rfl (e_cons rfl (e_cons rfl (e_cons (by decide) rfl)))))))
      · exact Rf_tail hR hσ (zrs_cons hx0 (zrs_cons hx1 (zrs_cons hx2 (zrs_cons hx3 (zrs_cons hx4 (zrs_cons hx5 zrs_nil)))))) (e_cons rfl (e_cons rfl (e_cons rfl (e_cons rfl (e_cons rfl (e_cons rfl rfl))))))
    · exact Rf_tail hR hσ (zrs_cons hx0 (zrs_cons hx1 (zrs_cons hx2 (zrs_cons hx3 (zrs_cons hx4 (zrs_cons hx5 zrs_nil)))))) (e_cons rfl (e_cons rfl (e_cons rfl (e_cons rfl (e_cons rfl (e_cons rfl rfl))))))
theorem rZ_greaterLiteral_139 (rz : zF) (rm : mF) (hR : Rc rz rm) (β : Nat) (σ : zS) (hσ : zOK σ) (x0 x1 x2 x3 x4 x5 : Int) (hx0 : zr x0) (hx1 : zr x1) (hx2 : zr x2) (hx3 : zr x3) (hx4 : zr x4) (hx5 : zr x5) : Rf (kZ_greaterLiteral_139 rz β σ x0 x1 x2 x3 x4 x5) (kM_greaterLiteral_139 rm (cv σ) (i32 x0) (i32 x1) (i32 x2) (i32 x3) (i32 x4) (i32 x5)) β := by
  unfold kZ_greaterLiteral_139 kM_greaterLiteral_139
  exact Rf_tail hR hσ (zrs_cons hx0 (zrs_cons hx1 (zrs_cons hx2 (zrs_cons hx3 (zrs_cons hx4 (zrs_cons hx5 (zrs_cons (by decide) zrs_nil))))))) (e_cons rfl (e_cons rfl (e_cons rfl (e_cons rfl (e_cons rfl (e_cons rfl (e_cons (by decide) rfl)))))))
theorem rZ_greaterLiteral_144 (rz : zF) (rm : mF) (hR : Rc rz rm) (β : Nat) (σ : zS) (hσ : zOK σ) (x0 x1 x2 x3 x4 x5 x6 : Int) (hx0 : zr x0) (hx1 : zr x1) (hx2 : zr x2) (hx3 : zr x3) (hx4 : zr x4) (hx5 : zr x5) (hx6 : zr x6) : Rf (kZ_greaterLiteral_144 rz β σ x0 x1 x2 x3 x4 x5 x6) (kM_greaterLiteral_144 rm (cv σ) (i32 x0) (i32 x1) (i32 x2) (i32 x3) (i32 x4) (i32 x5) (i32 x6)) β := by
  unfold kZ_greaterLiteral_144 kM_greaterLiteral_144
  refine Rf_g (fun hg1 => ?_)
  exact Rf_tail hR hσ (zrs_cons hx0 (zrs_cons hx1 (zrs_cons hx2 (zrs_cons hx3 (zrs_cons hx6 (zrs_cons hg1 zrs_nil)))))) (e_cons rfl (e_cons rfl (e_cons rfl (e_cons rfl (e_cons rfl (e_cons (e_add rfl (by decide)) rfl))))))
theorem rZ_greaterLiteral_162 (rz : zF) (rm : mF) (hR : Rc rz rm) (β : Nat) (σ : zS) (hσ : zOK σ) (x0 x1 x2 x3 x4 x5 : Int) (hx0 : zr x0) (hx1 : zr x1) (hx2 : zr x2) (hx3 : zr x3) (hx4 : zr x4) (hx5 : zr x5) : Rf (kZ_greaterLiteral_162 rz β σ x0 x1 x2 x3 x4 x5) (kM_greaterLiteral_162 rm (cv σ) (i32 x0) (i32 x1) (i32 x2) (i32 x3) (i32 x4) (i32 x5)) β := by
  unfold kZ_greaterLiteral_162 kM_greaterLiteral_162
  refine Rf_le rfl rfl hx3 hx5 (fun _ => ?_) (fun _ => ?_)
  · exact Rf_some hσ (by decide) (by decide)
  · refine Rf_rd rfl hx5 (fun hb1 => ?_)
    refine Rf_le (by decide) (e_rd rfl hb1) (by decide) (hσ.2.1 _ _) (fun _ => ?_) (fun _ => ?_)
    · exact Rf_tail hR hσ (zrs_cons hx0 (zrs_cons hx1 (zrs_cons hx2 (zrs_cons hx3 (zrs_cons hx4 (zrs_cons hx5 (zrs_cons (by decide) (zrs_cons (by decide) zrs_nil)))))))) (e_cons rfl (e_cons rfl (e_cons rfl (e_cons rfl (e_cons rfl (e_cons rfl (e_cons (by decide) (e_cons (by decide) rfl))))))))
    · exact Rf_tail hR hσ (zrs_cons hx0 (zrs_cons hx1 (zrs_cons hx2 (zrs_cons hx3 (zrs_cons hx4 (zrs_cons hx5 zrs_nil)))))) (e_cons rfl (e_cons rfl (e_cons rfl (e_cons rfl (e_cons rfl (e_cons rfl rfl))))))
theorem rZ_greaterLiteral_188 (rz : zF) (rm : mF) (hR : Rc rz rm) (β : Nat) (σ : zS) (hσ : zOK σ) (x0 x1 x2 x3 x4 x5 x6 x7 : Int) (hx0 : zr x0) (hx1 : zr x1) (hx2 : zr x2) (hx3 : zr x3) (hx4 : zr x4) (hx5 : zr x5) (hx6 : zr x6) (hx7 : zr x7) : Rf (kZ_greaterLiteral_188 rz β σ x0 x1 x2 x3 x4 x5 x6 x7) (kM_greaterLiteral_188 rm (cv σ) (i32 x0) (i32 x1) (i32 x2) (i32 x3) (i32 x4) (i32 x5) (i32 x6) (i32 x7)) β := by
  unfold kZ_greaterLiteral_188 kM_greaterLiteral_188
  refine Rf_le rfl rfl hx2 hx7 (fun _ => ?_) (fun _ => ?_)
  · refine Rf_eq rfl (by decide) hx6 (by decide) (fun _ => ?_) (fun _ => ?_)
    · exact Rf_some hσ (by decide) (by decide)
    · exact Rf_tail hR hσ (zrs_cons hx0 (zrs_cons hx1 (zrs_cons hx2 (zrs_cons hx3 (zrs_cons hx4 (zrs_cons hx5 zrs_nil)))))) (e_cons rfl (e_cons rfl (e_cons rfl (e_cons rfl (e_cons rfl (e_cons rfl rfl))))))
  · refine Rf_eq rfl (by decide) hx6 (by decide) (fun _ => ?_) (fun _ => ?_)
    · refine Rf_rd rfl hx7 (fun hb1 => ?_)
      refine Rf_lt (e_rd rfl hb1) (by decide) (hσ.2.1 _ _) (by decide) (fun _ => ?_) (fun _ => ?_)
      · exact Rf_tail hR hσ (zrs_cons hx0 (zrs_cons hx1 (zrs_cons hx2 (zrs_cons hx3 (zrs_cons hx4 (zrs_cons hx5 (zrs_cons hx6 (zrs_cons hx7 zrs_nil)))))))) (e_cons rfl (e_cons rfl (e_cons rfl (e_cons rfl (e_cons rfl (e_cons rfl (e_cons rfl (e_cons rfl rfl))))))))
      · refine Rf_rd2 rfl hb1 ?_
        refine Rf_rd rfl hx5 (fun hb2 => ?_)
        refine Rf_bnd hR hσ (zrs_cons (hσ.2.1 _ _) (zrs_cons (hσ.2.1 _ _) zrs_nil)) (e_cons (e_rd rfl hb1) (e_cons (e_rd rfl hb2) rfl)) (fun σ1 r1 hσ1 hr1 => ?_)
        refine Rf_eq rfl (by decide) hr1 (by decide) (fun _ => ?_) (fun _ => ?_)
        · exact Rf_tail hR hσ1 (zrs_cons hx0 (zrs_cons hx1 (zrs_cons hx2 (zrs_cons hx3 (zrs_cons hx4 (zrs_cons hx5 (zrs_cons hx6 (zrs_cons hx7 zrs_nil)))))))) (e_cons rfl (e_cons rfl (e_cons rfl (e_cons rfl (e_cons rfl (e_cons rfl (e_cons rfl (e_cons rfl rfl))))))))
        · exact Rf_tail hR hσ1 (zrs_cons hx0 (zrs_cons hx1 (zrs_cons hx2 (zrs_cons hx3 (zrs_cons hx4 (zrs_cons hx5 (zrs_cons hx6 (zrs_cons hx7 zrs_nil)))))))) (e_cons rfl (e_cons rfl (e_cons rfl (e_cons rfl (e_cons rfl (e_cons rfl (e_cons rfl (e_cons rfl rfl))))))))
    · exact Rf_tail hR hσ (zrs_cons hx0 (zrs_cons hx1 (zrs_cons hx2 (zrs_cons hx3 (zrs_cons hx4 (zrs_cons hx5 (zrs_cons hx6 (zrs_cons hx7 zrs_nil)))))))) (e_cons rfl (e_cons rfl (e_cons rfl (e_cons rfl (e_cons rfl (e_cons rfl (e_cons rfl (e_cons rfl rfl))))))))
theorem rZ_greaterLiteral_230 (rz : zF) (rm : mF) (hR : Rc rz rm) (β : Nat) (σ : zS) (hσ : zOK σ) (x0 x1 x2 x3 x4 x5 x6 x7 : Int) (hx0 : zr x0) (hx1 : zr x1) (hx2 : zr x2) (hx3 : zr x3) (hx4 : zr x4) (hx5 : zr x5) (hx6 : zr x6) (hx7 : zr x7) : Rf (kZ_greaterLiteral_230 rz β σ x0 x1 x2 x3 x4 x5 x6 x7) (kM_greaterLiteral_230 rm (cv σ) (i32 x0) (i32 x1) (i32 x2) (i32 x3) (i32 x4) (i32 x5) (i32 x6) (i32 x7)) β := by
  unfold kZ_greaterLiteral_230 kM_greaterLiteral_230
  exact Rf_tail hR hσ (zrs_cons hx0 (zrs_cons hx1 (zrs_cons hx2 (zrs_cons hx3 (zrs_cons hx4 (zrs_cons hx5 (zrs_cons hx6 (zrs_cons hx7 (zrs_cons (by decide) zrs_nil))))))))) (e_cons rfl (e_cons rfl (e_cons rfl (e_cons rfl (e_cons rfl (e_cons rfl (e_cons rfl (e_cons rfl (e_cons (by decide) rfl)))))))))
theorem rZ_greaterLiteral_234 (rz : zF) (rm : mF) (hR : Rc rz rm) (β : Nat) (σ : zS) (hσ : zOK σ) (x0 x1 x2 x3 x4 x5 x6 x7 : Int) (hx0 : zr x0) (hx1 : zr x1) (hx2 : zr x2) (hx3 : zr x3) (hx4 : zr x4) (hx5 : zr x5) (hx6 : zr x6) (hx7 : zr x7) : Rf (kZ_greaterLiteral_234 rz β σ x0 x1 x2 x3 x4 x5 x6 x7) (kM_greaterLiteral_234 rm (cv σ) (i32 x0) (i32 x1) (i32 x2) (i32 x3) (i32 x4) (i32 x5) (i32 x6) (i32 x7)) β := by
  unfold kZ_greaterLiteral_234 kM_greaterLiteral_234
  exact Rf_tail hR hσ (zrs_cons hx0 (zrs_cons hx1 (zrs_cons hx2 (zrs_cons hx3 (zrs_cons hx4 (zrs_cons hx5 (zrs_cons hx6 (zrs_cons hx7 (zrs_cons (by decide) zrs_nil))))))))) (e_cons rfl (e_cons rfl (e_cons rfl (e_cons rfl (e_cons rfl (e_cons rfl (e_cons rfl (e_cons rfl (e_cons (by decide) rfl)))))))))
theorem rZ_greaterLiteral_235 (rz : zF) (rm : mF) (hR : Rc rz rm) (β : Nat) (σ : zS) (hσ : zOK σ) (x0 x1 x2 x3 x4 x5 x6 x7 x8 : Int) (hx0 : zr x0) (hx1 : zr x1) (hx2 : zr x2) (hx3 : zr x3) (hx4 : zr x4) (hx5 : zr x5) (hx6 : zr x6) (hx7 : zr x7) (hx8 : zr x8) : Rf (kZ_greaterLiteral_235 rz β σ x0 x1 x2 x3 x4 x5 x6 x7 x8) (kM_greaterLiteral_235 rm (cv σ) (i32 x0) (i32 x1) (i32 x2) (i32 x3) (i32 x4) (i32 x5) (i32 x6) (i32 x7) (i32 x8)) β := by
  unfold kZ_greaterLiteral_235 kM_greaterLiteral_235
  refine Rf_g (fun hg1 => ?_)
  exact Rf_tail hR hσ (zrs_cons hx0 (zrs_cons hx1 (zrs_cons hx2 (zrs_cons hx3 (zrs_cons hx4 (zrs_cons hx5 (zrs_cons hx8 (zrs_cons hg1 zrs_nil)))))))) (e_cons rfl (e_cons rfl (e_cons rfl (e_cons rfl (e_cons rfl (e_cons rfl (e_cons rfl (e_cons (e_add rfl (by decide)) rfl))))))))
theorem rZ_greaterLiteral_250 (rz : zF) (rm : mF) (hR : Rc rz rm) (β : Nat) (σ : zS) (hσ : zOK σ) (x0 x1 x2 x3 x4 x5 : Int) (hx0 : zr x0) (hx1 : zr x1) (hx2 : zr x2) (hx3 : zr x3) (hx4 : zr x4) (hx5 : zr x5) : Rf (kZ_greaterLiteral_250 rz β σ x0 x1 x2 x3 x4 x5) (kM_greaterLiteral_250 rm (cv σ) (i32 x0) (i32 x1) (i32 x2) (i32 x3) (i32 x4) (i32 x5)) β := by
  unfold kZ_greaterLiteral_250 kM_greaterLiteral_250
  refine Rf_g (fun hg1 => ?_)
  exact Rf_tail hR hσ (zrs_cons hx0 (zrs_cons hx1 (zrs_cons hx2 (zrs_cons hx3 (zrs_cons hx4 (zrs_cons hg1 zrs_nil)))))) (e_cons rfl (e_cons rfl (e_cons rfl (e_cons rfl (e_cons rfl (e_cons (e_add rfl (by decide)) rfl))))))
theorem rZ_fault (rz : zF) (rm : mF) (hR : Rc rz rm) (β : Nat) (σ : zS) (hσ : zOK σ) (x0 : Int) (hx0 : zr x0) : Rf (kZ_fault rz β σ x0) (kM_fault rm (cv σ) (i32 x0)) β := by
  unfold kZ_fault kM_fault
  refine Rf_I (by decide) (by decide) hσ (fun σ1 hσ1 => ?_)
  refine Rf_eq rfl (by decide) hx0 (by decide) (fun _ => ?_) (fun _ => ?_)
  · exact Rf_tail hR hσ1 (zrs_cons hx0 (zrs_cons (hσ1.1 5) zrs_nil)) (e_cons rfl (e_cons rfl rfl))
  · refine Rf_eq rfl (by decide) hx0 (by decide) (fun _ => ?_) (fun _ => ?_)
    · exact Rf_tail hR hσ1 (zrs_cons hx0 (zrs_cons (hσ1.1 6) zrs_nil)) (e_cons rfl (e_cons rfl rfl))
    · exact Rf_tail hR hσ1 (zrs_cons hx0 (zrs_cons (by decide) zrs_nil)) (e_cons rfl (e_cons (by decide) rfl))
theorem rZ_fault_29 (rz : zF) (rm : mF) (hR : Rc rz rm) (β : Nat) (σ : zS) (hσ : zOK σ) (x0 x1 : Int) (hx0 : zr x0) (hx1 : zr x1) : Rf (kZ_fault_29 rz β σ x0 x1) (kM_fault_29 rm (cv σ) (i32 x0) (i32 x1)) β := by
  unfold kZ_fault_29 kM_fault_29
  exact Rf_some hσ hx1 rfl
theorem rZ_run (rz : zF) (rm : mF) (hR : Rc rz rm) (β : Nat) (σ : zS) (hσ : zOK σ) (x0 : Int) (hx0 : zr x0) : Rf (kZ_run rz β σ x0) (kM_run rm (cv σ) (i32 x0)) β := by
  unfold kZ_run kM_run
  refine Rf_I (by decide) (by decide) hσ (fun σ1 hσ1 => ?_)
  refine Rf_lt rfl (by decide) hx0 (by decide) (fun _ => ?_) (fun _ => ?_)
  · exact Rf_tail hR hσ1 (zrs_cons hx0 (zrs_cons (by decide) zrs_nil)) (e_cons rfl (e_cons (by decide) rfl))
  · refine Rf_le rfl (by decide) hx0 (by decide) (fun _ => ?_) (fun _ => ?_)
    · exact Rf_tail hR hσ1 (zrs_cons hx0 (zrs_cons (by decide) (zrs_cons (by decide) zrs_nil))) (e_cons rfl (e_cons (by decide) (e_cons (by decide) rfl)))
    · exact Rf_tail hR hσ1 (zrs_cons hx0 (zrs_cons (by decide) zrs_nil)) (e_cons rfl (e_cons (by decide) rfl))
theorem rZ_run_18 (rz : zF) (rm : mF) (hR : Rc rz rm) (β : Nat) (σ : zS) (hσ : zOK σ) (x0 x1 : Int) (hx0 : zr x0) (hx1 : zr x1) : Rf (kZ_run_18 rz β σ x0 x1) (kM_run_18 rm (cv σ) (i32 x0) (i32 x1)) β := by
  unfold kZ_run_18 kM_run_18
  exact Rf_tail hR hσ (zrs_cons hx0 (zrs_cons (by decide) (zrs_cons hx1 zrs_nil))) (e_cons rfl (e_cons (by decide) (e_cons rfl rfl)))
theorem rZ_run_23 (rz : zF) (rm : mF) (hR : Rc rz rm) (β : Nat) (σ : zS) (hσ : zOK σ) (x0 x1 x2 : Int) (hx0 : zr x0) (hx1 : zr x1) (hx2 : zr x2) : Rf (kZ_run_23 rz β σ x0 x1 x2) (kM_run_23 rm (cv σ) (i32 x0) (i32 x1) (i32 x2)) β := by
  unfold kZ_run_23 kM_run_23
  refine Rf_bnd hR hσ (zrs_cons hx2 (zrs_cons hx1 zrs_nil)) (e_cons rfl (e_cons rfl rfl)) (fun σ1 r1 hσ1 hr1 => ?_)
  refine Rf_eq rfl (by decide) hr1 (by decide) (fun _ => ?_) (fun _ => ?_)
  · exact Rf_tail hR hσ1 (zrs_cons hx0 (zrs_cons (by decide) zrs_nil)) (e_cons rfl (e_cons (by decide) rfl))
  · exact Rf_some hσ1 (by decide) (by decide)
theorem rZ_run_33 (rz : zF) (rm : mF) (hR : Rc rz rm) (β : Nat) (σ : zS) (hσ : zOK σ) (x0 x1 : Int) (hx0 : zr x0) (hx1 : zr x1) : Rf (kZ_run_33 rz β σ x0 x1) (kM_run_33 rm (cv σ) (i32 x0) (i32 x1)) β := by
  unfold kZ_run_33 kM_run_33
  refine Rf_le rfl rfl hx0 hx1 (fun _ => ?_) (fun _ => ?_)
  · exact Rf_tail hR hσ (zrs_cons hx0 (zrs_cons hx1 zrs_nil)) (e_cons rfl (e_cons rfl rfl))
  · refine Rf_eq rfl (by decide) (hσ.1 87) (by decide) (fun _ => ?_) (fun _ => ?_)
    · refine Rf_bnd hR hσ zrs_nil rfl (fun σ1 r1 hσ1 hr1 => ?_)
      refine Rf_g (fun hg1 => ?_)
      exact Rf_tail hR hσ1 (zrs_cons hx0 (zrs_cons hg1 zrs_nil)) (e_cons rfl (e_cons (e_add rfl (by decide)) rfl))
    · exact Rf_tail hR hσ (zrs_cons hx0 (zrs_cons hx1 zrs_nil)) (e_cons rfl (e_cons rfl rfl))
theorem rZ_run_55 (rz : zF) (rm : mF) (hR : Rc rz rm) (β : Nat) (σ : zS) (hσ : zOK σ) (x0 x1 : Int) (hx0 : zr x0) (hx1 : zr x1) : Rf (kZ_run_55 rz β σ x0 x1) (kM_run_55 rm (cv σ) (i32 x0) (i32 x1)) β := by
  unfold kZ_run_55 kM_run_55
  exact Rf_some hσ (hσ.1 87) rfl
theorem rZ_step1 (rz : zF) (rm : mF) (hR : Rc rz rm) (β : Nat) (σ : zS) (hσ : zOK σ) : Rf (kZ_step1 rz β σ) (kM_step1 rm (cv σ)) β := by
  unfold kZ_step1 kM_step1
  refine Rf_bnd hR hσ zrs_nil rfl (fun σ1 r1 hσ1 hr1 => ?_)
  refine Rf_le (by decide) rfl (by decide) hr1 (fun _ => ?_) (fun _ => ?_)
  · refine Rf_I (e_wadd rfl (by decide)) (zr_to _) hσ1 (fun σ2 hσ2 => ?_)
    refine Rf_rd rfl hr1 (fun hb1 => ?_)
    refine Rf_A rfl hb1 (by decide) (by decide) hσ2 (fun σ3 hσ3 => ?_)
    refine Rf_rd2 rfl hb1 ?_
    refine Rf_eq (e_rd rfl hb1) (by decide) (hσ3.2.1 _ _) (by decide) (fun _ => ?_) (fun _ => ?_)
    · refine Rf_bnd hR hσ3 (zrs_cons hr1 zrs_nil) (e_cons rfl rfl) (fun σ13 r13 hσ13 hr13 => ?_)
      exact Rf_some hσ13 (by decide) (by decide)
    · refine Rf_bnd hR hσ3 (zrs_cons hr1 zrs_nil) (e_cons rfl rfl) (fun σ4 r4 hσ4 hr4 => ?_)
      refine Rf_le rfl (by decide) hr4 (by decide) (fun _ => ?_) (fun _ => ?_)
      · exact Rf_tail hR hσ4 (zrs_cons hr1 (zrs_cons hr4 zrs_nil)) (e_cons rfl (e_cons rfl rfl))
      · refine Rf_I (e_wadd rfl rfl) (zr_to _) hσ4 (fun σ5 hσ5 => ?_)
        refine Rf_bnd hR hσ5 zrs_nil rfl (fun σ6 r6 hσ6 hr6 => ?_)
        refine Rf_bnd hR hσ6 zrs_nil rfl (fun σ7 r7 hσ7 hr7 => ?_)
        refine Rf_eq rfl (by decide) hr7 (by decide) (fun _ => ?_) (fun _ => ?_)
        · refine Rf_bnd hR hσ7 (zrs_cons (by decide) (zrs_cons hr1 (zrs_cons (by decide) zrs_nil))) (e_cons (by decide) (e_cons rfl (e_cons (by decide) rfl))) (fun σ8 r8 hσ8 hr8 => ?_)
          refine Rf_eq rfl (by decide) hr8 (by decide) (fun _ => ?_) (fun _ => ?_)
          · exact Rf_some hσ8 (by decide) (by decide)
          · refine Rf_g (fun hg2 => ?_)
            refine Rf_rd (e_sub rfl (by decide)) hg2 (fun hb3 => ?_)
            refine Rf_A (e_sub rfl (by decide)) hb3 (by decide) (by decide) hσ8 (fun σ9 hσ9 => ?_)
            refine Rf_rd2 (e_sub rfl (by decide)) hb3 ?_
            refine Rf_A (e_sub rfl (by decide)) hb3 rfl (hσ9.1 86) hσ9 (fun σ10 hσ10 => ?_)
            refine Rf_rd2 (e_sub rfl (by decide)) hb3 ?_
            refine Rf_A (e_sub rfl (by decide)) hb3 rfl (hσ10.1 120) hσ10 (fun σ11 hσ11 => ?_)
            exact Rf_tail hR hσ11 (zrs_cons hg2 (zrs_cons hr4 (zrs_cons hr1 (zrs_cons (by decide) zrs_nil)))) (e_cons (e_sub rfl (by decide)) (e_cons rfl (e_cons rfl (e_cons (by decide) rfl))))
        · refine Rf_I (e_wadd rfl (by decide)) (zr_to _) hσ7 (fun σ12 hσ12 => ?_)
          exact Rf_some hσ12 (by decide) (by decide)
  · refine Rf_I (by decide) (by decide) hσ1 (fun σ14 hσ14 => ?_)
    exact Rf_some hσ14 (by decide) (by decide)
theorem rZ_step1_139 (rz : zF) (rm : mF) (hR : Rc rz rm) (β : Nat) (σ : zS) (hσ : zOK σ) (x0 x1 x2 x3 : Int) (hx0 : zr x0) (hx1 : zr x1) (hx2 : zr x2) (hx3 : zr x3) : Rf (kZ_step1_139 rz β σ x0 x1 x2 x3) (kM_step1_139 rm (cv σ) (i32 x0) (i32 x1) (i32 x2) (i32 x3)) β := by
  unfold kZ_step1_139 kM_step1_139
  refine Rf_le rfl rfl (hσ.1 120) hx3 (fun _ => ?_) (fun _ => ?_)
  · refine Rf_rd rfl hx0 (fun hb1 => ?_)
    refine Rf_eq (e_rd rfl hb1) (by decide) (hσ.2.1 _ _) (by decide) (fun _ => ?_) (fun _ => ?_)
    · refine Rf_bnd hR hσ (zrs_cons hx0 zrs_nil) (e_cons rfl rfl) (fun σ1 r1 hσ1 hr1 => ?_)
      exact Rf_some hσ1 (by decide) (by decide)
    · exact Rf_tail hR hσ (zrs_cons hx0 (zrs_cons hx1 zrs_nil)) (e_cons rfl (e_cons rfl rfl))
  · refine Rf_g (fun hg2 => ?_)
    refine Rf_I (e_add rfl (by decide)) hg2 hσ (fun σ2 hσ2 => ?_)
    refine Rf_rd rfl hx3 (fun hb3 => ?_)
    refine Rf_rd rfl (hσ.1 86) (fun hb4 => ?_)
    refine Rf_A rfl hb4 (e_rd rfl hb3) (hσ2.2.1 _ _) hσ2 (fun σ3 hσ3 => ?_)
    refine Rf_g (fun hg5 => ?_)
    exact Rf_tail hR hσ3 (zrs_cons hx0 (zrs_cons hx1 (zrs_cons hx2 (zrs_cons hg5 zrs_nil)))) (e_cons rfl (e_cons rfl (e_cons rfl (e_cons (e_add rfl (by decide)) rfl))))
theorem rZ_step1_192 (rz : zF) (rm : mF) (hR : Rc rz rm) (β : Nat) (σ : zS) (hσ : zOK σ) (x0 x1 : Int) (hx0 : zr x0) (hx1 : zr x1) : Rf (kZ_step1_192 rz β σ x0 x1) (kM_step1_192 rm (cv σ) (i32 x0) (i32 x1)) β := by
  unfold kZ_step1_192 kM_step1_192
  exact Rf_tail hR hσ (zrs_cons hx0 (zrs_cons hx1 (zrs_cons (by decide) zrs_nil))) (e_cons rfl (e_cons rfl (e_cons (by decide) rfl)))
theorem rZ_step1_194 (rz : zF) (rm : mF) (hR : Rc rz rm) (β : Nat) (σ : zS) (hσ : zOK σ) (x0 x1 x2 : Int) (hx0 : zr x0) (hx1 : zr x1) (hx2 : zr x2) : Rf (kZ_step1_194 rz β σ x0 x1 x2) (kM_step1_194 rm (cv σ) (i32 x0) (i32 x1) (i32 x2)) β := by
  unfold kZ_step1_194 kM_step1_194
  refine Rf_le rfl rfl (hσ.1 84) hx2 (fun _ => ?_) (fun _ => ?_)
  · refine Rf_bnd hR hσ (zrs_cons hx0 zrs_nil) (e_cons rfl rfl) (fun σ1 r1 hσ1 hr1 => ?_)
    exact Rf_some hσ1 (by decide) (by decide)
  · refine Rf_rd rfl hx2 (fun hb1 => ?_)
    refine Rf_eq (e_rd rfl hb1) (by decide) (hσ.2.1 _ _) (by decide) (fun _ => ?_) (fun _ => ?_)
    · refine Rf_bnd hR hσ (zrs_cons hx2 (zrs_cons hx0 zrs_nil)) (e_cons rfl (e_cons rfl rfl)) (fun σ2 r2 hσ2 hr2 => ?_)
      refine Rf_eq rfl (by decide) hr2 (by decide) (fun _ => ?_) (fun _ => ?_)
      · exact Rf_tail hR hσ2 (zrs_cons hx0 (zrs_cons hx1 (zrs_cons hx2 zrs_nil))) (e_cons rfl (e_cons rfl (e_cons rfl rfl)))
      · refine Rf_I (e_wadd rfl (by decide)) (zr_to _) hσ2 (fun σ3 hσ3 => ?_)
        exact Rf_some hσ3 (by decide) (by decide)
    · exact Rf_tail hR hσ (zrs_cons hx0 (zrs_cons hx1 (zrs_cons hx2 zrs_nil))) (e_cons rfl (e_cons rfl (e_cons rfl rfl)))
theorem rZ_step1_235 (rz : zF) (rm : mF) (hR : Rc rz rm) (β : Nat) (σ : zS) (hσ : zOK σ) (x0 x1 x2 : Int) (hx0 : zr x0) (hx1 : zr x1) (hx2 : zr x2) : Rf (kZ_step1_235 rz β σ x0 x1 x2) (kM_step1_235 rm (cv σ) (i32 x0) (i32 x1) (i32 x2)) β := by
  unfold kZ_step1_235 kM_step1_235
  refine Rf_g (fun hg1 => ?_)
  exact Rf_tail hR hσ (zrs_cons hx0 (zrs_cons hx1 (zrs_cons hg1 zrs_nil))) (e_cons rfl (e_cons rfl (e_cons (e_add rfl (by decide)) rfl)))
theorem rZ_given (rz : zF) (rm : mF) (hR : Rc rz rm) (β : Nat) (σ : zS) (hσ : zOK σ) : Rf (kZ_given rz β σ) (kM_given rm (cv σ)) β := by
  unfold kZ_given kM_given
  refine Rf_nz (by decide) ?_
  refine Rf_eq (e_mod (e_wadd rfl (by decide)) (by decide) (zr_to _) (by decide)) (by decide) (zr_tmod (zr_to _) _) (by decide) (fun _ => ?_) (fun _ => ?_)
  · exact Rf_tail hR hσ (zrs_cons (by decide) (zrs_cons (by decide) zrs_nil)) (e_cons (by decide) (e_cons (by decide) rfl))
  · exact Rf_tail hR hσ (zrs_cons (by decide) (zrs_cons (by decide) zrs_nil)) (e_cons (by decide) (e_cons (by decide) rfl))
theorem rZ_given_18 (rz : zF) (rm : mF) (hR : Rc rz rm) (β : Nat) (σ : zS) (hσ : zOK σ) (x0 x1 : Int) (hx0 : zr x0) (hx1 : zr x1) : Rf (kZ_given_18 rz β σ x0 x1) (kM_given_18 rm (cv σ) (i32 x0) (i32 x1)) β := by
  unfold kZ_given_18 kM_given_18
  exact Rf_tail hR hσ (zrs_cons hx0 (zrs_cons hx1 (zrs_cons (by decide) zrs_nil))) (e_cons rfl (e_cons rfl (e_cons (by decide) rfl)))
theorem rZ_given_21 (rz : zF) (rm : mF) (hR : Rc rz rm) (β : Nat) (σ : zS) (hσ : zOK σ) (x0 x1 x2 : Int) (hx0 : zr x0) (hx1 : zr x1) (hx2 : zr x2) : Rf (kZ_given_21 rz β σ x0 x1 x2) (kM_given_21 rm (cv σ) (i32 x0) (i32 x1) (i32 x2)) β := by
  unfold kZ_given_21 kM_given_21
  refine Rf_le rfl rfl (hσ.1 84) hx2 (fun _ => ?_) (fun _ => ?_)
  · exact Rf_some hσ hx0 rfl
  · refine Rf_rd rfl hx2 (fun hb1 => ?_)
    refine Rf_eq (e_rd rfl hb1) (by decide) (hσ.2.1 _ _) (by decide) (fun _ => ?_) (fun _ => ?_)
    · refine Rf_lt rfl (by decide) hx0 (by decide) (fun _ => ?_) (fun _ => ?_)
      · exact Rf_tail hR hσ (zrs_cons hx0 (zrs_cons hx1 (zrs_cons hx2 zrs_nil))) (e_cons rfl (e_cons rfl (e_cons rfl rfl)))
      · refine Rf_eq rfl (by decide) hx1 (by decide) (fun _ => ?_) (fun _ => ?_)
        · refine Rf_rd2 rfl hb1 ?_
          refine Rf_rd rfl hx0 (fun hb2 => ?_)
          refine Rf_le (e_rd rfl hb2) (e_rd rfl hb1) (hσ.2.1 _ _) (hσ.2.1 _ _) (fun _ => ?_) (fun _ => ?_)
          · exact Rf_tail hR hσ (zrs_cons hx0 (zrs_cons hx1 (zrs_cons hx2 zrs_nil))) (e_cons rfl (e_cons rfl (e_cons rfl rfl)))
          · exact Rf_tail hR hσ (zrs_cons hx0 (zrs_cons hx1 (zrs_cons hx2 zrs_nil))) (e_cons rfl (e_cons rfl (e_cons rfl rfl)))
        · exact Rf_tail hR hσ (zrs_cons hx0 (zrs_cons hx1 (zrs_cons hx2 zrs_nil))) (e_cons rfl (e_cons rfl (e_cons rfl rfl)))
    · exact Rf_tail hR hσ (zrs_cons hx0 (zrs_cons hx1 (zrs_cons hx2 zrs_nil))) (e_cons rfl (e_cons rfl (e_cons rfl rfl)))
theorem rZ_given_64 (rz : zF) (rm : mF) (hR : Rc rz rm) (β : Nat) (σ : zS) (hσ : zOK σ) (x0 x1 x2 : Int) (hx0 : zr x0) (hx1 : zr x1) (hx2 : zr x2) : Rf (kZ_given_64 rz β σ x0 x1 x2) (kM_given_64 rm (cv σ) (i32 x0) (i32 x1) (i32 x2)) β := by
  unfold kZ_given_64 kM_given_64
  exact Rf_tail hR hσ (zrs_cons hx2 (zrs_cons hx1 (zrs_cons hx2 zrs_nil))) (e_cons rfl (e_cons rfl (e_cons rfl rfl)))
theorem rZ_given_66 (rz : zF) (rm : mF) (hR : Rc rz rm) (β : Nat) (σ : zS) (hσ : zOK σ) (x0 x1 x2 : Int) (hx0 : zr x0) (hx1 : zr x1) (hx2 : zr x2) : Rf (kZ_given_66 rz β σ x0 x1 x2) (kM_given_66 rm (cv σ) (i32 x0) (i32 x1) (i32 x2)) β := by
  unfold kZ_given_66 kM_given_66
  refine Rf_g (fun hg1 => ?_)
  exact Rf_tail hR hσ (zrs_cons hx0 (zrs_cons hx1 (zrs_cons hg1 zrs_nil))) (e_cons rfl (e_cons rfl (e_cons (e_add rfl (by decide)) rfl)))
theorem rZ_refuted (rz : zF) (rm : mF) (hR : Rc rz rm) (β : Nat) (σ : zS) (hσ : zOK σ) (x0 : Int) (hx0 : zr x0) : Rf (kZ_refuted rz β σ x0) (kM_refuted rm (cv σ) (i32 x0)) β := by
  unfold kZ_refuted kM_refuted
  refine Rf_I (by decide) (by decide) hσ (fun σ1 hσ1 => ?_)
  refine Rf_I rfl hx0 hσ1 (fun σ2 hσ2 => ?_)
  exact Rf_some hσ2 (by decide) (by decide)
theorem rZ_rewrite (rz : zF) (rm : mF) (hR : Rc rz rm) (β : Nat) (σ : zS) (hσ : zOK σ) (x0 : Int) (hx0 : zr x0) : Rf (kZ_rewrite rz β σ x0) (kM_rewrite rm (cv σ) (i32 x0)) β := by
  unfold kZ_rewrite kM_rewrite
  refine Rf_I (by decide) (by decide) hσ (fun σ1 hσ1 => ?_)
  refine Rf_I (by decide) (by decide) hσ1 (fun σ2 hσ2 => ?_)
  refine Rf_I (by decide) (by decide) hσ2 (fun σ3 hσ3 => ?_)
  refine Rf_rd rfl hx0 (fun hb1 => ?_)
  exact Rf_tail hR hσ3 (zrs_cons hx0 (zrs_cons (hσ3.2.1 _ _) zrs_nil)) (e_cons rfl (e_cons (e_rd rfl hb1) rfl))
theorem rZ_rewrite_24 (rz : zF) (rm : mF) (hR : Rc rz rm) (β : Nat) (σ : zS) (hσ : zOK σ) (x0 x1 : Int) (hx0 : zr x0) (hx1 : zr x1) : Rf (kZ_rewrite_24 rz β σ x0 x1) (kM_rewrite_24 rm (cv σ) (i32 x0) (i32 x1)) β := by
  unfold kZ_rewrite_24 kM_rewrite_24
  refine Rf_rd rfl hx0 (fun hb1 => ?_)
  refine Rf_rd2 rfl hb1 ?_
  refine Rf_g (fun hg2 => ?_)
  refine Rf_le (e_add (e_rd rfl hb1) (e_rd rfl hb1)) rfl hg2 hx1 (fun _ => ?_) (fun _ => ?_)
  · exact Rf_tail hR hσ (zrs_cons hx0 (zrs_cons (by decide) (zrs_cons (by decide) zrs_nil))) (e_cons rfl (e_cons (by decide) (e_cons (by decide) rfl)))
  · refine Rf_rd rfl hx1 (fun hb3 => ?_)
    refine Rf_bnd hR hσ (zrs_cons (hσ.2.1 _ _) zrs_nil) (e_cons (e_rd rfl hb3) rfl) (fun σ1 r1 hσ1 hr1 => ?_)
    refine Rf_rd2 rfl hb3 ?_
    refine Rf_bnd hR hσ1 (zrs_cons (hσ1.2.1 _ _) zrs_nil) (e_cons (e_rd rfl hb3) rfl) (fun σ2 r2 hσ2 hr2 => ?_)
    refine Rf_rd2 rfl hb3 ?_
    refine Rf_bnd hR hσ2 (zrs_cons hr1 (zrs_cons hr2 (zrs_cons (hσ2.2.1 _ _) zrs_nil))) (e_cons rfl (e_cons rfl (e_cons (e_rd rfl hb3) rfl))) (fun σ3 r3 hσ3 hr3 => ?_)
    refine Rf_g (fun hg4 => ?_)
    exact Rf_tail hR hσ3 (zrs_cons hx0 (zrs_cons hg4 zrs_nil)) (e_cons rfl (e_cons (e_add rfl (by decide)) rfl))
theorem rZ_rewrite_81 (rz : zF) (rm : mF) (hR : Rc rz rm) (β : Nat) (σ : zS) (hσ : zOK σ) (x0 x1 x2 : Int) (hx0 : zr x0) (hx1 : zr x1) (hx2 : zr x2) : Rf (kZ_rewrite_81 rz β σ x0 x1 x2) (kM_rewrite_81 rm (cv σ) (i32 x0) (i32 x1) (i32 x2)) β := by
  unfold kZ_rewrite_81 kM_rewrite_81
  refine Rf_eq rfl (by decide) hx2 (by decide) (fun _ => ?_) (fun _ => ?_)
  · exact Rf_tail hR hσ (zrs_cons hx0 (zrs_cons hx1 (zrs_cons hx2 zrs_nil))) (e_cons rfl (e_cons rfl (e_cons rfl rfl)))
  · refine Rf_le (by decide) rfl (by decide) hx1 (fun _ => ?_) (fun _ => ?_)
    · exact Rf_tail hR hσ (zrs_cons hx0 (zrs_cons hx1 (zrs_cons hx2 zrs_nil))) (e_cons rfl (e_cons rfl (e_cons rfl rfl)))
    · exact Rf_tail hR hσ (zrs_cons hx0 (zrs_cons hx1 (zrs_cons (by decide) (zrs_cons (by decide) zrs_nil)))) (e_cons rfl (e_cons rfl (e_cons (by decide) (e_cons (by decide) rfl))))
theorem rZ_rewrite_96 (rz : zF) (rm : mF) (hR : Rc rz rm) (β : Nat) (σ : zS) (hσ : zOK σ) (x0 x1 x2 x3 : Int) (hx0 : zr x0) (hx1 : zr x1) (hx2 : zr x2) (hx3 : zr x3) : Rf (kZ_rewrite_96 rz β σ x0 x1 x2 x3) (kM_rewrite_96 rm (cv σ) (i32 x0) (i32 x1) (i32 x2) (i32 x3)) β := by
  unfold kZ_rewrite_96 kM_rewrite_96
  refine Rf_le rfl rfl (hσ.1 98) hx3 (fun _ => ?_) (fun _ => ?_)
  · exact Rf_tail hR hσ (zrs_cons hx0 (zrs_cons hx1 (zrs_cons hx2 (zrs_cons hx3 zrs_nil)))) (e_cons rfl (e_cons rfl (e_cons rfl (e_cons rfl rfl))))
  · refine Rf_eq rfl (by decide) hx2 (by decide) (fun _ => ?_) (fun _ => ?_)
    · refine Rf_rd rfl hx3 (fun hb1 => ?_)
      refine Rf_bnd hR hσ (zrs_cons (hσ.2.1 _ _) zrs_nil) (e_cons (e_rd rfl hb1) rfl) (fun σ1 r1 hσ1 hr1 => ?_)
      refine Rf_eq rfl (by decide) hr1 (by decide) (fun _ => ?_) (fun _ => ?_)
      · refine Rf_rd2 rfl hb1 ?_
        refine Rf_bnd hR hσ1 (zrs_cons (hσ1.2.1 _ _) zrs_nil) (e_cons (e_rd rfl hb1) rfl) (fun σ2 r2 hσ2 hr2 => ?_)
        refine Rf_eq rfl (by decide) hr2 (by decide) (fun _ => ?_) (fun _ => ?_)
        · exact Rf_tail hR hσ2 (zrs_cons hx0 (zrs_cons hx1 (zrs_cons hx2 (zrs_cons hx3 zrs_nil)))) (e_cons rfl (e_cons rfl (e_cons rfl (e_cons rfl rfl))))
        · refine Rf_rd2 rfl hb1 ?_
          refine Rf_bnd hR hσ2 (zrs_cons (hσ2.2.1 _ _) zrs_nil) (e_cons (e_rd rfl hb1) rfl) (fun σ3 r3 hσ3 hr3 => ?_)
          refine Rf_rd2 rfl hb1 ?_
          refine Rf_A rfl hb1 rfl hr3 hσ3 (fun σ4 hσ4 => ?_)
          exact Rf_tail hR hσ4 (zrs_cons hx0 (zrs_cons hx1 (zrs_cons (by decide) (zrs_cons hx3 zrs_nil)))) (e_cons rfl (e_cons rfl (e_cons (by decide) (e_cons rfl rfl))))
      · refine Rf_rd2 rfl hb1 ?_
        refine Rf_bnd hR hσ1 (zrs_cons (hσ1.2.1 _ _) zrs_nil) (e_cons (e_rd rfl hb1) rfl) (fun σ5 r5 hσ5 hr5 => ?_)
        refine Rf_rd2 rfl hb1 ?_
        refine Rf_A rfl hb1 rfl hr5 hσ5 (fun σ6 hσ6 => ?_)
        exact Rf_tail hR hσ6 (zrs_cons hx0 (zrs_cons hx1 (zrs_cons (by decide) (zrs_cons hx3 zrs_nil)))) (e_cons rfl (e_cons rfl (e_cons (by decide) (e_cons rfl rfl))))
    · exact Rf_tail hR hσ (zrs_cons hx0 (zrs_cons hx1 (zrs_cons hx2 (zrs_cons hx3 zrs_nil)))) (e_cons rfl (e_cons rfl (e_cons rfl (e_cons rfl rfl))))
theorem rZ_rewrite_180 (rz : zF) (rm : mF) (hR : Rc rz rm) (β : Nat) (σ : zS) (hσ : zOK σ) (x0 x1 x2 x3 : Int) (hx0 : zr x0) (hx1 : zr x1) (hx2 : zr x2) (hx3 : zr x3) : Rf (kZ_rewrite_180 rz β σ x0 x1 x2 x3) (kM_rewrite_180 rm (cv σ) (i32 x0) (i32 x1) (i32 x2) (i32 x3)) β := by
  unfold kZ_rewrite_180 kM_rewrite_180
  refine Rf_g (fun hg1 => ?_)
  exact Rf_tail hR hσ (zrs_cons hx0 (zrs_cons hx1 (zrs_cons hx2 (zrs_cons hg1 zrs_nil)))) (e_cons rfl (e_cons rfl (e_cons rfl (e_cons (e_add rfl (by decide)) rfl))))
theorem rZ_rewrite_186 (rz : zF) (rm : mF) (hR : Rc rz rm) (β : Nat) (σ : zS) (hσ : zOK σ) (x0 x1 x2 x3 : Int) (hx0 : zr x0) (hx1 : zr x1) (hx2 : zr x2) (hx3 : zr x3) : Rf (kZ_rewrite_186 rz β σ x0 x1 x2 x3) (kM_rewrite_186 rm (cv σ) (i32 x0) (i32 x1) (i32 x2) (i32 x3)) β := by
  unfold kZ_rewrite_186 kM_rewrite_186
  refine Rf_eq rfl (by decide) hx2 (by decide) (fun _ => ?_) (fun _ => ?_)
  · exact Rf_tail hR hσ (zrs_cons hx0 (zrs_cons hx1 (zrs_cons hx2 zrs_nil))) (e_cons rfl (e_cons rfl (e_cons rfl rfl)))
  · refine Rf_g (fun hg1 => ?_)
    exact Rf_tail hR hσ (zrs_cons hx0 (zrs_cons hg1 (zrs_cons hx2 (zrs_cons (by decide) (zrs_cons (by decide) zrs_nil))))) (e_cons rfl (e_cons (e_add rfl (by decide)) (e_cons rfl (e_cons (by decide) (e_cons (by decide) rfl)))))
theorem rZ_rewrite_202 (rz : zF) (rm : mF) (hR : Rc rz rm) (β : Nat) (σ : zS) (hσ : zOK σ) (x0 x1 x2 x3 x4 : Int) (hx0 : zr x0) (hx1 : zr x1) (hx2 : zr x2) (hx3 : zr x3) (hx4 : zr x4) : Rf (kZ_rewrite_202 rz β σ x0 x1 x2 x3 x4) (kM_rewrite_202 rm (cv σ) (i32 x0) (i32 x1) (i32 x2) (i32 x3) (i32 x4)) β := by
  unfold kZ_rewrite_202 kM_rewrite_202
  refine Rf_le rfl rfl (hσ.1 120) hx4 (fun _ => ?_) (fun _ => ?_)
  · refine Rf_eq rfl (by decide) hx3 (by decide) (fun _ => ?_) (fun _ => ?_)
    · refine Rf_g (fun hg1 => ?_)
      refine Rf_I (e_add rfl (by decide)) hg1 hσ (fun σ1 hσ1 => ?_)
      refine Rf_rd rfl (hσ.1 120) (fun hb2 => ?_)
      refine Rf_A rfl hb2 rfl (hσ1.1 118) hσ1 (fun σ2 hσ2 => ?_)
      exact Rf_tail hR hσ2 (zrs_cons hx0 (zrs_cons hx1 (zrs_cons hx2 (zrs_cons hx3 (zrs_cons hx4 zrs_nil))))) (e_cons rfl (e_cons rfl (e_cons rfl (e_cons rfl (e_cons rfl rfl)))))
    · exact Rf_tail hR hσ (zrs_cons hx0 (zrs_cons hx1 (zrs_cons hx2 (zrs_cons hx3 (zrs_cons hx4 zrs_nil))))) (e_cons rfl (e_cons rfl (e_cons rfl (e_cons rfl (e_cons rfl rfl)))))
  · refine Rf_eq rfl (by decide) hx3 (by decide) (fun _ => ?_) (fun _ => ?_)
    · refine Rf_rd rfl hx4 (fun hb3 => ?_)
      refine Rf_eq (e_rd rfl hb3) rfl (hσ.2.1 _ _) (hσ.1 118) (fun _ => ?_) (fun _ => ?_)
      · exact Rf_tail hR hσ (zrs_cons hx0 (zrs_cons hx1 (zrs_cons hx2 (zrs_cons hx3 (zrs_cons hx4 zrs_nil))))) (e_cons rfl (e_cons rfl (e_cons rfl (e_cons rfl (e_cons rfl rfl)))))
      · exact Rf_tail hR hσ (zrs_cons hx0 (zrs_cons hx1 (zrs_cons hx2 (zrs_cons hx3 (zrs_cons hx4 (zrs_cons (by decide) zrs_nil)))))) (e_cons rfl (e_cons rfl (e_cons rfl (e_cons rfl (e_cons rfl (e_cons (by decide) rfl))))))
    · exact Rf_tail hR hσ (zrs_cons hx0 (zrs_cons hx1 (zrs_cons hx2 (zrs_cons hx3 (zrs_cons hx4 zrs_nil))))) (e_cons rfl (e_cons rfl (e_cons rfl (e_cons rfl (e_cons rfl rfl)))))
theorem rZ_rewrite_230 (rz : zF) (rm : mF) (hR : Rc rz rm) (β : Nat) (σ : zS) (hσ : zOK σ) (x0 x1 x2 x3 x4 : Int) (hx0 : zr x0) (hx1 : zr x1) (hx2 : zr x2) (hx3 : zr x3) (hx4 : zr x4) : Rf (kZ_rewrite_230 rz β σ x0 x1 x2 x3 x4) (kM_rewrite_230 rm (cv σ) (i32 x0) (i32 x1) (i32 x2) (i32 x3) (i32 x4)) β := by
  unfold kZ_rewrite_230 kM_rewrite_230
  exact Rf_tail hR hσ (zrs_cons hx0 (zrs_cons hx1 (zrs_cons hx2 (zrs_cons hx3 (zrs_cons hx4 (zrs_cons (by decide) zrs_nil)))))) (e_cons rfl (e_cons rfl (e_cons rfl (e_cons rfl (e_cons rfl (e_cons (by decide) rfl))))))
theorem rZ_rewrite_235 (rz : zF) (rm : mF) (hR : Rc rz rm) (β : Nat) (σ : zS) (hσ : zOK σ) (x0 x1 x2 x3 x4 x5 : Int) (hx0 : zr x0) (hx1 : zr x1) (hx2 : zr x2) (hx3 : zr x3) (hx4 : zr x4) (hx5 : zr x5) : Rf (kZ_rewrite_235 rz β σ x0 x1 x2 x3 x4 x5) (kM_rewrite_235 rm (cv σ) (i32 x0) (i32 x1) (i32 x2) (i32 x3) (i32 x4) (i32 x5)) β := by
  unfold kZ_rewrite_235 kM_rewrite_235
  refine Rf_g (fun hg1 => ?_)
  exact Rf_tail hR hσ (zrs_cons hx0 (zrs_cons hx1 (zrs_cons hx2 (zrs_cons hx5 (zrs_cons hg1 zrs_nil))))) (e_cons rfl (e_cons rfl (e_cons rfl (e_cons rfl (e_cons (e_add rfl (by decide)) rfl)))))
theorem rZ_rewrite_268 (rz : zF) (rm : mF) (hR : Rc rz rm) (β : Nat) (σ : zS) (hσ : zOK σ) (x0 x1 x2 x3 x4 : Int) (hx0 : zr x0) (hx1 : zr x1) (hx2 : zr x2) (hx3 : zr x3) (hx4 : zr x4) : Rf (kZ_rewrite_268 rz β σ x0 x1 x2 x3 x4) (kM_rewrite_268 rm (cv σ) (i32 x0) (i32 x1) (i32 x2) (i32 x3) (i32 x4)) β := by
  unfold kZ_rewrite_268 kM_rewrite_268
  exact Rf_tail hR hσ (zrs_cons hx0 (zrs_cons hx1 (zrs_cons hx2 zrs_nil))) (e_cons rfl (e_cons rfl (e_cons rfl rfl)))
theorem rZ_rewrite_271 (rz : zF) (rm : mF) (hR : Rc rz rm) (β : Nat) (σ : zS) (hσ : zOK σ) (x0 x1 x2 : Int) (hx0 : zr x0) (hx1 : zr x1) (hx2 : zr x2) : Rf (kZ_rewrite_271 rz β σ x0 x1 x2) (kM_rewrite_271 rm (cv σ) (i32 x0) (i32 x1) (i32 x2)) β := by
  unfold kZ_rewrite_271 kM_rewrite_271
  exact Rf_some hσ hx1 rfl
theorem rZ_findPlace (rz : zF) (rm : mF) (hR : Rc rz rm) (β : Nat) (σ : zS) (hσ : zOK σ) (x0 : Int) (hx0 : zr x0) : Rf (kZ_findPlace rz β σ x0) (kM_findPlace rm (cv σ) (i32 x0)) β := by
  unfold kZ_findPlace kM_findPlace
  exact Rf_tail hR hσ (zrs_cons hx0 (zrs_cons (by decide) zrs_nil)) (e_cons rfl (e_cons (by decide) rfl))
theorem rZ_findPlace_2 (rz : zF) (rm : mF) (hR : Rc rz rm) (β : Nat) (σ : zS) (hσ : zOK σ) (x0 x1 : Int) (hx0 : zr x0) (hx1 : zr x1) : Rf (kZ_findPlace_2 rz β σ x0 x1) (kM_findPlace_2 rm (cv σ) (i32 x0) (i32 x1)) β := by
  unfold kZ_findPlace_2 kM_findPlace_2
  refine Rf_le rfl rfl (hσ.1 84) hx1 (fun _ => ?_) (fun _ => ?_)
  · refine Rf_rd rfl hx0 (fun hb1 => ?_)
    exact Rf_tail hR hσ (zrs_cons hx0 (zrs_cons (hσ.2.1 _ _) zrs_nil)) (e_cons rfl (e_cons (e_rd rfl hb1) rfl))
  · refine Rf_rd rfl hx1 (fun hb2 => ?_)
    refine Rf_eq (e_rd rfl hb2) (by decide) (hσ.2.1 _ _) (by decide) (fun _ => ?_) (fun _ => ?_)
    · refine Rf_bnd hR hσ (zrs_cons hx1 zrs_nil) (e_cons rfl rfl) (fun σ1 r1 hσ1 hr1 => ?_)
      refine Rf_eq rfl (by decide) hr1 (by decide) (fun _ => ?_) (fun _ => ?_)
      · exact Rf_tail hR hσ1 (zrs_cons hx0 (zrs_cons hx1 zrs_nil)) (e_cons rfl (e_cons rfl rfl))
      · exact Rf_tail hR hσ1 (zrs_cons hx0 (zrs_cons hx1 (zrs_cons (by decide) zrs_nil))) (e_cons rfl (e_cons rfl (e_cons (by decide) rfl)))
    · exact Rf_tail hR hσ (zrs_cons hx0 (zrs_cons hx1 zrs_nil)) (e_cons rfl (e_cons rfl rfl))
theorem rZ_findPlace_33 (rz : zF) (rm : mF) (hR : Rc rz rm) (β : Nat) (σ : zS) (hσ : zOK σ) (x0 x1 x2 : Int) (hx0 : zr x0) (hx1 : zr x1) (hx2 : zr x2) : Rf (kZ_findPlace_33 rz β σ x0 x1 x2) (kM_findPlace_33 rm (cv σ) (i32 x0) (i32 x1) (i32 x2)) β := by
  unfold kZ_findPlace_33 kM_findPlace_33
  refine Rf_le (by decide) rfl (by decide) hx2 (fun _ => ?_) (fun _ => ?_)
  · exact Rf_tail hR hσ (zrs_cons hx0 (zrs_cons hx1 zrs_nil)) (e_cons rfl (e_cons rfl rfl))
  · refine Rf_bnd hR hσ (zrs_cons hx1 (zrs_cons hx2 (zrs_cons hx0 zrs_nil))) (e_cons rfl (e_cons rfl (e_cons rfl rfl))) (fun σ1 r1 hσ1 hr1 => ?_)
    refine Rf_le (by decide) rfl (by decide) hr1 (fun _ => ?_) (fun _ => ?_)
    · refine Rf_I rfl hx0 hσ1 (fun σ2 hσ2 => ?_)
      refine Rf_I rfl hr1 hσ2 (fun σ3 hσ3 => ?_)
      refine Rf_I rfl hx1 hσ3 (fun σ4 hσ4 => ?_)
      exact Rf_some hσ4 (by decide) (by decide)
    · refine Rf_I rfl (hσ.1 47) hσ1 (fun σ5 hσ5 => ?_)
      refine Rf_g (fun hg1 => ?_)
      exact Rf_tail hR hσ5 (zrs_cons hx0 (zrs_cons hx1 (zrs_cons hg1 zrs_nil))) (e_cons rfl (e_cons rfl (e_cons (e_add rfl (by decide)) rfl)))
theorem rZ_findPlace_91 (rz : zF) (rm : mF) (hR : Rc rz rm) (β : Nat) (σ : zS) (hσ : zOK σ) (x0 x1 : Int) (hx0 : zr x0) (hx1 : zr x1) : Rf (kZ_findPlace_91 rz β σ x0 x1) (kM_findPlace_91 rm (cv σ) (i32 x0) (i32 x1)) β := by
  unfold kZ_findPlace_91 kM_findPlace_91
  refine Rf_g (fun hg1 => ?_)
  exact Rf_tail hR hσ (zrs_cons hx0 (zrs_cons hg1 zrs_nil)) (e_cons rfl (e_cons (e_add rfl (by decide)) rfl))
theorem rZ_findPlace_104 (rz : zF) (rm : mF) (hR : Rc rz rm) (β : Nat) (σ : zS) (hσ : zOK σ) (x0 x1 : Int) (hx0 : zr x0) (hx1 : zr x1) : Rf (kZ_findPlace_104 rz β σ x0 x1) (kM_findPlace_104 rm (cv σ) (i32 x0) (i32 x1)) β := by
  unfold kZ_findPlace_104 kM_findPlace_104
  refine Rf_lt rfl (by decide) hx1 (by decide) (fun _ => ?_) (fun _ => ?_)
  · exact Rf_some hσ (by decide) (by decide)
  · refine Rf_bnd hR hσ (zrs_cons hx1 zrs_nil) (e_cons rfl rfl) (fun σ1 r1 hσ1 hr1 => ?_)
    refine Rf_eq rfl (by decide) hr1 (by decide) (fun _ => ?_) (fun _ => ?_)
    · refine Rf_rd rfl hx1 (fun hb1 => ?_)
      exact Rf_tail hR hσ1 (zrs_cons hx0 (zrs_cons (hσ1.2.1 _ _) zrs_nil)) (e_cons rfl (e_cons (e_rd rfl hb1) rfl))
    · exact Rf_some hσ1 (by decide) (by decide)
theorem rZ_isUnit (rz : zF) (rm : mF) (hR : Rc rz rm) (β : Nat) (σ : zS) (hσ : zOK σ) (x0 : Int) (hx0 : zr x0) : Rf (kZ_isUnit rz β σ x0) (kM_isUnit rm (cv σ) (i32 x0)) β := by
  unfold kZ_isUnit kM_isUnit
  refine Rf_rd rfl hx0 (fun hb1 => ?_)
  refine Rf_eq (e_rd rfl hb1) (by decide) (hσ.2.1 _ _) (by decide) (fun _ => ?_) (fun _ => ?_)
  · refine Rf_rd2 rfl hb1 ?_
    refine Rf_rd (e_rd rfl hb1) (hσ.2.1 _ _) (fun hb2 => ?_)
    refine Rf_eq (e_rd (e_rd rfl hb1) hb2) (by decide) (hσ.2.1 _ _) (by decide) (fun _ => ?_) (fun _ => ?_)
    · exact Rf_tail hR hσ (zrs_cons hx0 zrs_nil) (e_cons rfl rfl)
    · exact Rf_tail hR hσ (zrs_cons hx0 (zrs_cons (by decide) zrs_nil)) (e_cons rfl (e_cons (by decide) rfl))
  · exact Rf_tail hR hσ (zrs_cons hx0 zrs_nil) (e_cons rfl rfl)
theorem rZ_isUnit_28 (rz : zF) (rm : mF) (hR : Rc rz rm) (β : Nat) (σ : zS) (hσ : zOK σ) (x0 : Int) (hx0 : zr x0) : Rf (kZ_isUnit_28 rz β σ x0) (kM_isUnit_28 rm (cv σ) (i32 x0)) β := by
  unfold kZ_isUnit_28 kM_isUnit_28
  exact Rf_tail hR hσ (zrs_cons hx0 (zrs_cons (by decide) zrs_nil)) (e_cons rfl (e_cons (by decide) rfl))
theorem rZ_isUnit_29 (rz : zF) (rm : mF) (hR : Rc rz rm) (β : Nat) (σ : zS) (hσ : zOK σ) (x0 x1 : Int) (hx0 : zr x0) (hx1 : zr x1) : Rf (kZ_isUnit_29 rz β σ x0 x1) (kM_isUnit_29 rm (cv σ) (i32 x0) (i32 x1)) β := by
  unfold kZ_isUnit_29 kM_isUnit_29
  refine Rf_01 rfl hx1 (fun hb1 => ?_)
  exact Rf_some hσ hx1 rfl
theorem rZ_becomes (rz : zF) (rm : mF) (hR : Rc rz rm) (β : Nat) (σ : zS) (hσ : zOK σ) (x0 x1 x2 : Int) (hx0 : zr x0) (hx1 : zr x1) (hx2 : zr x2) : Rf (kZ_becomes rz β σ x0 x1 x2) (kM_becomes rm (cv σ) (i32 x0) (i32 x1) (i32 x2)) β := by
  unfold kZ_becomes kM_becomes
  refine Rf_Fl (by decide) (by decide) hσ (fun σ1 hσ1 => ?_)
  refine Rf_rd rfl hx0 (fun hb1 => ?_)
  refine Rf_bnd hR hσ1 (zrs_cons (hσ1.2.1 _ _) (zrs_cons hx1 (zrs_cons (by decide) zrs_nil))) (e_cons (e_rd rfl hb1) (e_cons rfl (e_cons (by decide) rfl))) (fun σ2 r2 hσ2 hr2 => ?_)
  refine Rf_bnd hR hσ2 (zrs_cons hr2 (zrs_cons hx2 zrs_nil)) (e_cons rfl (e_cons rfl rfl)) (fun σ3 r3 hσ3 hr3 => ?_)
  refine Rf_eq rfl (by decide) hr3 (by decide) (fun _ => ?_) (fun _ => ?_)
  · exact Rf_some hσ3 (by decide) (by decide)
  · refine Rf_rd2 rfl hb1 ?_
    refine Rf_bnd hR hσ3 (zrs_cons (hσ3.2.1 _ _) (zrs_cons hx1 (zrs_cons (by decide) zrs_nil))) (e_cons (e_rd rfl hb1) (e_cons rfl (e_cons (by decide) rfl))) (fun σ4 r4 hσ4 hr4 => ?_)
    refine Rf_bnd hR hσ4 (zrs_cons hr4 zrs_nil) (e_cons rfl rfl) (fun σ5 r5 hσ5 hr5 => ?_)
    refine Rf_eq rfl (by decide) hr5 (by decide) (fun _ => ?_) (fun _ => ?_)
    · exact Rf_tail hR hσ5 (zrs_cons hx0 (zrs_cons hx1 (zrs_cons hx2 (zrs_cons hr4 zrs_nil)))) (e_cons rfl (e_cons rfl (e_cons rfl (e_cons rfl rfl))))
    · refine Rf_bnd hR hσ5 (zrs_cons hr4 zrs_nil) (e_cons rfl rfl) (fun σ6 r6 hσ6 hr6 => ?_)
      refine Rf_rd rfl hx2 (fun hb2 => ?_)
      refine Rf_le rfl (e_rd rfl hb2) hr6 (hσ6.2.1 _ _) (fun _ => ?_) (fun _ => ?_)
      · refine Rf_bnd hR hσ6 (zrs_cons hr4 zrs_nil) (e_cons rfl rfl) (fun σ7 r7 hσ7 hr7 => ?_)
        refine Rf_bnd hR hσ7 (zrs_cons hx2 (zrs_cons hr7 zrs_nil)) (e_cons rfl (e_cons rfl rfl)) (fun σ8 r8 hσ8 hr8 => ?_)
        refine Rf_eq rfl (by decide) hr8 (by decide) (fun _ => ?_) (fun _ => ?_)
        · exact Rf_tail hR hσ8 (zrs_cons hx0 (zrs_cons hx1 (zrs_cons hx2 (zrs_cons hr4 (zrs_cons hr7 (zrs_cons (by decide) zrs_nil)))))) (e_cons rfl (e_cons rfl (e_cons rfl (e_cons rfl (e_cons rfl (e_cons (by decide) rfl))))))
        · exact Rf_tail hR hσ8 (zrs_cons hx0 (zrs_cons hx1 (zrs_cons hx2 (zrs_cons hr4 (zrs_cons hr7 (zrs_cons hr7 zrs_nil)))))) (e_cons rfl (e_cons rfl (e_cons rfl (e_cons rfl (e_cons rfl (e_cons rfl rfl))))))
      · exact Rf_tail hR hσ6 (zrs_cons hx0 (zrs_cons hx1 (zrs_cons hx2 (zrs_cons hr4 zrs_nil)))) (e_cons rfl (e_cons rfl (e_cons rfl (e_cons rfl rfl))))
theorem rZ_becomes_68 (rz : zF) (rm : mF) (hR : Rc rz rm) (β : Nat) (σ : zS) (hσ : zOK σ) (x0 x1 x2 x3 : Int) (hx0 : zr x0) (hx1 : zr x1) (hx2 : zr x2) (hx3 : zr x3) : Rf (kZ_becomes_68 rz β σ x0 x1 x2 x3) (kM_becomes_68 rm (cv σ) (i32 x0) (i32 x1) (i32 x2) (i32 x3)) β := by
  unfold kZ_becomes_68 kM_becomes_68
  exact Rf_some hσ (by decide) (by decide)
theorem rZ_becomes_94 (rz : zF) (rm : mF) (hR : Rc rz rm) (β : Nat) (σ : zS) (hσ : zOK σ) (x0 x1 x2 x3 x4 x5 : Int) (hx0 : zr x0) (hx1 : zr x1) (hx2 : zr x2) (hx3 : zr x3) (hx4 : zr x4) (hx5 : zr x5) : Rf (kZ_becomes_94 rz β σ x0 x1 x2 x3 x4 x5) (kM_becomes_94 rm (cv σ) (i32 x0) (i32 x1) (i32 x2) (i32 x3) (i32 x4) (i32 x5)) β := by
  unfold kZ_becomes_94 kM_becomes_94
  exact Rf_some hσ hx5 rfl
theorem rZ_side2 (rz : zF) (rm : mF) (hR : Rc rz rm) (β : Nat) (σ : zS) (hσ : zOK σ) (x0 x1 x2 : Int) (hx0 : zr x0) (hx1 : zr x1) (hx2 : zr x2) : Rf (kZ_side2 rz β σ x0 x1 x2) (kM_side2 rm (cv σ) (i32 x0) (i32 x1) (i32 x2)) β := by
  unfold kZ_side2 kM_side2
  refine Rf_eq rfl (by decide) hx1 (by decide) (fun _ => ?_) (fun _ => ?_)
  · exact Rf_tail hR hσ (zrs_cons hx0 (zrs_cons hx1 (zrs_cons hx2 (zrs_cons (by decide) zrs_nil)))) (e_cons rfl (e_cons rfl (e_cons rfl (e_cons (by decide) rfl))))
  · exact Rf_tail hR hσ (zrs_cons hx0 (zrs_cons hx1 (zrs_cons hx2 (zrs_cons (by decide) zrs_nil)))) (e_cons rfl (e_cons rfl (e_cons rfl (e_cons (by decide) rfl))))
theorem rZ_side2_9 (rz : zF) (rm : mF) (hR : Rc rz rm) (β : Nat) (σ : zS) (hσ : zOK σ) (x0 x1 x2 x3 : Int) (hx0 : zr x0) (hx1 : zr x1) (hx2 : zr x2) (hx3 : zr x3) : Rf (kZ_side2_9 rz β σ x0 x1 x2 x3) (kM_side2_9 rm (cv σ) (i32 x0) (i32 x1) (i32 x2) (i32 x3)) β := by
  unfold kZ_side2_9 kM_side2_9
  refine Rf_eq rfl rfl hx3 hx2 (fun _ => ?_) (fun _ => ?_)
  · refine Rf_rd rfl hx0 (fun hb1 => ?_)
    exact Rf_tail hR hσ (zrs_cons hx0 (zrs_cons hx1 (zrs_cons hx2 (zrs_cons (hσ.2.1 _ _) zrs_nil)))) (e_cons rfl (e_cons rfl (e_cons rfl (e_cons (e_rd rfl hb1) rfl))))
  · refine Rf_rd rfl hx0 (fun hb2 => ?_)
    exact Rf_tail hR hσ (zrs_cons hx0 (zrs_cons hx1 (zrs_cons hx2 (zrs_cons (hσ.2.1 _ _) zrs_nil)))) (e_cons rfl (e_cons rfl (e_cons rfl (e_cons (e_rd rfl hb2) rfl))))
theorem rZ_side2_28 (rz : zF) (rm : mF) (hR : Rc rz rm) (β : Nat) (σ : zS) (hσ : zOK σ) (x0 x1 x2 x3 : Int) (hx0 : zr x0) (hx1 : zr x1) (hx2 : zr x2) (hx3 : zr x3) : Rf (kZ_side2_28 rz β σ x0 x1 x2 x3) (kM_side2_28 rm (cv σ) (i32 x0) (i32 x1) (i32 x2) (i32 x3)) β := by
  unfold kZ_side2_28 kM_side2_28
  exact Rf_some hσ hx3 rfl
theorem rZ_match (rz : zF) (rm : mF) (hR : Rc rz rm) (β : Nat) (σ : zS) (hσ : zOK σ) (x0 x1 : Int) (hx0 : zr x0) (hx1 : zr x1) : Rf (kZ_match rz β σ x0 x1) (kM_match rm (cv σ) (i32 x0) (i32 x1)) β := by
  unfold kZ_match kM_match
  refine Rf_rd rfl hx0 (fun hb1 => ?_)
  refine Rf_le (by decide) (e_rd rfl hb1) (by decide) (hσ.2.1 _ _) (fun _ => ?_) (fun _ => ?_)
  · refine Rf_rd2 rfl hb1 ?_
    refine Rf_rd rfl hx1 (fun hb2 => ?_)
    refine Rf_eq (e_rd rfl hb1) (e_rd rfl hb2) (hσ.2.1 _ _) (hσ.2.1 _ _) (fun _ => ?_) (fun _ => ?_)
    · refine Rf_rd2 rfl hb2 ?_
      refine Rf_rd2 rfl hb1 ?_
      exact Rf_tail hR hσ (zrs_cons hx0 (zrs_cons hx1 (zrs_cons (hσ.2.1 _ _) (zrs_cons (hσ.2.1 _ _) zrs_nil)))) (e_cons rfl (e_cons rfl (e_cons (e_rd rfl hb2) (e_cons (e_rd rfl hb1) rfl))))
    · exact Rf_some hσ (by decide) (by decide)
  · refine Rf_rd2 rfl hb1 ?_
    refine Rf_g (fun hg3 => ?_)
    refine Rf_rd (e_sub (by decide) (e_rd rfl hb1)) hg3 (fun hb4 => ?_)
    refine Rf_lt (e_rd (e_sub (by decide) (e_rd rfl hb1)) hb4) (by decide) (hσ.2.1 _ _) (by decide) (fun _ => ?_) (fun _ => ?_)
    · refine Rf_bnd hR hσ (zrs_cons hx1 zrs_nil) (e_cons rfl rfl) (fun σ1 r1 hσ1 hr1 => ?_)
      refine Rf_eq rfl (by decide) hr1 (by decide) (fun _ => ?_) (fun _ => ?_)
      · refine Rf_rd2 (e_sub (by decide) (e_rd rfl hb1)) hb4 ?_
        refine Rf_A (e_sub (by decide) (e_rd rfl hb1)) hb4 rfl hx1 hσ1 (fun σ2 hσ2 => ?_)
        exact Rf_some hσ2 (by decide) (by decide)
      · exact Rf_some hσ1 (by decide) (by decide)
    · refine Rf_rd2 (e_sub (by decide) (e_rd rfl hb1)) hb4 ?_
      refine Rf_bnd hR hσ (zrs_cons (hσ.2.1 _ _) (zrs_cons hx1 zrs_nil)) (e_cons (e_rd (e_sub (by decide) (e_rd rfl hb1)) hb4) (e_cons rfl rfl)) (fun σ3 r3 hσ3 hr3 => ?_)
      refine Rf_01 rfl hr3 (fun hb5 => ?_)
      exact Rf_some hσ3 hr3 rfl
theorem rZ_match_90 (rz : zF) (rm : mF) (hR : Rc rz rm) (β : Nat) (σ : zS) (hσ : zOK σ) (x0 x1 x2 x3 : Int) (hx0 : zr x0) (hx1 : zr x1) (hx2 : zr x2) (hx3 : zr x3) : Rf (kZ_match_90 rz β σ x0 x1 x2 x3) (kM_match_90 rm (cv σ) (i32 x0) (i32 x1) (i32 x2) (i32 x3)) β := by
  unfold kZ_match_90 kM_match_90
  refine Rf_lt rfl (by decide) hx3 (by decide) (fun _ => ?_) (fun _ => ?_)
  · exact Rf_some hσ (by decide) (by decide)
  · refine Rf_bnd hR hσ (zrs_cons hx3 (zrs_cons hx2 zrs_nil)) (e_cons rfl (e_cons rfl rfl)) (fun σ1 r1 hσ1 hr1 => ?_)
    refine Rf_eq rfl (by decide) hr1 (by decide) (fun _ => ?_) (fun _ => ?_)
    · exact Rf_some hσ1 (by decide) (by decide)
    · refine Rf_rd rfl hx2 (fun hb1 => ?_)
      refine Rf_rd rfl hx3 (fun hb2 => ?_)
      exact Rf_tail hR hσ1 (zrs_cons hx0 (zrs_cons hx1 (zrs_cons (hσ1.2.1 _ _) (zrs_cons (hσ1.2.1 _ _) zrs_nil)))) (e_cons rfl (e_cons rfl (e_cons (e_rd rfl hb1) (e_cons (e_rd rfl hb2) rfl))))
theorem rZ_isPredicate (rz : zF) (rm : mF) (hR : Rc rz rm) (β : Nat) (σ : zS) (hσ : zOK σ) (x0 : Int) (hx0 : zr x0) : Rf (kZ_isPredicate rz β σ x0) (kM_isPredicate rm (cv σ) (i32 x0)) β := by
  unfold kZ_isPredicate kM_isPredicate
  refine Rf_rd rfl hx0 (fun hb1 => ?_)
  refine Rf_lt (e_rd rfl hb1) (by decide) (hσ.2.1 _ _) (by decide) (fun _ => ?_) (fun _ => ?_)
  · exact Rf_tail hR hσ (zrs_cons hx0 zrs_nil) (e_cons rfl rfl)
  · refine Rf_rd2 rfl hb1 ?_
    refine Rf_rd (e_rd rfl hb1) (hσ.2.1 _ _) (fun hb2 => ?_)
    refine Rf_eq (e_rd (e_rd rfl hb1) hb2) (by decide) (hσ.2.1 _ _) (by decide) (fun _ => ?_) (fun _ => ?_)
    · exact Rf_tail hR hσ (zrs_cons hx0 zrs_nil) (e_cons rfl rfl)
    · exact Rf_tail hR hσ (zrs_cons hx0 (zrs_cons (by decide) zrs_nil)) (e_cons rfl (e_cons (by decide) rfl))
theorem rZ_isPredicate_27 (rz : zF) (rm : mF) (hR : Rc rz rm) (β : Nat) (σ : zS) (hσ : zOK σ) (x0 : Int) (hx0 : zr x0) : Rf (kZ_isPredicate_27 rz β σ x0) (kM_isPredicate_27 rm (cv σ) (i32 x0)) β := by
  unfold kZ_isPredicate_27 kM_isPredicate_27
  exact Rf_tail hR hσ (zrs_cons hx0 (zrs_cons (by decide) zrs_nil)) (e_cons rfl (e_cons (by decide) rfl))
theorem rZ_isPredicate_28 (rz : zF) (rm : mF) (hR : Rc rz rm) (β : Nat) (σ : zS) (hσ : zOK σ) (x0 x1 : Int) (hx0 : zr x0) (hx1 : zr x1) : Rf (kZ_isPredicate_28 rz β σ x0 x1) (kM_isPredicate_28 rm (cv σ) (i32 x0) (i32 x1)) β := by
  unfold kZ_isPredicate_28 kM_isPredicate_28
  refine Rf_01 rfl hx1 (fun hb1 => ?_)
  exact Rf_some hσ hx1 rfl
theorem rZ_hasAll (rz : zF) (rm : mF) (hR : Rc rz rm) (β : Nat) (σ : zS) (hσ : zOK σ) (x0 : Int) (hx0 : zr x0) : Rf (kZ_hasAll rz β σ x0) (kM_hasAll rm (cv σ) (i32 x0)) β := by
  unfold kZ_hasAll kM_hasAll
  refine Rf_rd rfl hx0 (fun hb1 => ?_)
  refine Rf_le (by decide) (e_rd rfl hb1) (by decide) (hσ.2.1 _ _) (fun _ => ?_) (fun _ => ?_)
  · refine Rf_rd2 rfl hb1 ?_
    exact Rf_tail hR hσ (zrs_cons hx0 (zrs_cons (hσ.2.1 _ _) zrs_nil)) (e_cons rfl (e_cons (e_rd rfl hb1) rfl))
  · refine Rf_rd2 rfl hb1 ?_
    refine Rf_g (fun hg2 => ?_)
    refine Rf_rd (e_sub (by decide) (e_rd rfl hb1)) hg2 (fun hb3 => ?_)
    refine Rf_lt (e_rd (e_sub (by decide) (e_rd rfl hb1)) hb3) (by decide) (hσ.2.1 _ _) (by decide) (fun _ => ?_) (fun _ => ?_)
    · exact Rf_tail hR hσ (zrs_cons hx0 (zrs_cons (by decide) zrs_nil)) (e_cons rfl (e_cons (by decide) rfl))
    · exact Rf_tail hR hσ (zrs_cons hx0 (zrs_cons (by decide) zrs_nil)) (e_cons rfl (e_cons (by decide) rfl))
theorem rZ_hasAll_30 (rz : zF) (rm : mF) (hR : Rc rz rm) (β : Nat) (σ : zS) (hσ : zOK σ) (x0 x1 : Int) (hx0 : zr x0) (hx1 : zr x1) : Rf (kZ_hasAll_30 rz β σ x0 x1) (kM_hasAll_30 rm (cv σ) (i32 x0) (i32 x1)) β := by
  unfold kZ_hasAll_30 kM_hasAll_30
  refine Rf_01 rfl hx1 (fun hb1 => ?_)
  exact Rf_some hσ hx1 rfl
theorem rZ_hasAll_38 (rz : zF) (rm : mF) (hR : Rc rz rm) (β : Nat) (σ : zS) (hσ : zOK σ) (x0 x1 : Int) (hx0 : zr x0) (hx1 : zr x1) : Rf (kZ_hasAll_38 rz β σ x0 x1) (kM_hasAll_38 rm (cv σ) (i32 x0) (i32 x1)) β := by
  unfold kZ_hasAll_38 kM_hasAll_38
  refine Rf_lt rfl (by decide) hx1 (by decide) (fun _ => ?_) (fun _ => ?_)
  · exact Rf_some hσ (by decide) (by decide)
  · refine Rf_bnd hR hσ (zrs_cons hx1 zrs_nil) (e_cons rfl rfl) (fun σ1 r1 hσ1 hr1 => ?_)
    refine Rf_eq rfl (by decide) hr1 (by decide) (fun _ => ?_) (fun _ => ?_)
    · exact Rf_some hσ1 (by decide) (by decide)
    · refine Rf_rd rfl hx1 (fun hb1 => ?_)
      exact Rf_tail hR hσ1 (zrs_cons hx0 (zrs_cons (hσ1.2.1 _ _) zrs_nil)) (e_cons rfl (e_cons (e_rd rfl hb1) rfl))
theorem rZ_weighMatched (rz : zF) (rm : mF) (hR : Rc rz rm) (β : Nat) (σ : zS) (hσ : zOK σ) (x0 : Int) (hx0 : zr x0) : Rf (kZ_weighMatched rz β σ x0) (kM_weighMatched rm (cv σ) (i32 x0)) β := by
  unfold kZ_weighMatched kM_weighMatched
  refine Rf_rd rfl hx0 (fun hb1 => ?_)
  refine Rf_le (by decide) (e_rd rfl hb1) (by decide) (hσ.2.1 _ _) (fun _ => ?_) (fun _ => ?_)
  · refine Rf_rd2 rfl hb1 ?_
    exact Rf_tail hR hσ (zrs_cons hx0 (zrs_cons (by decide) (zrs_cons (hσ.2.1 _ _) zrs_nil))) (e_cons rfl (e_cons (by decide) (e_cons (e_rd rfl hb1) rfl)))
  · refine Rf_rd2 rfl hb1 ?_
    refine Rf_g (fun hg2 => ?_)
    refine Rf_rd (e_sub (by decide) (e_rd rfl hb1)) hg2 (fun hb3 => ?_)
    refine Rf_rd (e_rd (e_sub (by decide) (e_rd rfl hb1)) hb3) (hσ.2.1 _ _) (fun hb4 => ?_)
    exact Rf_some hσ (hσ.2.1 _ _) (e_rd (e_rd (e_sub (by decide) (e_rd rfl hb1)) hb3) hb4)
theorem rZ_weighMatched_37 (rz : zF) (rm : mF) (hR : Rc rz rm) (β : Nat) (σ : zS) (hσ : zOK σ) (x0 x1 x2 : Int) (hx0 : zr x0) (hx1 : zr x1) (hx2 : zr x2) : Rf (kZ_weighMatched_37 rz β σ x0 x1 x2) (kM_weighMatched_37 rm (cv σ) (i32 x0) (i32 x1) (i32 x2)) β := by
  unfold kZ_weighMatched_37 kM_weighMatched_37
  refine Rf_lt rfl (by decide) hx2 (by decide) (fun _ => ?_) (fun _ => ?_)
  · exact Rf_some hσ hx1 rfl
  · refine Rf_bnd hR hσ (zrs_cons hx2 zrs_nil) (e_cons rfl rfl) (fun σ1 r1 hσ1 hr1 => ?_)
    refine Rf_rd rfl hx2 (fun hb1 => ?_)
    refine Rf_g (fun hg2 => ?_)
    exact Rf_tail hR hσ1 (zrs_cons hx0 (zrs_cons hg2 (zrs_cons (hσ1.2.1 _ _) zrs_nil))) (e_cons rfl (e_cons (e_add rfl rfl) (e_cons (e_rd rfl hb1) rfl)))
theorem rZ_withMatched (rz : zF) (rm : mF) (hR : Rc rz rm) (β : Nat) (σ : zS) (hσ : zOK σ) (x0 : Int) (hx0 : zr x0) : Rf (kZ_withMatched rz β σ x0) (kM_withMatched rm (cv σ) (i32 x0)) β := by
  unfold kZ_withMatched kM_withMatched
  refine Rf_rd rfl hx0 (fun hb1 => ?_)
  refine Rf_le (by decide) (e_rd rfl hb1) (by decide) (hσ.2.1 _ _) (fun _ => ?_) (fun _ => ?_)
  · refine Rf_rd2 rfl hb1 ?_
    refine Rf_bnd hR hσ (zrs_cons (hσ.2.1 _ _) zrs_nil) (e_cons (e_rd rfl hb1) rfl) (fun σ1 r1 hσ1 hr1 => ?_)
    refine Rf_rd2 rfl hb1 ?_
    exact Rf_tail hR hσ1 (zrs_cons hx0 (zrs_cons hr1 (zrs_cons (by decide) (zrs_cons (hσ1.2.1 _ _) zrs_nil)))) (e_cons rfl (e_cons rfl (e_cons (by decide) (e_cons (e_rd rfl hb1) rfl))))
  · refine Rf_rd2 rfl hb1 ?_
    refine Rf_g (fun hg2 => ?_)
    refine Rf_rd (e_sub (by decide) (e_rd rfl hb1)) hg2 (fun hb3 => ?_)
    refine Rf_bnd hR hσ (zrs_cons (hσ.2.1 _ _) zrs_nil) (e_cons (e_rd (e_sub (by decide) (e_rd rfl hb1)) hb3) rfl) (fun σ2 r2 hσ2 hr2 => ?_)
    exact Rf_some hσ2 hr2 rfl
theorem rZ_withMatched_48 (rz : zF) (rm : mF) (hR : Rc rz rm) (β : Nat) (σ : zS) (hσ : zOK σ) (x0 x1 x2 x3 : Int) (hx0 : zr x0) (hx1 : zr x1) (hx2 : zr x2) (hx3 : zr x3) : Rf (kZ_withMatched_48 rz β σ x0 x1 x2 x3) (kM_withMatched_48 rm (cv σ) (i32 x0) (i32 x1) (i32 x2) (i32 x3)) β := by
  unfold kZ_withMatched_48 kM_withMatched_48
  refine Rf_lt rfl (by decide) hx3 (by decide) (fun _ => ?_) (fun _ => ?_)
  · exact Rf_some hσ hx1 rfl
  · refine Rf_bnd hR hσ (zrs_cons hx3 zrs_nil) (e_cons rfl rfl) (fun σ1 r1 hσ1 hr1 => ?_)
    refine Rf_le (by decide) rfl (by decide) hx2 (fun _ => ?_) (fun _ => ?_)
    · refine Rf_rd rfl hx2 (fun hb1 => ?_)
      refine Rf_A rfl hb1 rfl hr1 hσ1 (fun σ2 hσ2 => ?_)
      exact Rf_tail hR hσ2 (zrs_cons hx0 (zrs_cons hx1 (zrs_cons hx2 (zrs_cons hx3 (zrs_cons hr1 zrs_nil))))) (e_cons rfl (e_cons rfl (e_cons rfl (e_cons rfl (e_cons rfl rfl)))))
    · refine Rf_rd rfl hx1 (fun hb2 => ?_)
      refine Rf_A rfl hb2 rfl hr1 hσ1 (fun σ3 hσ3 => ?_)
      exact Rf_tail hR hσ3 (zrs_cons hx0 (zrs_cons hx1 (zrs_cons hx2 (zrs_cons hx3 (zrs_cons hr1 zrs_nil))))) (e_cons rfl (e_cons rfl (e_cons rfl (e_cons rfl (e_cons rfl rfl)))))
theorem rZ_withMatched_84 (rz : zF) (rm : mF) (hR : Rc rz rm) (β : Nat) (σ : zS) (hσ : zOK σ) (x0 x1 x2 x3 x4 : Int) (hx0 : zr x0) (hx1 : zr x1) (hx2 : zr x2) (hx3 : zr x3) (hx4 : zr x4) : Rf (kZ_withMatched_84 rz β σ x0 x1 x2 x3 x4) (kM_withMatched_84 rm (cv σ) (i32 x0) (i32 x1) (i32 x2) (i32 x3) (i32 x4)) β := by
  unfold kZ_withMatched_84 kM_withMatched_84
  refine Rf_rd rfl hx1 (fun hb1 => ?_)
  refine Rf_rd rfl hx4 (fun hb2 => ?_)
  refine Rf_rd2 rfl hb1 ?_
  refine Rf_g (fun hg3 => ?_)
  refine Rf_A rfl hb1 (e_add (e_rd rfl hb1) (e_rd rfl hb2)) hg3 hσ (fun σ1 hσ1 => ?_)
  refine Rf_rd rfl hx3 (fun hb4 => ?_)
  exact Rf_tail hR hσ1 (zrs_cons hx0 (zrs_cons hx1 (zrs_cons hx4 (zrs_cons (hσ1.2.1 _ _) zrs_nil)))) (e_cons rfl (e_cons rfl (e_cons rfl (e_cons (e_rd rfl hb4) rfl))))
theorem rZ_replacedIn (rz : zF) (rm : mF) (hR : Rc rz rm) (β : Nat) (σ : zS) (hσ : zOK σ) (x0 : Int) (hx0 : zr x0) : Rf (kZ_replacedIn rz β σ x0) (kM_replacedIn rm (cv σ) (i32 x0)) β := by
  unfold kZ_replacedIn kM_replacedIn
  refine Rf_eq rfl rfl hx0 (hσ.1 116) (fun _ => ?_) (fun _ => ?_)
  · refine Rf_bnd hR hσ (zrs_cons (hσ.1 117) zrs_nil) (e_cons rfl rfl) (fun σ2 r2 hσ2 hr2 => ?_)
    exact Rf_some hσ2 hr2 rfl
  · refine Rf_rd rfl hx0 (fun hb1 => ?_)
    refine Rf_bnd hR hσ (zrs_cons (hσ.2.1 _ _) zrs_nil) (e_cons (e_rd rfl hb1) rfl) (fun σ1 r1 hσ1 hr1 => ?_)
    refine Rf_rd2 rfl hb1 ?_
    exact Rf_tail hR hσ1 (zrs_cons hx0 (zrs_cons hr1 (zrs_cons (by decide) (zrs_cons (hσ1.2.1 _ _) zrs_nil)))) (e_cons rfl (e_cons rfl (e_cons (by decide) (e_cons (e_rd rfl hb1) rfl))))
theorem rZ_replacedIn_38 (rz : zF) (rm : mF) (hR : Rc rz rm) (β : Nat) (σ : zS) (hσ : zOK σ) (x0 x1 x2 x3 : Int) (hx0 : zr x0) (hx1 : zr x1) (hx2 : zr x2) (hx3 : zr x3) : Rf (kZ_replacedIn_38 rz β σ x0 x1 x2 x3) (kM_replacedIn_38 rm (cv σ) (i32 x0) (i32 x1) (i32 x2) (i32 x3)) β := by
  unfold kZ_replacedIn_38 kM_replacedIn_38
  refine Rf_lt rfl (by decide) hx3 (by decide) (fun _ => ?_) (fun _ => ?_)
  · exact Rf_some hσ hx1 rfl
  · refine Rf_bnd hR hσ (zrs_cons hx3 zrs_nil) (e_cons rfl rfl) (fun σ1 r1 hσ1 hr1 => ?_)
    refine Rf_le (by decide) rfl (by decide) hx2 (fun _ => ?_) (fun _ => ?_)
    · refine Rf_rd rfl hx2 (fun hb1 => ?_)
      refine Rf_A rfl hb1 rfl hr1 hσ1 (fun σ2 hσ2 => ?_)
      exact Rf_tail hR hσ2 (zrs_cons hx0 (zrs_cons hx1 (zrs_cons hx2 (zrs_cons hx3 (zrs_cons hr1 zrs_nil))))) (e_cons rfl (e_cons rfl (e_cons rfl (e_cons rfl (e_cons rfl rfl)))))
    · refine Rf_rd rfl hx1 (fun hb2 => ?_)
      refine Rf_A rfl hb2 rfl hr1 hσ1 (fun σ3 hσ3 => ?_)
      exact Rf_tail hR hσ3 (zrs_cons hx0 (zrs_cons hx1 (zrs_cons hx2 (zrs_cons hx3 (zrs_cons hr1 zrs_nil))))) (e_cons rfl (e_cons rfl (e_cons rfl (e_cons rfl (e_cons rfl rfl)))))
theorem rZ_replacedIn_74 (rz : zF) (rm : mF) (hR : Rc rz rm) (β : Nat) (σ : zS) (hσ : zOK σ) (x0 x1 x2 x3 x4 : Int) (hx0 : zr x0) (hx1 : zr x1) (hx2 : zr x2) (hx3 : zr x3) (hx4 : zr x4) : Rf (kZ_replacedIn_74 rz β σ x0 x1 x2 x3 x4) (kM_replacedIn_74 rm (cv σ) (i32 x0) (i32 x1) (i32 x2) (i32 x3) (i32 x4)) β := by
  unfold kZ_replacedIn_74 kM_replacedIn_74
  refine Rf_rd rfl hx1 (fun hb1 => ?_)
  refine Rf_rd rfl hx4 (fun hb2 => ?_)
  refine Rf_rd2 rfl hb1 ?_
  refine Rf_g (fun hg3 => ?_)
  refine Rf_A rfl hb1 (e_add (e_rd rfl hb1) (e_rd rfl hb2)) hg3 hσ (fun σ1 hσ1 => ?_)
  refine Rf_rd rfl hx3 (fun hb4 => ?_)
  exact Rf_tail hR hσ1 (zrs_cons hx0 (zrs_cons hx1 (zrs_cons hx4 (zrs_cons (hσ1.2.1 _ _) zrs_nil)))) (e_cons rfl (e_cons rfl (e_cons rfl (e_cons (e_rd rfl hb4) rfl))))
theorem rZ_subsumes (rz : zF) (rm : mF) (hR : Rc rz rm) (β : Nat) (σ : zS) (hσ : zOK σ) (x0 x1 : Int) (hx0 : zr x0) (hx1 : zr x1) : Rf (kZ_subsumes rz β σ x0 x1) (kM_subsumes rm (cv σ) (i32 x0) (i32 x1)) β := by
  unfold kZ_subsumes kM_subsumes
  refine Rf_rd rfl hx0 (fun hb1 => ?_)
  refine Rf_rd rfl hx1 (fun hb2 => ?_)
  refine Rf_le (e_rd rfl hb1) (e_rd rfl hb2) (hσ.2.1 _ _) (hσ.2.1 _ _) (fun _ => ?_) (fun _ => ?_)
  · refine Rf_Fl (by decide) (by decide) hσ (fun σ1 hσ1 => ?_)
    refine Rf_bnd hR hσ1 (zrs_cons hx0 (zrs_cons hx1 (zrs_cons (by decide) zrs_nil))) (e_cons rfl (e_cons rfl (e_cons (by decide) rfl))) (fun σ2 r2 hσ2 hr2 => ?_)
    refine Rf_01 rfl hr2 (fun hb3 => ?_)
    exact Rf_some hσ2 hr2 rfl
  · exact Rf_some hσ (by decide) (by decide)
theorem rZ_covers (rz : zF) (rm : mF) (hR : Rc rz rm) (β : Nat) (σ : zS) (hσ : zOK σ) (x0 x1 x2 : Int) (hx0 : zr x0) (hx1 : zr x1) (hx2 : zr x2) : Rf (kZ_covers rz β σ x0 x1 x2) (kM_covers rm (cv σ) (i32 x0) (i32 x1) (i32 x2)) β := by
  unfold kZ_covers kM_covers
  refine Rf_rd rfl hx0 (fun hb1 => ?_)
  refine Rf_eq rfl (e_rd rfl hb1) hx2 (hσ.2.1 _ _) (fun _ => ?_) (fun _ => ?_)
  · exact Rf_some hσ (by decide) (by decide)
  · refine Rf_rd2 rfl hb1 ?_
    refine Rf_rd rfl hx2 (fun hb2 => ?_)
    refine Rf_cp (by decide) (by decide) (by decide) (by decide) (by decide) (by decide) (fun hb3 => ?_)
    refine Rf_Cp rfl (e_kslot rfl hb2) (by decide) (by decide) (by decide) hb3 hσ (fun σ1 hσ1 => ?_)
    refine Rf_rd rfl hx1 (fun hb4 => ?_)
    refine Rf_g (fun hg5 => ?_)
    exact Rf_tail hR hσ1 (zrs_cons hx0 (zrs_cons hx1 (zrs_cons hx2 (zrs_cons hg5 (zrs_cons (hσ1.2.1 _ _) zrs_nil))))) (e_cons rfl (e_cons rfl (e_cons rfl (e_cons (e_add (e_rd rfl hb1) rfl) (e_cons (e_rd rfl hb4) rfl)))))
theorem rZ_covers_47 (rz : zF) (rm : mF) (hR : Rc rz rm) (β : Nat) (σ : zS) (hσ : zOK σ) (x0 x1 x2 x3 x4 : Int) (hx0 : zr x0) (hx1 : zr x1) (hx2 : zr x2) (hx3 : zr x3) (hx4 : zr x4) : Rf (kZ_covers_47 rz β σ x0 x1 x2 x3 x4) (kM_covers_47 rm (cv σ) (i32 x0) (i32 x1) (i32 x2) (i32 x3) (i32 x4)) β := by
  unfold kZ_covers_47 kM_covers_47
  refine Rf_rd rfl hx1 (fun hb1 => ?_)
  refine Rf_rd2 rfl hb1 ?_
  refine Rf_g (fun hg2 => ?_)
  refine Rf_le (e_add (e_rd rfl hb1) (e_rd rfl hb1)) rfl hg2 hx4 (fun _ => ?_) (fun _ => ?_)
  · exact Rf_some hσ (by decide) (by decide)
  · refine Rf_rd rfl hx4 (fun hb3 => ?_)
    refine Rf_rd rfl hx3 (fun hb4 => ?_)
    refine Rf_eq (e_rd rfl hb3) (e_rd rfl hb4) (hσ.2.1 _ _) (hσ.2.1 _ _) (fun _ => ?_) (fun _ => ?_)
    · exact Rf_tail hR hσ (zrs_cons hx0 (zrs_cons hx1 (zrs_cons hx2 (zrs_cons hx3 (zrs_cons hx4 (zrs_cons (by decide) zrs_nil)))))) (e_cons rfl (e_cons rfl (e_cons rfl (e_cons rfl (e_cons rfl (e_cons (by decide) rfl))))))
    · exact Rf_tail hR hσ (zrs_cons hx0 (zrs_cons hx1 (zrs_cons hx2 (zrs_cons hx3 (zrs_cons hx4 zrs_nil))))) (e_cons rfl (e_cons rfl (e_cons rfl (e_cons rfl (e_cons rfl rfl)))))
theorem rZ_covers_88 (rz : zF) (rm : mF) (hR : Rc rz rm) (β : Nat) (σ : zS) (hσ : zOK σ) (x0 x1 x2 x3 x4 x5 : Int) (hx0 : zr x0) (hx1 : zr x1) (hx2 : zr x2) (hx3 : zr x3) (hx4 : zr x4) (hx5 : zr x5) : Rf (kZ_covers_88 rz β σ x0 x1 x2 x3 x4 x5) (kM_covers_88 rm (cv σ) (i32 x0) (i32 x1) (i32 x2) (i32 x3) (i32 x4) (i32 x5)) β := by
  unfold kZ_covers_88 kM_covers_88
  refine Rf_le (by decide) rfl (by decide) hx5 (fun _ => ?_) (fun _ => ?_)
  · exact Rf_tail hR hσ (zrs_cons hx0 (zrs_cons hx1 (zrs_cons hx2 (zrs_cons hx3 (zrs_cons hx4 zrs_nil))))) (e_cons rfl (e_cons rfl (e_cons rfl (e_cons rfl (e_cons rfl rfl)))))
  · refine Rf_rd rfl hx2 (fun hb1 => ?_)
    refine Rf_cp (by decide) (by decide) (by decide) (by decide) (by decide) (by decide) (fun hb2 => ?_)
    refine Rf_Cp (e_kslot rfl hb1) rfl (by decide) (by decide) (by decide) hb2 hσ (fun σ1 hσ1 => ?_)
    refine Rf_rd rfl hx3 (fun hb3 => ?_)
    refine Rf_eq rfl (by decide) hx5 (by decide) (fun _ => ?_) (fun _ => ?_)
    · refine Rf_rd rfl hx4 (fun hb4 => ?_)
      exact Rf_tail hR hσ1 (zrs_cons hx0 (zrs_cons hx1 (zrs_cons hx2 (zrs_cons hx3 (zrs_cons hx4 (zrs_cons hx5 (zrs_cons (hσ1.2.1 _ _) (zrs_cons (hσ1.2.1 _ _) zrs_nil)))))))) (e_cons rfl (e_cons rfl (e_cons rfl (e_cons rfl (e_cons rfl (e_cons rfl (e_cons (e_rd rfl hb4) (e_cons (e_rd rfl hb3) rfl))))))))
    · refine Rf_rd rfl hx4 (fun hb5 => ?_)
      exact Rf_tail hR hσ1 (zrs_cons hx0 (zrs_cons hx1 (zrs_cons hx2 (zrs_cons hx3 (zrs_cons hx4 (zrs_cons hx5 (zrs_cons (hσ1.2.1 _ _) (zrs_cons (hσ1.2.1 _ _) zrs_nil)))))))) (e_cons rfl (e_cons rfl (e_cons rfl (e_cons rfl (e_cons rfl (e_cons rfl (e_cons (e_rd rfl hb5) (e_cons (e_rd rfl hb3) rfl))))))))
theorem rZ_covers_141 (rz : zF) (rm : mF) (hR : Rc rz rm) (β : Nat) (σ : zS) (hσ : zOK σ) (x0 x1 x2 x3 x4 x5 x6 x7 : Int) (hx0 : zr x0) (hx1 : zr x1) (hx2 : zr x2) (hx3 : zr x3) (hx4 : zr x4) (hx5 : zr x5) (hx6 : zr x6) (hx7 : zr x7) : Rf (kZ_covers_141 rz β σ x0 x1 x2 x3 x4 x5 x6 x7) (kM_covers_141 rm (cv σ) (i32 x0) (i32 x1) (i32 x2) (i32 x3) (i32 x4) (i32 x5) (i32 x6) (i32 x7)) β := by
  unfold kZ_covers_141 kM_covers_141
  refine Rf_bnd hR hσ (zrs_cons hx7 (zrs_cons hx6 zrs_nil)) (e_cons rfl (e_cons rfl rfl)) (fun σ1 r1 hσ1 hr1 => ?_)
  refine Rf_eq rfl (by decide) hr1 (by decide) (fun _ => ?_) (fun _ => ?_)
  · exact Rf_tail hR hσ1 (zrs_cons hx0 (zrs_cons hx1 (zrs_cons hx2 (zrs_cons hx3 (zrs_cons hx4 (zrs_cons hx5 zrs_nil)))))) (e_cons rfl (e_cons rfl (e_cons rfl (e_cons rfl (e_cons rfl (e_cons rfl rfl))))))
  · refine Rf_rd rfl hx3 (fun hb1 => ?_)
    refine Rf_eq rfl (by decide) hx5 (by decide) (fun _ => ?_) (fun _ => ?_)
    · refine Rf_rd rfl hx4 (fun hb2 => ?_)
      exact Rf_tail hR hσ1 (zrs_cons hx0 (zrs_cons hx1 (zrs_cons hx2 (zrs_cons hx3 (zrs_cons hx4 (zrs_cons hx5 (zrs_cons (hσ1.2.1 _ _) (zrs_cons (hσ1.2.1 _ _) zrs_nil)))))))) (e_cons rfl (e_cons rfl (e_cons rfl (e_cons rfl (e_cons rfl (e_cons rfl (e_cons (e_rd rfl hb2) (e_cons (e_rd rfl hb1) rfl))))))))
    · refine Rf_rd rfl hx4 (fun hb3 => ?_)
      exact Rf_tail hR hσ1 (zrs_cons hx0 (zrs_cons hx1 (zrs_cons hx2 (zrs_cons hx3 (zrs_cons hx4 (zrs_cons hx5 (zrs_cons (hσ1.2.1 _ _) (zrs_cons (hσ1.2.1 _ _) zrs_nil)))))))) (e_cons rfl (e_cons rfl (e_cons rfl (e_cons rfl (e_cons rfl (e_cons rfl (e_cons (e_rd rfl hb3) (e_cons (e_rd rfl hb1) rfl))))))))
theorem rZ_covers_177 (rz : zF) (rm : mF) (hR : Rc rz rm) (β : Nat) (σ : zS) (hσ : zOK σ) (x0 x1 x2 x3 x4 x5 x6 x7 : Int) (hx0 : zr x0) (hx1 : zr x1) (hx2 : zr x2) (hx3 : zr x3) (hx4 : zr x4) (hx5 : zr x5) (hx6 : zr x6) (hx7 : zr x7) : Rf (kZ_covers_177 rz β σ x0 x1 x2 x3 x4 x5 x6 x7) (kM_covers_177 rm (cv σ) (i32 x0) (i32 x1) (i32 x2) (i32 x3) (i32 x4) (i32 x5) (i32 x6) (i32 x7)) β := by
  unfold kZ_covers_177 kM_covers_177
  refine Rf_bnd hR hσ (zrs_cons hx7 (zrs_cons hx6 zrs_nil)) (e_cons rfl (e_cons rfl rfl)) (fun σ1 r1 hσ1 hr1 => ?_)
  refine Rf_eq rfl (by decide) hr1 (by decide) (fun _ => ?_) (fun _ => ?_)
  · exact Rf_tail hR hσ1 (zrs_cons hx0 (zrs_cons hx1 (zrs_cons hx2 (zrs_cons hx3 (zrs_cons hx4 (zrs_cons hx5 zrs_nil)))))) (e_cons rfl (e_cons rfl (e_cons rfl (e_cons rfl (e_cons rfl (e_cons rfl rfl))))))
  · refine Rf_g (fun hg1 => ?_)
    refine Rf_bnd hR hσ1 (zrs_cons hx0 (zrs_cons hx1 (zrs_cons hg1 zrs_nil))) (e_cons rfl (e_cons rfl (e_cons (e_add rfl (by decide)) rfl))) (fun σ2 r2 hσ2 hr2 => ?_)
    refine Rf_eq rfl (by decide) hr2 (by decide) (fun _ => ?_) (fun _ => ?_)
    · exact Rf_tail hR hσ2 (zrs_cons hx0 (zrs_cons hx1 (zrs_cons hx2 (zrs_cons hx3 (zrs_cons hx4 (zrs_cons hx5 zrs_nil)))))) (e_cons rfl (e_cons rfl (e_cons rfl (e_cons rfl (e_cons rfl (e_cons rfl rfl))))))
    · exact Rf_some hσ2 (by decide) (by decide)
theorem rZ_covers_197 (rz : zF) (rm : mF) (hR : Rc rz rm) (β : Nat) (σ : zS) (hσ : zOK σ) (x0 x1 x2 x3 x4 x5 : Int) (hx0 : zr x0) (hx1 : zr x1) (hx2 : zr x2) (hx3 : zr x3) (hx4 : zr x4) (hx5 : zr x5) : Rf (kZ_covers_197 rz β σ x0 x1 x2 x3 x4 x5) (kM_covers_197 rm (cv σ) (i32 x0) (i32 x1) (i32 x2) (i32 x3) (i32 x4) (i32 x5)) β := by
  unfold kZ_covers_197 kM_covers_197
  refine Rf_g (fun hg1 => ?_)
  exact Rf_tail hR hσ (zrs_cons hx0 (zrs_cons hx1 (zrs_cons hx2 (zrs_cons hx3 (zrs_cons hx4 (zrs_cons hg1 zrs_nil)))))) (e_cons rfl (e_cons rfl (e_cons rfl (e_cons rfl (e_cons rfl (e_cons (e_add rfl (by decide)) rfl))))))
theorem rZ_covers_203 (rz : zF) (rm : mF) (hR : Rc rz rm) (β : Nat) (σ : zS) (hσ : zOK σ) (x0 x1 x2 x3 x4 : Int) (hx0 : zr x0) (hx1 : zr x1) (hx2 : zr x2) (hx3 : zr x3) (hx4 : zr x4) : Rf (kZ_covers_203 rz β σ x0 x1 x2 x3 x4) (kM_covers_203 rm (cv σ) (i32 x0) (i32 x1) (i32 x2) (i32 x3) (i32 x4)) β := by
  unfold kZ_covers_203 kM_covers_203
  refine Rf_g (fun hg1 => ?_)
  exact Rf_tail hR hσ (zrs_cons hx0 (zrs_cons hx1 (zrs_cons hx2 (zrs_cons hx3 (zrs_cons hg1 zrs_nil))))) (e_cons rfl (e_cons rfl (e_cons rfl (e_cons rfl (e_cons (e_add rfl (by decide)) rfl)))))
theorem rZ_settle (rz : zF) (rm : mF) (hR : Rc rz rm) (β : Nat) (σ : zS) (hσ : zOK σ) (x0 : Int) (hx0 : zr x0) : Rf (kZ_settle rz β σ x0) (kM_settle rm (cv σ) (i32 x0)) β := by
  unfold kZ_settle kM_settle
  exact Rf_tail hR hσ (zrs_cons hx0 (zrs_cons (by decide) zrs_nil)) (e_cons rfl (e_cons (by decide) rfl))
theorem rZ_settle_2 (rz : zF) (rm : mF) (hR : Rc rz rm) (β : Nat) (σ : zS) (hσ : zOK σ) (x0 x1 : Int) (hx0 : zr x0) (hx1 : zr x1) : Rf (kZ_settle_2 rz β σ x0 x1) (kM_settle_2 rm (cv σ) (i32 x0) (i32 x1)) β := by
  unfold kZ_settle_2 kM_settle_2
  refine Rf_le rfl rfl (hσ.1 84) hx1 (fun _ => ?_) (fun _ => ?_)
  · exact Rf_tail hR hσ (zrs_cons hx0 (zrs_cons (by decide) zrs_nil)) (e_cons rfl (e_cons (by decide) rfl))
  · refine Rf_rd rfl hx1 (fun hb1 => ?_)
    refine Rf_eq (e_rd rfl hb1) (by decide) (hσ.2.1 _ _) (by decide) (fun _ => ?_) (fun _ => ?_)
    · refine Rf_bnd hR hσ (zrs_cons hx0 (zrs_cons hx1 zrs_nil)) (e_cons rfl (e_cons rfl rfl)) (fun σ1 r1 hσ1 hr1 => ?_)
      refine Rf_eq rfl (by decide) hr1 (by decide) (fun _ => ?_) (fun _ => ?_)
      · exact Rf_tail hR hσ1 (zrs_cons hx0 (zrs_cons hx1 zrs_nil)) (e_cons rfl (e_cons rfl rfl))
      · refine Rf_I (e_wadd rfl (by decide)) (zr_to _) hσ1 (fun σ2 hσ2 => ?_)
        refine Rf_rd2 rfl hb1 ?_
        refine Rf_A rfl hb1 (by decide) (by decide) hσ2 (fun σ3 hσ3 => ?_)
        exact Rf_tail hR hσ3 (zrs_cons hx0 (zrs_cons hx1 zrs_nil)) (e_cons rfl (e_cons rfl rfl))
    · exact Rf_tail hR hσ (zrs_cons hx0 (zrs_cons hx1 zrs_nil)) (e_cons rfl (e_cons rfl rfl))
theorem rZ_settle_49 (rz : zF) (rm : mF) (hR : Rc rz rm) (β : Nat) (σ : zS) (hσ : zOK σ) (x0 x1 : Int) (hx0 : zr x0) (hx1 : zr x1) : Rf (kZ_settle_49 rz β σ x0 x1) (kM_settle_49 rm (cv σ) (i32 x0) (i32 x1)) β := by
  unfold kZ_settle_49 kM_settle_49
  refine Rf_g (fun hg1 => ?_)
  exact Rf_tail hR hσ (zrs_cons hx0 (zrs_cons hg1 zrs_nil)) (e_cons rfl (e_cons (e_add rfl (by decide)) rfl))
theorem rZ_settle_57 (rz : zF) (rm : mF) (hR : Rc rz rm) (β : Nat) (σ : zS) (hσ : zOK σ) (x0 x1 : Int) (hx0 : zr x0) (hx1 : zr x1) : Rf (kZ_settle_57 rz β σ x0 x1) (kM_settle_57 rm (cv σ) (i32 x0) (i32 x1)) β := by
  unfold kZ_settle_57 kM_settle_57
  refine Rf_le rfl rfl (hσ.1 84) hx1 (fun _ => ?_) (fun _ => ?_)
  · exact Rf_tail hR hσ (zrs_cons hx0 (zrs_cons hx1 zrs_nil)) (e_cons rfl (e_cons rfl rfl))
  · refine Rf_bnd hR hσ (zrs_cons hx0 zrs_nil) (e_cons rfl rfl) (fun σ1 r1 hσ1 hr1 => ?_)
    refine Rf_eq rfl (by decide) hr1 (by decide) (fun _ => ?_) (fun _ => ?_)
    · exact Rf_tail hR hσ1 (zrs_cons hx0 (zrs_cons hx1 zrs_nil)) (e_cons rfl (e_cons rfl rfl))
    · refine Rf_rd rfl hx1 (fun hb1 => ?_)
      refine Rf_eq (e_rd rfl hb1) (by decide) (hσ1.2.1 _ _) (by decide) (fun _ => ?_) (fun _ => ?_)
      · refine Rf_bnd hR hσ1 (zrs_cons hx0 (zrs_cons hx1 zrs_nil)) (e_cons rfl (e_cons rfl rfl)) (fun σ2 r2 hσ2 hr2 => ?_)
        refine Rf_eq rfl (by decide) hr2 (by decide) (fun _ => ?_) (fun _ => ?_)
        · exact Rf_tail hR hσ2 (zrs_cons hx0 (zrs_cons hx1 zrs_nil)) (e_cons rfl (e_cons rfl rfl))
        · refine Rf_rd2 rfl hb1 ?_
          refine Rf_A rfl hb1 (by decide) (by decide) hσ2 (fun σ3 hσ3 => ?_)
          exact Rf_tail hR hσ3 (zrs_cons hx0 (zrs_cons hx1 zrs_nil)) (e_cons rfl (e_cons rfl rfl))
      · exact Rf_tail hR hσ1 (zrs_cons hx0 (zrs_cons hx1 zrs_nil)) (e_cons rfl (e_cons rfl rfl))
theorem rZ_settle_99 (rz : zF) (rm : mF) (hR : Rc rz rm) (β : Nat) (σ : zS) (hσ : zOK σ) (x0 x1 : Int) (hx0 : zr x0) (hx1 : zr x1) : Rf (kZ_settle_99 rz β σ x0 x1) (kM_settle_99 rm (cv σ) (i32 x0) (i32 x1)) β := by
  unfold kZ_settle_99 kM_settle_99
  refine Rf_g (fun hg1 => ?_)
  exact Rf_tail hR hσ (zrs_cons hx0 (zrs_cons hg1 zrs_nil)) (e_cons rfl (e_cons (e_add rfl (by decide)) rfl))
theorem rZ_settle_105 (rz : zF) (rm : mF) (hR : Rc rz rm) (β : Nat) (σ : zS) (hσ : zOK σ) (x0 x1 : Int) (hx0 : zr x0) (hx1 : zr x1) : Rf (kZ_settle_105 rz β σ x0 x1) (kM_settle_105 rm (cv σ) (i32 x0) (i32 x1)) β := by
  unfold kZ_settle_105 kM_settle_105
  refine Rf_rd rfl hx0 (fun hb1 => ?_)
  refine Rf_A rfl hb1 (by decide) (by decide) hσ (fun σ1 hσ1 => ?_)
  exact Rf_tail hR hσ1 (zrs_cons hx0 (zrs_cons (hσ1.1 84) (zrs_cons (by decide) zrs_nil))) (e_cons rfl (e_cons rfl (e_cons (by decide) rfl)))
theorem rZ_settle_119 (rz : zF) (rm : mF) (hR : Rc rz rm) (β : Nat) (σ : zS) (hσ : zOK σ) (x0 x1 x2 : Int) (hx0 : zr x0) (hx1 : zr x1) (hx2 : zr x2) : Rf (kZ_settle_119 rz β σ x0 x1 x2) (kM_settle_119 rm (cv σ) (i32 x0) (i32 x1) (i32 x2)) β := by
  unfold kZ_settle_119 kM_settle_119
  refine Rf_le rfl rfl hx1 hx2 (fun _ => ?_) (fun _ => ?_)
  · exact Rf_tail hR hσ (zrs_cons hx0 (zrs_cons hx1 (zrs_cons hx2 zrs_nil))) (e_cons rfl (e_cons rfl (e_cons rfl rfl)))
  · refine Rf_eq rfl (by decide) (hσ.1 87) (by decide) (fun _ => ?_) (fun _ => ?_)
    · refine Rf_rd rfl hx2 (fun hb1 => ?_)
      refine Rf_eq (e_rd rfl hb1) (by decide) (hσ.2.1 _ _) (by decide) (fun _ => ?_) (fun _ => ?_)
      · refine Rf_bnd hR hσ (zrs_cons hx2 (zrs_cons hx0 zrs_nil)) (e_cons rfl (e_cons rfl rfl)) (fun σ1 r1 hσ1 hr1 => ?_)
        refine Rf_eq rfl rfl hx2 hx0 (fun _ => ?_) (fun _ => ?_)
        · exact Rf_tail hR hσ1 (zrs_cons hx0 (zrs_cons hx1 (zrs_cons hx2 zrs_nil))) (e_cons rfl (e_cons rfl (e_cons rfl rfl)))
        · refine Rf_eq rfl (by decide) (hσ1.1 87) (by decide) (fun _ => ?_) (fun _ => ?_)
          · refine Rf_bnd hR hσ1 (zrs_cons hx0 (zrs_cons hx2 zrs_nil)) (e_cons rfl (e_cons rfl rfl)) (fun σ2 r2 hσ2 hr2 => ?_)
            exact Rf_tail hR hσ2 (zrs_cons hx0 (zrs_cons hx1 (zrs_cons hx2 zrs_nil))) (e_cons rfl (e_cons rfl (e_cons rfl rfl)))
          · exact Rf_tail hR hσ1 (zrs_cons hx0 (zrs_cons hx1 (zrs_cons hx2 zrs_nil))) (e_cons rfl (e_cons rfl (e_cons rfl rfl)))
      · exact Rf_tail hR hσ (zrs_cons hx0 (zrs_cons hx1 (zrs_cons hx2 zrs_nil))) (e_cons rfl (e_cons rfl (e_cons rfl rfl)))
    · exact Rf_tail hR hσ (zrs_cons hx0 (zrs_cons hx1 (zrs_cons hx2 zrs_nil))) (e_cons rfl (e_cons rfl (e_cons rfl rfl)))
theorem rZ_settle_168 (rz : zF) (rm : mF) (hR : Rc rz rm) (β : Nat) (σ : zS) (hσ : zOK σ) (x0 x1 x2 : Int) (hx0 : zr x0) (hx1 : zr x1) (hx2 : zr x2) : Rf (kZ_settle_168 rz β σ x0 x1 x2) (kM_settle_168 rm (cv σ) (i32 x0) (i32 x1) (i32 x2)) β := by
  unfold kZ_settle_168 kM_settle_168
  refine Rf_g (fun hg1 => ?_)
  exact Rf_tail hR hσ (zrs_cons hx0 (zrs_cons hx1 (zrs_cons hg1 zrs_nil))) (e_cons rfl (e_cons rfl (e_cons (e_add rfl (by decide)) rfl)))
theorem rZ_settle_174 (rz : zF) (rm : mF) (hR : Rc rz rm) (β : Nat) (σ : zS) (hσ : zOK σ) (x0 x1 x2 : Int) (hx0 : zr x0) (hx1 : zr x1) (hx2 : zr x2) : Rf (kZ_settle_174 rz β σ x0 x1 x2) (kM_settle_174 rm (cv σ) (i32 x0) (i32 x1) (i32 x2)) β := by
  unfold kZ_settle_174 kM_settle_174
  refine Rf_eq rfl (by decide) (hσ.1 87) (by decide) (fun _ => ?_) (fun _ => ?_)
  · refine Rf_bnd hR hσ (zrs_cons hx0 zrs_nil) (e_cons rfl rfl) (fun σ1 r1 hσ1 hr1 => ?_)
    exact Rf_tail hR hσ1 (zrs_cons hx0 (zrs_cons hx1 (zrs_cons hx2 zrs_nil))) (e_cons rfl (e_cons rfl (e_cons rfl rfl)))
  · exact Rf_tail hR hσ (zrs_cons hx0 (zrs_cons hx1 (zrs_cons hx2 zrs_nil))) (e_cons rfl (e_cons rfl (e_cons rfl rfl)))
theorem rZ_settle_186 (rz : zF) (rm : mF) (hR : Rc rz rm) (β : Nat) (σ : zS) (hσ : zOK σ) (x0 x1 x2 : Int) (hx0 : zr x0) (hx1 : zr x1) (hx2 : zr x2) : Rf (kZ_settle_186 rz β σ x0 x1 x2) (kM_settle_186 rm (cv σ) (i32 x0) (i32 x1) (i32 x2)) β := by
  unfold kZ_settle_186 kM_settle_186
  refine Rf_eq rfl (by decide) (hσ.1 87) (by decide) (fun _ => ?_) (fun _ => ?_)
  · refine Rf_bnd hR hσ (zrs_cons hx0 zrs_nil) (e_cons rfl rfl) (fun σ1 r1 hσ1 hr1 => ?_)
    exact Rf_tail hR hσ1 (zrs_cons hx0 (zrs_cons hx1 (zrs_cons hx2 zrs_nil))) (e_cons rfl (e_cons rfl (e_cons rfl rfl)))
  · exact Rf_tail hR hσ (zrs_cons hx0 (zrs_cons hx1 (zrs_cons hx2 zrs_nil))) (e_cons rfl (e_cons rfl (e_cons rfl rfl)))
theorem rZ_settle_198 (rz : zF) (rm : mF) (hR : Rc rz rm) (β : Nat) (σ : zS) (hσ : zOK σ) (x0 x1 x2 : Int) (hx0 : zr x0) (hx1 : zr x1) (hx2 : zr x2) : Rf (kZ_settle_198 rz β σ x0 x1 x2) (kM_settle_198 rm (cv σ) (i32 x0) (i32 x1) (i32 x2)) β := by
  unfold kZ_settle_198 kM_settle_198
  exact Rf_some hσ (by decide) (by decide)
theorem rZ_couldRewrite (rz : zF) (rm : mF) (hR : Rc rz rm) (β : Nat) (σ : zS) (hσ : zOK σ) (x0 x1 : Int) (hx0 : zr x0) (hx1 : zr x1) : Rf (kZ_couldRewrite rz β σ x0 x1) (kM_couldRewrite rm (cv σ) (i32 x0) (i32 x1)) β := by
  unfold kZ_couldRewrite kM_couldRewrite
  refine Rf_rd rfl hx1 (fun hb1 => ?_)
  exact Rf_tail hR hσ (zrs_cons hx0 (zrs_cons hx1 (zrs_cons (hσ.2.1 _ _) zrs_nil))) (e_cons rfl (e_cons rfl (e_cons (e_rd rfl hb1) rfl)))
theorem rZ_couldRewrite_7 (rz : zF) (rm : mF) (hR : Rc rz rm) (β : Nat) (σ : zS) (hσ : zOK σ) (x0 x1 x2 : Int) (hx0 : zr x0) (hx1 : zr x1) (hx2 : zr x2) : Rf (kZ_couldRewrite_7 rz β σ x0 x1 x2) (kM_couldRewrite_7 rm (cv σ) (i32 x0) (i32 x1) (i32 x2)) β := by
  unfold kZ_couldRewrite_7 kM_couldRewrite_7
  refine Rf_rd rfl hx1 (fun hb1 => ?_)
  refine Rf_rd2 rfl hb1 ?_
  refine Rf_g (fun hg2 => ?_)
  refine Rf_le (e_add (e_rd rfl hb1) (e_rd rfl hb1)) rfl hg2 hx2 (fun _ => ?_) (fun _ => ?_)
  · exact Rf_some hσ (by decide) (by decide)
  · refine Rf_rd rfl hx2 (fun hb3 => ?_)
    refine Rf_bnd hR hσ (zrs_cons hx0 (zrs_cons (hσ.2.1 _ _) zrs_nil)) (e_cons rfl (e_cons (e_rd rfl hb3) rfl)) (fun σ1 r1 hσ1 hr1 => ?_)
    refine Rf_eq rfl (by decide) hr1 (by decide) (fun _ => ?_) (fun _ => ?_)
    · refine Rf_rd2 rfl hb3 ?_
      refine Rf_bnd hR hσ1 (zrs_cons hx0 (zrs_cons (hσ1.2.1 _ _) zrs_nil)) (e_cons rfl (e_cons (e_rd rfl hb3) rfl)) (fun σ2 r2 hσ2 hr2 => ?_)
      refine Rf_eq rfl (by decide) hr2 (by decide) (fun _ => ?_) (fun _ => ?_)
      · refine Rf_g (fun hg4 => ?_)
        exact Rf_tail hR hσ2 (zrs_cons hx0 (zrs_cons hx1 (zrs_cons hg4 zrs_nil))) (e_cons rfl (e_cons rfl (e_cons (e_add rfl (by decide)) rfl)))
      · exact Rf_tail hR hσ2 (zrs_cons hx0 (zrs_cons hx1 (zrs_cons hx2 zrs_nil))) (e_cons rfl (e_cons rfl (e_cons rfl rfl)))
    · exact Rf_tail hR hσ1 (zrs_cons hx0 (zrs_cons hx1 (zrs_cons hx2 zrs_nil))) (e_cons rfl (e_cons rfl (e_cons rfl rfl)))
theorem rZ_couldRewrite_52 (rz : zF) (rm : mF) (hR : Rc rz rm) (β : Nat) (σ : zS) (hσ : zOK σ) (x0 x1 x2 : Int) (hx0 : zr x0) (hx1 : zr x1) (hx2 : zr x2) : Rf (kZ_couldRewrite_52 rz β σ x0 x1 x2) (kM_couldRewrite_52 rm (cv σ) (i32 x0) (i32 x1) (i32 x2)) β := by
  unfold kZ_couldRewrite_52 kM_couldRewrite_52
  exact Rf_some hσ (by decide) (by decide)
theorem rZ_could (rz : zF) (rm : mF) (hR : Rc rz rm) (β : Nat) (σ : zS) (hσ : zOK σ) (x0 x1 : Int) (hx0 : zr x0) (hx1 : zr x1) : Rf (kZ_could rz β σ x0 x1) (kM_could rm (cv σ) (i32 x0) (i32 x1)) β := by
  unfold kZ_could kM_could
  exact Rf_tail hR hσ (zrs_cons hx0 (zrs_cons hx1 (zrs_cons (by decide) zrs_nil))) (e_cons rfl (e_cons rfl (e_cons (by decide) rfl)))
theorem rZ_could_2 (rz : zF) (rm : mF) (hR : Rc rz rm) (β : Nat) (σ : zS) (hσ : zOK σ) (x0 x1 x2 : Int) (hx0 : zr x0) (hx1 : zr x1) (hx2 : zr x2) : Rf (kZ_could_2 rz β σ x0 x1 x2) (kM_could_2 rm (cv σ) (i32 x0) (i32 x1) (i32 x2)) β := by
  unfold kZ_could_2 kM_could_2
  refine Rf_le (by decide) rfl (by decide) hx2 (fun _ => ?_) (fun _ => ?_)
  · refine Rf_rd rfl hx1 (fun hb1 => ?_)
    exact Rf_tail hR hσ (zrs_cons hx0 (zrs_cons hx1 (zrs_cons (hσ.2.1 _ _) zrs_nil))) (e_cons rfl (e_cons rfl (e_cons (e_rd rfl hb1) rfl)))
  · refine Rf_I (by decide) (by decide) hσ (fun σ1 hσ1 => ?_)
    refine Rf_bnd hR hσ1 (zrs_cons hx0 (zrs_cons hx2 (zrs_cons hx1 zrs_nil))) (e_cons rfl (e_cons rfl (e_cons rfl rfl))) (fun σ2 r2 hσ2 hr2 => ?_)
    refine Rf_lt rfl (by decide) hr2 (by decide) (fun _ => ?_) (fun _ => ?_)
    · refine Rf_g (fun hg2 => ?_)
      exact Rf_tail hR hσ2 (zrs_cons hx0 (zrs_cons hx1 (zrs_cons hg2 zrs_nil))) (e_cons rfl (e_cons rfl (e_cons (e_add rfl (by decide)) rfl)))
    · exact Rf_some hσ2 (by decide) (by decide)
theorem rZ_could_39 (rz : zF) (rm : mF) (hR : Rc rz rm) (β : Nat) (σ : zS) (hσ : zOK σ) (x0 x1 x2 : Int) (hx0 : zr x0) (hx1 : zr x1) (hx2 : zr x2) : Rf (kZ_could_39 rz β σ x0 x1 x2) (kM_could_39 rm (cv σ) (i32 x0) (i32 x1) (i32 x2)) β := by
  unfold kZ_could_39 kM_could_39
  refine Rf_lt rfl (by decide) hx2 (by decide) (fun _ => ?_) (fun _ => ?_)
  · exact Rf_some hσ (by decide) (by decide)
  · refine Rf_bnd hR hσ (zrs_cons hx0 (zrs_cons hx2 zrs_nil)) (e_cons rfl (e_cons rfl rfl)) (fun σ1 r1 hσ1 hr1 => ?_)
    refine Rf_eq rfl (by decide) hr1 (by decide) (fun _ => ?_) (fun _ => ?_)
    · refine Rf_rd rfl hx2 (fun hb1 => ?_)
      exact Rf_tail hR hσ1 (zrs_cons hx0 (zrs_cons hx1 (zrs_cons (hσ1.2.1 _ _) zrs_nil))) (e_cons rfl (e_cons rfl (e_cons (e_rd rfl hb1) rfl)))
    · exact Rf_some hσ1 (by decide) (by decide)
theorem rZ_superpose (rz : zF) (rm : mF) (hR : Rc rz rm) (β : Nat) (σ : zS) (hσ : zOK σ) (x0 x1 : Int) (hx0 : zr x0) (hx1 : zr x1) : Rf (kZ_superpose rz β σ x0 x1) (kM_superpose rm (cv σ) (i32 x0) (i32 x1)) β := by
  unfold kZ_superpose kM_superpose
  refine Rf_rd rfl hx0 (fun hb1 => ?_)
  exact Rf_tail hR hσ (zrs_cons hx0 (zrs_cons hx1 (zrs_cons (hσ.2.1 _ _) zrs_nil))) (e_cons rfl (e_cons rfl (e_cons (e_rd rfl hb1) rfl)))
theorem rZ_superpose_7 (rz : zF) (rm : mF) (hR : Rc rz rm) (β : Nat) (σ : zS) (hσ : zOK σ) (x0 x1 x2 : Int) (hx0 : zr x0) (hx1 : zr x1) (hx2 : zr x2) : Rf (kZ_superpose_7 rz β σ x0 x1 x2) (kM_superpose_7 rm (cv σ) (i32 x0) (i32 x1) (i32 x2)) β := by
  unfold kZ_superpose_7 kM_superpose_7
  refine Rf_rd rfl hx0 (fun hb1 => ?_)
  refine Rf_rd2 rfl hb1 ?_
  refine Rf_g (fun hg2 => ?_)
  refine Rf_le (e_add (e_rd rfl hb1) (e_rd rfl hb1)) rfl hg2 hx2 (fun _ => ?_) (fun _ => ?_)
  · exact Rf_some hσ (by decide) (by decide)
  · refine Rf_rd rfl hx2 (fun hb3 => ?_)
    refine Rf_eq (e_rd rfl hb3) (by decide) (hσ.2.1 _ _) (by decide) (fun _ => ?_) (fun _ => ?_)
    · exact Rf_tail hR hσ (zrs_cons hx0 (zrs_cons hx1 (zrs_cons hx2 zrs_nil))) (e_cons rfl (e_cons rfl (e_cons rfl rfl)))
    · refine Rf_rd2 rfl hb3 ?_
      refine Rf_eq (e_rd rfl hb3) (by decide) (hσ.2.1 _ _) (by decide) (fun _ => ?_) (fun _ => ?_)
      · exact Rf_tail hR hσ (zrs_cons hx0 (zrs_cons hx1 (zrs_cons hx2 zrs_nil))) (e_cons rfl (e_cons rfl (e_cons rfl rfl)))
      · exact Rf_tail hR hσ (zrs_cons hx0 (zrs_cons hx1 (zrs_cons hx2 (zrs_cons (by decide) zrs_nil)))) (e_cons rfl (e_cons rfl (e_cons rfl (e_cons (by decide) rfl))))
theorem rZ_superpose_48 (rz : zF) (rm : mF) (hR : Rc rz rm) (β : Nat) (σ : zS) (hσ : zOK σ) (x0 x1 x2 x3 : Int) (hx0 : zr x0) (hx1 : zr x1) (hx2 : zr x2) (hx3 : zr x3) : Rf (kZ_superpose_48 rz β σ x0 x1 x2 x3) (kM_superpose_48 rm (cv σ) (i32 x0) (i32 x1) (i32 x2) (i32 x3)) β := by
  unfold kZ_superpose_48 kM_superpose_48
  refine Rf_le (by decide) rfl (by decide) hx3 (fun _ => ?_) (fun _ => ?_)
  · exact Rf_tail hR hσ (zrs_cons hx0 (zrs_cons hx1 (zrs_cons hx2 zrs_nil))) (e_cons rfl (e_cons rfl (e_cons rfl rfl)))
  · refine Rf_bnd hR hσ (zrs_cons hx2 (zrs_cons hx3 zrs_nil)) (e_cons rfl (e_cons rfl rfl)) (fun σ1 r1 hσ1 hr1 => ?_)
    refine Rf_eq rfl (by decide) hr1 (by decide) (fun _ => ?_) (fun _ => ?_)
    · exact Rf_tail hR hσ1 (zrs_cons hx0 (zrs_cons hx1 (zrs_cons hx2 (zrs_cons hx3 zrs_nil)))) (e_cons rfl (e_cons rfl (e_cons rfl (e_cons rfl rfl))))
    · refine Rf_rd rfl hx1 (fun hb1 => ?_)
      exact Rf_tail hR hσ1 (zrs_cons hx0 (zrs_cons hx1 (zrs_cons hx2 (zrs_cons hx3 (zrs_cons (hσ1.2.1 _ _) zrs_nil))))) (e_cons rfl (e_cons rfl (e_cons rfl (e_cons rfl (e_cons (e_rd rfl hb1) rfl)))))
theorem rZ_superpose_75 (rz : zF) (rm : mF) (hR : Rc rz rm) (β : Nat) (σ : zS) (hσ : zOK σ) (x0 x1 x2 x3 x4 : Int) (hx0 : zr x0) (hx1 : zr x1) (hx2 : zr x2) (hx3 : zr x3) (hx4 : zr x4) : Rf (kZ_superpose_75 rz β σ x0 x1 x2 x3 x4) (kM_superpose_75 rm (cv σ) (i32 x0) (i32 x1) (i32 x2) (i32 x3) (i32 x4)) β := by
  unfold kZ_superpose_75 kM_superpose_75
  refine Rf_rd rfl hx1 (fun hb1 => ?_)
  refine Rf_rd2 rfl hb1 ?_
  refine Rf_g (fun hg2 => ?_)
  refine Rf_le (e_add (e_rd rfl hb1) (e_rd rfl hb1)) rfl hg2 hx4 (fun _ => ?_) (fun _ => ?_)
  · exact Rf_tail hR hσ (zrs_cons hx0 (zrs_cons hx1 (zrs_cons hx2 (zrs_cons hx3 zrs_nil)))) (e_cons rfl (e_cons rfl (e_cons rfl (e_cons rfl rfl))))
  · refine Rf_rd rfl hx4 (fun hb3 => ?_)
    refine Rf_eq (e_rd rfl hb3) (by decide) (hσ.2.1 _ _) (by decide) (fun _ => ?_) (fun _ => ?_)
    · exact Rf_tail hR hσ (zrs_cons hx0 (zrs_cons hx1 (zrs_cons hx2 (zrs_cons hx3 (zrs_cons hx4 zrs_nil))))) (e_cons rfl (e_cons rfl (e_cons rfl (e_cons rfl (e_cons rfl rfl)))))
    · exact Rf_tail hR hσ (zrs_cons hx0 (zrs_cons hx1 (zrs_cons hx2 (zrs_cons hx3 (zrs_cons hx4 (zrs_cons (by decide) zrs_nil)))))) (e_cons rfl (e_cons rfl (e_cons rfl (e_cons rfl (e_cons rfl (e_cons (by decide) rfl))))))
theorem rZ_superpose_109 (rz : zF) (rm : mF) (hR : Rc rz rm) (β : Nat) (σ : zS) (hσ : zOK σ) (x0 x1 x2 x3 x4 x5 : Int) (hx0 : zr x0) (hx1 : zr x1) (hx2 : zr x2) (hx3 : zr x3) (hx4 : zr x4) (hx5 : zr x5) : Rf (kZ_superpose_109 rz β σ x0 x1 x2 x3 x4 x5) (kM_superpose_109 rm (cv σ) (i32 x0) (i32 x1) (i32 x2) (i32 x3) (i32 x4) (i32 x5)) β := by
  unfold kZ_superpose_109 kM_superpose_109
  refine Rf_le (by decide) rfl (by decide) hx5 (fun _ => ?_) (fun _ => ?_)
  · exact Rf_tail hR hσ (zrs_cons hx0 (zrs_cons hx1 (zrs_cons hx2 (zrs_cons hx3 (zrs_cons hx4 zrs_nil))))) (e_cons rfl (e_cons rfl (e_cons rfl (e_cons rfl (e_cons rfl rfl)))))
  · refine Rf_eq rfl (by decide) (hσ.1 87) (by decide) (fun _ => ?_) (fun _ => ?_)
    · refine Rf_bnd hR hσ (zrs_cons hx4 (zrs_cons hx5 zrs_nil)) (e_cons rfl (e_cons rfl rfl)) (fun σ1 r1 hσ1 hr1 => ?_)
      refine Rf_eq rfl (by decide) hr1 (by decide) (fun _ => ?_) (fun _ => ?_)
      · exact Rf_tail hR hσ1 (zrs_cons hx0 (zrs_cons hx1 (zrs_cons hx2 (zrs_cons hx3 (zrs_cons hx4 (zrs_cons hx5 zrs_nil)))))) (e_cons rfl (e_cons rfl (e_cons rfl (e_cons rfl (e_cons rfl (e_cons rfl rfl))))))
      · refine Rf_bnd hR hσ1 (zrs_cons hx4 (zrs_cons hx5 (zrs_cons (by decide) zrs_nil))) (e_cons rfl (e_cons rfl (e_cons (by decide) rfl))) (fun σ2 r2 hσ2 hr2 => ?_)
        refine Rf_bnd hR hσ2 (zrs_cons hx0 (zrs_cons hx1 (zrs_cons hx2 (zrs_cons hx3 (zrs_cons hx4 (zrs_cons hr2 zrs_nil)))))) (e_cons rfl (e_cons rfl (e_cons rfl (e_cons rfl (e_cons rfl (e_cons rfl rfl)))))) (fun σ3 r3 hσ3 hr3 => ?_)
        exact Rf_tail hR hσ3 (zrs_cons hx0 (zrs_cons hx1 (zrs_cons hx2 (zrs_cons hx3 (zrs_cons hx4 (zrs_cons hx5 zrs_nil)))))) (e_cons rfl (e_cons rfl (e_cons rfl (e_cons rfl (e_cons rfl (e_cons rfl rfl))))))
    · exact Rf_tail hR hσ (zrs_cons hx0 (zrs_cons hx1 (zrs_cons hx2 (zrs_cons hx3 (zrs_cons hx4 zrs_nil))))) (e_cons rfl (e_cons rfl (e_cons rfl (e_cons rfl (e_cons rfl rfl)))))
theorem rZ_superpose_153 (rz : zF) (rm : mF) (hR : Rc rz rm) (β : Nat) (σ : zS) (hσ : zOK σ) (x0 x1 x2 x3 x4 x5 : Int) (hx0 : zr x0) (hx1 : zr x1) (hx2 : zr x2) (hx3 : zr x3) (hx4 : zr x4) (hx5 : zr x5) : Rf (kZ_superpose_153 rz β σ x0 x1 x2 x3 x4 x5) (kM_superpose_153 rm (cv σ) (i32 x0) (i32 x1) (i32 x2) (i32 x3) (i32 x4) (i32 x5)) β := by
  unfold kZ_superpose_153 kM_superpose_153
  refine Rf_g (fun hg1 => ?_)
  exact Rf_tail hR hσ (zrs_cons hx0 (zrs_cons hx1 (zrs_cons hx2 (zrs_cons hx3 (zrs_cons hx4 (zrs_cons hg1 zrs_nil)))))) (e_cons rfl (e_cons rfl (e_cons rfl (e_cons rfl (e_cons rfl (e_cons (e_add rfl (by decide)) rfl))))))
theorem rZ_superpose_159 (rz : zF) (rm : mF) (hR : Rc rz rm) (β : Nat) (σ : zS) (hσ : zOK σ) (x0 x1 x2 x3 x4 : Int) (hx0 : zr x0) (hx1 : zr x1) (hx2 : zr x2) (hx3 : zr x3) (hx4 : zr x4) : Rf (kZ_superpose_159 rz β σ x0 x1 x2 x3 x4) (kM_superpose_159 rm (cv σ) (i32 x0) (i32 x1) (i32 x2) (i32 x3) (i32 x4)) β := by
  unfold kZ_superpose_159 kM_superpose_159
  refine Rf_g (fun hg1 => ?_)
  exact Rf_tail hR hσ (zrs_cons hx0 (zrs_cons hx1 (zrs_cons hx2 (zrs_cons hx3 (zrs_cons hg1 zrs_nil))))) (e_cons rfl (e_cons rfl (e_cons rfl (e_cons rfl (e_cons (e_add rfl (by decide)) rfl)))))
theorem rZ_superpose_165 (rz : zF) (rm : mF) (hR : Rc rz rm) (β : Nat) (σ : zS) (hσ : zOK σ) (x0 x1 x2 x3 : Int) (hx0 : zr x0) (hx1 : zr x1) (hx2 : zr x2) (hx3 : zr x3) : Rf (kZ_superpose_165 rz β σ x0 x1 x2 x3) (kM_superpose_165 rm (cv σ) (i32 x0) (i32 x1) (i32 x2) (i32 x3)) β := by
  unfold kZ_superpose_165 kM_superpose_165
  refine Rf_g (fun hg1 => ?_)
  exact Rf_tail hR hσ (zrs_cons hx0 (zrs_cons hx1 (zrs_cons hx2 (zrs_cons hg1 zrs_nil)))) (e_cons rfl (e_cons rfl (e_cons rfl (e_cons (e_add rfl (by decide)) rfl))))
theorem rZ_superpose_171 (rz : zF) (rm : mF) (hR : Rc rz rm) (β : Nat) (σ : zS) (hσ : zOK σ) (x0 x1 x2 : Int) (hx0 : zr x0) (hx1 : zr x1) (hx2 : zr x2) : Rf (kZ_superpose_171 rz β σ x0 x1 x2) (kM_superpose_171 rm (cv σ) (i32 x0) (i32 x1) (i32 x2)) β := by
  unfold kZ_superpose_171 kM_superpose_171
  refine Rf_g (fun hg1 => ?_)
  exact Rf_tail hR hσ (zrs_cons hx0 (zrs_cons hx1 (zrs_cons hg1 zrs_nil))) (e_cons rfl (e_cons rfl (e_cons (e_add rfl (by decide)) rfl)))
theorem rZ_usable (rz : zF) (rm : mF) (hR : Rc rz rm) (β : Nat) (σ : zS) (hσ : zOK σ) (x0 x1 : Int) (hx0 : zr x0) (hx1 : zr x1) : Rf (kZ_usable rz β σ x0 x1) (kM_usable rm (cv σ) (i32 x0) (i32 x1)) β := by
  unfold kZ_usable kM_usable
  refine Rf_rd rfl hx0 (fun hb1 => ?_)
  refine Rf_g (fun hg2 => ?_)
  refine Rf_eq (e_rd rfl hb1) (e_sub (by decide) rfl) (hσ.2.1 _ _) hg2 (fun _ => ?_) (fun _ => ?_)
  · exact Rf_tail hR hσ (zrs_cons hx0 (zrs_cons hx1 (zrs_cons (by decide) zrs_nil))) (e_cons rfl (e_cons rfl (e_cons (by decide) rfl)))
  · exact Rf_tail hR hσ (zrs_cons hx0 (zrs_cons hx1 (zrs_cons (by decide) zrs_nil))) (e_cons rfl (e_cons rfl (e_cons (by decide) rfl)))
theorem rZ_usable_17 (rz : zF) (rm : mF) (hR : Rc rz rm) (β : Nat) (σ : zS) (hσ : zOK σ) (x0 x1 x2 : Int) (hx0 : zr x0) (hx1 : zr x1) (hx2 : zr x2) : Rf (kZ_usable_17 rz β σ x0 x1 x2) (kM_usable_17 rm (cv σ) (i32 x0) (i32 x1) (i32 x2)) β := by
  unfold kZ_usable_17 kM_usable_17
  refine Rf_01 rfl hx2 (fun hb1 => ?_)
  exact Rf_some hσ hx2 rfl
theorem rZ_into (rz : zF) (rm : mF) (hR : Rc rz rm) (β : Nat) (σ : zS) (hσ : zOK σ) (x0 x1 x2 x3 x4 x5 : Int) (hx0 : zr x0) (hx1 : zr x1) (hx2 : zr x2) (hx3 : zr x3) (hx4 : zr x4) (hx5 : zr x5) : Rf (kZ_into rz β σ x0 x1 x2 x3 x4 x5) (kM_into rm (cv σ) (i32 x0) (i32 x1) (i32 x2) (i32 x3) (i32 x4) (i32 x5)) β := by
  unfold kZ_into kM_into
  refine Rf_rd rfl hx5 (fun hb1 => ?_)
  refine Rf_lt (e_rd rfl hb1) (by decide) (hσ.2.1 _ _) (by decide) (fun _ => ?_) (fun _ => ?_)
  · exact Rf_tail hR hσ (zrs_cons hx0 (zrs_cons hx1 (zrs_cons hx2 (zrs_cons hx3 (zrs_cons hx4 (zrs_cons hx5 zrs_nil)))))) (e_cons rfl (e_cons rfl (e_cons rfl (e_cons rfl (e_cons rfl (e_cons rfl rfl))))))
  · refine Rf_eq rfl (by decide) (hσ.1 87) (by decide) (fun _ => ?_) (fun _ => ?_)
    · refine Rf_bnd hR hσ zrs_nil rfl (fun σ1 r1 hσ1 hr1 => ?_)
      refine Rf_bnd hR hσ1 (zrs_cons hx2 (zrs_cons hx3 (zrs_cons (by decide) zrs_nil))) (e_cons rfl (e_cons rfl (e_cons (by decide) rfl))) (fun σ2 r2 hσ2 hr2 => ?_)
      refine Rf_bnd hR hσ2 (zrs_cons hr2 (zrs_cons (by decide) (zrs_cons hx5 (zrs_cons (by decide) zrs_nil)))) (e_cons rfl (e_cons (by decide) (e_cons rfl (e_cons (by decide) rfl)))) (fun σ3 r3 hσ3 hr3 => ?_)
      refine Rf_eq rfl (by decide) hr3 (by decide) (fun _ => ?_) (fun _ => ?_)
      · exact Rf_tail hR hσ3 (zrs_cons hx0 (zrs_cons hx1 (zrs_cons hx2 (zrs_cons hx3 (zrs_cons hx4 (zrs_cons hx5 zrs_nil)))))) (e_cons rfl (e_cons rfl (e_cons rfl (e_cons rfl (e_cons rfl (e_cons rfl rfl))))))
      · refine Rf_bnd hR hσ3 zrs_nil rfl (fun σ4 r4 hσ4 hr4 => ?_)
        refine Rf_bnd hR hσ4 (zrs_cons hx0 (zrs_cons (by decide) (zrs_cons hx2 (zrs_cons (by decide) zrs_nil)))) (e_cons rfl (e_cons (by decide) (e_cons rfl (e_cons (by decide) rfl)))) (fun σ5 r5 hσ5 hr5 => ?_)
        refine Rf_bnd hR hσ5 (zrs_cons hx1 (zrs_cons (by decide) (zrs_cons (by decide) (zrs_cons (by decide) zrs_nil)))) (e_cons rfl (e_cons (by decide) (e_cons (by decide) (e_cons (by decide) rfl)))) (fun σ6 r6 hσ6 hr6 => ?_)
        refine Rf_I rfl hx5 hσ6 (fun σ7 hσ7 => ?_)
        refine Rf_bnd hR hσ7 (zrs_cons hx2 (zrs_cons hx3 (zrs_cons (by decide) zrs_nil))) (e_cons rfl (e_cons rfl (e_cons (by decide) rfl))) (fun σ8 r8 hσ8 hr8 => ?_)
        refine Rf_I rfl hr8 hσ8 (fun σ9 hσ9 => ?_)
        refine Rf_bnd hR hσ9 (zrs_cons (by decide) (zrs_cons hx0 (zrs_cons hx1 zrs_nil))) (e_cons (by decide) (e_cons rfl (e_cons rfl rfl))) (fun σ10 r10 hσ10 hr10 => ?_)
        exact Rf_tail hR hσ10 (zrs_cons hx0 (zrs_cons hx1 (zrs_cons hx2 (zrs_cons hx3 (zrs_cons hx4 (zrs_cons hx5 zrs_nil)))))) (e_cons rfl (e_cons rfl (e_cons rfl (e_cons rfl (e_cons rfl (e_cons rfl rfl))))))
    · exact Rf_tail hR hσ (zrs_cons hx0 (zrs_cons hx1 (zrs_cons hx2 (zrs_cons hx3 (zrs_cons hx4 (zrs_cons hx5 zrs_nil)))))) (e_cons rfl (e_cons rfl (e_cons rfl (e_cons rfl (e_cons rfl (e_cons rfl rfl))))))
theorem rZ_into_17 (rz : zF) (rm : mF) (hR : Rc rz rm) (β : Nat) (σ : zS) (hσ : zOK σ) (x0 x1 x2 x3 x4 x5 : Int) (hx0 : zr x0) (hx1 : zr x1) (hx2 : zr x2) (hx3 : zr x3) (hx4 : zr x4) (hx5 : zr x5) : Rf (kZ_into_17 rz β σ x0 x1 x2 x3 x4 x5) (kM_into_17 rm (cv σ) (i32 x0) (i32 x1) (i32 x2) (i32 x3) (i32 x4) (i32 x5)) β := by
  unfold kZ_into_17 kM_into_17
  exact Rf_some hσ (by decide) (by decide)
theorem rZ_into_88 (rz : zF) (rm : mF) (hR : Rc rz rm) (β : Nat) (σ : zS) (hσ : zOK σ) (x0 x1 x2 x3 x4 x5 : Int) (hx0 : zr x0) (hx1 : zr x1) (hx2 : zr x2) (hx3 : zr x3) (hx4 : zr x4) (hx5 : zr x5) : Rf (kZ_into_88 rz β σ x0 x1 x2 x3 x4 x5) (kM_into_88 rm (cv σ) (i32 x0) (i32 x1) (i32 x2) (i32 x3) (i32 x4) (i32 x5)) β := by
  unfold kZ_into_88 kM_into_88
  refine Rf_rd rfl hx5 (fun hb1 => ?_)
  exact Rf_tail hR hσ (zrs_cons hx0 (zrs_cons hx1 (zrs_cons hx2 (zrs_cons hx3 (zrs_cons hx4 (zrs_cons hx5 (zrs_cons (hσ.2.1 _ _) zrs_nil))))))) (e_cons rfl (e_cons rfl (e_cons rfl (e_cons rfl (e_cons rfl (e_cons rfl (e_cons (e_rd rfl hb1) rfl)))))))
theorem rZ_into_97 (rz : zF) (rm : mF) (hR : Rc rz rm) (β : Nat) (σ : zS) (hσ : zOK σ) (x0 x1 x2 x3 x4 x5 x6 : Int) (hx0 : zr x0) (hx1 : zr x1) (hx2 : zr x2) (hx3 : zr x3) (hx4 : zr x4) (hx5 : zr x5) (hx6 : zr x6) : Rf (kZ_into_97 rz β σ x0 x1 x2 x3 x4 x5 x6) (kM_into_97 rm (cv σ) (i32 x0) (i32 x1) (i32 x2) (i32 x3) (i32 x4) (i32 x5) (i32 x6)) β := by
  unfold kZ_into_97 kM_into_97
  refine Rf_lt rfl (by decide) hx6 (by decide) (fun _ => ?_) (fun _ => ?_)
  · exact Rf_some hσ (by decide) (by decide)
  · refine Rf_bnd hR hσ (zrs_cons hx0 (zrs_cons hx1 (zrs_cons hx2 (zrs_cons hx3 (zrs_cons hx4 (zrs_cons hx6 zrs_nil)))))) (e_cons rfl (e_cons rfl (e_cons rfl (e_cons rfl (e_cons rfl (e_cons rfl rfl)))))) (fun σ1 r1 hσ1 hr1 => ?_)
    refine Rf_rd rfl hx6 (fun hb1 => ?_)
    exact Rf_tail hR hσ1 (zrs_cons hx0 (zrs_cons hx1 (zrs_cons hx2 (zrs_cons hx3 (zrs_cons hx4 (zrs_cons hx5 (zrs_cons (hσ1.2.1 _ _) zrs_nil))))))) (e_cons rfl (e_cons rfl (e_cons rfl (e_cons rfl (e_cons rfl (e_cons rfl (e_cons (e_rd rfl hb1) rfl)))))))
theorem rZ_unbind (rz : zF) (rm : mF) (hR : Rc rz rm) (β : Nat) (σ : zS) (hσ : zOK σ) : Rf (kZ_unbind rz β σ) (kM_unbind rm (cv σ)) β := by
  unfold kZ_unbind kM_unbind
  refine Rf_Fl (by decide) (by decide) hσ (fun σ1 hσ1 => ?_)
  exact Rf_some hσ1 (by decide) (by decide)
theorem rZ_unify (rz : zF) (rm : mF) (hR : Rc rz rm) (β : Nat) (σ : zS) (hσ : zOK σ) (x0 x1 x2 x3 : Int) (hx0 : zr x0) (hx1 : zr x1) (hx2 : zr x2) (hx3 : zr x3) : Rf (kZ_unify rz β σ x0 x1 x2 x3) (kM_unify rm (cv σ) (i32 x0) (i32 x1) (i32 x2) (i32 x3)) β := by
  unfold kZ_unify kM_unify
  exact Rf_tail hR hσ (zrs_cons hx0 (zrs_cons hx1 (zrs_cons hx2 (zrs_cons hx3 (zrs_cons hx0 (zrs_cons hx1 zrs_nil)))))) (e_cons rfl (e_cons rfl (e_cons rfl (e_cons rfl (e_cons rfl (e_cons rfl rfl))))))
theorem rZ_unify_6 (rz : zF) (rm : mF) (hR : Rc rz rm) (β : Nat) (σ : zS) (hσ : zOK σ) (x0 x1 x2 x3 x4 x5 : Int) (hx0 : zr x0) (hx1 : zr x1) (hx2 : zr x2) (hx3 : zr x3) (hx4 : zr x4) (hx5 : zr x5) : Rf (kZ_unify_6 rz β σ x0 x1 x2 x3 x4 x5) (kM_unify_6 rm (cv σ) (i32 x0) (i32 x1) (i32 x2) (i32 x3) (i32 x4) (i32 x5)) β := by
  unfold kZ_unify_6 kM_unify_6
  refine Rf_rd rfl hx4 (fun hb1 => ?_)
  refine Rf_le (by decide) (e_rd rfl hb1) (by decide) (hσ.2.1 _ _) (fun _ => ?_) (fun _ => ?_)
  · exact Rf_tail hR hσ (zrs_cons hx0 (zrs_cons hx1 (zrs_cons hx2 (zrs_cons hx3 (zrs_cons hx4 (zrs_cons hx5 zrs_nil)))))) (e_cons rfl (e_cons rfl (e_cons rfl (e_cons rfl (e_cons rfl (e_cons rfl rfl))))))
  · refine Rf_rd2 rfl hb1 ?_
    refine Rf_g (fun hg2 => ?_)
    refine Rf_g (fun hg3 => ?_)
    refine Rf_rd (e_add (e_sub (by decide) (e_rd rfl hb1)) rfl) hg3 (fun hb4 => ?_)
    refine Rf_lt (e_rd (e_add (e_sub (by decide) (e_rd rfl hb1)) rfl) hb4) (by decide) (hσ.2.1 _ _) (by decide) (fun _ => ?_) (fun _ => ?_)
    · exact Rf_tail hR hσ (zrs_cons hx0 (zrs_cons hx1 (zrs_cons hx2 (zrs_cons hx3 (zrs_cons hx4 (zrs_cons hx5 zrs_nil)))))) (e_cons rfl (e_cons rfl (e_cons rfl (e_cons rfl (e_cons rfl (e_cons rfl rfl))))))
    · refine Rf_rd2 rfl hb1 ?_
      refine Rf_rd2 (e_add (e_sub (by decide) (e_rd rfl hb1)) rfl) hb4 ?_
      refine Rf_rd2 (e_add (e_sub (by decide) (e_rd rfl hb1)) rfl) hb4 ?_
      exact Rf_tail hR hσ (zrs_cons hx0 (zrs_cons hx1 (zrs_cons hx2 (zrs_cons hx3 (zrs_cons (hσ.2.1 _ _) (zrs_cons (hσ.2.1 _ _) zrs_nil)))))) (e_cons rfl (e_cons rfl (e_cons rfl (e_cons rfl (e_cons (e_rd (e_add (e_sub (by decide) (e_rd rfl hb1)) rfl) hb4) (e_cons (e_rd (e_add (e_sub (by decide) (e_rd rfl hb1)) rfl) hb4) rfl))))))
theorem rZ_unify_71 (rz : zF) (rm : mF) (hR : Rc rz rm) (β : Nat) (σ : zS) (hσ : zOK σ) (x0 x1 x2 x3 x4 x5 : Int) (hx0 : zr x0) (hx1 : zr x1) (hx2 : zr x2) (hx3 : zr x3) (hx4 : zr x4) (hx5 : zr x5) : Rf (kZ_unify_71 rz β σ x0 x1 x2 x3 x4 x5) (kM_unify_71 rm (cv σ) (i32 x0) (i32 x1) (i32 x2) (i32 x3) (i32 x4) (i32 x5)) β := by
  unfold kZ_unify_71 kM_unify_71
  exact Rf_tail hR hσ (zrs_cons hx0 (zrs_cons hx1 (zrs_cons hx2 (zrs_cons hx3 (zrs_cons hx4 (zrs_cons hx5 (zrs_cons hx2 (zrs_cons hx3 zrs_nil)))))))) (e_cons rfl (e_cons rfl (e_cons rfl (e_cons rfl (e_cons rfl (e_cons rfl (e_cons rfl (e_cons rfl rfl))))))))
theorem rZ_unify_78 (rz : zF) (rm : mF) (hR : Rc rz rm) (β : Nat) (σ : zS) (hσ : zOK σ) (x0 x1 x2 x3 x4 x5 x6 x7 : Int) (hx0 : zr x0) (hx1 : zr x1) (hx2 : zr x2) (hx3 : zr x3) (hx4 : zr x4) (hx5 : zr x5) (hx6 : zr x6) (hx7 : zr x7) : Rf (kZ_unify_78 rz β σ x0 x1 x2 x3 x4 x5 x6 x7) (kM_unify_78 rm (cv σ) (i32 x0) (i32 x1) (i32 x2) (i32 x3) (i32 x4) (i32 x5) (i32 x6) (i32 x7)) β := by
  unfold kZ_unify_78 kM_unify_78
  refine Rf_rd rfl hx6 (fun hb1 => ?_)
  refine Rf_le (by decide) (e_rd rfl hb1) (by decide) (hσ.2.1 _ _) (fun _ => ?_) (fun _ => ?_)
  · exact Rf_tail hR hσ (zrs_cons hx0 (zrs_cons hx1 (zrs_cons hx2 (zrs_cons hx3 (zrs_cons hx4 (zrs_cons hx5 (zrs_cons hx6 (zrs_cons hx7 zrs_nil)))))))) (e_cons rfl (e_cons rfl (e_cons rfl (e_cons rfl (e_cons rfl (e_cons rfl (e_cons rfl (e_cons rfl rfl))))))))
  · refine Rf_rd2 rfl hb1 ?_
    refine Rf_g (fun hg2 => ?_)
    refine Rf_g (fun hg3 => ?_)
    refine Rf_rd (e_add (e_sub (by decide) (e_rd rfl hb1)) rfl) hg3 (fun hb4 => ?_)
    refine Rf_lt (e_rd (e_add (e_sub (by decide) (e_rd rfl hb1)) rfl) hb4) (by decide) (hσ.2.1 _ _) (by decide) (fun _ => ?_) (fun _ => ?_)
    · exact Rf_tail hR hσ (zrs_cons hx0 (zrs_cons hx1 (zrs_cons hx2 (zrs_cons hx3 (zrs_cons hx4 (zrs_cons hx5 (zrs_cons hx6 (zrs_cons hx7 zrs_nil)))))))) (e_cons rfl (e_cons rfl (e_cons rfl (e_cons rfl (e_cons rfl (e_cons rfl (e_cons rfl (e_cons rfl rfl))))))))
    · refine Rf_rd2 rfl hb1 ?_
      refine Rf_rd2 (e_add (e_sub (by decide) (e_rd rfl hb1)) rfl) hb4 ?_
      refine Rf_rd2 (e_add (e_sub (by decide) (e_rd rfl hb1)) rfl) hb4 ?_
      exact Rf_tail hR hσ (zrs_cons hx0 (zrs_cons hx1 (zrs_cons hx2 (zrs_cons hx3 (zrs_cons hx4 (zrs_cons hx5 (zrs_cons (hσ.2.1 _ _) (zrs_cons (hσ.2.1 _ _) zrs_nil)))))))) (e_cons rfl (e_cons rfl (e_cons rfl (e_cons rfl (e_cons rfl (e_cons rfl (e_cons (e_rd (e_add (e_sub (by decide) (e_rd rfl hb1)) rfl) hb4) (e_cons (e_rd (e_add (e_sub (by decide) (e_rd rfl hb1)) rfl) hb4) rfl))))))))
theorem rZ_unify_143 (rz : zF) (rm : mF) (hR : Rc rz rm) (β : Nat) (σ : zS) (hσ : zOK σ) (x0 x1 x2 x3 x4 x5 x6 x7 : Int) (hx0 : zr x0) (hx1 : zr x1) (hx2 : zr x2) (hx3 : zr x3) (hx4 : zr x4) (hx5 : zr x5) (hx6 : zr x6) (hx7 : zr x7) : Rf (kZ_unify_143 rz β σ x0 x1 x2 x3 x4 x5 x6 x7) (kM_unify_143 rm (cv σ) (i32 x0) (i32 x1) (i32 x2) (i32 x3) (i32 x4) (i32 x5) (i32 x6) (i32 x7)) β := by
  unfold kZ_unify_143 kM_unify_143
  refine Rf_rd rfl hx4 (fun hb1 => ?_)
  refine Rf_le (by decide) (e_rd rfl hb1) (by decide) (hσ.2.1 _ _) (fun _ => ?_) (fun _ => ?_)
  · exact Rf_tail hR hσ (zrs_cons hx0 (zrs_cons hx1 (zrs_cons hx2 (zrs_cons hx3 (zrs_cons hx4 (zrs_cons hx5 (zrs_cons hx6 (zrs_cons hx7 zrs_nil)))))))) (e_cons rfl (e_cons rfl (e_cons rfl (e_cons rfl (e_cons rfl (e_cons rfl (e_cons rfl (e_cons rfl rfl))))))))
  · refine Rf_rd rfl hx6 (fun hb2 => ?_)
    refine Rf_le (by decide) (e_rd rfl hb2) (by decide) (hσ.2.1 _ _) (fun _ => ?_) (fun _ => ?_)
    · exact Rf_tail hR hσ (zrs_cons hx0 (zrs_cons hx1 (zrs_cons hx2 (zrs_cons hx3 (zrs_cons hx4 (zrs_cons hx5 (zrs_cons hx6 (zrs_cons hx7 zrs_nil)))))))) (e_cons rfl (e_cons rfl (e_cons rfl (e_cons rfl (e_cons rfl (e_cons rfl (e_cons rfl (e_cons rfl rfl))))))))
    · refine Rf_rd2 rfl hb1 ?_
      refine Rf_rd2 rfl hb2 ?_
      refine Rf_eq (e_rd rfl hb1) (e_rd rfl hb2) (hσ.2.1 _ _) (hσ.2.1 _ _) (fun _ => ?_) (fun _ => ?_)
      · refine Rf_eq rfl rfl hx5 hx7 (fun _ => ?_) (fun _ => ?_)
        · exact Rf_some hσ (by decide) (by decide)
        · exact Rf_tail hR hσ (zrs_cons hx0 (zrs_cons hx1 (zrs_cons hx2 (zrs_cons hx3 (zrs_cons hx4 (zrs_cons hx5 (zrs_cons hx6 (zrs_cons hx7 zrs_nil)))))))) (e_cons rfl (e_cons rfl (e_cons rfl (e_cons rfl (e_cons rfl (e_cons rfl (e_cons rfl (e_cons rfl rfl))))))))
      · exact Rf_tail hR hσ (zrs_cons hx0 (zrs_cons hx1 (zrs_cons hx2 (zrs_cons hx3 (zrs_cons hx4 (zrs_cons hx5 (zrs_cons hx6 (zrs_cons hx7 zrs_nil)))))))) (e_cons rfl (e_cons rfl (e_cons rfl (e_cons rfl (e_cons rfl (e_cons rfl (e_cons rfl (e_cons rfl rfl))))))))
theorem rZ_unify_189 (rz : zF) (rm : mF) (hR : Rc rz rm) (β : Nat) (σ : zS) (hσ : zOK σ) (x0 x1 x2 x3 x4 x5 x6 x7 : Int) (hx0 : zr x0) (hx1 : zr x1) (hx2 : zr x2) (hx3 : zr x3) (hx4 : zr x4) (hx5 : zr x5) (hx6 : zr x6) (hx7 : zr x7) : Rf (kZ_unify_189 rz β σ x0 x1 x2 x3 x4 x5 x6 x7) (kM_unify_189 rm (cv σ) (i32 x0) (i32 x1) (i32 x2) (i32 x3) (i32 x4) (i32 x5) (i32 x6) (i32 x7)) β := by
  unfold kZ_unify_189 kM_unify_189
  refine Rf_rd rfl hx4 (fun hb1 => ?_)
  refine Rf_le (by decide) (e_rd rfl hb1) (by decide) (hσ.2.1 _ _) (fun _ => ?_) (fun _ => ?_)
  · refine Rf_rd rfl hx6 (fun hb2 => ?_)
    refine Rf_le (by decide) (e_rd rfl hb2) (by decide) (hσ.2.1 _ _) (fun _ => ?_) (fun _ => ?_)
    · refine Rf_rd2 rfl hb1 ?_
      refine Rf_rd2 rfl hb2 ?_
      refine Rf_eq (e_rd rfl hb1) (e_rd rfl hb2) (hσ.2.1 _ _) (hσ.2.1 _ _) (fun _ => ?_) (fun _ => ?_)
      · refine Rf_rd2 rfl hb2 ?_
        refine Rf_rd2 rfl hb1 ?_
        exact Rf_tail hR hσ (zrs_cons hx0 (zrs_cons hx1 (zrs_cons hx2 (zrs_cons hx3 (zrs_cons hx4 (zrs_cons hx5 (zrs_cons hx6 (zrs_cons hx7 (zrs_cons (hσ.2.1 _ _) (zrs_cons (hσ.2.1 _ _) zrs_nil)))))))))) (e_cons rfl (e_cons rfl (e_cons rfl (e_cons rfl (e_cons rfl (e_cons rfl (e_cons rfl (e_cons rfl (e_cons (e_rd rfl hb2) (e_cons (e_rd rfl hb1) rfl))))))))))
      · exact Rf_some hσ (by decide) (by decide)
    · refine Rf_rd2 rfl hb2 ?_
      refine Rf_g (fun hg3 => ?_)
      refine Rf_g (fun hg4 => ?_)
      refine Rf_bnd hR hσ (zrs_cons hg4 (zrs_cons hx4 (zrs_cons hx5 zrs_nil))) (e_cons (e_add (e_sub (by decide) (e_rd rfl hb2)) rfl) (e_cons rfl (e_cons rfl rfl))) (fun σ1 r1 hσ1 hr1 => ?_)
      refine Rf_01 rfl hr1 (fun hb5 => ?_)
      exact Rf_some hσ1 hr1 rfl
  · refine Rf_rd2 rfl hb1 ?_
    refine Rf_g (fun hg6 => ?_)
    refine Rf_g (fun hg7 => ?_)
    refine Rf_bnd hR hσ (zrs_cons hg7 (zrs_cons hx6 (zrs_cons hx7 zrs_nil))) (e_cons (e_add (e_sub (by decide) (e_rd rfl hb1)) rfl) (e_cons rfl (e_cons rfl rfl))) (fun σ2 r2 hσ2 hr2 => ?_)
    refine Rf_01 rfl hr2 (fun hb8 => ?_)
    exact Rf_some hσ2 hr2 rfl
theorem rZ_unify_288 (rz : zF) (rm : mF) (hR : Rc rz rm) (β : Nat) (σ : zS) (hσ : zOK σ) (x0 x1 x2 x3 x4 x5 x6 x7 x8 x9 : Int) (hx0 : zr x0) (hx1 : zr x1) (hx2 : zr x2) (hx3 : zr x3) (hx4 : zr x4) (hx5 : zr x5) (hx6 : zr x6) (hx7 : zr x7) (hx8 : zr x8) (hx9 : zr x9) : Rf (kZ_unify_288 rz β σ x0 x1 x2 x3 x4 x5 x6 x7 x8 x9) (kM_unify_288 rm (cv σ) (i32 x0) (i32 x1) (i32 x2) (i32 x3) (i32 x4) (i32 x5) (i32 x6) (i32 x7) (i32 x8) (i32 x9)) β := by
  unfold kZ_unify_288 kM_unify_288
  refine Rf_lt rfl (by decide) hx9 (by decide) (fun _ => ?_) (fun _ => ?_)
  · exact Rf_some hσ (by decide) (by decide)
  · refine Rf_bnd hR hσ (zrs_cons hx9 (zrs_cons hx5 (zrs_cons hx8 (zrs_cons hx7 zrs_nil)))) (e_cons rfl (e_cons rfl (e_cons rfl (e_cons rfl rfl)))) (fun σ1 r1 hσ1 hr1 => ?_)
    refine Rf_eq rfl (by decide) hr1 (by decide) (fun _ => ?_) (fun _ => ?_)
    · exact Rf_some hσ1 (by decide) (by decide)
    · refine Rf_rd rfl hx8 (fun hb1 => ?_)
      refine Rf_rd rfl hx9 (fun hb2 => ?_)
      exact Rf_tail hR hσ1 (zrs_cons hx0 (zrs_cons hx1 (zrs_cons hx2 (zrs_cons hx3 (zrs_cons hx4 (zrs_cons hx5 (zrs_cons hx6 (zrs_cons hx7 (zrs_cons (hσ1.2.1 _ _) (zrs_cons (hσ1.2.1 _ _) zrs_nil)))))))))) (e_cons rfl (e_cons rfl (e_cons rfl (e_cons rfl (e_cons rfl (e_cons rfl (e_cons rfl (e_cons rfl (e_cons (e_rd rfl hb1) (e_cons (e_rd rfl hb2) rfl))))))))))
theorem rZ_bind1 (rz : zF) (rm : mF) (hR : Rc rz rm) (β : Nat) (σ : zS) (hσ : zOK σ) (x0 x1 x2 : Int) (hx0 : zr x0) (hx1 : zr x1) (hx2 : zr x2) : Rf (kZ_bind1 rz β σ x0 x1 x2) (kM_bind1 rm (cv σ) (i32 x0) (i32 x1) (i32 x2)) β := by
  unfold kZ_bind1 kM_bind1
  refine Rf_bnd hR hσ (zrs_cons hx1 zrs_nil) (e_cons rfl rfl) (fun σ1 r1 hσ1 hr1 => ?_)
  refine Rf_eq rfl (by decide) hr1 (by decide) (fun _ => ?_) (fun _ => ?_)
  · refine Rf_bnd hR hσ1 (zrs_cons hx0 (zrs_cons hx1 (zrs_cons hx2 zrs_nil))) (e_cons rfl (e_cons rfl (e_cons rfl rfl))) (fun σ2 r2 hσ2 hr2 => ?_)
    refine Rf_eq rfl (by decide) hr2 (by decide) (fun _ => ?_) (fun _ => ?_)
    · refine Rf_rd rfl hx0 (fun hb1 => ?_)
      refine Rf_A rfl hb1 rfl hx1 hσ2 (fun σ3 hσ3 => ?_)
      refine Rf_rd2 rfl hb1 ?_
      refine Rf_A rfl hb1 rfl hx2 hσ3 (fun σ4 hσ4 => ?_)
      exact Rf_some hσ4 (by decide) (by decide)
    · exact Rf_tail hR hσ2 (zrs_cons hx0 (zrs_cons hx1 (zrs_cons hx2 zrs_nil))) (e_cons rfl (e_cons rfl (e_cons rfl rfl)))
  · exact Rf_tail hR hσ1 (zrs_cons hx0 (zrs_cons hx1 (zrs_cons hx2 zrs_nil))) (e_cons rfl (e_cons rfl (e_cons rfl rfl)))
theorem rZ_bind1_18 (rz : zF) (rm : mF) (hR : Rc rz rm) (β : Nat) (σ : zS) (hσ : zOK σ) (x0 x1 x2 : Int) (hx0 : zr x0) (hx1 : zr x1) (hx2 : zr x2) : Rf (kZ_bind1_18 rz β σ x0 x1 x2) (kM_bind1_18 rm (cv σ) (i32 x0) (i32 x1) (i32 x2)) β := by
  unfold kZ_bind1_18 kM_bind1_18
  exact Rf_some hσ (by decide) (by decide)
theorem rZ_occurs (rz : zF) (rm : mF) (hR : Rc rz rm) (β : Nat) (σ : zS) (hσ : zOK σ) (x0 x1 x2 : Int) (hx0 : zr x0) (hx1 : zr x1) (hx2 : zr x2) : Rf (kZ_occurs rz β σ x0 x1 x2) (kM_occurs rm (cv σ) (i32 x0) (i32 x1) (i32 x2)) β := by
  unfold kZ_occurs kM_occurs
  refine Rf_rd rfl hx1 (fun hb1 => ?_)
  refine Rf_le (by decide) (e_rd rfl hb1) (by decide) (hσ.2.1 _ _) (fun _ => ?_) (fun _ => ?_)
  · refine Rf_rd2 rfl hb1 ?_
    exact Rf_tail hR hσ (zrs_cons hx0 (zrs_cons hx1 (zrs_cons hx2 (zrs_cons (hσ.2.1 _ _) zrs_nil)))) (e_cons rfl (e_cons rfl (e_cons rfl (e_cons (e_rd rfl hb1) rfl))))
  · refine Rf_rd2 rfl hb1 ?_
    refine Rf_g (fun hg2 => ?_)
    refine Rf_g (fun hg3 => ?_)
    refine Rf_eq (e_add (e_sub (by decide) (e_rd rfl hb1)) rfl) rfl hg3 hx0 (fun _ => ?_) (fun _ => ?_)
    · exact Rf_some hσ (by decide) (by decide)
    · refine Rf_rd (e_add (e_sub (by decide) (e_rd rfl hb1)) rfl) hg3 (fun hb4 => ?_)
      refine Rf_lt (e_rd (e_add (e_sub (by decide) (e_rd rfl hb1)) rfl) hb4) (by decide) (hσ.2.1 _ _) (by decide) (fun _ => ?_) (fun _ => ?_)
      · exact Rf_tail hR hσ (zrs_cons hx0 (zrs_cons hx1 (zrs_cons hx2 (zrs_cons hg3 zrs_nil)))) (e_cons rfl (e_cons rfl (e_cons rfl (e_cons (e_add (e_sub (by decide) (e_rd rfl hb1)) rfl) rfl))))
      · refine Rf_rd2 (e_add (e_sub (by decide) (e_rd rfl hb1)) rfl) hb4 ?_
        refine Rf_rd2 (e_add (e_sub (by decide) (e_rd rfl hb1)) rfl) hb4 ?_
        refine Rf_bnd hR hσ (zrs_cons hx0 (zrs_cons (hσ.2.1 _ _) (zrs_cons (hσ.2.1 _ _) zrs_nil))) (e_cons rfl (e_cons (e_rd (e_add (e_sub (by decide) (e_rd rfl hb1)) rfl) hb4) (e_cons (e_rd (e_add (e_sub (by decide) (e_rd rfl hb1)) rfl) hb4) rfl))) (fun σ1 r1 hσ1 hr1 => ?_)
        refine Rf_eq rfl (by decide) hr1 (by decide) (fun _ => ?_) (fun _ => ?_)
        · exact Rf_tail hR hσ1 (zrs_cons hx0 (zrs_cons hx1 (zrs_cons hx2 (zrs_cons hg3 zrs_nil)))) (e_cons rfl (e_cons rfl (e_cons rfl (e_cons (e_add (e_sub (by decide) (e_rd rfl hb1)) rfl) rfl))))
        · exact Rf_tail hR hσ1 (zrs_cons hx0 (zrs_cons hx1 (zrs_cons hx2 (zrs_cons hg3 (zrs_cons (by decide) zrs_nil))))) (e_cons rfl (e_cons rfl (e_cons rfl (e_cons (e_add (e_sub (by decide) (e_rd rfl hb1)) rfl) (e_cons (by decide) rfl)))))
theorem rZ_occurs_65 (rz : zF) (rm : mF) (hR : Rc rz rm) (β : Nat) (σ : zS) (hσ : zOK σ) (x0 x1 x2 x3 : Int) (hx0 : zr x0) (hx1 : zr x1) (hx2 : zr x2) (hx3 : zr x3) : Rf (kZ_occurs_65 rz β σ x0 x1 x2 x3) (kM_occurs_65 rm (cv σ) (i32 x0) (i32 x1) (i32 x2) (i32 x3)) β := by
  unfold kZ_occurs_65 kM_occurs_65
  exact Rf_tail hR hσ (zrs_cons hx0 (zrs_cons hx1 (zrs_cons hx2 (zrs_cons hx3 (zrs_cons (by decide) zrs_nil))))) (e_cons rfl (e_cons rfl (e_cons rfl (e_cons rfl (e_cons (by decide) rfl)))))
theorem rZ_occurs_66 (rz : zF) (rm : mF) (hR : Rc rz rm) (β : Nat) (σ : zS) (hσ : zOK σ) (x0 x1 x2 x3 x4 : Int) (hx0 : zr x0) (hx1 : zr x1) (hx2 : zr x2) (hx3 : zr x3) (hx4 : zr x4) : Rf (kZ_occurs_66 rz β σ x0 x1 x2 x3 x4) (kM_occurs_66 rm (cv σ) (i32 x0) (i32 x1) (i32 x2) (i32 x3) (i32 x4)) β := by
  unfold kZ_occurs_66 kM_occurs_66
  refine Rf_01 rfl hx4 (fun hb1 => ?_)
  exact Rf_some hσ hx4 rfl
theorem rZ_occurs_75 (rz : zF) (rm : mF) (hR : Rc rz rm) (β : Nat) (σ : zS) (hσ : zOK σ) (x0 x1 x2 x3 : Int) (hx0 : zr x0) (hx1 : zr x1) (hx2 : zr x2) (hx3 : zr x3) : Rf (kZ_occurs_75 rz β σ x0 x1 x2 x3) (kM_occurs_75 rm (cv σ) (i32 x0) (i32 x1) (i32 x2) (i32 x3)) β := by
  unfold kZ_occurs_75 kM_occurs_75
  refine Rf_lt rfl (by decide) hx3 (by decide) (fun _ => ?_) (fun _ => ?_)
  · exact Rf_some hσ (by decide) (by decide)
  · refine Rf_bnd hR hσ (zrs_cons hx0 (zrs_cons hx3 (zrs_cons hx2 zrs_nil))) (e_cons rfl (e_cons rfl (e_cons rfl rfl))) (fun σ1 r1 hσ1 hr1 => ?_)
    refine Rf_eq rfl (by decide) hr1 (by decide) (fun _ => ?_) (fun _ => ?_)
    · refine Rf_rd rfl hx3 (fun hb1 => ?_)
      exact Rf_tail hR hσ1 (zrs_cons hx0 (zrs_cons hx1 (zrs_cons hx2 (zrs_cons (hσ1.2.1 _ _) zrs_nil)))) (e_cons rfl (e_cons rfl (e_cons rfl (e_cons (e_rd rfl hb1) rfl))))
    · exact Rf_some hσ1 (by decide) (by decide)
theorem rZ_begin (rz : zF) (rm : mF) (hR : Rc rz rm) (β : Nat) (σ : zS) (hσ : zOK σ) : Rf (kZ_begin rz β σ) (kM_begin rm (cv σ)) β := by
  unfold kZ_begin kM_begin
  refine Rf_I (by decide) (by decide) hσ (fun σ1 hσ1 => ?_)
  refine Rf_I (by decide) (by decide) hσ1 (fun σ2 hσ2 => ?_)
  exact Rf_some hσ2 (by decide) (by decide)
theorem rZ_planOthers (rz : zF) (rm : mF) (hR : Rc rz rm) (β : Nat) (σ : zS) (hσ : zOK σ) (x0 x1 x2 x3 : Int) (hx0 : zr x0) (hx1 : zr x1) (hx2 : zr x2) (hx3 : zr x3) : Rf (kZ_planOthers rz β σ x0 x1 x2 x3) (kM_planOthers rm (cv σ) (i32 x0) (i32 x1) (i32 x2) (i32 x3)) β := by
  unfold kZ_planOthers kM_planOthers
  refine Rf_rd rfl hx0 (fun hb1 => ?_)
  exact Rf_tail hR hσ (zrs_cons hx0 (zrs_cons hx1 (zrs_cons hx2 (zrs_cons hx3 (zrs_cons (hσ.2.1 _ _) zrs_nil))))) (e_cons rfl (e_cons rfl (e_cons rfl (e_cons rfl (e_cons (e_rd rfl hb1) rfl)))))
theorem rZ_planOthers_8 (rz : zF) (rm : mF) (hR : Rc rz rm) (β : Nat) (σ : zS) (hσ : zOK σ) (x0 x1 x2 x3 x4 : Int) (hx0 : zr x0) (hx1 : zr x1) (hx2 : zr x2) (hx3 : zr x3) (hx4 : zr x4) : Rf (kZ_planOthers_8 rz β σ x0 x1 x2 x3 x4) (kM_planOthers_8 rm (cv σ) (i32 x0) (i32 x1) (i32 x2) (i32 x3) (i32 x4)) β := by
  unfold kZ_planOthers_8 kM_planOthers_8
  refine Rf_rd rfl hx0 (fun hb1 => ?_)
  refine Rf_rd2 rfl hb1 ?_
  refine Rf_g (fun hg2 => ?_)
  refine Rf_le (e_add (e_rd rfl hb1) (e_rd rfl hb1)) rfl hg2 hx4 (fun _ => ?_) (fun _ => ?_)
  · exact Rf_some hσ (by decide) (by decide)
  · refine Rf_eq rfl rfl hx4 hx2 (fun _ => ?_) (fun _ => ?_)
    · exact Rf_tail hR hσ (zrs_cons hx0 (zrs_cons hx1 (zrs_cons hx2 (zrs_cons hx3 (zrs_cons hx4 zrs_nil))))) (e_cons rfl (e_cons rfl (e_cons rfl (e_cons rfl (e_cons rfl rfl)))))
    · refine Rf_eq rfl rfl hx4 hx3 (fun _ => ?_) (fun _ => ?_)
      · exact Rf_tail hR hσ (zrs_cons hx0 (zrs_cons hx1 (zrs_cons hx2 (zrs_cons hx3 (zrs_cons hx4 zrs_nil))))) (e_cons rfl (e_cons rfl (e_cons rfl (e_cons rfl (e_cons rfl rfl)))))
      · refine Rf_rd rfl hx4 (fun hb3 => ?_)
        refine Rf_rd2 rfl hb3 ?_
        refine Rf_rd2 rfl hb3 ?_
        refine Rf_bnd hR hσ (zrs_cons (hσ.2.1 _ _) (zrs_cons (hσ.2.1 _ _) (zrs_cons hx1 (zrs_cons (hσ.2.1 _ _) zrs_nil)))) (e_cons (e_rd rfl hb3) (e_cons (e_rd rfl hb3) (e_cons rfl (e_cons (e_rd rfl hb3) rfl)))) (fun σ1 r1 hσ1 hr1 => ?_)
        exact Rf_tail hR hσ1 (zrs_cons hx0 (zrs_cons hx1 (zrs_cons hx2 (zrs_cons hx3 (zrs_cons hx4 zrs_nil))))) (e_cons rfl (e_cons rfl (e_cons rfl (e_cons rfl (e_cons rfl rfl)))))
theorem rZ_planOthers_65 (rz : zF) (rm : mF) (hR : Rc rz rm) (β : Nat) (σ : zS) (hσ : zOK σ) (x0 x1 x2 x3 x4 : Int) (hx0 : zr x0) (hx1 : zr x1) (hx2 : zr x2) (hx3 : zr x3) (hx4 : zr x4) : Rf (kZ_planOthers_65 rz β σ x0 x1 x2 x3 x4) (kM_planOthers_65 rm (cv σ) (i32 x0) (i32 x1) (i32 x2) (i32 x3) (i32 x4)) β := by
  unfold kZ_planOthers_65 kM_planOthers_65
  refine Rf_g (fun hg1 => ?_)
  exact Rf_tail hR hσ (zrs_cons hx0 (zrs_cons hx1 (zrs_cons hx2 (zrs_cons hx3 (zrs_cons hg1 zrs_nil))))) (e_cons rfl (e_cons rfl (e_cons rfl (e_cons rfl (e_cons (e_add rfl (by decide)) rfl)))))
theorem rZ_plan (rz : zF) (rm : mF) (hR : Rc rz rm) (β : Nat) (σ : zS) (hσ : zOK σ) (x0 x1 x2 x3 : Int) (hx0 : zr x0) (hx1 : zr x1) (hx2 : zr x2) (hx3 : zr x3) : Rf (kZ_plan rz β σ x0 x1 x2 x3) (kM_plan rm (cv σ) (i32 x0) (i32 x1) (i32 x2) (i32 x3)) β := by
  unfold kZ_plan kM_plan
  refine Rf_rd rfl (hσ.1 112) (fun hb1 => ?_)
  refine Rf_A rfl hb1 rfl hx0 hσ (fun σ1 hσ1 => ?_)
  refine Rf_rd rfl (hσ1.1 112) (fun hb2 => ?_)
  refine Rf_A rfl hb2 rfl hx1 hσ1 (fun σ2 hσ2 => ?_)
  refine Rf_rd rfl (hσ2.1 112) (fun hb3 => ?_)
  refine Rf_A rfl hb3 rfl hx2 hσ2 (fun σ3 hσ3 => ?_)
  refine Rf_g (fun hg4 => ?_)
  refine Rf_I (e_add rfl (by decide)) hg4 hσ3 (fun σ4 hσ4 => ?_)
  refine Rf_rd rfl (hσ3.1 112) (fun hb5 => ?_)
  refine Rf_g (fun hg6 => ?_)
  refine Rf_A rfl hb5 (e_bool rfl hg6) hx3 hσ4 (fun σ5 hσ5 => ?_)
  exact Rf_some hσ5 (by decide) (by decide)
theorem rZ_conclude (rz : zF) (rm : mF) (hR : Rc rz rm) (β : Nat) (σ : zS) (hσ : zOK σ) (x0 x1 x2 : Int) (hx0 : zr x0) (hx1 : zr x1) (hx2 : zr x2) : Rf (kZ_conclude rz β σ x0 x1 x2) (kM_conclude rm (cv σ) (i32 x0) (i32 x1) (i32 x2)) β := by
  unfold kZ_conclude kM_conclude
  refine Rf_I (e_wadd rfl (by decide)) (zr_to _) hσ (fun σ1 hσ1 => ?_)
  refine Rf_le rfl (by decide) (hσ1.1 112) (by decide) (fun _ => ?_) (fun _ => ?_)
  · exact Rf_tail hR hσ1 (zrs_cons hx0 (zrs_cons hx1 (zrs_cons hx2 (zrs_cons (by decide) (zrs_cons (by decide) zrs_nil))))) (e_cons rfl (e_cons rfl (e_cons rfl (e_cons (by decide) (e_cons (by decide) rfl)))))
  · refine Rf_I (e_wadd rfl (by decide)) (zr_to _) hσ1 (fun σ2 hσ2 => ?_)
    exact Rf_some hσ2 (by decide) (by decide)
theorem rZ_conclude_36 (rz : zF) (rm : mF) (hR : Rc rz rm) (β : Nat) (σ : zS) (hσ : zOK σ) (x0 x1 x2 x3 x4 : Int) (hx0 : zr x0) (hx1 : zr x1) (hx2 : zr x2) (hx3 : zr x3) (hx4 : zr x4) : Rf (kZ_conclude_36 rz β σ x0 x1 x2 x3 x4) (kM_conclude_36 rm (cv σ) (i32 x0) (i32 x1) (i32 x2) (i32 x3) (i32 x4)) β := by
  unfold kZ_conclude_36 kM_conclude_36
  refine Rf_le rfl rfl (hσ.1 112) hx4 (fun _ => ?_) (fun _ => ?_)
  · refine Rf_le rfl (by decide) hx3 (by decide) (fun _ => ?_) (fun _ => ?_)
    · refine Rf_I (by decide) (by decide) hσ (fun σ1 hσ1 => ?_)
      refine Rf_I (by decide) (by decide) hσ1 (fun σ2 hσ2 => ?_)
      exact Rf_tail hR hσ2 (zrs_cons hx0 (zrs_cons hx1 (zrs_cons hx2 (zrs_cons hx3 (zrs_cons (by decide) zrs_nil))))) (e_cons rfl (e_cons rfl (e_cons rfl (e_cons rfl (e_cons (by decide) rfl)))))
    · refine Rf_I (e_wadd rfl (by decide)) (zr_to _) hσ (fun σ3 hσ3 => ?_)
      exact Rf_some hσ3 (by decide) (by decide)
  · refine Rf_rd rfl hx4 (fun hb1 => ?_)
    refine Rf_rd2 rfl hb1 ?_
    refine Rf_bnd hR hσ (zrs_cons hx4 zrs_nil) (e_cons rfl rfl) (fun σ4 r4 hσ4 hr4 => ?_)
    refine Rf_bnd hR hσ4 (zrs_cons (hσ.2.1 _ _) (zrs_cons (hσ.2.1 _ _) (zrs_cons hr4 (zrs_cons (hσ4.1 114) (zrs_cons (by decide) zrs_nil))))) (e_cons (e_rd rfl hb1) (e_cons (e_rd rfl hb1) (e_cons rfl (e_cons rfl (e_cons (by decide) rfl))))) (fun σ5 r5 hσ5 hr5 => ?_)
    refine Rf_rd2 rfl hb1 ?_
    refine Rf_rd2 rfl hb1 ?_
    refine Rf_bnd hR hσ5 (zrs_cons hx4 zrs_nil) (e_cons rfl rfl) (fun σ6 r6 hσ6 hr6 => ?_)
    refine Rf_bnd hR hσ6 (zrs_cons (hσ5.2.1 _ _) (zrs_cons (hσ5.2.1 _ _) (zrs_cons hr6 (zrs_cons (hσ6.1 114) (zrs_cons (by decide) zrs_nil))))) (e_cons (e_rd rfl hb1) (e_cons (e_rd rfl hb1) (e_cons rfl (e_cons rfl (e_cons (by decide) rfl))))) (fun σ7 r7 hσ7 hr7 => ?_)
    refine Rf_g (fun hg2 => ?_)
    refine Rf_g (fun hg3 => ?_)
    refine Rf_g (fun hg4 => ?_)
    exact Rf_tail hR hσ7 (zrs_cons hx0 (zrs_cons hx1 (zrs_cons hx2 (zrs_cons hg3 (zrs_cons hg4 zrs_nil))))) (e_cons rfl (e_cons rfl (e_cons rfl (e_cons (e_add rfl (e_add rfl rfl)) (e_cons (e_add rfl (by decide)) rfl)))))
theorem rZ_conclude_148 (rz : zF) (rm : mF) (hR : Rc rz rm) (β : Nat) (σ : zS) (hσ : zOK σ) (x0 x1 x2 x3 x4 : Int) (hx0 : zr x0) (hx1 : zr x1) (hx2 : zr x2) (hx3 : zr x3) (hx4 : zr x4) : Rf (kZ_conclude_148 rz β σ x0 x1 x2 x3 x4) (kM_conclude_148 rm (cv σ) (i32 x0) (i32 x1) (i32 x2) (i32 x3) (i32 x4)) β := by
  unfold kZ_conclude_148 kM_conclude_148
  refine Rf_le rfl rfl (hσ.1 112) hx4 (fun _ => ?_) (fun _ => ?_)
  · refine Rf_bnd hR hσ zrs_nil rfl (fun σ1 r1 hσ1 hr1 => ?_)
    refine Rf_le rfl (by decide) hr1 (by decide) (fun _ => ?_) (fun _ => ?_)
    · refine Rf_bnd hR hσ1 zrs_nil rfl (fun σ2 r2 hσ2 hr2 => ?_)
      refine Rf_bnd hR hσ2 zrs_nil rfl (fun σ3 r3 hσ3 hr3 => ?_)
      refine Rf_eq rfl (by decide) hr3 (by decide) (fun _ => ?_) (fun _ => ?_)
      · refine Rf_bnd hR hσ3 (zrs_cons hx0 (zrs_cons hx1 (zrs_cons hx2 zrs_nil))) (e_cons rfl (e_cons rfl (e_cons rfl rfl))) (fun σ4 r4 hσ4 hr4 => ?_)
        exact Rf_tail hR hσ4 (zrs_cons hx0 (zrs_cons hx1 (zrs_cons hx2 (zrs_cons hx3 (zrs_cons hx4 zrs_nil))))) (e_cons rfl (e_cons rfl (e_cons rfl (e_cons rfl (e_cons rfl rfl)))))
      · refine Rf_I (e_wadd rfl (by decide)) (zr_to _) hσ3 (fun σ5 hσ5 => ?_)
        exact Rf_tail hR hσ5 (zrs_cons hx0 (zrs_cons hx1 (zrs_cons hx2 (zrs_cons hx3 (zrs_cons hx4 zrs_nil))))) (e_cons rfl (e_cons rfl (e_cons rfl (e_cons rfl (e_cons rfl rfl)))))
    · refine Rf_I (e_wadd rfl (by decide)) (zr_to _) hσ1 (fun σ6 hσ6 => ?_)
      exact Rf_some hσ6 (by decide) (by decide)
  · refine Rf_rd rfl hx4 (fun hb1 => ?_)
    refine Rf_rd2 rfl hb1 ?_
    refine Rf_bnd hR hσ (zrs_cons hx4 zrs_nil) (e_cons rfl rfl) (fun σ7 r7 hσ7 hr7 => ?_)
    refine Rf_bnd hR hσ7 (zrs_cons (hσ.2.1 _ _) (zrs_cons (hσ.2.1 _ _) (zrs_cons hr7 (zrs_cons (hσ7.1 114) (zrs_cons (by decide) zrs_nil))))) (e_cons (e_rd rfl hb1) (e_cons (e_rd rfl hb1) (e_cons rfl (e_cons rfl (e_cons (by decide) rfl))))) (fun σ8 r8 hσ8 hr8 => ?_)
    refine Rf_rd2 rfl hb1 ?_
    refine Rf_rd2 rfl hb1 ?_
    refine Rf_bnd hR hσ8 (zrs_cons hx4 zrs_nil) (e_cons rfl rfl) (fun σ9 r9 hσ9 hr9 => ?_)
    refine Rf_bnd hR hσ9 (zrs_cons (hσ8.2.1 _ _) (zrs_cons (hσ8.2.1 _ _) (zrs_cons hr9 (zrs_cons (hσ9.1 114) (zrs_cons (by decide) zrs_nil))))) (e_cons (e_rd rfl hb1) (e_cons (e_rd rfl hb1) (e_cons rfl (e_cons rfl (e_cons (by decide) rfl))))) (fun σ10 r10 hσ10 hr10 => ?_)
    refine Rf_rd2 rfl hb1 ?_
    refine Rf_bnd hR hσ10 (zrs_cons hr8 (zrs_cons hr10 (zrs_cons (hσ10.2.1 _ _) zrs_nil))) (e_cons rfl (e_cons rfl (e_cons (e_rd rfl hb1) rfl))) (fun σ11 r11 hσ11 hr11 => ?_)
    refine Rf_g (fun hg2 => ?_)
    exact Rf_tail hR hσ11 (zrs_cons hx0 (zrs_cons hx1 (zrs_cons hx2 (zrs_cons hx3 (zrs_cons hg2 zrs_nil))))) (e_cons rfl (e_cons rfl (e_cons rfl (e_cons rfl (e_cons (e_add rfl (by decide)) rfl)))))
theorem rZ_conclude_284 (rz : zF) (rm : mF) (hR : Rc rz rm) (β : Nat) (σ : zS) (hσ : zOK σ) (x0 x1 x2 x3 x4 : Int) (hx0 : zr x0) (hx1 : zr x1) (hx2 : zr x2) (hx3 : zr x3) (hx4 : zr x4) : Rf (kZ_conclude_284 rz β σ x0 x1 x2 x3 x4) (kM_conclude_284 rm (cv σ) (i32 x0) (i32 x1) (i32 x2) (i32 x3) (i32 x4)) β := by
  unfold kZ_conclude_284 kM_conclude_284
  exact Rf_some hσ (by decide) (by decide)
theorem rZ_placeIn (rz : zF) (rm : mF) (hR : Rc rz rm) (β : Nat) (σ : zS) (hσ : zOK σ) (x0 : Int) (hx0 : zr x0) : Rf (kZ_placeIn rz β σ x0) (kM_placeIn rm (cv σ) (i32 x0)) β := by
  unfold kZ_placeIn kM_placeIn
  refine Rf_rd rfl hx0 (fun hb1 => ?_)
  refine Rf_eq (e_rd rfl hb1) (by decide) (hσ.2.1 _ _) (by decide) (fun _ => ?_) (fun _ => ?_)
  · exact Rf_tail hR hσ (zrs_cons hx0 (zrs_cons (hσ.1 113) zrs_nil)) (e_cons rfl (e_cons rfl rfl))
  · exact Rf_tail hR hσ (zrs_cons hx0 (zrs_cons (by decide) zrs_nil)) (e_cons rfl (e_cons (by decide) rfl))
theorem rZ_placeIn_19 (rz : zF) (rm : mF) (hR : Rc rz rm) (β : Nat) (σ : zS) (hσ : zOK σ) (x0 x1 : Int) (hx0 : zr x0) (hx1 : zr x1) : Rf (kZ_placeIn_19 rz β σ x0 x1) (kM_placeIn_19 rm (cv σ) (i32 x0) (i32 x1)) β := by
  unfold kZ_placeIn_19 kM_placeIn_19
  exact Rf_some hσ hx1 rfl
theorem rZ_weigh (rz : zF) (rm : mF) (hR : Rc rz rm) (β : Nat) (σ : zS) (hσ : zOK σ) (x0 x1 x2 x3 x4 : Int) (hx0 : zr x0) (hx1 : zr x1) (hx2 : zr x2) (hx3 : zr x3) (hx4 : zr x4) : Rf (kZ_weigh rz β σ x0 x1 x2 x3 x4) (kM_weigh rm (cv σ) (i32 x0) (i32 x1) (i32 x2) (i32 x3) (i32 x4)) β := by
  unfold kZ_weigh kM_weigh
  refine Rf_eq rfl rfl hx0 hx2 (fun _ => ?_) (fun _ => ?_)
  · refine Rf_bnd hR hσ (zrs_cons hx3 (zrs_cons hx4 (zrs_cons (by decide) (zrs_cons (by decide) (zrs_cons (by decide) zrs_nil))))) (e_cons rfl (e_cons rfl (e_cons (by decide) (e_cons (by decide) (e_cons (by decide) rfl))))) (fun σ2 r2 hσ2 hr2 => ?_)
    exact Rf_some hσ2 hr2 rfl
  · refine Rf_rd rfl hx0 (fun hb1 => ?_)
    refine Rf_le (by decide) (e_rd rfl hb1) (by decide) (hσ.2.1 _ _) (fun _ => ?_) (fun _ => ?_)
    · refine Rf_rd2 rfl hb1 ?_
      exact Rf_tail hR hσ (zrs_cons hx0 (zrs_cons hx1 (zrs_cons hx2 (zrs_cons hx3 (zrs_cons hx4 (zrs_cons (by decide) (zrs_cons (hσ.2.1 _ _) zrs_nil))))))) (e_cons rfl (e_cons rfl (e_cons rfl (e_cons rfl (e_cons rfl (e_cons (by decide) (e_cons (e_rd rfl hb1) rfl)))))))
    · refine Rf_rd2 rfl hb1 ?_
      refine Rf_g (fun hg2 => ?_)
      refine Rf_g (fun hg3 => ?_)
      refine Rf_rd (e_add (e_sub (by decide) (e_rd rfl hb1)) rfl) hg3 (fun hb4 => ?_)
      refine Rf_le (by decide) (e_rd (e_add (e_sub (by decide) (e_rd rfl hb1)) rfl) hb4) (by decide) (hσ.2.1 _ _) (fun _ => ?_) (fun _ => ?_)
      · refine Rf_rd2 (e_add (e_sub (by decide) (e_rd rfl hb1)) rfl) hb4 ?_
        refine Rf_rd2 (e_add (e_sub (by decide) (e_rd rfl hb1)) rfl) hb4 ?_
        refine Rf_bnd hR hσ (zrs_cons (hσ.2.1 _ _) (zrs_cons (hσ.2.1 _ _) (zrs_cons (by decide) (zrs_cons (by decide) (zrs_cons (by decide) zrs_nil))))) (e_cons (e_rd (e_add (e_sub (by decide) (e_rd rfl hb1)) rfl) hb4) (e_cons (e_rd (e_add (e_sub (by decide) (e_rd rfl hb1)) rfl) hb4) (e_cons (by decide) (e_cons (by decide) (e_cons (by decide) rfl))))) (fun σ1 r1 hσ1 hr1 => ?_)
        exact Rf_tail hR hσ1 (zrs_cons hx0 (zrs_cons hx1 (zrs_cons hx2 (zrs_cons hx3 (zrs_cons hx4 (zrs_cons hg3 (zrs_cons hr1 zrs_nil))))))) (e_cons rfl (e_cons rfl (e_cons rfl (e_cons rfl (e_cons rfl (e_cons (e_add (e_sub (by decide) (e_rd rfl hb1)) rfl) (e_cons rfl rfl)))))))
      · exact Rf_tail hR hσ (zrs_cons hx0 (zrs_cons hx1 (zrs_cons hx2 (zrs_cons hx3 (zrs_cons hx4 (zrs_cons hg3 (zrs_cons (by decide) zrs_nil))))))) (e_cons rfl (e_cons rfl (e_cons rfl (e_cons rfl (e_cons rfl (e_cons (e_add (e_sub (by decide) (e_rd rfl hb1)) rfl) (e_cons (by decide) rfl)))))))
theorem rZ_weigh_73 (rz : zF) (rm : mF) (hR : Rc rz rm) (β : Nat) (σ : zS) (hσ : zOK σ) (x0 x1 x2 x3 x4 x5 x6 : Int) (hx0 : zr x0) (hx1 : zr x1) (hx2 : zr x2) (hx3 : zr x3) (hx4 : zr x4) (hx5 : zr x5) (hx6 : zr x6) : Rf (kZ_weigh_73 rz β σ x0 x1 x2 x3 x4 x5 x6) (kM_weigh_73 rm (cv σ) (i32 x0) (i32 x1) (i32 x2) (i32 x3) (i32 x4) (i32 x5) (i32 x6)) β := by
  unfold kZ_weigh_73 kM_weigh_73
  exact Rf_some hσ hx6 rfl
theorem rZ_weigh_85 (rz : zF) (rm : mF) (hR : Rc rz rm) (β : Nat) (σ : zS) (hσ : zOK σ) (x0 x1 x2 x3 x4 x5 x6 : Int) (hx0 : zr x0) (hx1 : zr x1) (hx2 : zr x2) (hx3 : zr x3) (hx4 : zr x4) (hx5 : zr x5) (hx6 : zr x6) : Rf (kZ_weigh_85 rz β σ x0 x1 x2 x3 x4 x5 x6) (kM_weigh_85 rm (cv σ) (i32 x0) (i32 x1) (i32 x2) (i32 x3) (i32 x4) (i32 x5) (i32 x6)) β := by
  unfold kZ_weigh_85 kM_weigh_85
  refine Rf_lt rfl (by decide) hx6 (by decide) (fun _ => ?_) (fun _ => ?_)
  · exact Rf_tail hR hσ (zrs_cons hx0 (zrs_cons hx1 (zrs_cons hx2 (zrs_cons hx3 (zrs_cons hx4 (zrs_cons hx5 (zrs_cons hx6 zrs_nil))))))) (e_cons rfl (e_cons rfl (e_cons rfl (e_cons rfl (e_cons rfl (e_cons rfl (e_cons rfl rfl)))))))
  · refine Rf_le (by decide) rfl (by decide) hx5 (fun _ => ?_) (fun _ => ?_)
    · exact Rf_tail hR hσ (zrs_cons hx0 (zrs_cons hx1 (zrs_cons hx2 (zrs_cons hx3 (zrs_cons hx4 (zrs_cons hx5 (zrs_cons hx6 zrs_nil))))))) (e_cons rfl (e_cons rfl (e_cons rfl (e_cons rfl (e_cons rfl (e_cons rfl (e_cons rfl rfl)))))))
    · refine Rf_bnd hR hσ (zrs_cons hx6 (zrs_cons hx1 (zrs_cons hx2 (zrs_cons hx3 (zrs_cons hx4 zrs_nil))))) (e_cons rfl (e_cons rfl (e_cons rfl (e_cons rfl (e_cons rfl rfl))))) (fun σ1 r1 hσ1 hr1 => ?_)
      refine Rf_rd rfl hx6 (fun hb1 => ?_)
      refine Rf_g (fun hg2 => ?_)
      exact Rf_tail hR hσ1 (zrs_cons hx0 (zrs_cons hx1 (zrs_cons hx2 (zrs_cons hx3 (zrs_cons hx4 (zrs_cons hg2 (zrs_cons (hσ1.2.1 _ _) zrs_nil))))))) (e_cons rfl (e_cons rfl (e_cons rfl (e_cons rfl (e_cons rfl (e_cons (e_add rfl rfl) (e_cons (e_rd rfl hb1) rfl)))))))
theorem rZ_weigh_127 (rz : zF) (rm : mF) (hR : Rc rz rm) (β : Nat) (σ : zS) (hσ : zOK σ) (x0 x1 x2 x3 x4 x5 x6 : Int) (hx0 : zr x0) (hx1 : zr x1) (hx2 : zr x2) (hx3 : zr x3) (hx4 : zr x4) (hx5 : zr x5) (hx6 : zr x6) : Rf (kZ_weigh_127 rz β σ x0 x1 x2 x3 x4 x5 x6) (kM_weigh_127 rm (cv σ) (i32 x0) (i32 x1) (i32 x2) (i32 x3) (i32 x4) (i32 x5) (i32 x6)) β := by
  unfold kZ_weigh_127 kM_weigh_127
  exact Rf_some hσ (zr_ite hx5 (by decide)) (e_ite rfl (by decide) hx5 (by decide) rfl (by decide))
theorem rZ_with (rz : zF) (rm : mF) (hR : Rc rz rm) (β : Nat) (σ : zS) (hσ : zOK σ) (x0 x1 x2 x3 x4 : Int) (hx0 : zr x0) (hx1 : zr x1) (hx2 : zr x2) (hx3 : zr x3) (hx4 : zr x4) : Rf (kZ_with rz β σ x0 x1 x2 x3 x4) (kM_with rm (cv σ) (i32 x0) (i32 x1) (i32 x2) (i32 x3) (i32 x4)) β := by
  unfold kZ_with kM_with
  refine Rf_eq rfl rfl hx0 hx2 (fun _ => ?_) (fun _ => ?_)
  · refine Rf_bnd hR hσ (zrs_cons hx3 (zrs_cons hx4 (zrs_cons (by decide) (zrs_cons (by decide) (zrs_cons (by decide) zrs_nil))))) (e_cons rfl (e_cons rfl (e_cons (by decide) (e_cons (by decide) (e_cons (by decide) rfl))))) (fun σ4 r4 hσ4 hr4 => ?_)
    exact Rf_some hσ4 hr4 rfl
  · refine Rf_rd rfl hx0 (fun hb1 => ?_)
    refine Rf_le (by decide) (e_rd rfl hb1) (by decide) (hσ.2.1 _ _) (fun _ => ?_) (fun _ => ?_)
    · refine Rf_rd2 rfl hb1 ?_
      refine Rf_bnd hR hσ (zrs_cons (hσ.2.1 _ _) zrs_nil) (e_cons (e_rd rfl hb1) rfl) (fun σ1 r1 hσ1 hr1 => ?_)
      refine Rf_rd2 rfl hb1 ?_
      exact Rf_tail hR hσ1 (zrs_cons hx0 (zrs_cons hx1 (zrs_cons hx2 (zrs_cons hx3 (zrs_cons hx4 (zrs_cons hr1 (zrs_cons (by decide) (zrs_cons (hσ1.2.1 _ _) zrs_nil)))))))) (e_cons rfl (e_cons rfl (e_cons rfl (e_cons rfl (e_cons rfl (e_cons rfl (e_cons (by decide) (e_cons (e_rd rfl hb1) rfl))))))))
    · refine Rf_rd2 rfl hb1 ?_
      refine Rf_g (fun hg2 => ?_)
      refine Rf_g (fun hg3 => ?_)
      refine Rf_rd (e_add (e_sub (by decide) (e_rd rfl hb1)) rfl) hg3 (fun hb4 => ?_)
      refine Rf_le (by decide) (e_rd (e_add (e_sub (by decide) (e_rd rfl hb1)) rfl) hb4) (by decide) (hσ.2.1 _ _) (fun _ => ?_) (fun _ => ?_)
      · refine Rf_rd2 (e_add (e_sub (by decide) (e_rd rfl hb1)) rfl) hb4 ?_
        refine Rf_rd2 (e_add (e_sub (by decide) (e_rd rfl hb1)) rfl) hb4 ?_
        refine Rf_bnd hR hσ (zrs_cons (hσ.2.1 _ _) (zrs_cons (hσ.2.1 _ _) (zrs_cons (by decide) (zrs_cons (by decide) (zrs_cons (by decide) zrs_nil))))) (e_cons (e_rd (e_add (e_sub (by decide) (e_rd rfl hb1)) rfl) hb4) (e_cons (e_rd (e_add (e_sub (by decide) (e_rd rfl hb1)) rfl) hb4) (e_cons (by decide) (e_cons (by decide) (e_cons (by decide) rfl))))) (fun σ2 r2 hσ2 hr2 => ?_)
        exact Rf_tail hR hσ2 (zrs_cons hx0 (zrs_cons hx1 (zrs_cons hx2 (zrs_cons hx3 (zrs_cons hx4 (zrs_cons hg3 (zrs_cons hr2 zrs_nil))))))) (e_cons rfl (e_cons rfl (e_cons rfl (e_cons rfl (e_cons rfl (e_cons (e_add (e_sub (by decide) (e_rd rfl hb1)) rfl) (e_cons rfl rfl)))))))
      · refine Rf_g (fun hg5 => ?_)
        refine Rf_bnd hR hσ (zrs_cons hg5 zrs_nil) (e_cons (e_sub (by decide) (e_add (e_sub (by decide) (e_rd rfl hb1)) rfl)) rfl) (fun σ3 r3 hσ3 hr3 => ?_)
        exact Rf_tail hR hσ3 (zrs_cons hx0 (zrs_cons hx1 (zrs_cons hx2 (zrs_cons hx3 (zrs_cons hx4 (zrs_cons hg3 (zrs_cons hr3 zrs_nil))))))) (e_cons rfl (e_cons rfl (e_cons rfl (e_cons rfl (e_cons rfl (e_cons (e_add (e_sub (by decide) (e_rd rfl hb1)) rfl) (e_cons rfl rfl)))))))
theorem rZ_with_80 (rz : zF) (rm : mF) (hR : Rc rz rm) (β : Nat) (σ : zS) (hσ : zOK σ) (x0 x1 x2 x3 x4 x5 x6 : Int) (hx0 : zr x0) (hx1 : zr x1) (hx2 : zr x2) (hx3 : zr x3) (hx4 : zr x4) (hx5 : zr x5) (hx6 : zr x6) : Rf (kZ_with_80 rz β σ x0 x1 x2 x3 x4 x5 x6) (kM_with_80 rm (cv σ) (i32 x0) (i32 x1) (i32 x2) (i32 x3) (i32 x4) (i32 x5) (i32 x6)) β := by
  unfold kZ_with_80 kM_with_80
  exact Rf_some hσ hx6 rfl
theorem rZ_with_104 (rz : zF) (rm : mF) (hR : Rc rz rm) (β : Nat) (σ : zS) (hσ : zOK σ) (x0 x1 x2 x3 x4 x5 x6 x7 : Int) (hx0 : zr x0) (hx1 : zr x1) (hx2 : zr x2) (hx3 : zr x3) (hx4 : zr x4) (hx5 : zr x5) (hx6 : zr x6) (hx7 : zr x7) : Rf (kZ_with_104 rz β σ x0 x1 x2 x3 x4 x5 x6 x7) (kM_with_104 rm (cv σ) (i32 x0) (i32 x1) (i32 x2) (i32 x3) (i32 x4) (i32 x5) (i32 x6) (i32 x7)) β := by
  unfold kZ_with_104 kM_with_104
  refine Rf_lt rfl (by decide) hx7 (by decide) (fun _ => ?_) (fun _ => ?_)
  · exact Rf_some hσ hx5 rfl
  · refine Rf_bnd hR hσ (zrs_cons hx7 (zrs_cons hx1 (zrs_cons hx2 (zrs_cons hx3 (zrs_cons hx4 zrs_nil))))) (e_cons rfl (e_cons rfl (e_cons rfl (e_cons rfl (e_cons rfl rfl))))) (fun σ1 r1 hσ1 hr1 => ?_)
    refine Rf_le (by decide) rfl (by decide) hx6 (fun _ => ?_) (fun _ => ?_)
    · refine Rf_rd rfl hx6 (fun hb1 => ?_)
      refine Rf_A rfl hb1 rfl hr1 hσ1 (fun σ2 hσ2 => ?_)
      exact Rf_tail hR hσ2 (zrs_cons hx0 (zrs_cons hx1 (zrs_cons hx2 (zrs_cons hx3 (zrs_cons hx4 (zrs_cons hx5 (zrs_cons hx6 (zrs_cons hx7 (zrs_cons hr1 zrs_nil))))))))) (e_cons rfl (e_cons rfl (e_cons rfl (e_cons rfl (e_cons rfl (e_cons rfl (e_cons rfl (e_cons rfl (e_cons rfl rfl)))))))))
    · refine Rf_rd rfl hx5 (fun hb2 => ?_)
      refine Rf_A rfl hb2 rfl hr1 hσ1 (fun σ3 hσ3 => ?_)
      exact Rf_tail hR hσ3 (zrs_cons hx0 (zrs_cons hx1 (zrs_cons hx2 (zrs_cons hx3 (zrs_cons hx4 (zrs_cons hx5 (zrs_cons hx6 (zrs_cons hx7 (zrs_cons hr1 zrs_nil))))))))) (e_cons rfl (e_cons rfl (e_cons rfl (e_cons rfl (e_cons rfl (e_cons rfl (e_cons rfl (e_cons rfl (e_cons rfl rfl)))))))))
theorem rZ_with_149 (rz : zF) (rm : mF) (hR : Rc rz rm) (β : Nat) (σ : zS) (hσ : zOK σ) (x0 x1 x2 x3 x4 x5 x6 x7 x8 : Int) (hx0 : zr x0) (hx1 : zr x1) (hx2 : zr x2) (hx3 : zr x3) (hx4 : zr x4) (hx5 : zr x5) (hx6 : zr x6) (hx7 : zr x7) (hx8 : zr x8) : Rf (kZ_with_149 rz β σ x0 x1 x2 x3 x4 x5 x6 x7 x8) (kM_with_149 rm (cv σ) (i32 x0) (i32 x1) (i32 x2) (i32 x3) (i32 x4) (i32 x5) (i32 x6) (i32 x7) (i32 x8)) β := by
  unfold kZ_with_149 kM_with_149
  refine Rf_rd rfl hx5 (fun hb1 => ?_)
  refine Rf_rd rfl hx8 (fun hb2 => ?_)
  refine Rf_rd2 rfl hb1 ?_
  refine Rf_g (fun hg3 => ?_)
  refine Rf_A rfl hb1 (e_add (e_rd rfl hb1) (e_rd rfl hb2)) hg3 hσ (fun σ1 hσ1 => ?_)
  refine Rf_rd rfl hx7 (fun hb4 => ?_)
  exact Rf_tail hR hσ1 (zrs_cons hx0 (zrs_cons hx1 (zrs_cons hx2 (zrs_cons hx3 (zrs_cons hx4 (zrs_cons hx5 (zrs_cons hx8 (zrs_cons (hσ1.2.1 _ _) zrs_nil)))))))) (e_cons rfl (e_cons rfl (e_cons rfl (e_cons rfl (e_cons rfl (e_cons rfl (e_cons rfl (e_cons (e_rd rfl hb4) rfl))))))))
theorem rZ_resolve (rz : zF) (rm : mF) (hR : Rc rz rm) (β : Nat) (σ : zS) (hσ : zOK σ) (x0 : Int) (hx0 : zr x0) : Rf (kZ_resolve rz β σ x0) (kM_resolve rm (cv σ) (i32 x0)) β := by
  unfold kZ_resolve kM_resolve
  refine Rf_rd rfl hx0 (fun hb1 => ?_)
  exact Rf_tail hR hσ (zrs_cons hx0 (zrs_cons (hσ.2.1 _ _) zrs_nil)) (e_cons rfl (e_cons (e_rd rfl hb1) rfl))
theorem rZ_resolve_7 (rz : zF) (rm : mF) (hR : Rc rz rm) (β : Nat) (σ : zS) (hσ : zOK σ) (x0 x1 : Int) (hx0 : zr x0) (hx1 : zr x1) : Rf (kZ_resolve_7 rz β σ x0 x1) (kM_resolve_7 rm (cv σ) (i32 x0) (i32 x1)) β := by
  unfold kZ_resolve_7 kM_resolve_7
  refine Rf_rd rfl hx0 (fun hb1 => ?_)
  refine Rf_rd2 rfl hb1 ?_
  refine Rf_g (fun hg2 => ?_)
  refine Rf_le (e_add (e_rd rfl hb1) (e_rd rfl hb1)) rfl hg2 hx1 (fun _ => ?_) (fun _ => ?_)
  · exact Rf_tail hR hσ (zrs_cons hx0 (zrs_cons hx1 zrs_nil)) (e_cons rfl (e_cons rfl rfl))
  · refine Rf_eq rfl (by decide) (hσ.1 87) (by decide) (fun _ => ?_) (fun _ => ?_)
    · refine Rf_rd rfl hx1 (fun hb3 => ?_)
      refine Rf_eq (e_rd rfl hb3) (by decide) (hσ.2.1 _ _) (by decide) (fun _ => ?_) (fun _ => ?_)
      · refine Rf_rd2 rfl hb3 ?_
        refine Rf_eq (e_rd rfl hb3) (by decide) (hσ.2.1 _ _) (by decide) (fun _ => ?_) (fun _ => ?_)
        · exact Rf_tail hR hσ (zrs_cons hx0 (zrs_cons hx1 zrs_nil)) (e_cons rfl (e_cons rfl rfl))
        · refine Rf_bnd hR hσ zrs_nil rfl (fun σ1 r1 hσ1 hr1 => ?_)
          refine Rf_rd2 rfl hb3 ?_
          refine Rf_rd2 rfl hb3 ?_
          refine Rf_bnd hR hσ1 (zrs_cons (hσ1.2.1 _ _) (zrs_cons (by decide) (zrs_cons (hσ1.2.1 _ _) (zrs_cons (by decide) zrs_nil)))) (e_cons (e_rd rfl hb3) (e_cons (by decide) (e_cons (e_rd rfl hb3) (e_cons (by decide) rfl)))) (fun σ2 r2 hσ2 hr2 => ?_)
          refine Rf_eq rfl (by decide) hr2 (by decide) (fun _ => ?_) (fun _ => ?_)
          · exact Rf_tail hR hσ2 (zrs_cons hx0 (zrs_cons hx1 zrs_nil)) (e_cons rfl (e_cons rfl rfl))
          · refine Rf_bnd hR hσ2 zrs_nil rfl (fun σ3 r3 hσ3 hr3 => ?_)
            refine Rf_bnd hR hσ3 (zrs_cons hx0 (zrs_cons (by decide) (zrs_cons hx1 (zrs_cons (by decide) zrs_nil)))) (e_cons rfl (e_cons (by decide) (e_cons rfl (e_cons (by decide) rfl)))) (fun σ4 r4 hσ4 hr4 => ?_)
            refine Rf_bnd hR hσ4 (zrs_cons (by decide) (zrs_cons hx0 (zrs_cons (by decide) zrs_nil))) (e_cons (by decide) (e_cons rfl (e_cons (by decide) rfl))) (fun σ5 r5 hσ5 hr5 => ?_)
            exact Rf_tail hR hσ5 (zrs_cons hx0 (zrs_cons hx1 zrs_nil)) (e_cons rfl (e_cons rfl rfl))
      · exact Rf_tail hR hσ (zrs_cons hx0 (zrs_cons hx1 zrs_nil)) (e_cons rfl (e_cons rfl rfl))
    · exact Rf_tail hR hσ (zrs_cons hx0 (zrs_cons hx1 zrs_nil)) (e_cons rfl (e_cons rfl rfl))
theorem rZ_resolve_99 (rz : zF) (rm : mF) (hR : Rc rz rm) (β : Nat) (σ : zS) (hσ : zOK σ) (x0 x1 : Int) (hx0 : zr x0) (hx1 : zr x1) : Rf (kZ_resolve_99 rz β σ x0 x1) (kM_resolve_99 rm (cv σ) (i32 x0) (i32 x1)) β := by
  unfold kZ_resolve_99 kM_resolve_99
  refine Rf_g (fun hg1 => ?_)
  exact Rf_tail hR hσ (zrs_cons hx0 (zrs_cons hg1 zrs_nil)) (e_cons rfl (e_cons (e_add rfl (by decide)) rfl))
theorem rZ_resolve_105 (rz : zF) (rm : mF) (hR : Rc rz rm) (β : Nat) (σ : zS) (hσ : zOK σ) (x0 x1 : Int) (hx0 : zr x0) (hx1 : zr x1) : Rf (kZ_resolve_105 rz β σ x0 x1) (kM_resolve_105 rm (cv σ) (i32 x0) (i32 x1)) β := by
  unfold kZ_resolve_105 kM_resolve_105
  exact Rf_some hσ (by decide) (by decide)
theorem rZ_factor1 (rz : zF) (rm : mF) (hR : Rc rz rm) (β : Nat) (σ : zS) (hσ : zOK σ) (x0 : Int) (hx0 : zr x0) : Rf (kZ_factor1 rz β σ x0) (kM_factor1 rm (cv σ) (i32 x0)) β := by
  unfold kZ_factor1 kM_factor1
  refine Rf_bnd hR hσ (zrs_cons hx0 zrs_nil) (e_cons rfl rfl) (fun σ1 r1 hσ1 hr1 => ?_)
  refine Rf_eq rfl (by decide) hr1 (by decide) (fun _ => ?_) (fun _ => ?_)
  · refine Rf_rd rfl hx0 (fun hb1 => ?_)
    exact Rf_tail hR hσ1 (zrs_cons hx0 (zrs_cons (hσ1.2.1 _ _) zrs_nil)) (e_cons rfl (e_cons (e_rd rfl hb1) rfl))
  · exact Rf_some hσ1 (by decide) (by decide)
theorem rZ_factor1_16 (rz : zF) (rm : mF) (hR : Rc rz rm) (β : Nat) (σ : zS) (hσ : zOK σ) (x0 x1 : Int) (hx0 : zr x0) (hx1 : zr x1) : Rf (kZ_factor1_16 rz β σ x0 x1) (kM_factor1_16 rm (cv σ) (i32 x0) (i32 x1)) β := by
  unfold kZ_factor1_16 kM_factor1_16
  refine Rf_rd rfl hx0 (fun hb1 => ?_)
  refine Rf_rd2 rfl hb1 ?_
  refine Rf_g (fun hg2 => ?_)
  refine Rf_le (e_add (e_rd rfl hb1) (e_rd rfl hb1)) rfl hg2 hx1 (fun _ => ?_) (fun _ => ?_)
  · exact Rf_some hσ (by decide) (by decide)
  · refine Rf_rd rfl hx1 (fun hb3 => ?_)
    refine Rf_eq (e_rd rfl hb3) (by decide) (hσ.2.1 _ _) (by decide) (fun _ => ?_) (fun _ => ?_)
    · exact Rf_tail hR hσ (zrs_cons hx0 (zrs_cons hx1 zrs_nil)) (e_cons rfl (e_cons rfl rfl))
    · refine Rf_rd2 rfl hb1 ?_
      exact Rf_tail hR hσ (zrs_cons hx0 (zrs_cons hx1 (zrs_cons (hσ.2.1 _ _) zrs_nil))) (e_cons rfl (e_cons rfl (e_cons (e_rd rfl hb1) rfl)))
theorem rZ_factor1_52 (rz : zF) (rm : mF) (hR : Rc rz rm) (β : Nat) (σ : zS) (hσ : zOK σ) (x0 x1 x2 : Int) (hx0 : zr x0) (hx1 : zr x1) (hx2 : zr x2) : Rf (kZ_factor1_52 rz β σ x0 x1 x2) (kM_factor1_52 rm (cv σ) (i32 x0) (i32 x1) (i32 x2)) β := by
  unfold kZ_factor1_52 kM_factor1_52
  refine Rf_rd rfl hx0 (fun hb1 => ?_)
  refine Rf_rd2 rfl hb1 ?_
  refine Rf_g (fun hg2 => ?_)
  refine Rf_le (e_add (e_rd rfl hb1) (e_rd rfl hb1)) rfl hg2 hx2 (fun _ => ?_) (fun _ => ?_)
  · exact Rf_tail hR hσ (zrs_cons hx0 (zrs_cons hx1 zrs_nil)) (e_cons rfl (e_cons rfl rfl))
  · refine Rf_eq rfl rfl hx2 hx1 (fun _ => ?_) (fun _ => ?_)
    · exact Rf_tail hR hσ (zrs_cons hx0 (zrs_cons hx1 (zrs_cons hx2 zrs_nil))) (e_cons rfl (e_cons rfl (e_cons rfl rfl)))
    · exact Rf_tail hR hσ (zrs_cons hx0 (zrs_cons hx1 (zrs_cons hx2 (zrs_cons (by decide) zrs_nil)))) (e_cons rfl (e_cons rfl (e_cons rfl (e_cons (by decide) rfl))))
theorem rZ_factor1_80 (rz : zF) (rm : mF) (hR : Rc rz rm) (β : Nat) (σ : zS) (hσ : zOK σ) (x0 x1 x2 x3 : Int) (hx0 : zr x0) (hx1 : zr x1) (hx2 : zr x2) (hx3 : zr x3) : Rf (kZ_factor1_80 rz β σ x0 x1 x2 x3) (kM_factor1_80 rm (cv σ) (i32 x0) (i32 x1) (i32 x2) (i32 x3)) β := by
  unfold kZ_factor1_80 kM_factor1_80
  refine Rf_le (by decide) rfl (by decide) hx3 (fun _ => ?_) (fun _ => ?_)
  · exact Rf_tail hR hσ (zrs_cons hx0 (zrs_cons hx1 (zrs_cons hx2 zrs_nil))) (e_cons rfl (e_cons rfl (e_cons rfl rfl)))
  · refine Rf_eq rfl (by decide) (hσ.1 87) (by decide) (fun _ => ?_) (fun _ => ?_)
    · refine Rf_nz (by decide) ?_
      refine Rf_g (fun hg1 => ?_)
      refine Rf_bnd hR hσ (zrs_cons hx1 (zrs_cons hg1 zrs_nil)) (e_cons rfl (e_cons (e_div rfl (by decide) hx3 (by decide)) rfl)) (fun σ1 r1 hσ1 hr1 => ?_)
      refine Rf_eq rfl (by decide) hr1 (by decide) (fun _ => ?_) (fun _ => ?_)
      · exact Rf_tail hR hσ1 (zrs_cons hx0 (zrs_cons hx1 (zrs_cons hx2 (zrs_cons hx3 zrs_nil)))) (e_cons rfl (e_cons rfl (e_cons rfl (e_cons rfl rfl))))
      · refine Rf_nz (by decide) ?_
        refine Rf_nz (by decide) ?_
        refine Rf_bnd hR hσ1 (zrs_cons hx0 (zrs_cons hx1 (zrs_cons hx2 (zrs_cons hg1 (zrs_cons (zr_tmod hx3 _) zrs_nil))))) (e_cons rfl (e_cons rfl (e_cons rfl (e_cons (e_div rfl (by decide) hx3 (by decide)) (e_cons (e_mod rfl (by decide) hx3 (by decide)) rfl))))) (fun σ2 r2 hσ2 hr2 => ?_)
        exact Rf_tail hR hσ2 (zrs_cons hx0 (zrs_cons hx1 (zrs_cons hx2 (zrs_cons hx3 zrs_nil)))) (e_cons rfl (e_cons rfl (e_cons rfl (e_cons rfl rfl))))
    · exact Rf_tail hR hσ (zrs_cons hx0 (zrs_cons hx1 (zrs_cons hx2 zrs_nil))) (e_cons rfl (e_cons rfl (e_cons rfl rfl)))
theorem rZ_factor1_120 (rz : zF) (rm : mF) (hR : Rc rz rm) (β : Nat) (σ : zS) (hσ : zOK σ) (x0 x1 x2 x3 : Int) (hx0 : zr x0) (hx1 : zr x1) (hx2 : zr x2) (hx3 : zr x3) : Rf (kZ_factor1_120 rz β σ x0 x1 x2 x3) (kM_factor1_120 rm (cv σ) (i32 x0) (i32 x1) (i32 x2) (i32 x3)) β := by
  unfold kZ_factor1_120 kM_factor1_120
  refine Rf_g (fun hg1 => ?_)
  exact Rf_tail hR hσ (zrs_cons hx0 (zrs_cons hx1 (zrs_cons hx2 (zrs_cons hg1 zrs_nil)))) (e_cons rfl (e_cons rfl (e_cons rfl (e_cons (e_add rfl (by decide)) rfl))))
theorem rZ_factor1_126 (rz : zF) (rm : mF) (hR : Rc rz rm) (β : Nat) (σ : zS) (hσ : zOK σ) (x0 x1 x2 : Int) (hx0 : zr x0) (hx1 : zr x1) (hx2 : zr x2) : Rf (kZ_factor1_126 rz β σ x0 x1 x2) (kM_factor1_126 rm (cv σ) (i32 x0) (i32 x1) (i32 x2)) β := by
  unfold kZ_factor1_126 kM_factor1_126
  refine Rf_g (fun hg1 => ?_)
  exact Rf_tail hR hσ (zrs_cons hx0 (zrs_cons hx1 (zrs_cons hg1 zrs_nil))) (e_cons rfl (e_cons rfl (e_cons (e_add rfl (by decide)) rfl)))
theorem rZ_factor1_132 (rz : zF) (rm : mF) (hR : Rc rz rm) (β : Nat) (σ : zS) (hσ : zOK σ) (x0 x1 : Int) (hx0 : zr x0) (hx1 : zr x1) : Rf (kZ_factor1_132 rz β σ x0 x1) (kM_factor1_132 rm (cv σ) (i32 x0) (i32 x1)) β := by
  unfold kZ_factor1_132 kM_factor1_132
  refine Rf_g (fun hg1 => ?_)
  exact Rf_tail hR hσ (zrs_cons hx0 (zrs_cons hg1 zrs_nil)) (e_cons rfl (e_cons (e_add rfl (by decide)) rfl))
theorem rZ_isSelected (rz : zF) (rm : mF) (hR : Rc rz rm) (β : Nat) (σ : zS) (hσ : zOK σ) (x0 : Int) (hx0 : zr x0) : Rf (kZ_isSelected rz β σ x0) (kM_isSelected rm (cv σ) (i32 x0)) β := by
  unfold kZ_isSelected kM_isSelected
  refine Rf_rd rfl hx0 (fun hb1 => ?_)
  exact Rf_tail hR hσ (zrs_cons hx0 (zrs_cons (hσ.2.1 _ _) zrs_nil)) (e_cons rfl (e_cons (e_rd rfl hb1) rfl))
theorem rZ_isSelected_7 (rz : zF) (rm : mF) (hR : Rc rz rm) (β : Nat) (σ : zS) (hσ : zOK σ) (x0 x1 : Int) (hx0 : zr x0) (hx1 : zr x1) : Rf (kZ_isSelected_7 rz β σ x0 x1) (kM_isSelected_7 rm (cv σ) (i32 x0) (i32 x1)) β := by
  unfold kZ_isSelected_7 kM_isSelected_7
  refine Rf_rd rfl hx0 (fun hb1 => ?_)
  refine Rf_rd2 rfl hb1 ?_
  refine Rf_g (fun hg2 => ?_)
  refine Rf_le (e_add (e_rd rfl hb1) (e_rd rfl hb1)) rfl hg2 hx1 (fun _ => ?_) (fun _ => ?_)
  · exact Rf_some hσ (by decide) (by decide)
  · refine Rf_rd rfl hx1 (fun hb3 => ?_)
    refine Rf_eq (e_rd rfl hb3) (by decide) (hσ.2.1 _ _) (by decide) (fun _ => ?_) (fun _ => ?_)
    · exact Rf_some hσ (by decide) (by decide)
    · refine Rf_g (fun hg4 => ?_)
      exact Rf_tail hR hσ (zrs_cons hx0 (zrs_cons hg4 zrs_nil)) (e_cons rfl (e_cons (e_add rfl (by decide)) rfl))
theorem rZ_factor2 (rz : zF) (rm : mF) (hR : Rc rz rm) (β : Nat) (σ : zS) (hσ : zOK σ) (x0 x1 x2 x3 x4 : Int) (hx0 : zr x0) (hx1 : zr x1) (hx2 : zr x2) (hx3 : zr x3) (hx4 : zr x4) : Rf (kZ_factor2 rz β σ x0 x1 x2 x3 x4) (kM_factor2 rm (cv σ) (i32 x0) (i32 x1) (i32 x2) (i32 x3) (i32 x4)) β := by
  unfold kZ_factor2 kM_factor2
  refine Rf_bnd hR hσ zrs_nil rfl (fun σ1 r1 hσ1 hr1 => ?_)
  refine Rf_bnd hR hσ1 (zrs_cons hx1 (zrs_cons hx3 (zrs_cons (by decide) zrs_nil))) (e_cons rfl (e_cons rfl (e_cons (by decide) rfl))) (fun σ2 r2 hσ2 hr2 => ?_)
  refine Rf_bnd hR hσ2 (zrs_cons hx2 (zrs_cons hx4 (zrs_cons (by decide) zrs_nil))) (e_cons rfl (e_cons rfl (e_cons (by decide) rfl))) (fun σ3 r3 hσ3 hr3 => ?_)
  refine Rf_bnd hR hσ3 (zrs_cons hr2 (zrs_cons (by decide) (zrs_cons hr3 (zrs_cons (by decide) zrs_nil)))) (e_cons rfl (e_cons (by decide) (e_cons rfl (e_cons (by decide) rfl)))) (fun σ4 r4 hσ4 hr4 => ?_)
  refine Rf_eq rfl (by decide) hr4 (by decide) (fun _ => ?_) (fun _ => ?_)
  · exact Rf_some hσ4 (by decide) (by decide)
  · refine Rf_bnd hR hσ4 zrs_nil rfl (fun σ5 r5 hσ5 hr5 => ?_)
    refine Rf_bnd hR hσ5 (zrs_cons hx0 (zrs_cons (by decide) (zrs_cons hx1 (zrs_cons hx2 zrs_nil)))) (e_cons rfl (e_cons (by decide) (e_cons rfl (e_cons rfl rfl)))) (fun σ6 r6 hσ6 hr6 => ?_)
    refine Rf_bnd hR hσ6 (zrs_cons hx1 (zrs_cons hx3 (zrs_cons (by decide) zrs_nil))) (e_cons rfl (e_cons rfl (e_cons (by decide) rfl))) (fun σ7 r7 hσ7 hr7 => ?_)
    refine Rf_bnd hR hσ7 (zrs_cons hx2 (zrs_cons hx4 (zrs_cons (by decide) zrs_nil))) (e_cons rfl (e_cons rfl (e_cons (by decide) rfl))) (fun σ8 r8 hσ8 hr8 => ?_)
    refine Rf_bnd hR hσ8 (zrs_cons hr7 (zrs_cons hr8 (zrs_cons (by decide) (zrs_cons (by decide) zrs_nil)))) (e_cons rfl (e_cons rfl (e_cons (by decide) (e_cons (by decide) rfl)))) (fun σ9 r9 hσ9 hr9 => ?_)
    refine Rf_bnd hR hσ9 (zrs_cons hx1 (zrs_cons hx3 (zrs_cons (by decide) zrs_nil))) (e_cons rfl (e_cons rfl (e_cons (by decide) rfl))) (fun σ10 r10 hσ10 hr10 => ?_)
    refine Rf_bnd hR hσ10 (zrs_cons hx2 (zrs_cons hx4 (zrs_cons (by decide) zrs_nil))) (e_cons rfl (e_cons rfl (e_cons (by decide) rfl))) (fun σ11 r11 hσ11 hr11 => ?_)
    refine Rf_bnd hR hσ11 (zrs_cons hr10 (zrs_cons hr11 (zrs_cons (by decide) (zrs_cons (by decide) zrs_nil)))) (e_cons rfl (e_cons rfl (e_cons (by decide) (e_cons (by decide) rfl)))) (fun σ12 r12 hσ12 hr12 => ?_)
    refine Rf_bnd hR hσ12 (zrs_cons (by decide) (zrs_cons hx0 (zrs_cons (by decide) zrs_nil))) (e_cons (by decide) (e_cons rfl (e_cons (by decide) rfl))) (fun σ13 r13 hσ13 hr13 => ?_)
    exact Rf_some hσ13 (by decide) (by decide)
theorem rZ_clause (rz : zF) (rm : mF) (hR : Rc rz rm) (β : Nat) (σ : zS) (hσ : zOK σ) (x0 x1 : Int) (hx0 : zr x0) (hx1 : zr x1) : Rf (kZ_clause rz β σ x0 x1) (kM_clause rm (cv σ) (i32 x0) (i32 x1)) β := by
  unfold kZ_clause kM_clause
  refine Rf_bnd hR hσ (zrs_cons hx0 zrs_nil) (e_cons rfl rfl) (fun σ1 r1 hσ1 hr1 => ?_)
  refine Rf_eq rfl (by decide) hr1 (by decide) (fun _ => ?_) (fun _ => ?_)
  · refine Rf_out rfl hx1 (fun _ => ?_) (fun _ => ?_)
    · refine Rf_I (by decide) (by decide) hσ1 (fun σ2 hσ2 => ?_)
      exact Rf_some hσ2 (by decide) (by decide)
    · refine Rf_eq rfl (by decide) hx1 (by decide) (fun _ => ?_) (fun _ => ?_)
      · refine Rf_rd rfl hx0 (fun hb1 => ?_)
        exact Rf_some hσ1 (hσ1.2.1 _ _) (e_rd rfl hb1)
      · refine Rf_eq rfl (by decide) hx1 (by decide) (fun _ => ?_) (fun _ => ?_)
        · refine Rf_rd rfl hx0 (fun hb2 => ?_)
          exact Rf_some hσ1 (hσ1.2.1 _ _) (e_rd rfl hb2)
        · refine Rf_eq rfl (by decide) hx1 (by decide) (fun _ => ?_) (fun _ => ?_)
          · refine Rf_rd rfl hx0 (fun hb3 => ?_)
            exact Rf_some hσ1 (hσ1.2.1 _ _) (e_rd rfl hb3)
          · refine Rf_eq rfl (by decide) hx1 (by decide) (fun _ => ?_) (fun _ => ?_)
            · refine Rf_rd rfl hx0 (fun hb4 => ?_)
              exact Rf_some hσ1 (hσ1.2.1 _ _) (e_rd rfl hb4)
            · refine Rf_eq rfl (by decide) hx1 (by decide) (fun _ => ?_) (fun _ => ?_)
              · refine Rf_rd rfl hx0 (fun hb5 => ?_)
                exact Rf_some hσ1 (hσ1.2.1 _ _) (e_rd rfl hb5)
              · refine Rf_eq rfl (by decide) hx1 (by decide) (fun _ => ?_) (fun _ => ?_)
                · refine Rf_rd rfl hx0 (fun hb6 => ?_)
                  exact Rf_some hσ1 (hσ1.2.1 _ _) (e_rd rfl hb6)
                · refine Rf_eq rfl (by decide) hx1 (by decide) (fun _ => ?_) (fun _ => ?_)
                  · refine Rf_rd rfl hx0 (fun hb7 => ?_)
                    exact Rf_some hσ1 (hσ1.2.1 _ _) (e_rd rfl hb7)
                  · refine Rf_rd rfl hx0 (fun hb8 => ?_)
                    exact Rf_some hσ1 (hσ1.2.1 _ _) (e_rd rfl hb8)
  · exact Rf_some hσ1 (by decide) (by decide)
theorem rZ_none (rz : zF) (rm : mF) (hR : Rc rz rm) (β : Nat) (σ : zS) (hσ : zOK σ) (x0 : Int) (hx0 : zr x0) : Rf (kZ_none rz β σ x0) (kM_none rm (cv σ) (i32 x0)) β := by
  unfold kZ_none kM_none
  refine Rf_I (by decide) (by decide) hσ (fun σ1 hσ1 => ?_)
  refine Rf_lt rfl (by decide) hx0 (by decide) (fun _ => ?_) (fun _ => ?_)
  · exact Rf_tail hR hσ1 (zrs_cons hx0 (zrs_cons (by decide) zrs_nil)) (e_cons rfl (e_cons (by decide) rfl))
  · refine Rf_lt rfl rfl hx0 (hσ1.1 84) (fun _ => ?_) (fun _ => ?_)
    · exact Rf_tail hR hσ1 (zrs_cons hx0 (zrs_cons (by decide) (zrs_cons (by decide) zrs_nil))) (e_cons rfl (e_cons (by decide) (e_cons (by decide) rfl)))
    · exact Rf_tail hR hσ1 (zrs_cons hx0 (zrs_cons (by decide) zrs_nil)) (e_cons rfl (e_cons (by decide) rfl))
theorem rZ_none_19 (rz : zF) (rm : mF) (hR : Rc rz rm) (β : Nat) (σ : zS) (hσ : zOK σ) (x0 x1 : Int) (hx0 : zr x0) (hx1 : zr x1) : Rf (kZ_none_19 rz β σ x0 x1) (kM_none_19 rm (cv σ) (i32 x0) (i32 x1)) β := by
  unfold kZ_none_19 kM_none_19
  exact Rf_tail hR hσ (zrs_cons hx0 (zrs_cons (by decide) (zrs_cons hx1 zrs_nil))) (e_cons rfl (e_cons (by decide) (e_cons rfl rfl)))
theorem rZ_none_24 (rz : zF) (rm : mF) (hR : Rc rz rm) (β : Nat) (σ : zS) (hσ : zOK σ) (x0 x1 x2 : Int) (hx0 : zr x0) (hx1 : zr x1) (hx2 : zr x2) : Rf (kZ_none_24 rz β σ x0 x1 x2) (kM_none_24 rm (cv σ) (i32 x0) (i32 x1) (i32 x2)) β := by
  unfold kZ_none_24 kM_none_24
  refine Rf_bnd hR hσ (zrs_cons hx2 (zrs_cons hx1 zrs_nil)) (e_cons rfl (e_cons rfl rfl)) (fun σ1 r1 hσ1 hr1 => ?_)
  refine Rf_01 rfl hr1 (fun hb1 => ?_)
  exact Rf_some hσ1 hr1 rfl
theorem rZ_rewrote (rz : zF) (rm : mF) (hR : Rc rz rm) (β : Nat) (σ : zS) (hσ : zOK σ) (x0 x1 : Int) (hx0 : zr x0) (hx1 : zr x1) : Rf (kZ_rewrote rz β σ x0 x1) (kM_rewrote rm (cv σ) (i32 x0) (i32 x1)) β := by
  unfold kZ_rewrote kM_rewrote
  refine Rf_bnd hR hσ (zrs_cons hx0 zrs_nil) (e_cons rfl rfl) (fun σ1 r1 hσ1 hr1 => ?_)
  refine Rf_eq rfl (by decide) hr1 (by decide) (fun _ => ?_) (fun _ => ?_)
  · refine Rf_lt rfl (by decide) hx1 (by decide) (fun _ => ?_) (fun _ => ?_)
    · exact Rf_tail hR hσ1 (zrs_cons hx0 (zrs_cons hx1 (zrs_cons (by decide) zrs_nil))) (e_cons rfl (e_cons rfl (e_cons (by decide) rfl)))
    · refine Rf_rd rfl hx0 (fun hb1 => ?_)
      refine Rf_lt rfl (e_rd rfl hb1) hx1 (hσ1.2.1 _ _) (fun _ => ?_) (fun _ => ?_)
      · exact Rf_tail hR hσ1 (zrs_cons hx0 (zrs_cons hx1 (zrs_cons (by decide) (zrs_cons (by decide) zrs_nil)))) (e_cons rfl (e_cons rfl (e_cons (by decide) (e_cons (by decide) rfl))))
      · exact Rf_tail hR hσ1 (zrs_cons hx0 (zrs_cons hx1 (zrs_cons (by decide) zrs_nil))) (e_cons rfl (e_cons rfl (e_cons (by decide) rfl)))
  · exact Rf_tail hR hσ1 (zrs_cons hx0 (zrs_cons hx1 zrs_nil)) (e_cons rfl (e_cons rfl rfl))
theorem rZ_rewrote_24 (rz : zF) (rm : mF) (hR : Rc rz rm) (β : Nat) (σ : zS) (hσ : zOK σ) (x0 x1 x2 : Int) (hx0 : zr x0) (hx1 : zr x1) (hx2 : zr x2) : Rf (kZ_rewrote_24 rz β σ x0 x1 x2) (kM_rewrote_24 rm (cv σ) (i32 x0) (i32 x1) (i32 x2)) β := by
  unfold kZ_rewrote_24 kM_rewrote_24
  exact Rf_tail hR hσ (zrs_cons hx0 (zrs_cons hx1 (zrs_cons (by decide) (zrs_cons hx2 zrs_nil)))) (e_cons rfl (e_cons rfl (e_cons (by decide) (e_cons rfl rfl))))
theorem rZ_rewrote_29 (rz : zF) (rm : mF) (hR : Rc rz rm) (β : Nat) (σ : zS) (hσ : zOK σ) (x0 x1 x2 x3 : Int) (hx0 : zr x0) (hx1 : zr x1) (hx2 : zr x2) (hx3 : zr x3) : Rf (kZ_rewrote_29 rz β σ x0 x1 x2 x3) (kM_rewrote_29 rm (cv σ) (i32 x0) (i32 x1) (i32 x2) (i32 x3)) β := by
  unfold kZ_rewrote_29 kM_rewrote_29
  refine Rf_bnd hR hσ (zrs_cons hx3 (zrs_cons hx2 zrs_nil)) (e_cons rfl (e_cons rfl rfl)) (fun σ1 r1 hσ1 hr1 => ?_)
  refine Rf_eq rfl (by decide) hr1 (by decide) (fun _ => ?_) (fun _ => ?_)
  · refine Rf_rd rfl hx0 (fun hb1 => ?_)
    refine Rf_g (fun hg2 => ?_)
    refine Rf_rd (e_add (e_rd rfl hb1) rfl) hg2 (fun hb3 => ?_)
    exact Rf_some hσ1 (hσ1.2.1 _ _) (e_rd (e_add (e_rd rfl hb1) rfl) hb3)
  · exact Rf_tail hR hσ1 (zrs_cons hx0 (zrs_cons hx1 zrs_nil)) (e_cons rfl (e_cons rfl rfl))
theorem rZ_rewrote_35 (rz : zF) (rm : mF) (hR : Rc rz rm) (β : Nat) (σ : zS) (hσ : zOK σ) (x0 x1 : Int) (hx0 : zr x0) (hx1 : zr x1) : Rf (kZ_rewrote_35 rz β σ x0 x1) (kM_rewrote_35 rm (cv σ) (i32 x0) (i32 x1)) β := by
  unfold kZ_rewrote_35 kM_rewrote_35
  exact Rf_some hσ (by decide) (by decide)
theorem rZ_literal (rz : zF) (rm : mF) (hR : Rc rz rm) (β : Nat) (σ : zS) (hσ : zOK σ) (x0 x1 x2 : Int) (hx0 : zr x0) (hx1 : zr x1) (hx2 : zr x2) : Rf (kZ_literal rz β σ x0 x1 x2) (kM_literal rm (cv σ) (i32 x0) (i32 x1) (i32 x2)) β := by
  unfold kZ_literal kM_literal
  refine Rf_bnd hR hσ (zrs_cons hx0 zrs_nil) (e_cons rfl rfl) (fun σ1 r1 hσ1 hr1 => ?_)
  refine Rf_eq rfl (by decide) hr1 (by decide) (fun _ => ?_) (fun _ => ?_)
  · refine Rf_lt rfl (by decide) hx1 (by decide) (fun _ => ?_) (fun _ => ?_)
    · exact Rf_tail hR hσ1 (zrs_cons hx0 (zrs_cons hx1 (zrs_cons hx2 (zrs_cons (by decide) zrs_nil)))) (e_cons rfl (e_cons rfl (e_cons rfl (e_cons (by decide) rfl))))
    · refine Rf_rd rfl hx0 (fun hb1 => ?_)
      refine Rf_lt rfl (e_rd rfl hb1) hx1 (hσ1.2.1 _ _) (fun _ => ?_) (fun _ => ?_)
      · exact Rf_tail hR hσ1 (zrs_cons hx0 (zrs_cons hx1 (zrs_cons hx2 (zrs_cons (by decide) (zrs_cons (by decide) zrs_nil))))) (e_cons rfl (e_cons rfl (e_cons rfl (e_cons (by decide) (e_cons (by decide) rfl)))))
      · exact Rf_tail hR hσ1 (zrs_cons hx0 (zrs_cons hx1 (zrs_cons hx2 (zrs_cons (by decide) zrs_nil)))) (e_cons rfl (e_cons rfl (e_cons rfl (e_cons (by decide) rfl))))
  · exact Rf_tail hR hσ1 (zrs_cons hx0 (zrs_cons hx1 (zrs_cons hx2 zrs_nil))) (e_cons rfl (e_cons rfl (e_cons rfl rfl)))
theorem rZ_literal_24 (rz : zF) (rm : mF) (hR : Rc rz rm) (β : Nat) (σ : zS) (hσ : zOK σ) (x0 x1 x2 x3 : Int) (hx0 : zr x0) (hx1 : zr x1) (hx2 : zr x2) (hx3 : zr x3) : Rf (kZ_literal_24 rz β σ x0 x1 x2 x3) (kM_literal_24 rm (cv σ) (i32 x0) (i32 x1) (i32 x2) (i32 x3)) β := by
  unfold kZ_literal_24 kM_literal_24
  exact Rf_tail hR hσ (zrs_cons hx0 (zrs_cons hx1 (zrs_cons hx2 (zrs_cons (by decide) (zrs_cons hx3 zrs_nil))))) (e_cons rfl (e_cons rfl (e_cons rfl (e_cons (by decide) (e_cons rfl rfl)))))
theorem rZ_literal_29 (rz : zF) (rm : mF) (hR : Rc rz rm) (β : Nat) (σ : zS) (hσ : zOK σ) (x0 x1 x2 x3 x4 : Int) (hx0 : zr x0) (hx1 : zr x1) (hx2 : zr x2) (hx3 : zr x3) (hx4 : zr x4) : Rf (kZ_literal_29 rz β σ x0 x1 x2 x3 x4) (kM_literal_29 rm (cv σ) (i32 x0) (i32 x1) (i32 x2) (i32 x3) (i32 x4)) β := by
  unfold kZ_literal_29 kM_literal_29
  refine Rf_bnd hR hσ (zrs_cons hx4 (zrs_cons hx3 zrs_nil)) (e_cons rfl (e_cons rfl rfl)) (fun σ1 r1 hσ1 hr1 => ?_)
  refine Rf_eq rfl (by decide) hr1 (by decide) (fun _ => ?_) (fun _ => ?_)
  · refine Rf_rd rfl hx0 (fun hb1 => ?_)
    refine Rf_out rfl hx2 (fun _ => ?_) (fun _ => ?_)
    · refine Rf_I (by decide) (by decide) hσ1 (fun σ2 hσ2 => ?_)
      exact Rf_some hσ2 (by decide) (by decide)
    · refine Rf_eq rfl (by decide) hx2 (by decide) (fun _ => ?_) (fun _ => ?_)
      · refine Rf_g (fun hg2 => ?_)
        refine Rf_rd (e_add (e_rd rfl hb1) rfl) hg2 (fun hb3 => ?_)
        refine Rf_eq (e_rd (e_add (e_rd rfl hb1) rfl) hb3) (by decide) (hσ1.2.1 _ _) (by decide) (fun _ => ?_) (fun _ => ?_)
        · exact Rf_tail hR hσ1 (zrs_cons hx0 (zrs_cons hx1 (zrs_cons hx2 (zrs_cons hg2 (zrs_cons (by decide) zrs_nil))))) (e_cons rfl (e_cons rfl (e_cons rfl (e_cons (e_add (e_rd rfl hb1) rfl) (e_cons (by decide) rfl)))))
        · exact Rf_tail hR hσ1 (zrs_cons hx0 (zrs_cons hx1 (zrs_cons hx2 (zrs_cons hg2 (zrs_cons (by decide) zrs_nil))))) (e_cons rfl (e_cons rfl (e_cons rfl (e_cons (e_add (e_rd rfl hb1) rfl) (e_cons (by decide) rfl)))))
      · refine Rf_eq rfl (by decide) hx2 (by decide) (fun _ => ?_) (fun _ => ?_)
        · refine Rf_g (fun hg4 => ?_)
          refine Rf_rd (e_add (e_rd rfl hb1) rfl) hg4 (fun hb5 => ?_)
          exact Rf_some hσ1 (hσ1.2.1 _ _) (e_rd (e_add (e_rd rfl hb1) rfl) hb5)
        · refine Rf_eq rfl (by decide) hx2 (by decide) (fun _ => ?_) (fun _ => ?_)
          · refine Rf_g (fun hg6 => ?_)
            refine Rf_rd (e_add (e_rd rfl hb1) rfl) hg6 (fun hb7 => ?_)
            refine Rf_eq (e_rd (e_add (e_rd rfl hb1) rfl) hb7) (by decide) (hσ1.2.1 _ _) (by decide) (fun _ => ?_) (fun _ => ?_)
            · exact Rf_tail hR hσ1 (zrs_cons hx0 (zrs_cons hx1 (zrs_cons hx2 (zrs_cons hg6 (zrs_cons (by decide) zrs_nil))))) (e_cons rfl (e_cons rfl (e_cons rfl (e_cons (e_add (e_rd rfl hb1) rfl) (e_cons (by decide) rfl)))))
            · exact Rf_tail hR hσ1 (zrs_cons hx0 (zrs_cons hx1 (zrs_cons hx2 (zrs_cons hg6 (zrs_cons (by decide) zrs_nil))))) (e_cons rfl (e_cons rfl (e_cons rfl (e_cons (e_add (e_rd rfl hb1) rfl) (e_cons (by decide) rfl)))))
          · refine Rf_g (fun hg8 => ?_)
            refine Rf_rd (e_add (e_rd rfl hb1) rfl) hg8 (fun hb9 => ?_)
            exact Rf_some hσ1 (hσ1.2.1 _ _) (e_rd (e_add (e_rd rfl hb1) rfl) hb9)
  · exact Rf_tail hR hσ1 (zrs_cons hx0 (zrs_cons hx1 (zrs_cons hx2 zrs_nil))) (e_cons rfl (e_cons rfl (e_cons rfl rfl)))
theorem rZ_literal_35 (rz : zF) (rm : mF) (hR : Rc rz rm) (β : Nat) (σ : zS) (hσ : zOK σ) (x0 x1 x2 : Int) (hx0 : zr x0) (hx1 : zr x1) (hx2 : zr x2) : Rf (kZ_literal_35 rz β σ x0 x1 x2) (kM_literal_35 rm (cv σ) (i32 x0) (i32 x1) (i32 x2)) β := by
  unfold kZ_literal_35 kM_literal_35
  exact Rf_some hσ (by decide) (by decide)
theorem rZ_literal_95 (rz : zF) (rm : mF) (hR : Rc rz rm) (β : Nat) (σ : zS) (hσ : zOK σ) (x0 x1 x2 x3 x4 : Int) (hx0 : zr x0) (hx1 : zr x1) (hx2 : zr x2) (hx3 : zr x3) (hx4 : zr x4) : Rf (kZ_literal_95 rz β σ x0 x1 x2 x3 x4) (kM_literal_95 rm (cv σ) (i32 x0) (i32 x1) (i32 x2) (i32 x3) (i32 x4)) β := by
  unfold kZ_literal_95 kM_literal_95
  exact Rf_some hσ hx4 rfl
theorem rZ_literal_119 (rz : zF) (rm : mF) (hR : Rc rz rm) (β : Nat) (σ : zS) (hσ : zOK σ) (x0 x1 x2 x3 x4 : Int) (hx0 : zr x0) (hx1 : zr x1) (hx2 : zr x2) (hx3 : zr x3) (hx4 : zr x4) : Rf (kZ_literal_119 rz β σ x0 x1 x2 x3 x4) (kM_literal_119 rm (cv σ) (i32 x0) (i32 x1) (i32 x2) (i32 x3) (i32 x4)) β := by
  unfold kZ_literal_119 kM_literal_119
  exact Rf_some hσ hx4 rfl
theorem rZ_out (rz : zF) (rm : mF) (hR : Rc rz rm) (β : Nat) (σ : zS) (hσ : zOK σ) (x0 : Int) (hx0 : zr x0) : Rf (kZ_out rz β σ x0) (kM_out rm (cv σ) (i32 x0)) β := by
  unfold kZ_out kM_out
  refine Rf_I (by decide) (by decide) hσ (fun σ1 hσ1 => ?_)
  refine Rf_lt rfl (by decide) hx0 (by decide) (fun _ => ?_) (fun _ => ?_)
  · exact Rf_tail hR hσ1 (zrs_cons hx0 (zrs_cons (by decide) zrs_nil)) (e_cons rfl (e_cons (by decide) rfl))
  · refine Rf_lt rfl rfl hx0 (hσ1.1 3) (fun _ => ?_) (fun _ => ?_)
    · exact Rf_tail hR hσ1 (zrs_cons hx0 (zrs_cons (by decide) (zrs_cons (by decide) zrs_nil))) (e_cons rfl (e_cons (by decide) (e_cons (by decide) rfl)))
    · exact Rf_tail hR hσ1 (zrs_cons hx0 (zrs_cons (by decide) zrs_nil)) (e_cons rfl (e_cons (by decide) rfl))
theorem rZ_out_19 (rz : zF) (rm : mF) (hR : Rc rz rm) (β : Nat) (σ : zS) (hσ : zOK σ) (x0 x1 : Int) (hx0 : zr x0) (hx1 : zr x1) : Rf (kZ_out_19 rz β σ x0 x1) (kM_out_19 rm (cv σ) (i32 x0) (i32 x1)) β := by
  unfold kZ_out_19 kM_out_19
  exact Rf_tail hR hσ (zrs_cons hx0 (zrs_cons (by decide) (zrs_cons hx1 zrs_nil))) (e_cons rfl (e_cons (by decide) (e_cons rfl rfl)))
theorem rZ_out_24 (rz : zF) (rm : mF) (hR : Rc rz rm) (β : Nat) (σ : zS) (hσ : zOK σ) (x0 x1 x2 : Int) (hx0 : zr x0) (hx1 : zr x1) (hx2 : zr x2) : Rf (kZ_out_24 rz β σ x0 x1 x2) (kM_out_24 rm (cv σ) (i32 x0) (i32 x1) (i32 x2)) β := by
  unfold kZ_out_24 kM_out_24
  refine Rf_bnd hR hσ (zrs_cons hx2 (zrs_cons hx1 zrs_nil)) (e_cons rfl (e_cons rfl rfl)) (fun σ1 r1 hσ1 hr1 => ?_)
  refine Rf_eq rfl (by decide) hr1 (by decide) (fun _ => ?_) (fun _ => ?_)
  · refine Rf_rd rfl hx0 (fun hb1 => ?_)
    exact Rf_some hσ1 (hσ1.2.1 _ _) (e_rd rfl hb1)
  · exact Rf_some hσ1 (by decide) (by decide)
theorem rZ_symbol2 (rz : zF) (rm : mF) (hR : Rc rz rm) (β : Nat) (σ : zS) (hσ : zOK σ) (x0 x1 : Int) (hx0 : zr x0) (hx1 : zr x1) : Rf (kZ_symbol2 rz β σ x0 x1) (kM_symbol2 rm (cv σ) (i32 x0) (i32 x1)) β := by
  unfold kZ_symbol2 kM_symbol2
  refine Rf_I (by decide) (by decide) hσ (fun σ1 hσ1 => ?_)
  refine Rf_lt rfl (by decide) hx0 (by decide) (fun _ => ?_) (fun _ => ?_)
  · exact Rf_tail hR hσ1 (zrs_cons hx0 (zrs_cons hx1 (zrs_cons (by decide) zrs_nil))) (e_cons rfl (e_cons rfl (e_cons (by decide) rfl)))
  · refine Rf_lt rfl rfl hx0 (hσ1.1 19) (fun _ => ?_) (fun _ => ?_)
    · exact Rf_tail hR hσ1 (zrs_cons hx0 (zrs_cons hx1 (zrs_cons (by decide) (zrs_cons (by decide) zrs_nil)))) (e_cons rfl (e_cons rfl (e_cons (by decide) (e_cons (by decide) rfl))))
    · exact Rf_tail hR hσ1 (zrs_cons hx0 (zrs_cons hx1 (zrs_cons (by decide) zrs_nil))) (e_cons rfl (e_cons rfl (e_cons (by decide) rfl)))
theorem rZ_symbol2_19 (rz : zF) (rm : mF) (hR : Rc rz rm) (β : Nat) (σ : zS) (hσ : zOK σ) (x0 x1 x2 : Int) (hx0 : zr x0) (hx1 : zr x1) (hx2 : zr x2) : Rf (kZ_symbol2_19 rz β σ x0 x1 x2) (kM_symbol2_19 rm (cv σ) (i32 x0) (i32 x1) (i32 x2)) β := by
  unfold kZ_symbol2_19 kM_symbol2_19
  exact Rf_tail hR hσ (zrs_cons hx0 (zrs_cons hx1 (zrs_cons (by decide) (zrs_cons hx2 zrs_nil)))) (e_cons rfl (e_cons rfl (e_cons (by decide) (e_cons rfl rfl))))
theorem rZ_symbol2_24 (rz : zF) (rm : mF) (hR : Rc rz rm) (β : Nat) (σ : zS) (hσ : zOK σ) (x0 x1 x2 x3 : Int) (hx0 : zr x0) (hx1 : zr x1) (hx2 : zr x2) (hx3 : zr x3) : Rf (kZ_symbol2_24 rz β σ x0 x1 x2 x3) (kM_symbol2_24 rm (cv σ) (i32 x0) (i32 x1) (i32 x2) (i32 x3)) β := by
  unfold kZ_symbol2_24 kM_symbol2_24
  refine Rf_bnd hR hσ (zrs_cons hx3 (zrs_cons hx2 zrs_nil)) (e_cons rfl (e_cons rfl rfl)) (fun σ1 r1 hσ1 hr1 => ?_)
  refine Rf_eq rfl (by decide) hr1 (by decide) (fun _ => ?_) (fun _ => ?_)
  · refine Rf_lt rfl (by decide) hx1 (by decide) (fun _ => ?_) (fun _ => ?_)
    · exact Rf_tail hR hσ1 (zrs_cons hx0 (zrs_cons hx1 (zrs_cons (by decide) zrs_nil))) (e_cons rfl (e_cons rfl (e_cons (by decide) rfl)))
    · refine Rf_le rfl (by decide) hx1 (by decide) (fun _ => ?_) (fun _ => ?_)
      · exact Rf_tail hR hσ1 (zrs_cons hx0 (zrs_cons hx1 (zrs_cons (by decide) (zrs_cons (by decide) zrs_nil)))) (e_cons rfl (e_cons rfl (e_cons (by decide) (e_cons (by decide) rfl))))
      · exact Rf_tail hR hσ1 (zrs_cons hx0 (zrs_cons hx1 (zrs_cons (by decide) zrs_nil))) (e_cons rfl (e_cons rfl (e_cons (by decide) rfl)))
  · exact Rf_tail hR hσ1 (zrs_cons hx0 (zrs_cons hx1 zrs_nil)) (e_cons rfl (e_cons rfl rfl))
theorem rZ_symbol2_41 (rz : zF) (rm : mF) (hR : Rc rz rm) (β : Nat) (σ : zS) (hσ : zOK σ) (x0 x1 x2 : Int) (hx0 : zr x0) (hx1 : zr x1) (hx2 : zr x2) : Rf (kZ_symbol2_41 rz β σ x0 x1 x2) (kM_symbol2_41 rm (cv σ) (i32 x0) (i32 x1) (i32 x2)) β := by
  unfold kZ_symbol2_41 kM_symbol2_41
  exact Rf_tail hR hσ (zrs_cons hx0 (zrs_cons hx1 (zrs_cons (by decide) (zrs_cons hx2 zrs_nil)))) (e_cons rfl (e_cons rfl (e_cons (by decide) (e_cons rfl rfl))))
theorem rZ_symbol2_46 (rz : zF) (rm : mF) (hR : Rc rz rm) (β : Nat) (σ : zS) (hσ : zOK σ) (x0 x1 x2 x3 : Int) (hx0 : zr x0) (hx1 : zr x1) (hx2 : zr x2) (hx3 : zr x3) : Rf (kZ_symbol2_46 rz β σ x0 x1 x2 x3) (kM_symbol2_46 rm (cv σ) (i32 x0) (i32 x1) (i32 x2) (i32 x3)) β := by
  unfold kZ_symbol2_46 kM_symbol2_46
  refine Rf_bnd hR hσ (zrs_cons hx3 (zrs_cons hx2 zrs_nil)) (e_cons rfl (e_cons rfl rfl)) (fun σ1 r1 hσ1 hr1 => ?_)
  refine Rf_eq rfl (by decide) hr1 (by decide) (fun _ => ?_) (fun _ => ?_)
  · refine Rf_eq rfl (by decide) hx1 (by decide) (fun _ => ?_) (fun _ => ?_)
    · refine Rf_rd rfl hx0 (fun hb1 => ?_)
      exact Rf_tail hR hσ1 (zrs_cons hx0 (zrs_cons hx1 (zrs_cons (hσ1.2.1 _ _) zrs_nil))) (e_cons rfl (e_cons rfl (e_cons (e_rd rfl hb1) rfl)))
    · refine Rf_eq rfl (by decide) hx1 (by decide) (fun _ => ?_) (fun _ => ?_)
      · refine Rf_rd rfl hx0 (fun hb2 => ?_)
        refine Rf_eq (e_rd rfl hb2) (by decide) (hσ1.2.1 _ _) (by decide) (fun _ => ?_) (fun _ => ?_)
        · exact Rf_tail hR hσ1 (zrs_cons hx0 (zrs_cons hx1 (zrs_cons (by decide) zrs_nil))) (e_cons rfl (e_cons rfl (e_cons (by decide) rfl)))
        · exact Rf_tail hR hσ1 (zrs_cons hx0 (zrs_cons hx1 (zrs_cons (by decide) zrs_nil))) (e_cons rfl (e_cons rfl (e_cons (by decide) rfl)))
      · refine Rf_le rfl rfl hx0 (hσ1.1 20) (fun _ => ?_) (fun _ => ?_)
        · exact Rf_tail hR hσ1 (zrs_cons hx0 (zrs_cons hx1 (zrs_cons (by decide) zrs_nil))) (e_cons rfl (e_cons rfl (e_cons (by decide) rfl)))
        · exact Rf_tail hR hσ1 (zrs_cons hx0 (zrs_cons hx1 (zrs_cons (by decide) zrs_nil))) (e_cons rfl (e_cons rfl (e_cons (by decide) rfl)))
  · exact Rf_tail hR hσ1 (zrs_cons hx0 (zrs_cons hx1 zrs_nil)) (e_cons rfl (e_cons rfl rfl))
theorem rZ_symbol2_52 (rz : zF) (rm : mF) (hR : Rc rz rm) (β : Nat) (σ : zS) (hσ : zOK σ) (x0 x1 : Int) (hx0 : zr x0) (hx1 : zr x1) : Rf (kZ_symbol2_52 rz β σ x0 x1) (kM_symbol2_52 rm (cv σ) (i32 x0) (i32 x1)) β := by
  unfold kZ_symbol2_52 kM_symbol2_52
  exact Rf_some hσ (by decide) (by decide)
theorem rZ_symbol2_102 (rz : zF) (rm : mF) (hR : Rc rz rm) (β : Nat) (σ : zS) (hσ : zOK σ) (x0 x1 x2 : Int) (hx0 : zr x0) (hx1 : zr x1) (hx2 : zr x2) : Rf (kZ_symbol2_102 rz β σ x0 x1 x2) (kM_symbol2_102 rm (cv σ) (i32 x0) (i32 x1) (i32 x2)) β := by
  unfold kZ_symbol2_102 kM_symbol2_102
  exact Rf_some hσ hx2 rfl
theorem rZ_proof (rz : zF) (rm : mF) (hR : Rc rz rm) (β : Nat) (σ : zS) (hσ : zOK σ) : Rf (kZ_proof rz β σ) (kM_proof rm (cv σ)) β := by
  unfold kZ_proof kM_proof
  refine Rf_I (by decide) (by decide) hσ (fun σ1 hσ1 => ?_)
  refine Rf_bnd hR hσ1 zrs_nil rfl (fun σ2 r2 hσ2 hr2 => ?_)
  exact Rf_some hσ2 hr2 rfl
theorem rZ_prove (rz : zF) (rm : mF) (hR : Rc rz rm) (β : Nat) (σ : zS) (hσ : zOK σ) : Rf (kZ_prove rz β σ) (kM_prove rm (cv σ)) β := by
  unfold kZ_prove kM_prove
  have hg1 : (0 : Int) = 0 ∨ (0 : Int) = 1 := by decide
  refine Rf_Fl (e_bool (by decide) hg1) (by decide) hσ (fun σ1 hσ1 => ?_)
  refine Rf_le (by decide) rfl (by decide) (hσ1.1 88) (fun _ => ?_) (fun _ => ?_)
  · refine Rf_rd rfl (hσ1.1 88) (fun hb2 => ?_)
    have hg3 : (1 : Int) = 0 ∨ (1 : Int) = 1 := by decide
    refine Rf_A rfl hb2 (e_bool (by decide) hg3) (by decide) hσ1 (fun σ2 hσ2 => ?_)
    refine Rf_g (fun hg4 => ?_)
    exact Rf_tail hR hσ2 (zrs_cons (by decide) (zrs_cons hg4 zrs_nil)) (e_cons (by decide) (e_cons (e_sub rfl (by decide)) rfl))
  · exact Rf_some hσ1 (by decide) (by decide)
theorem rZ_prove_36 (rz : zF) (rm : mF) (hR : Rc rz rm) (β : Nat) (σ : zS) (hσ : zOK σ) (x0 x1 : Int) (hx0 : zr x0) (hx1 : zr x1) : Rf (kZ_prove_36 rz β σ x0 x1) (kM_prove_36 rm (cv σ) (i32 x0) (i32 x1)) β := by
  unfold kZ_prove_36 kM_prove_36
  refine Rf_lt rfl (by decide) hx1 (by decide) (fun _ => ?_) (fun _ => ?_)
  · exact Rf_some hσ hx0 rfl
  · refine Rf_rd rfl hx1 (fun hb1 => ?_)
    refine Rf_eq (e_rd rfl hb1) (by decide) (hσ.2.1 _ _) (by decide) (fun _ => ?_) (fun _ => ?_)
    · exact Rf_tail hR hσ (zrs_cons hx0 (zrs_cons hx1 zrs_nil)) (e_cons rfl (e_cons rfl rfl))
    · refine Rf_rd2 rfl hb1 ?_
      refine Rf_lt (e_rd rfl hb1) (by decide) (hσ.2.1 _ _) (by decide) (fun _ => ?_) (fun _ => ?_)
      · refine Rf_g (fun hg2 => ?_)
        exact Rf_tail hR hσ (zrs_cons hg2 (zrs_cons hx1 zrs_nil)) (e_cons (e_add rfl (by decide)) (e_cons rfl rfl))
      · refine Rf_rd2 rfl hb1 ?_
        refine Rf_rd (e_rd rfl hb1) (hσ.2.1 _ _) (fun hb3 => ?_)
        have hg4 : (1 : Int) = 0 ∨ (1 : Int) = 1 := by decide
        refine Rf_A (e_rd rfl hb1) hb3 (e_bool (by decide) hg4) (by decide) hσ (fun σ1 hσ1 => ?_)
        refine Rf_g (fun hg5 => ?_)
        exact Rf_tail hR hσ1 (zrs_cons hg5 (zrs_cons hx1 zrs_nil)) (e_cons (e_add rfl (by decide)) (e_cons rfl rfl))
theorem rZ_prove_76 (rz : zF) (rm : mF) (hR : Rc rz rm) (β : Nat) (σ : zS) (hσ : zOK σ) (x0 x1 : Int) (hx0 : zr x0) (hx1 : zr x1) : Rf (kZ_prove_76 rz β σ x0 x1) (kM_prove_76 rm (cv σ) (i32 x0) (i32 x1)) β := by
  unfold kZ_prove_76 kM_prove_76
  refine Rf_rd rfl hx1 (fun hb1 => ?_)
  refine Rf_lt (e_rd rfl hb1) (by decide) (hσ.2.1 _ _) (by decide) (fun _ => ?_) (fun _ => ?_)
  · exact Rf_tail hR hσ (zrs_cons hx0 (zrs_cons hx1 zrs_nil)) (e_cons rfl (e_cons rfl rfl))
  · refine Rf_rd2 rfl hb1 ?_
    refine Rf_rd (e_rd rfl hb1) (hσ.2.1 _ _) (fun hb2 => ?_)
    have hg3 : (1 : Int) = 0 ∨ (1 : Int) = 1 := by decide
    refine Rf_A (e_rd rfl hb1) hb2 (e_bool (by decide) hg3) (by decide) hσ (fun σ1 hσ1 => ?_)
    exact Rf_tail hR hσ1 (zrs_cons hx0 (zrs_cons hx1 zrs_nil)) (e_cons rfl (e_cons rfl rfl))
theorem rZ_prove_97 (rz : zF) (rm : mF) (hR : Rc rz rm) (β : Nat) (σ : zS) (hσ : zOK σ) (x0 x1 : Int) (hx0 : zr x0) (hx1 : zr x1) : Rf (kZ_prove_97 rz β σ x0 x1) (kM_prove_97 rm (cv σ) (i32 x0) (i32 x1)) β := by
  unfold kZ_prove_97 kM_prove_97
  exact Rf_tail hR hσ (zrs_cons hx0 (zrs_cons hx1 (zrs_cons (by decide) zrs_nil))) (e_cons rfl (e_cons rfl (e_cons (by decide) rfl)))
theorem rZ_prove_99 (rz : zF) (rm : mF) (hR : Rc rz rm) (β : Nat) (σ : zS) (hσ : zOK σ) (x0 x1 x2 : Int) (hx0 : zr x0) (hx1 : zr x1) (hx2 : zr x2) : Rf (kZ_prove_99 rz β σ x0 x1 x2) (kM_prove_99 rm (cv σ) (i32 x0) (i32 x1) (i32 x2)) β := by
  unfold kZ_prove_99 kM_prove_99
  refine Rf_rd rfl hx1 (fun hb1 => ?_)
  refine Rf_le (e_rd rfl hb1) rfl (hσ.2.1 _ _) hx2 (fun _ => ?_) (fun _ => ?_)
  · exact Rf_tail hR hσ (zrs_cons hx0 (zrs_cons hx1 zrs_nil)) (e_cons rfl (e_cons rfl rfl))
  · refine Rf_rd2 rfl hb1 ?_
    refine Rf_g (fun hg2 => ?_)
    refine Rf_rd (e_add (e_rd rfl hb1) rfl) hg2 (fun hb3 => ?_)
    refine Rf_rd (e_rd (e_add (e_rd rfl hb1) rfl) hb3) (hσ.2.1 _ _) (fun hb4 => ?_)
    have hg5 : (1 : Int) = 0 ∨ (1 : Int) = 1 := by decide
    refine Rf_A (e_rd (e_add (e_rd rfl hb1) rfl) hb3) hb4 (e_bool (by decide) hg5) (by decide) hσ (fun σ1 hσ1 => ?_)
    refine Rf_g (fun hg6 => ?_)
    exact Rf_tail hR hσ1 (zrs_cons hx0 (zrs_cons hx1 (zrs_cons hg6 zrs_nil))) (e_cons rfl (e_cons rfl (e_cons (e_add rfl (by decide)) rfl)))
theorem rZ_prove_134 (rz : zF) (rm : mF) (hR : Rc rz rm) (β : Nat) (σ : zS) (hσ : zOK σ) (x0 x1 : Int) (hx0 : zr x0) (hx1 : zr x1) : Rf (kZ_prove_134 rz β σ x0 x1) (kM_prove_134 rm (cv σ) (i32 x0) (i32 x1)) β := by
  unfold kZ_prove_134 kM_prove_134
  refine Rf_g (fun hg1 => ?_)
  exact Rf_tail hR hσ (zrs_cons hx0 (zrs_cons hg1 zrs_nil)) (e_cons rfl (e_cons (e_add rfl (by decide)) rfl))
theorem rZ_step2 (rz : zF) (rm : mF) (hR : Rc rz rm) (β : Nat) (σ : zS) (hσ : zOK σ) (x0 : Int) (hx0 : zr x0) : Rf (kZ_step2 rz β σ x0) (kM_step2 rm (cv σ) (i32 x0)) β := by
  unfold kZ_step2 kM_step2
  refine Rf_I (by decide) (by decide) hσ (fun σ1 hσ1 => ?_)
  refine Rf_bnd hR hσ1 zrs_nil rfl (fun σ2 r2 hσ2 hr2 => ?_)
  refine Rf_lt rfl (by decide) hx0 (by decide) (fun _ => ?_) (fun _ => ?_)
  · exact Rf_tail hR hσ2 (zrs_cons hx0 (zrs_cons hr2 (zrs_cons (by decide) zrs_nil))) (e_cons rfl (e_cons rfl (e_cons (by decide) rfl)))
  · refine Rf_lt rfl rfl hx0 hr2 (fun _ => ?_) (fun _ => ?_)
    · exact Rf_tail hR hσ2 (zrs_cons hx0 (zrs_cons hr2 (zrs_cons (by decide) (zrs_cons (by decide) zrs_nil)))) (e_cons rfl (e_cons rfl (e_cons (by decide) (e_cons (by decide) rfl))))
    · exact Rf_tail hR hσ2 (zrs_cons hx0 (zrs_cons hr2 (zrs_cons (by decide) zrs_nil))) (e_cons rfl (e_cons rfl (e_cons (by decide) rfl)))
theorem rZ_step2_21 (rz : zF) (rm : mF) (hR : Rc rz rm) (β : Nat) (σ : zS) (hσ : zOK σ) (x0 x1 x2 : Int) (hx0 : zr x0) (hx1 : zr x1) (hx2 : zr x2) : Rf (kZ_step2_21 rz β σ x0 x1 x2) (kM_step2_21 rm (cv σ) (i32 x0) (i32 x1) (i32 x2)) β := by
  unfold kZ_step2_21 kM_step2_21
  exact Rf_tail hR hσ (zrs_cons hx0 (zrs_cons hx1 (zrs_cons (by decide) (zrs_cons hx2 zrs_nil)))) (e_cons rfl (e_cons rfl (e_cons (by decide) (e_cons rfl rfl))))
theorem rZ_step2_26 (rz : zF) (rm : mF) (hR : Rc rz rm) (β : Nat) (σ : zS) (hσ : zOK σ) (x0 x1 x2 x3 : Int) (hx0 : zr x0) (hx1 : zr x1) (hx2 : zr x2) (hx3 : zr x3) : Rf (kZ_step2_26 rz β σ x0 x1 x2 x3) (kM_step2_26 rm (cv σ) (i32 x0) (i32 x1) (i32 x2) (i32 x3)) β := by
  unfold kZ_step2_26 kM_step2_26
  refine Rf_bnd hR hσ (zrs_cons hx3 (zrs_cons hx2 zrs_nil)) (e_cons rfl (e_cons rfl rfl)) (fun σ1 r1 hσ1 hr1 => ?_)
  refine Rf_eq rfl (by decide) hr1 (by decide) (fun _ => ?_) (fun _ => ?_)
  · exact Rf_tail hR hσ1 (zrs_cons hx0 (zrs_cons hx1 (zrs_cons (by decide) (zrs_cons hx0 zrs_nil)))) (e_cons rfl (e_cons rfl (e_cons (by decide) (e_cons rfl rfl))))
  · exact Rf_some hσ1 (by decide) (by decide)
theorem rZ_step2_39 (rz : zF) (rm : mF) (hR : Rc rz rm) (β : Nat) (σ : zS) (hσ : zOK σ) (x0 x1 x2 x3 : Int) (hx0 : zr x0) (hx1 : zr x1) (hx2 : zr x2) (hx3 : zr x3) : Rf (kZ_step2_39 rz β σ x0 x1 x2 x3) (kM_step2_39 rm (cv σ) (i32 x0) (i32 x1) (i32 x2) (i32 x3)) β := by
  unfold kZ_step2_39 kM_step2_39
  refine Rf_lt rfl (by decide) hx3 (by decide) (fun _ => ?_) (fun _ => ?_)
  · exact Rf_some hσ hx2 rfl
  · refine Rf_g (fun hg1 => ?_)
    exact Rf_tail hR hσ (zrs_cons hx0 (zrs_cons hx1 (zrs_cons hg1 (zrs_cons hx3 zrs_nil)))) (e_cons rfl (e_cons rfl (e_cons (e_add rfl (by decide)) (e_cons rfl rfl))))
theorem rZ_step2_47 (rz : zF) (rm : mF) (hR : Rc rz rm) (β : Nat) (σ : zS) (hσ : zOK σ) (x0 x1 x2 x3 : Int) (hx0 : zr x0) (hx1 : zr x1) (hx2 : zr x2) (hx3 : zr x3) : Rf (kZ_step2_47 rz β σ x0 x1 x2 x3) (kM_step2_47 rm (cv σ) (i32 x0) (i32 x1) (i32 x2) (i32 x3)) β := by
  unfold kZ_step2_47 kM_step2_47
  refine Rf_rd rfl hx2 (fun hb1 => ?_)
  refine Rf_eq (e_rd rfl hb1) (by decide) (hσ.2.1 _ _) (by decide) (fun _ => ?_) (fun _ => ?_)
  · refine Rf_g (fun hg2 => ?_)
    exact Rf_tail hR hσ (zrs_cons hx0 (zrs_cons hx1 (zrs_cons hg2 (zrs_cons hx3 zrs_nil)))) (e_cons rfl (e_cons rfl (e_cons (e_add rfl (by decide)) (e_cons rfl rfl))))
  · refine Rf_g (fun hg3 => ?_)
    exact Rf_tail hR hσ (zrs_cons hx0 (zrs_cons hx1 (zrs_cons hx2 (zrs_cons hg3 zrs_nil)))) (e_cons rfl (e_cons rfl (e_cons rfl (e_cons (e_add rfl (by decide)) rfl))))
theorem rZ_look (rz : zF) (rm : mF) (hR : Rc rz rm) (β : Nat) (σ : zS) (hσ : zOK σ) (x0 x1 : Int) (hx0 : zr x0) (hx1 : zr x1) : Rf (kZ_look rz β σ x0 x1) (kM_look rm (cv σ) (i32 x0) (i32 x1)) β := by
  unfold kZ_look kM_look
  refine Rf_I (by decide) (by decide) hσ (fun σ1 hσ1 => ?_)
  refine Rf_lt rfl (by decide) hx1 (by decide) (fun _ => ?_) (fun _ => ?_)
  · exact Rf_tail hR hσ1 (zrs_cons hx0 (zrs_cons hx1 (zrs_cons (by decide) zrs_nil))) (e_cons rfl (e_cons rfl (e_cons (by decide) rfl)))
  · refine Rf_le rfl (by decide) hx1 (by decide) (fun _ => ?_) (fun _ => ?_)
    · exact Rf_tail hR hσ1 (zrs_cons hx0 (zrs_cons hx1 (zrs_cons (by decide) (zrs_cons (by decide) zrs_nil)))) (e_cons rfl (e_cons rfl (e_cons (by decide) (e_cons (by decide) rfl))))
    · exact Rf_tail hR hσ1 (zrs_cons hx0 (zrs_cons hx1 (zrs_cons (by decide) zrs_nil))) (e_cons rfl (e_cons rfl (e_cons (by decide) rfl)))
theorem rZ_look_17 (rz : zF) (rm : mF) (hR : Rc rz rm) (β : Nat) (σ : zS) (hσ : zOK σ) (x0 x1 x2 : Int) (hx0 : zr x0) (hx1 : zr x1) (hx2 : zr x2) : Rf (kZ_look_17 rz β σ x0 x1 x2) (kM_look_17 rm (cv σ) (i32 x0) (i32 x1) (i32 x2)) β := by
  unfold kZ_look_17 kM_look_17
  exact Rf_tail hR hσ (zrs_cons hx0 (zrs_cons hx1 (zrs_cons (by decide) (zrs_cons hx2 zrs_nil)))) (e_cons rfl (e_cons rfl (e_cons (by decide) (e_cons rfl rfl))))
theorem rZ_look_22 (rz : zF) (rm : mF) (hR : Rc rz rm) (β : Nat) (σ : zS) (hσ : zOK σ) (x0 x1 x2 x3 : Int) (hx0 : zr x0) (hx1 : zr x1) (hx2 : zr x2) (hx3 : zr x3) : Rf (kZ_look_22 rz β σ x0 x1 x2 x3) (kM_look_22 rm (cv σ) (i32 x0) (i32 x1) (i32 x2) (i32 x3)) β := by
  unfold kZ_look_22 kM_look_22
  refine Rf_bnd hR hσ (zrs_cons hx3 (zrs_cons hx2 zrs_nil)) (e_cons rfl (e_cons rfl rfl)) (fun σ1 r1 hσ1 hr1 => ?_)
  refine Rf_eq rfl (by decide) hr1 (by decide) (fun _ => ?_) (fun _ => ?_)
  · refine Rf_I rfl hx0 hσ1 (fun σ2 hσ2 => ?_)
    refine Rf_I rfl hx1 hσ2 (fun σ3 hσ3 => ?_)
    refine Rf_bnd hR hσ3 zrs_nil rfl (fun σ4 r4 hσ4 hr4 => ?_)
    refine Rf_eq rfl (by decide) hr4 (by decide) (fun _ => ?_) (fun _ => ?_)
    · exact Rf_some hσ4 (by decide) (by decide)
    · exact Rf_tail hR hσ4 (zrs_cons hx0 (zrs_cons hx1 (zrs_cons (by decide) (zrs_cons (by decide) zrs_nil)))) (e_cons rfl (e_cons rfl (e_cons (by decide) (e_cons (by decide) rfl))))
  · exact Rf_some hσ1 (by decide) (by decide)
theorem rZ_look_54 (rz : zF) (rm : mF) (hR : Rc rz rm) (β : Nat) (σ : zS) (hσ : zOK σ) (x0 x1 x2 x3 : Int) (hx0 : zr x0) (hx1 : zr x1) (hx2 : zr x2) (hx3 : zr x3) : Rf (kZ_look_54 rz β σ x0 x1 x2 x3) (kM_look_54 rm (cv σ) (i32 x0) (i32 x1) (i32 x2) (i32 x3)) β := by
  unfold kZ_look_54 kM_look_54
  refine Rf_le rfl rfl (hσ.1 84) hx3 (fun _ => ?_) (fun _ => ?_)
  · exact Rf_some hσ hx2 rfl
  · refine Rf_bnd hR hσ (zrs_cons hx3 zrs_nil) (e_cons rfl rfl) (fun σ1 r1 hσ1 hr1 => ?_)
    refine Rf_eq rfl (by decide) hr1 (by decide) (fun _ => ?_) (fun _ => ?_)
    · refine Rf_g (fun hg1 => ?_)
      exact Rf_tail hR hσ1 (zrs_cons hx0 (zrs_cons hx1 (zrs_cons hg1 (zrs_cons hx3 zrs_nil)))) (e_cons rfl (e_cons rfl (e_cons (e_add rfl (by decide)) (e_cons rfl rfl))))
    · exact Rf_tail hR hσ1 (zrs_cons hx0 (zrs_cons hx1 (zrs_cons hx2 (zrs_cons hx3 zrs_nil)))) (e_cons rfl (e_cons rfl (e_cons rfl (e_cons rfl rfl))))
theorem rZ_look_75 (rz : zF) (rm : mF) (hR : Rc rz rm) (β : Nat) (σ : zS) (hσ : zOK σ) (x0 x1 x2 x3 : Int) (hx0 : zr x0) (hx1 : zr x1) (hx2 : zr x2) (hx3 : zr x3) : Rf (kZ_look_75 rz β σ x0 x1 x2 x3) (kM_look_75 rm (cv σ) (i32 x0) (i32 x1) (i32 x2) (i32 x3)) β := by
  unfold kZ_look_75 kM_look_75
  refine Rf_g (fun hg1 => ?_)
  exact Rf_tail hR hσ (zrs_cons hx0 (zrs_cons hx1 (zrs_cons hx2 (zrs_cons hg1 zrs_nil)))) (e_cons rfl (e_cons rfl (e_cons rfl (e_cons (e_add rfl (by decide)) rfl))))
theorem rZ_textIsTrue (rz : zF) (rm : mF) (hR : Rc rz rm) (β : Nat) (σ : zS) (hσ : zOK σ) : Rf (kZ_textIsTrue rz β σ) (kM_textIsTrue rm (cv σ)) β := by
  unfold kZ_textIsTrue kM_textIsTrue
  exact Rf_tail hR hσ (zrs_cons (by decide) zrs_nil) (e_cons (by decide) rfl)
theorem rZ_textIsTrue_2 (rz : zF) (rm : mF) (hR : Rc rz rm) (β : Nat) (σ : zS) (hσ : zOK σ) (x0 : Int) (hx0 : zr x0) : Rf (kZ_textIsTrue_2 rz β σ x0) (kM_textIsTrue_2 rm (cv σ) (i32 x0)) β := by
  unfold kZ_textIsTrue_2 kM_textIsTrue_2
  refine Rf_le rfl rfl (hσ.1 85) hx0 (fun _ => ?_) (fun _ => ?_)
  · exact Rf_some hσ (by decide) (by decide)
  · refine Rf_bnd hR hσ (zrs_cons hx0 zrs_nil) (e_cons rfl rfl) (fun σ1 r1 hσ1 hr1 => ?_)
    refine Rf_eq rfl (by decide) hr1 (by decide) (fun _ => ?_) (fun _ => ?_)
    · exact Rf_some hσ1 (by decide) (by decide)
    · refine Rf_g (fun hg1 => ?_)
      exact Rf_tail hR hσ1 (zrs_cons hg1 zrs_nil) (e_cons (e_add rfl (by decide)) rfl)
theorem rZ_isTrue (rz : zF) (rm : mF) (hR : Rc rz rm) (β : Nat) (σ : zS) (hσ : zOK σ) (x0 : Int) (hx0 : zr x0) : Rf (kZ_isTrue rz β σ x0) (kM_isTrue rm (cv σ) (i32 x0)) β := by
  unfold kZ_isTrue kM_isTrue
  exact Rf_tail hR hσ (zrs_cons hx0 (zrs_cons (by decide) (zrs_cons (by decide) zrs_nil))) (e_cons rfl (e_cons (by decide) (e_cons (by decide) rfl)))
theorem rZ_isTrue_4 (rz : zF) (rm : mF) (hR : Rc rz rm) (β : Nat) (σ : zS) (hσ : zOK σ) (x0 x1 x2 : Int) (hx0 : zr x0) (hx1 : zr x1) (hx2 : zr x2) : Rf (kZ_isTrue_4 rz β σ x0 x1 x2) (kM_isTrue_4 rm (cv σ) (i32 x0) (i32 x1) (i32 x2)) β := by
  unfold kZ_isTrue_4 kM_isTrue_4
  refine Rf_rd rfl hx0 (fun hb1 => ?_)
  refine Rf_le (e_rd rfl hb1) rfl (hσ.2.1 _ _) hx2 (fun _ => ?_) (fun _ => ?_)
  · exact Rf_tail hR hσ (zrs_cons hx0 (zrs_cons hx1 (zrs_cons (by decide) zrs_nil))) (e_cons rfl (e_cons rfl (e_cons (by decide) rfl)))
  · refine Rf_g (fun hg2 => ?_)
    refine Rf_g (fun hg3 => ?_)
    exact Rf_tail hR hσ (zrs_cons hx0 (zrs_cons hg2 (zrs_cons hg3 zrs_nil))) (e_cons rfl (e_cons (e_mul rfl rfl) (e_cons (e_add rfl (by decide)) rfl)))
theorem rZ_isTrue_29 (rz : zF) (rm : mF) (hR : Rc rz rm) (β : Nat) (σ : zS) (hσ : zOK σ) (x0 x1 x2 : Int) (hx0 : zr x0) (hx1 : zr x1) (hx2 : zr x2) : Rf (kZ_isTrue_29 rz β σ x0 x1 x2) (kM_isTrue_29 rm (cv σ) (i32 x0) (i32 x1) (i32 x2)) β := by
  unfold kZ_isTrue_29 kM_isTrue_29
  refine Rf_le rfl rfl hx1 hx2 (fun _ => ?_) (fun _ => ?_)
  · exact Rf_some hσ (by decide) (by decide)
  · exact Rf_tail hR hσ (zrs_cons hx0 (zrs_cons hx1 (zrs_cons hx2 (zrs_cons hx2 (zrs_cons (by decide) zrs_nil))))) (e_cons rfl (e_cons rfl (e_cons rfl (e_cons rfl (e_cons (by decide) rfl)))))
theorem rZ_isTrue_40 (rz : zF) (rm : mF) (hR : Rc rz rm) (β : Nat) (σ : zS) (hσ : zOK σ) (x0 x1 x2 x3 x4 : Int) (hx0 : zr x0) (hx1 : zr x1) (hx2 : zr x2) (hx3 : zr x3) (hx4 : zr x4) : Rf (kZ_isTrue_40 rz β σ x0 x1 x2 x3 x4) (kM_isTrue_40 rm (cv σ) (i32 x0) (i32 x1) (i32 x2) (i32 x3) (i32 x4)) β := by
  unfold kZ_isTrue_40 kM_isTrue_40
  refine Rf_rd rfl hx0 (fun hb1 => ?_)
  refine Rf_le (e_rd rfl hb1) rfl (hσ.2.1 _ _) hx4 (fun _ => ?_) (fun _ => ?_)
  · refine Rf_rd2 rfl hb1 ?_
    exact Rf_tail hR hσ (zrs_cons hx0 (zrs_cons hx1 (zrs_cons hx2 (zrs_cons hx3 (zrs_cons (by decide) (zrs_cons (hσ.2.1 _ _) zrs_nil)))))) (e_cons rfl (e_cons rfl (e_cons rfl (e_cons rfl (e_cons (by decide) (e_cons (e_rd rfl hb1) rfl))))))
  · refine Rf_z rfl (hσ.1 125) (fun hz2 => ?_)
    refine Rf_rd rfl hx4 (fun hb3 => ?_)
    refine Rf_A rfl hb3 (e_mod rfl rfl hx3 (hσ.1 125)) (zr_tmod hx3 _) hσ (fun σ1 hσ1 => ?_)
    refine Rf_z rfl (hσ1.1 125) (fun hz4 => ?_)
    refine Rf_g (fun hg5 => ?_)
    refine Rf_g (fun hg6 => ?_)
    exact Rf_tail hR hσ1 (zrs_cons hx0 (zrs_cons hx1 (zrs_cons hx2 (zrs_cons hg5 (zrs_cons hg6 zrs_nil))))) (e_cons rfl (e_cons rfl (e_cons rfl (e_cons (e_div rfl rfl hx3 (hσ1.1 125)) (e_cons (e_add rfl (by decide)) rfl)))))
theorem rZ_isTrue_91 (rz : zF) (rm : mF) (hR : Rc rz rm) (β : Nat) (σ : zS) (hσ : zOK σ) (x0 x1 x2 x3 x4 x5 : Int) (hx0 : zr x0) (hx1 : zr x1) (hx2 : zr x2) (hx3 : zr x3) (hx4 : zr x4) (hx5 : zr x5) : Rf (kZ_isTrue_91 rz β σ x0 x1 x2 x3 x4 x5) (kM_isTrue_91 rm (cv σ) (i32 x0) (i32 x1) (i32 x2) (i32 x3) (i32 x4) (i32 x5)) β := by
  unfold kZ_isTrue_91 kM_isTrue_91
  refine Rf_rd rfl hx0 (fun hb1 => ?_)
  refine Rf_rd2 rfl hb1 ?_
  refine Rf_g (fun hg2 => ?_)
  refine Rf_le (e_add (e_rd rfl hb1) (e_rd rfl hb1)) rfl hg2 hx5 (fun _ => ?_) (fun _ => ?_)
  · exact Rf_tail hR hσ (zrs_cons hx0 (zrs_cons hx1 (zrs_cons hx2 (zrs_cons hx3 (zrs_cons hx4 (zrs_cons hx5 zrs_nil)))))) (e_cons rfl (e_cons rfl (e_cons rfl (e_cons rfl (e_cons rfl (e_cons rfl rfl))))))
  · refine Rf_eq rfl (by decide) hx4 (by decide) (fun _ => ?_) (fun _ => ?_)
    · refine Rf_rd rfl hx5 (fun hb3 => ?_)
      refine Rf_bnd hR hσ (zrs_cons (hσ.2.1 _ _) zrs_nil) (e_cons (e_rd rfl hb3) rfl) (fun σ1 r1 hσ1 hr1 => ?_)
      refine Rf_rd2 rfl hb3 ?_
      refine Rf_bnd hR hσ1 (zrs_cons (hσ1.2.1 _ _) zrs_nil) (e_cons (e_rd rfl hb3) rfl) (fun σ2 r2 hσ2 hr2 => ?_)
      refine Rf_eq rfl rfl hr1 hr2 (fun _ => ?_) (fun _ => ?_)
      · exact Rf_tail hR hσ2 (zrs_cons hx0 (zrs_cons hx1 (zrs_cons hx2 (zrs_cons hx3 (zrs_cons hx4 (zrs_cons hx5 (zrs_cons (by decide) zrs_nil))))))) (e_cons rfl (e_cons rfl (e_cons rfl (e_cons rfl (e_cons rfl (e_cons rfl (e_cons (by decide) rfl)))))))
      · exact Rf_tail hR hσ2 (zrs_cons hx0 (zrs_cons hx1 (zrs_cons hx2 (zrs_cons hx3 (zrs_cons hx4 (zrs_cons hx5 (zrs_cons (by decide) zrs_nil))))))) (e_cons rfl (e_cons rfl (e_cons rfl (e_cons rfl (e_cons rfl (e_cons rfl (e_cons (by decide) rfl)))))))
    · exact Rf_tail hR hσ (zrs_cons hx0 (zrs_cons hx1 (zrs_cons hx2 (zrs_cons hx3 (zrs_cons hx4 (zrs_cons hx5 zrs_nil)))))) (e_cons rfl (e_cons rfl (e_cons rfl (e_cons rfl (e_cons rfl (e_cons rfl rfl))))))
theorem rZ_isTrue_144 (rz : zF) (rm : mF) (hR : Rc rz rm) (β : Nat) (σ : zS) (hσ : zOK σ) (x0 x1 x2 x3 x4 x5 x6 : Int) (hx0 : zr x0) (hx1 : zr x1) (hx2 : zr x2) (hx3 : zr x3) (hx4 : zr x4) (hx5 : zr x5) (hx6 : zr x6) : Rf (kZ_isTrue_144 rz β σ x0 x1 x2 x3 x4 x5 x6) (kM_isTrue_144 rm (cv σ) (i32 x0) (i32 x1) (i32 x2) (i32 x3) (i32 x4) (i32 x5) (i32 x6)) β := by
  unfold kZ_isTrue_144 kM_isTrue_144
  refine Rf_rd rfl hx5 (fun hb1 => ?_)
  refine Rf_eq rfl (e_rd rfl hb1) hx6 (hσ.2.1 _ _) (fun _ => ?_) (fun _ => ?_)
  · exact Rf_tail hR hσ (zrs_cons hx0 (zrs_cons hx1 (zrs_cons hx2 (zrs_cons hx3 (zrs_cons hx4 (zrs_cons hx5 (zrs_cons (by decide) zrs_nil))))))) (e_cons rfl (e_cons rfl (e_cons rfl (e_cons rfl (e_cons rfl (e_cons rfl (e_cons (by decide) rfl)))))))
  · exact Rf_tail hR hσ (zrs_cons hx0 (zrs_cons hx1 (zrs_cons hx2 (zrs_cons hx3 (zrs_cons hx4 (zrs_cons hx5 (zrs_cons (by decide) zrs_nil))))))) (e_cons rfl (e_cons rfl (e_cons rfl (e_cons rfl (e_cons rfl (e_cons rfl (e_cons (by decide) rfl)))))))
theorem rZ_isTrue_159 (rz : zF) (rm : mF) (hR : Rc rz rm) (β : Nat) (σ : zS) (hσ : zOK σ) (x0 x1 x2 x3 x4 x5 x6 : Int) (hx0 : zr x0) (hx1 : zr x1) (hx2 : zr x2) (hx3 : zr x3) (hx4 : zr x4) (hx5 : zr x5) (hx6 : zr x6) : Rf (kZ_isTrue_159 rz β σ x0 x1 x2 x3 x4 x5 x6) (kM_isTrue_159 rm (cv σ) (i32 x0) (i32 x1) (i32 x2) (i32 x3) (i32 x4) (i32 x5) (i32 x6)) β := by
  unfold kZ_isTrue_159 kM_isTrue_159
  refine Rf_g (fun hg1 => ?_)
  exact Rf_tail hR hσ (zrs_cons hx0 (zrs_cons hx1 (zrs_cons hx2 (zrs_cons hx3 (zrs_cons hx6 (zrs_cons hg1 zrs_nil)))))) (e_cons rfl (e_cons rfl (e_cons rfl (e_cons rfl (e_cons rfl (e_cons (e_add rfl (by decide)) rfl))))))
theorem rZ_isTrue_167 (rz : zF) (rm : mF) (hR : Rc rz rm) (β : Nat) (σ : zS) (hσ : zOK σ) (x0 x1 x2 x3 x4 x5 : Int) (hx0 : zr x0) (hx1 : zr x1) (hx2 : zr x2) (hx3 : zr x3) (hx4 : zr x4) (hx5 : zr x5) : Rf (kZ_isTrue_167 rz β σ x0 x1 x2 x3 x4 x5) (kM_isTrue_167 rm (cv σ) (i32 x0) (i32 x1) (i32 x2) (i32 x3) (i32 x4) (i32 x5)) β := by
  unfold kZ_isTrue_167 kM_isTrue_167
  refine Rf_eq rfl (by decide) hx4 (by decide) (fun _ => ?_) (fun _ => ?_)
  · exact Rf_some hσ (by decide) (by decide)
  · refine Rf_g (fun hg1 => ?_)
    exact Rf_tail hR hσ (zrs_cons hx0 (zrs_cons hx1 (zrs_cons hg1 zrs_nil))) (e_cons rfl (e_cons rfl (e_cons (e_add rfl (by decide)) rfl)))
theorem rZ_meaning (rz : zF) (rm : mF) (hR : Rc rz rm) (β : Nat) (σ : zS) (hσ : zOK σ) (x0 : Int) (hx0 : zr x0) : Rf (kZ_meaning rz β σ x0) (kM_meaning rm (cv σ) (i32 x0)) β := by
  unfold kZ_meaning kM_meaning
  refine Rf_rd rfl hx0 (fun hb1 => ?_)
  refine Rf_le (by decide) (e_rd rfl hb1) (by decide) (hσ.2.1 _ _) (fun _ => ?_) (fun _ => ?_)
  · refine Rf_rd2 rfl hb1 ?_
    refine Rf_eq (e_rd rfl hb1) (by decide) (hσ.2.1 _ _) (by decide) (fun _ => ?_) (fun _ => ?_)
    · exact Rf_some hσ (by decide) (by decide)
    · refine Rf_rd2 rfl hb1 ?_
      refine Rf_bnd hR hσ (zrs_cons (hσ.1 124) (zrs_cons (hσ.2.1 _ _) zrs_nil)) (e_cons rfl (e_cons (e_rd rfl hb1) rfl)) (fun σ1 r1 hσ1 hr1 => ?_)
      refine Rf_rd2 rfl hb1 ?_
      exact Rf_tail hR hσ1 (zrs_cons hx0 (zrs_cons hr1 (zrs_cons (hσ1.2.1 _ _) zrs_nil))) (e_cons rfl (e_cons rfl (e_cons (e_rd rfl hb1) rfl)))
  · refine Rf_rd2 rfl hb1 ?_
    refine Rf_rd (e_wsub (by decide) (e_rd rfl hb1)) (zr_to _) (fun hb2 => ?_)
    exact Rf_some hσ (hσ.2.1 _ _) (e_rd (e_wsub (by decide) (e_rd rfl hb1)) hb2)
theorem rZ_meaning_56 (rz : zF) (rm : mF) (hR : Rc rz rm) (β : Nat) (σ : zS) (hσ : zOK σ) (x0 x1 x2 : Int) (hx0 : zr x0) (hx1 : zr x1) (hx2 : zr x2) : Rf (kZ_meaning_56 rz β σ x0 x1 x2) (kM_meaning_56 rm (cv σ) (i32 x0) (i32 x1) (i32 x2)) β := by
  unfold kZ_meaning_56 kM_meaning_56
  refine Rf_lt rfl (by decide) hx2 (by decide) (fun _ => ?_) (fun _ => ?_)
  · refine Rf_rd rfl hx0 (fun hb1 => ?_)
    refine Rf_rd (e_rd rfl hb1) (hσ.2.1 _ _) (fun hb2 => ?_)
    refine Rf_eq (e_rd (e_rd rfl hb1) hb2) (by decide) (hσ.2.1 _ _) (by decide) (fun _ => ?_) (fun _ => ?_)
    · refine Rf_z rfl (hσ.1 125) (fun hz3 => ?_)
      exact Rf_tail hR hσ (zrs_cons hx0 (zrs_cons (zr_to _) (zrs_cons hx2 (zrs_cons (zr_tmod (zr_to _) _) zrs_nil)))) (e_cons rfl (e_cons (e_xor (e_wmul (e_xor rfl (e_ushr rfl (by decide))) (by decide)) (e_ushr (e_wmul (e_xor rfl (e_ushr rfl (by decide))) (by decide)) (by decide))) (e_cons rfl (e_cons (e_mod (e_and (e_xor (e_wmul (e_xor rfl (e_ushr rfl (by decide))) (by decide)) (e_ushr (e_wmul (e_xor rfl (e_ushr rfl (by decide))) (by decide)) (by decide))) (by decide)) rfl (zr_to _) (hσ.1 125)) rfl))))
    · exact Rf_tail hR hσ (zrs_cons hx0 (zrs_cons (zr_to _) (zrs_cons hx2 (zrs_cons (zr_to _) zrs_nil)))) (e_cons rfl (e_cons (e_xor (e_wmul (e_xor rfl (e_ushr rfl (by decide))) (by decide)) (e_ushr (e_wmul (e_xor rfl (e_ushr rfl (by decide))) (by decide)) (by decide))) (e_cons rfl (e_cons (e_and (e_xor (e_wmul (e_xor rfl (e_ushr rfl (by decide))) (by decide)) (e_ushr (e_wmul (e_xor rfl (e_ushr rfl (by decide))) (by decide)) (by decide))) (by decide)) rfl))))
  · refine Rf_bnd hR hσ (zrs_cons hx2 zrs_nil) (e_cons rfl rfl) (fun σ1 r1 hσ1 hr1 => ?_)
    refine Rf_bnd hR hσ1 (zrs_cons hx1 (zrs_cons hr1 zrs_nil)) (e_cons rfl (e_cons rfl rfl)) (fun σ2 r2 hσ2 hr2 => ?_)
    refine Rf_rd rfl hx2 (fun hb4 => ?_)
    exact Rf_tail hR hσ2 (zrs_cons hx0 (zrs_cons hr2 (zrs_cons (hσ2.2.1 _ _) zrs_nil))) (e_cons rfl (e_cons rfl (e_cons (e_rd rfl hb4) rfl)))
theorem rZ_meaning_129 (rz : zF) (rm : mF) (hR : Rc rz rm) (β : Nat) (σ : zS) (hσ : zOK σ) (x0 x1 x2 x3 : Int) (hx0 : zr x0) (hx1 : zr x1) (hx2 : zr x2) (hx3 : zr x3) : Rf (kZ_meaning_129 rz β σ x0 x1 x2 x3) (kM_meaning_129 rm (cv σ) (i32 x0) (i32 x1) (i32 x2) (i32 x3)) β := by
  unfold kZ_meaning_129 kM_meaning_129
  exact Rf_some hσ hx3 rfl
theorem rZ_mixed (rz : zF) (rm : mF) (hR : Rc rz rm) (β : Nat) (σ : zS) (hσ : zOK σ) (x0 x1 : Int) (hx0 : zr x0) (hx1 : zr x1) : Rf (kZ_mixed rz β σ x0 x1) (kM_mixed rm (cv σ) (i32 x0) (i32 x1)) β := by
  unfold kZ_mixed kM_mixed
  exact Rf_some hσ (zr_to _) (e_wadd (e_wadd (e_wmul (by decide) (e_xor rfl (e_ushr rfl (by decide)))) rfl) (by decide))
theorem rZ_search (rz : zF) (rm : mF) (hR : Rc rz rm) (β : Nat) (σ : zS) (hσ : zOK σ) (x0 x1 x2 : Int) (hx0 : zr x0) (hx1 : zr x1) (hx2 : zr x2) : Rf (kZ_search rz β σ x0 x1 x2) (kM_search rm (cv σ) (i32 x0) (i32 x1) (i32 x2)) β := by
  unfold kZ_search kM_search
  refine Rf_I (by decide) (by decide) hσ (fun σ1 hσ1 => ?_)
  refine Rf_lt rfl (by decide) hx1 (by decide) (fun _ => ?_) (fun _ => ?_)
  · exact Rf_tail hR hσ1 (zrs_cons hx0 (zrs_cons hx1 (zrs_cons hx2 (zrs_cons (by decide) zrs_nil)))) (e_cons rfl (e_cons rfl (e_cons rfl (e_cons (by decide) rfl))))
  · refine Rf_lt (by decide) rfl (by decide) hx1 (fun _ => ?_) (fun _ => ?_)
    · exact Rf_tail hR hσ1 (zrs_cons hx0 (zrs_cons hx1 (zrs_cons hx2 (zrs_cons (by decide) zrs_nil)))) (e_cons rfl (e_cons rfl (e_cons rfl (e_cons (by decide) rfl))))
    · refine Rf_lt rfl (by decide) hx2 (by decide) (fun _ => ?_) (fun _ => ?_)
      · exact Rf_tail hR hσ1 (zrs_cons hx0 (zrs_cons hx1 (zrs_cons hx2 (zrs_cons (by decide) zrs_nil)))) (e_cons rfl (e_cons rfl (e_cons rfl (e_cons (by decide) rfl))))
      · refine Rf_le rfl (by decide) hx2 (by decide) (fun _ => ?_) (fun _ => ?_)
        · exact Rf_tail hR hσ1 (zrs_cons hx0 (zrs_cons hx1 (zrs_cons hx2 (zrs_cons (by decide) (zrs_cons (by decide) zrs_nil))))) (e_cons rfl (e_cons rfl (e_cons rfl (e_cons (by decide) (e_cons (by decide) rfl)))))
        · exact Rf_tail hR hσ1 (zrs_cons hx0 (zrs_cons hx1 (zrs_cons hx2 (zrs_cons (by decide) zrs_nil)))) (e_cons rfl (e_cons rfl (e_cons rfl (e_cons (by decide) rfl))))
theorem rZ_search_28 (rz : zF) (rm : mF) (hR : Rc rz rm) (β : Nat) (σ : zS) (hσ : zOK σ) (x0 x1 x2 x3 : Int) (hx0 : zr x0) (hx1 : zr x1) (hx2 : zr x2) (hx3 : zr x3) : Rf (kZ_search_28 rz β σ x0 x1 x2 x3) (kM_search_28 rm (cv σ) (i32 x0) (i32 x1) (i32 x2) (i32 x3)) β := by
  unfold kZ_search_28 kM_search_28
  exact Rf_tail hR hσ (zrs_cons hx0 (zrs_cons hx1 (zrs_cons hx2 (zrs_cons (by decide) (zrs_cons hx3 zrs_nil))))) (e_cons rfl (e_cons rfl (e_cons rfl (e_cons (by decide) (e_cons rfl rfl)))))
theorem rZ_search_33 (rz : zF) (rm : mF) (hR : Rc rz rm) (β : Nat) (σ : zS) (hσ : zOK σ) (x0 x1 x2 x3 x4 : Int) (hx0 : zr x0) (hx1 : zr x1) (hx2 : zr x2) (hx3 : zr x3) (hx4 : zr x4) : Rf (kZ_search_33 rz β σ x0 x1 x2 x3 x4) (kM_search_33 rm (cv σ) (i32 x0) (i32 x1) (i32 x2) (i32 x3) (i32 x4)) β := by
  unfold kZ_search_33 kM_search_33
  refine Rf_bnd hR hσ (zrs_cons hx4 (zrs_cons hx3 zrs_nil)) (e_cons rfl (e_cons rfl rfl)) (fun σ1 r1 hσ1 hr1 => ?_)
  refine Rf_eq rfl (by decide) hr1 (by decide) (fun _ => ?_) (fun _ => ?_)
  · refine Rf_I rfl hx1 hσ1 (fun σ2 hσ2 => ?_)
    exact Rf_tail hR hσ2 (zrs_cons hx0 (zrs_cons hx1 (zrs_cons hx2 (zrs_cons (by decide) zrs_nil)))) (e_cons rfl (e_cons rfl (e_cons rfl (e_cons (by decide) rfl))))
  · exact Rf_some hσ1 (by decide) (by decide)
theorem rZ_search_49 (rz : zF) (rm : mF) (hR : Rc rz rm) (β : Nat) (σ : zS) (hσ : zOK σ) (x0 x1 x2 x3 : Int) (hx0 : zr x0) (hx1 : zr x1) (hx2 : zr x2) (hx3 : zr x3) : Rf (kZ_search_49 rz β σ x0 x1 x2 x3) (kM_search_49 rm (cv σ) (i32 x0) (i32 x1) (i32 x2) (i32 x3)) β := by
  unfold kZ_search_49 kM_search_49
  refine Rf_le rfl rfl hx2 hx3 (fun _ => ?_) (fun _ => ?_)
  · exact Rf_some hσ (by decide) (by decide)
  · refine Rf_I (e_wadd rfl rfl) (zr_to _) hσ (fun σ1 hσ1 => ?_)
    refine Rf_bnd hR hσ1 zrs_nil rfl (fun σ2 r2 hσ2 hr2 => ?_)
    refine Rf_eq rfl (by decide) hr2 (by decide) (fun _ => ?_) (fun _ => ?_)
    · refine Rf_g (fun hg1 => ?_)
      exact Rf_tail hR hσ2 (zrs_cons hx0 (zrs_cons hx1 (zrs_cons hx2 (zrs_cons hg1 zrs_nil)))) (e_cons rfl (e_cons rfl (e_cons rfl (e_cons (e_add rfl (by decide)) rfl))))
    · exact Rf_some hσ2 hx3 rfl
theorem rZ_count1 (rz : zF) (rm : mF) (hR : Rc rz rm) (β : Nat) (σ : zS) (hσ : zOK σ) (x0 : Int) (hx0 : zr x0) : Rf (kZ_count1 rz β σ x0) (kM_count1 rm (cv σ) (i32 x0)) β := by
  unfold kZ_count1 kM_count1
  refine Rf_I (by decide) (by decide) hσ (fun σ1 hσ1 => ?_)
  refine Rf_out rfl hx0 (fun _ => ?_) (fun _ => ?_)
  · exact Rf_some hσ1 (by decide) (by decide)
  · refine Rf_eq rfl (by decide) hx0 (by decide) (fun _ => ?_) (fun _ => ?_)
    · exact Rf_some hσ1 (hσ1.1 84) rfl
    · refine Rf_eq rfl (by decide) hx0 (by decide) (fun _ => ?_) (fun _ => ?_)
      · exact Rf_some hσ1 (hσ1.1 85) rfl
      · refine Rf_eq rfl (by decide) hx0 (by decide) (fun _ => ?_) (fun _ => ?_)
        · refine Rf_bnd hR hσ1 (zrs_cons (by decide) zrs_nil) (e_cons (by decide) rfl) (fun σ2 r2 hσ2 hr2 => ?_)
          exact Rf_some hσ2 hr2 rfl
        · refine Rf_eq rfl (by decide) hx0 (by decide) (fun _ => ?_) (fun _ => ?_)
          · refine Rf_bnd hR hσ1 (zrs_cons (by decide) zrs_nil) (e_cons (by decide) rfl) (fun σ3 r3 hσ3 hr3 => ?_)
            exact Rf_some hσ3 hr3 rfl
          · refine Rf_eq rfl (by decide) hx0 (by decide) (fun _ => ?_) (fun _ => ?_)
            · exact Rf_some hσ1 (hσ1.1 89) rfl
            · refine Rf_eq rfl (by decide) hx0 (by decide) (fun _ => ?_) (fun _ => ?_)
              · exact Rf_some hσ1 (hσ1.1 90) rfl
              · refine Rf_eq rfl (by decide) hx0 (by decide) (fun _ => ?_) (fun _ => ?_)
                · exact Rf_some hσ1 (hσ1.1 91) rfl
                · refine Rf_eq rfl (by decide) hx0 (by decide) (fun _ => ?_) (fun _ => ?_)
                  · exact Rf_some hσ1 (hσ1.1 92) rfl
                  · refine Rf_eq rfl (by decide) hx0 (by decide) (fun _ => ?_) (fun _ => ?_)
                    · exact Rf_some hσ1 (hσ1.1 93) rfl
                    · refine Rf_eq rfl (by decide) hx0 (by decide) (fun _ => ?_) (fun _ => ?_)
                      · exact Rf_some hσ1 (hσ1.1 94) rfl
                      · refine Rf_eq rfl (by decide) hx0 (by decide) (fun _ => ?_) (fun _ => ?_)
                        · exact Rf_some hσ1 (hσ1.1 87) rfl
                        · refine Rf_eq rfl (by decide) hx0 (by decide) (fun _ => ?_) (fun _ => ?_)
                          · exact Rf_some hσ1 (hσ1.1 19) rfl
                          · refine Rf_eq rfl (by decide) hx0 (by decide) (fun _ => ?_) (fun _ => ?_)
                            · exact Rf_some hσ1 (hσ1.1 2) rfl
                            · exact Rf_some hσ1 (hσ1.1 3) rfl
theorem rZ_inState (rz : zF) (rm : mF) (hR : Rc rz rm) (β : Nat) (σ : zS) (hσ : zOK σ) (x0 : Int) (hx0 : zr x0) : Rf (kZ_inState rz β σ x0) (kM_inState rm (cv σ) (i32 x0)) β := by
  unfold kZ_inState kM_inState
  exact Rf_tail hR hσ (zrs_cons hx0 (zrs_cons (by decide) (zrs_cons (by decide) zrs_nil))) (e_cons rfl (e_cons (by decide) (e_cons (by decide) rfl)))
theorem rZ_inState_4 (rz : zF) (rm : mF) (hR : Rc rz rm) (β : Nat) (σ : zS) (hσ : zOK σ) (x0 x1 x2 : Int) (hx0 : zr x0) (hx1 : zr x1) (hx2 : zr x2) : Rf (kZ_inState_4 rz β σ x0 x1 x2) (kM_inState_4 rm (cv σ) (i32 x0) (i32 x1) (i32 x2)) β := by
  unfold kZ_inState_4 kM_inState_4
  refine Rf_le rfl rfl (hσ.1 84) hx2 (fun _ => ?_) (fun _ => ?_)
  · exact Rf_some hσ hx1 rfl
  · refine Rf_rd rfl hx2 (fun hb1 => ?_)
    refine Rf_eq (e_rd rfl hb1) rfl (hσ.2.1 _ _) hx0 (fun _ => ?_) (fun _ => ?_)
    · refine Rf_g (fun hg2 => ?_)
      exact Rf_tail hR hσ (zrs_cons hx0 (zrs_cons hg2 (zrs_cons hx2 zrs_nil))) (e_cons rfl (e_cons (e_add rfl (by decide)) (e_cons rfl rfl)))
    · exact Rf_tail hR hσ (zrs_cons hx0 (zrs_cons hx1 (zrs_cons hx2 zrs_nil))) (e_cons rfl (e_cons rfl (e_cons rfl rfl)))
theorem rZ_inState_25 (rz : zF) (rm : mF) (hR : Rc rz rm) (β : Nat) (σ : zS) (hσ : zOK σ) (x0 x1 x2 : Int) (hx0 : zr x0) (hx1 : zr x1) (hx2 : zr x2) : Rf (kZ_inState_25 rz β σ x0 x1 x2) (kM_inState_25 rm (cv σ) (i32 x0) (i32 x1) (i32 x2)) β := by
  unfold kZ_inState_25 kM_inState_25
  refine Rf_g (fun hg1 => ?_)
  exact Rf_tail hR hσ (zrs_cons hx0 (zrs_cons hx1 (zrs_cons hg1 zrs_nil))) (e_cons rfl (e_cons rfl (e_cons (e_add rfl (by decide)) rfl)))
theorem rZ_sides_many (rz : zF) (rm : mF) (hR : Rc rz rm) (β : Nat) (σ : zS) (hσ : zOK σ) (x0 : Int) (hx0 : zr x0) : Rf (kZ_sides_many rz β σ x0) (kM_sides_many rm (cv σ) (i32 x0)) β := by
  unfold kZ_sides_many kM_sides_many
  refine Rf_rd rfl hx0 (fun hb1 => ?_)
  refine Rf_rd (by decide) (by decide) (fun hb2 => ?_)
  refine Rf_A (by decide) hb2 (e_rd rfl hb1) (hσ.2.1 _ _) hσ (fun σ1 hσ1 => ?_)
  refine Rf_rd2 rfl hb1 ?_
  refine Rf_rd (by decide) (by decide) (fun hb3 => ?_)
  refine Rf_A (by decide) hb3 (e_rd rfl hb1) (hσ1.2.1 _ _) hσ1 (fun σ2 hσ2 => ?_)
  refine Rf_rd2 rfl hb1 ?_
  refine Rf_eq (e_rd rfl hb1) (by decide) (hσ2.2.1 _ _) (by decide) (fun _ => ?_) (fun _ => ?_)
  · refine Rf_rd2 rfl hb1 ?_
    refine Rf_rd (by decide) (by decide) (fun hb4 => ?_)
    refine Rf_A (by decide) hb4 (e_rd rfl hb1) (hσ2.2.1 _ _) hσ2 (fun σ3 hσ3 => ?_)
    refine Rf_rd2 rfl hb1 ?_
    refine Rf_rd (by decide) (by decide) (fun hb5 => ?_)
    refine Rf_A (by decide) hb5 (e_rd rfl hb1) (hσ3.2.1 _ _) hσ3 (fun σ4 hσ4 => ?_)
    exact Rf_some hσ4 (by decide) (by decide)
  · exact Rf_some hσ2 (by decide) (by decide)
theorem rZ_sides_others (rz : zF) (rm : mF) (hR : Rc rz rm) (β : Nat) (σ : zS) (hσ : zOK σ) (x0 : Int) (hx0 : zr x0) : Rf (kZ_sides_others rz β σ x0) (kM_sides_others rm (cv σ) (i32 x0)) β := by
  unfold kZ_sides_others kM_sides_others
  refine Rf_rd rfl hx0 (fun hb1 => ?_)
  refine Rf_rd (by decide) (by decide) (fun hb2 => ?_)
  refine Rf_A (by decide) hb2 (e_rd rfl hb1) (hσ.2.1 _ _) hσ (fun σ1 hσ1 => ?_)
  refine Rf_rd2 rfl hb1 ?_
  refine Rf_rd (by decide) (by decide) (fun hb3 => ?_)
  refine Rf_A (by decide) hb3 (e_rd rfl hb1) (hσ1.2.1 _ _) hσ1 (fun σ2 hσ2 => ?_)
  refine Rf_rd2 rfl hb1 ?_
  refine Rf_eq (e_rd rfl hb1) (by decide) (hσ2.2.1 _ _) (by decide) (fun _ => ?_) (fun _ => ?_)
  · refine Rf_rd2 rfl hb1 ?_
    refine Rf_rd (by decide) (by decide) (fun hb4 => ?_)
    refine Rf_A (by decide) hb4 (e_rd rfl hb1) (hσ2.2.1 _ _) hσ2 (fun σ3 hσ3 => ?_)
    refine Rf_rd2 rfl hb1 ?_
    refine Rf_rd (by decide) (by decide) (fun hb5 => ?_)
    refine Rf_A (by decide) hb5 (e_rd rfl hb1) (hσ3.2.1 _ _) hσ3 (fun σ4 hσ4 => ?_)
    exact Rf_some hσ4 (by decide) (by decide)
  · exact Rf_some hσ2 (by decide) (by decide)
