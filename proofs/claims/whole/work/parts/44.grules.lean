theorem tc_Row_add : Cond.code y_Row_add b_Row_add 2 none ∈ lw_tbg := tb_in (i := 600) (by decide +kernel) rfl
theorem ml_CP_97 : ax_LV "ClauseProver" 97 y_Row_add b_Row_add 2 none 1 := ax_LV.mk (tb_in (i := 975) (by decide +kernel) rfl) (tb_in (i := 598) (by decide +kernel) rfl) (tb_in (i := 599) (by decide +kernel) rfl) ti_Row tc_Row_add (by decide +kernel)
theorem tc_Sym_clear : Cond.code y_Sym_clear b_Sym_clear 1 none ∈ lw_tbg := tb_in (i := 543) (by decide +kernel) rfl
theorem ml_CP_105 : ax_LV "ClauseProver" 105 y_Sym_clear b_Sym_clear 1 none 0 := ax_LV.mk (tb_in (i := 540) (by decide +kernel) rfl) (tb_in (i := 541) (by decide +kernel) rfl) (tb_in (i := 542) (by decide +kernel) rfl) ti_Sym tc_Sym_clear (by decide +kernel)
theorem tc_Sto_clear : Cond.code y_Sto_clear b_Sto_clear 1 none ∈ lw_tbg := tb_in (i := 547) (by decide +kernel) rfl
theorem ml_CP_108 : ax_LV "ClauseProver" 108 y_Sto_clear b_Sto_clear 1 none 0 := ax_LV.mk (tb_in (i := 544) (by decide +kernel) rfl) (tb_in (i := 545) (by decide +kernel) rfl) (tb_in (i := 546) (by decide +kernel) rfl) ti_Sto tc_Sto_clear (by decide +kernel)
theorem tc_Sat_clear : Cond.code y_Sat_clear b_Sat_clear 1 none ∈ lw_tbg := tb_in (i := 551) (by decide +kernel) rfl
theorem ml_CP_109 : ax_LV "ClauseProver" 109 y_Sat_clear b_Sat_clear 1 none 0 := ax_LV.mk (tb_in (i := 548) (by decide +kernel) rfl) (tb_in (i := 549) (by decide +kernel) rfl) (tb_in (i := 550) (by decide +kernel) rfl) ti_Sat tc_Sat_clear (by decide +kernel)
theorem tc_Par_parse : Cond.code y_Par_parse b_Par_parse 6 none ∈ lw_tbg := tb_in (i := 555) (by decide +kernel) rfl
theorem ml_CP_113 : ax_LV "ClauseProver" 113 y_Par_parse b_Par_parse 6 none 2 := ax_LV.mk (tb_in (i := 552) (by decide +kernel) rfl) (tb_in (i := 553) (by decide +kernel) rfl) (tb_in (i := 554) (by decide +kernel) rfl) ti_Par tc_Par_parse (by decide +kernel)
theorem tc_For_makeWitnesses : Cond.code y_For_makeWitnesses b_For_makeWitnesses 3 none ∈ lw_tbg := tb_in (i := 746) (by decide +kernel) rfl
theorem ml_CP_127 : ax_LV "ClauseProver" 127 y_For_makeWitnesses b_For_makeWitnesses 3 none 0 := ax_LV.mk (tb_in (i := 743) (by decide +kernel) rfl) (tb_in (i := 744) (by decide +kernel) rfl) (tb_in (i := 745) (by decide +kernel) rfl) ti_For tc_For_makeWitnesses (by decide +kernel)
theorem tc_For_makeClauses : Cond.code y_For_makeClauses b_For_makeClauses 8 (some (.int)) ∈ lw_tbg := tb_in (i := 774) (by decide +kernel) rfl
theorem ml_CP_130 : ax_LV "ClauseProver" 130 y_For_makeClauses b_For_makeClauses 8 (some (.int)) 2 := ax_LV.mk (tb_in (i := 771) (by decide +kernel) rfl) (tb_in (i := 772) (by decide +kernel) rfl) (tb_in (i := 773) (by decide +kernel) rfl) ti_For tc_For_makeClauses (by decide +kernel)
theorem tb_methodLink_700 : Cond.methodLink "ClauseProver$Formulas" 95 ⟨"java/lang/Math", "max", "(II)I"⟩ ∈ lw_tbg := tb_in (i := 700) (by decide +kernel) rfl
theorem ml_For_72 : ax_LV "ClauseProver$Formulas" 72 y_Row_add b_Row_add 2 none 1 := ax_LV.mk (tb_in (i := 597) (by decide +kernel) rfl) (tb_in (i := 598) (by decide +kernel) rfl) (tb_in (i := 599) (by decide +kernel) rfl) ti_Row tc_Row_add (by decide +kernel)
theorem tb_methodLink_703 : Cond.methodLink "ClauseProver$Formulas" 101 ⟨"java/lang/Math", "min", "(II)I"⟩ ∈ lw_tbg := tb_in (i := 703) (by decide +kernel) rfl
theorem tc_For_clausesOf : Cond.code y_For_clausesOf b_For_clausesOf 3 (some (.int)) ∈ lw_tbg := tb_in (i := 778) (by decide +kernel) rfl
theorem ml_For_127 : ax_LV "ClauseProver$Formulas" 127 y_For_clausesOf b_For_clausesOf 3 (some (.int)) 2 := ax_LV.mk (tb_in (i := 775) (by decide +kernel) rfl) (tb_in (i := 777) (by decide +kernel) rfl) (pv_in (i := 31) (by decide +kernel) rfl) ti_For tc_For_clausesOf (by decide +kernel)
theorem tc_For_joined : Cond.code y_For_joined b_For_joined 8 none ∈ lw_tbg := tb_in (i := 799) (by decide +kernel) rfl
theorem ml_For_164 : ax_LV "ClauseProver$Formulas" 164 y_For_joined b_For_joined 8 none 6 := ax_LV.mk (tb_in (i := 796) (by decide +kernel) rfl) (tb_in (i := 798) (by decide +kernel) rfl) (pv_in (i := 35) (by decide +kernel) rfl) ti_For tc_For_joined (by decide +kernel)
theorem tc_For_later : Cond.code y_For_later b_For_later 4 none ∈ lw_tbg := tb_in (i := 790) (by decide +kernel) rfl
theorem ml_For_156 : ax_LV "ClauseProver$Formulas" 156 y_For_later b_For_later 4 none 3 := ax_LV.mk (tb_in (i := 787) (by decide +kernel) rfl) (tb_in (i := 789) (by decide +kernel) rfl) (pv_in (i := 33) (by decide +kernel) rfl) ti_For tc_For_later (by decide +kernel)
theorem tc_For_writeClause : Cond.code y_For_writeClause b_For_writeClause 8 none ∈ lw_tbg := tb_in (i := 782) (by decide +kernel) rfl
theorem ml_For_131 : ax_LV "ClauseProver$Formulas" 131 y_For_writeClause b_For_writeClause 8 none 4 := ax_LV.mk (tb_in (i := 779) (by decide +kernel) rfl) (tb_in (i := 781) (by decide +kernel) rfl) (pv_in (i := 32) (by decide +kernel) rfl) ti_For tc_For_writeClause (by decide +kernel)
theorem tc_Dra_reduce : Cond.code y_Dra_reduce b_Dra_reduce 9 none ∈ lw_tbg := tb_in (i := 848) (by decide +kernel) rfl
theorem ml_For_141 : ax_LV "ClauseProver$Formulas" 141 y_Dra_reduce b_Dra_reduce 9 none 0 := ax_LV.mk (tb_in (i := 845) (by decide +kernel) rfl) (tb_in (i := 846) (by decide +kernel) rfl) (tb_in (i := 847) (by decide +kernel) rfl) ti_Dra tc_Dra_reduce (by decide +kernel)
theorem tc_Dra_isTautology : Cond.code y_Dra_isTautology b_Dra_isTautology 4 (some (.boolean)) ∈ lw_tbg := tb_in (i := 865) (by decide +kernel) rfl
theorem ml_For_144 : ax_LV "ClauseProver$Formulas" 144 y_Dra_isTautology b_Dra_isTautology 4 (some (.boolean)) 0 := ax_LV.mk (tb_in (i := 862) (by decide +kernel) rfl) (tb_in (i := 863) (by decide +kernel) rfl) (tb_in (i := 864) (by decide +kernel) rfl) ti_Dra tc_Dra_isTautology (by decide +kernel)
theorem tc_Sto_add : Cond.code y_Sto_add b_Sto_add 7 (some (.int)) ∈ lw_tbg := tb_in (i := 869) (by decide +kernel) rfl
theorem ml_For_148 : ax_LV "ClauseProver$Formulas" 148 y_Sto_add b_Sto_add 7 (some (.int)) 4 := ax_LV.mk (tb_in (i := 866) (by decide +kernel) rfl) (tb_in (i := 867) (by decide +kernel) rfl) (tb_in (i := 868) (by decide +kernel) rfl) ti_Sto tc_Sto_add (by decide +kernel)
theorem ml_For_153 : ax_LV "ClauseProver$Formulas" 153 y_Dra_clear b_Dra_clear 2 none 0 := ax_LV.mk (tb_in (i := 783) (by decide +kernel) rfl) (tb_in (i := 784) (by decide +kernel) rfl) (tb_in (i := 785) (by decide +kernel) rfl) ti_Dra tc_Dra_clear (by decide +kernel)
theorem tb_constant_791 : Cond.constant "ClauseProver$Formulas" 160 1000000 ∈ lw_tbg := tb_in (i := 791) (by decide +kernel) rfl
theorem tc_For_writePart : Cond.code y_For_writePart b_For_writePart 8 none ∈ lw_tbg := tb_in (i := 795) (by decide +kernel) rfl
theorem ml_For_161 : ax_LV "ClauseProver$Formulas" 161 y_For_writePart b_For_writePart 8 none 4 := ax_LV.mk (tb_in (i := 792) (by decide +kernel) rfl) (tb_in (i := 794) (by decide +kernel) rfl) (pv_in (i := 34) (by decide +kernel) rfl) ti_For tc_For_writePart (by decide +kernel)
theorem tc_For_equivalent : Cond.code y_For_equivalent b_For_equivalent 6 none ∈ lw_tbg := tb_in (i := 803) (by decide +kernel) rfl
theorem ml_For_168 : ax_LV "ClauseProver$Formulas" 168 y_For_equivalent b_For_equivalent 6 none 4 := ax_LV.mk (tb_in (i := 800) (by decide +kernel) rfl) (tb_in (i := 802) (by decide +kernel) rfl) (pv_in (i := 36) (by decide +kernel) rfl) ti_For tc_For_equivalent (by decide +kernel)
theorem tc_For_writeLiteral : Cond.code y_For_writeLiteral b_For_writeLiteral 5 none ∈ lw_tbg := tb_in (i := 807) (by decide +kernel) rfl
theorem ml_For_172 : ax_LV "ClauseProver$Formulas" 172 y_For_writeLiteral b_For_writeLiteral 5 none 4 := ax_LV.mk (tb_in (i := 804) (by decide +kernel) rfl) (tb_in (i := 806) (by decide +kernel) rfl) (pv_in (i := 37) (by decide +kernel) rfl) ti_For tc_For_writeLiteral (by decide +kernel)
theorem tc_Par_strength : Cond.code y_Par_strength b_Par_strength 1 (some (.int)) ∈ lw_tbg := tb_in (i := 714) (by decide +kernel) rfl
theorem ml_Par_166 : ax_LS "ClauseProver$Parser" 166 y_Par_strength b_Par_strength 1 (some (.int)) 1 := ax_LS.mk (tb_in (i := 712) (by decide +kernel) rfl) (tb_in (i := 713) (by decide +kernel) rfl) ti_Par tc_Par_strength (by decide +kernel)
theorem tc_Par_fold : Cond.code y_Par_fold b_Par_fold 3 none ∈ lw_tbg := tb_in (i := 718) (by decide +kernel) rfl
theorem ml_Par_169 : ax_LV "ClauseProver$Parser" 169 y_Par_fold b_Par_fold 3 none 1 := ax_LV.mk (tb_in (i := 715) (by decide +kernel) rfl) (tb_in (i := 717) (by decide +kernel) rfl) (pv_in (i := 20) (by decide +kernel) rfl) ti_Par tc_Par_fold (by decide +kernel)
theorem tc_Par_pop : Cond.code y_Par_pop b_Par_pop 1 none ∈ lw_tbg := tb_in (i := 730) (by decide +kernel) rfl
theorem ml_Par_178 : ax_LV "ClauseProver$Parser" 178 y_Par_pop b_Par_pop 1 none 0 := ax_LV.mk (tb_in (i := 727) (by decide +kernel) rfl) (tb_in (i := 729) (by decide +kernel) rfl) (pv_in (i := 23) (by decide +kernel) rfl) ti_Par tc_Par_pop (by decide +kernel)
theorem tc_Wds_advance : Cond.code y_Wds_advance b_Wds_advance 1 none ∈ lw_tbg := tb_in (i := 567) (by decide +kernel) rfl
theorem ml_Par_89 : ax_LV "ClauseProver$Parser" 89 y_Wds_advance b_Wds_advance 1 none 0 := ax_LV.mk (tb_in (i := 617) (by decide +kernel) rfl) (tb_in (i := 565) (by decide +kernel) rfl) (tb_in (i := 566) (by decide +kernel) rfl) ti_Wds tc_Wds_advance (by decide +kernel)
theorem tc_For_closeSentence : Cond.code y_For_closeSentence b_For_closeSentence 2 none ∈ lw_tbg := tb_in (i := 742) (by decide +kernel) rfl
theorem ml_Par_185 : ax_LV "ClauseProver$Parser" 185 y_For_closeSentence b_For_closeSentence 2 none 1 := ax_LV.mk (tb_in (i := 739) (by decide +kernel) rfl) (tb_in (i := 740) (by decide +kernel) rfl) (tb_in (i := 741) (by decide +kernel) rfl) ti_For tc_For_closeSentence (by decide +kernel)
theorem tc_Par_refuse : Cond.code y_Par_refuse b_Par_refuse 1 none ∈ lw_tbg := tb_in (i := 650) (by decide +kernel) rfl
theorem ml_Par_117 : ax_LV "ClauseProver$Parser" 117 y_Par_refuse b_Par_refuse 1 none 0 := ax_LV.mk (tb_in (i := 647) (by decide +kernel) rfl) (tb_in (i := 649) (by decide +kernel) rfl) (pv_in (i := 9) (by decide +kernel) rfl) ti_Par tc_Par_refuse (by decide +kernel)
theorem tb_constant_580 : Cond.constant "ClauseProver$Parser" 57 1000000 ∈ lw_tbg := tb_in (i := 580) (by decide +kernel) rfl
theorem tc_Par_foldTop : Cond.code y_Par_foldTop b_Par_foldTop 5 none ∈ lw_tbg := tb_in (i := 726) (by decide +kernel) rfl
theorem ml_Par_190 : ax_LV "ClauseProver$Parser" 190 y_Par_foldTop b_Par_foldTop 5 none 0 := ax_LV.mk (tb_in (i := 723) (by decide +kernel) rfl) (tb_in (i := 725) (by decide +kernel) rfl) (pv_in (i := 22) (by decide +kernel) rfl) ti_Par tc_Par_foldTop (by decide +kernel)
theorem tc_For_addNode : Cond.code y_For_addNode b_For_addNode 13 (some (.int)) ∈ lw_tbg := tb_in (i := 699) (by decide +kernel) rfl
theorem ml_Par_141 : ax_LV "ClauseProver$Parser" 141 y_For_addNode b_For_addNode 13 (some (.int)) 3 := ax_LV.mk (tb_in (i := 696) (by decide +kernel) rfl) (tb_in (i := 697) (by decide +kernel) rfl) (tb_in (i := 698) (by decide +kernel) rfl) ti_For tc_For_addNode (by decide +kernel)
theorem tc_Wds_isProve : Cond.code y_Wds_isProve b_Wds_isProve 1 (some (.boolean)) ∈ lw_tbg := tb_in (i := 588) (by decide +kernel) rfl
theorem ml_Par_74 : ax_LV "ClauseProver$Parser" 74 y_Wds_isProve b_Wds_isProve 1 (some (.boolean)) 0 := ax_LV.mk (tb_in (i := 585) (by decide +kernel) rfl) (tb_in (i := 586) (by decide +kernel) rfl) (tb_in (i := 587) (by decide +kernel) rfl) ti_Wds tc_Wds_isProve (by decide +kernel)
theorem tc_For_openSentence : Cond.code y_For_openSentence b_For_openSentence 3 none ∈ lw_tbg := tb_in (i := 596) (by decide +kernel) rfl
theorem ml_Par_80 : ax_LV "ClauseProver$Parser" 80 y_For_openSentence b_For_openSentence 3 none 2 := ax_LV.mk (tb_in (i := 593) (by decide +kernel) rfl) (tb_in (i := 594) (by decide +kernel) rfl) (tb_in (i := 595) (by decide +kernel) rfl) ti_For tc_For_openSentence (by decide +kernel)
theorem tc_For_clear : Cond.code y_For_clear b_For_clear 1 none ∈ lw_tbg := tb_in (i := 559) (by decide +kernel) rfl
theorem ml_Par_48 : ax_LV "ClauseProver$Parser" 48 y_For_clear b_For_clear 1 none 0 := ax_LV.mk (tb_in (i := 556) (by decide +kernel) rfl) (tb_in (i := 557) (by decide +kernel) rfl) (tb_in (i := 558) (by decide +kernel) rfl) ti_For tc_For_clear (by decide +kernel)
theorem tc_Wds_open : Cond.code y_Wds_open b_Wds_open 3 none ∈ lw_tbg := tb_in (i := 563) (by decide +kernel) rfl
theorem ml_Par_53 : ax_LV "ClauseProver$Parser" 53 y_Wds_open b_Wds_open 3 none 2 := ax_LV.mk (tb_in (i := 560) (by decide +kernel) rfl) (tb_in (i := 561) (by decide +kernel) rfl) (tb_in (i := 562) (by decide +kernel) rfl) ti_Wds tc_Wds_open (by decide +kernel)
theorem tc_Par_openSentence : Cond.code y_Par_openSentence b_Par_openSentence 2 none ∈ lw_tbg := tb_in (i := 584) (by decide +kernel) rfl
theorem ml_Par_61 : ax_LV "ClauseProver$Parser" 61 y_Par_openSentence b_Par_openSentence 2 none 0 := ax_LV.mk (tb_in (i := 581) (by decide +kernel) rfl) (tb_in (i := 583) (by decide +kernel) rfl) (pv_in (i := 3) (by decide +kernel) rfl) ti_Par tc_Par_openSentence (by decide +kernel)
theorem tc_Par_takePrefixes : Cond.code y_Par_takePrefixes b_Par_takePrefixes 3 none ∈ lw_tbg := tb_in (i := 621) (by decide +kernel) rfl
theorem ml_Par_64 : ax_LV "ClauseProver$Parser" 64 y_Par_takePrefixes b_Par_takePrefixes 3 none 0 := ax_LV.mk (tb_in (i := 618) (by decide +kernel) rfl) (tb_in (i := 620) (by decide +kernel) rfl) (pv_in (i := 4) (by decide +kernel) rfl) ti_Par tc_Par_takePrefixes (by decide +kernel)
theorem tc_Par_takeAtom : Cond.code y_Par_takeAtom b_Par_takeAtom 6 none ∈ lw_tbg := tb_in (i := 654) (by decide +kernel) rfl
theorem ml_Par_67 : ax_LV "ClauseProver$Parser" 67 y_Par_takeAtom b_Par_takeAtom 6 none 0 := ax_LV.mk (tb_in (i := 651) (by decide +kernel) rfl) (tb_in (i := 653) (by decide +kernel) rfl) (pv_in (i := 10) (by decide +kernel) rfl) ti_Par tc_Par_takeAtom (by decide +kernel)
theorem tc_Par_takeSign : Cond.code y_Par_takeSign b_Par_takeSign 3 (some (.boolean)) ∈ lw_tbg := tb_in (i := 707) (by decide +kernel) rfl
theorem ml_Par_70 : ax_LV "ClauseProver$Parser" 70 y_Par_takeSign b_Par_takeSign 3 (some (.boolean)) 0 := ax_LV.mk (tb_in (i := 704) (by decide +kernel) rfl) (tb_in (i := 706) (by decide +kernel) rfl) (pv_in (i := 18) (by decide +kernel) rfl) ti_Par tc_Par_takeSign (by decide +kernel)
theorem ml_Par_145 : ax_LV "ClauseProver$Parser" 145 y_Row_add b_Row_add 2 none 1 := ax_LV.mk (tb_in (i := 631) (by decide +kernel) rfl) (tb_in (i := 598) (by decide +kernel) rfl) (tb_in (i := 599) (by decide +kernel) rfl) ti_Row tc_Row_add (by decide +kernel)
theorem ml_Par_100 : ax_LV "ClauseProver$Parser" 100 y_Wds_isNow b_Wds_isNow 2 (some (.boolean)) 1 := ax_LV.mk (tb_in (i := 626) (by decide +kernel) rfl) (tb_in (i := 590) (by decide +kernel) rfl) (tb_in (i := 591) (by decide +kernel) rfl) ti_Wds tc_Wds_isNow (by decide +kernel)
theorem tc_Par_takeName : Cond.code y_Par_takeName b_Par_takeName 2 (some (.int)) ∈ lw_tbg := tb_in (i := 678) (by decide +kernel) rfl
theorem ml_Par_129 : ax_LV "ClauseProver$Parser" 129 y_Par_takeName b_Par_takeName 2 (some (.int)) 0 := ax_LV.mk (tb_in (i := 675) (by decide +kernel) rfl) (tb_in (i := 677) (by decide +kernel) rfl) (pv_in (i := 15) (by decide +kernel) rfl) ti_Par tc_Par_takeName (by decide +kernel)
theorem tc_Par_takeTerms : Cond.code y_Par_takeTerms b_Par_takeTerms 5 (some (.int)) ∈ lw_tbg := tb_in (i := 687) (by decide +kernel) rfl
theorem ml_Par_133 : ax_LV "ClauseProver$Parser" 133 y_Par_takeTerms b_Par_takeTerms 5 (some (.int)) 1 := ax_LV.mk (tb_in (i := 684) (by decide +kernel) rfl) (tb_in (i := 686) (by decide +kernel) rfl) (pv_in (i := 16) (by decide +kernel) rfl) ti_Par tc_Par_takeTerms (by decide +kernel)
theorem tc_Par_takeVariable : Cond.code y_Par_takeVariable b_Par_takeVariable 2 none ∈ lw_tbg := tb_in (i := 658) (by decide +kernel) rfl
theorem ml_Par_123 : ax_LV "ClauseProver$Parser" 123 y_Par_takeVariable b_Par_takeVariable 2 none 0 := ax_LV.mk (tb_in (i := 655) (by decide +kernel) rfl) (tb_in (i := 657) (by decide +kernel) rfl) (pv_in (i := 11) (by decide +kernel) rfl) ti_Par tc_Par_takeVariable (by decide +kernel)
theorem tc_Par_takeEquation : Cond.code y_Par_takeEquation b_Par_takeEquation 4 none ∈ lw_tbg := tb_in (i := 670) (by decide +kernel) rfl
theorem ml_Par_126 : ax_LV "ClauseProver$Parser" 126 y_Par_takeEquation b_Par_takeEquation 4 none 1 := ax_LV.mk (tb_in (i := 667) (by decide +kernel) rfl) (tb_in (i := 669) (by decide +kernel) rfl) (pv_in (i := 13) (by decide +kernel) rfl) ti_Par tc_Par_takeEquation (by decide +kernel)
theorem tc_Par_settle : Cond.code y_Par_settle b_Par_settle 5 none ∈ lw_tbg := tb_in (i := 691) (by decide +kernel) rfl
theorem ml_Par_137 : ax_LV "ClauseProver$Parser" 137 y_Par_settle b_Par_settle 5 none 4 := ax_LV.mk (tb_in (i := 688) (by decide +kernel) rfl) (tb_in (i := 690) (by decide +kernel) rfl) (pv_in (i := 17) (by decide +kernel) rfl) ti_Par tc_Par_settle (by decide +kernel)
theorem tc_For_bind : Cond.code y_For_bind b_For_bind 3 (some (.int)) ∈ lw_tbg := tb_in (i := 642) (by decide +kernel) rfl
theorem ml_Par_113 : ax_LV "ClauseProver$Parser" 113 y_For_bind b_For_bind 3 (some (.int)) 1 := ax_LV.mk (tb_in (i := 639) (by decide +kernel) rfl) (tb_in (i := 640) (by decide +kernel) rfl) (tb_in (i := 641) (by decide +kernel) rfl) ti_For tc_For_bind (by decide +kernel)
theorem tc_Par_push : Cond.code y_Par_push b_Par_push 3 none ∈ lw_tbg := tb_in (i := 630) (by decide +kernel) rfl
theorem ml_Par_104 : ax_LV "ClauseProver$Parser" 104 y_Par_push b_Par_push 3 none 2 := ax_LV.mk (tb_in (i := 627) (by decide +kernel) rfl) (tb_in (i := 629) (by decide +kernel) rfl) (pv_in (i := 6) (by decide +kernel) rfl) ti_Par tc_Par_push (by decide +kernel)
theorem tc_Par_takeTerm : Cond.code y_Par_takeTerm b_Par_takeTerm 5 none ∈ lw_tbg := tb_in (i := 674) (by decide +kernel) rfl
theorem ml_Par_148 : ax_LV "ClauseProver$Parser" 148 y_Par_takeTerm b_Par_takeTerm 5 none 1 := ax_LV.mk (tb_in (i := 671) (by decide +kernel) rfl) (tb_in (i := 673) (by decide +kernel) rfl) (pv_in (i := 14) (by decide +kernel) rfl) ti_Par tc_Par_takeTerm (by decide +kernel)
theorem tc_Sym_numberOf : Cond.code y_Sym_numberOf b_Sym_numberOf 4 (some (.int)) ∈ lw_tbg := tb_in (i := 682) (by decide +kernel) rfl
theorem ml_Par_151 : ax_LV "ClauseProver$Parser" 151 y_Sym_numberOf b_Sym_numberOf 4 (some (.int)) 1 := ax_LV.mk (tb_in (i := 679) (by decide +kernel) rfl) (tb_in (i := 680) (by decide +kernel) rfl) (tb_in (i := 681) (by decide +kernel) rfl) ti_Sym tc_Sym_numberOf (by decide +kernel)
theorem tc_Par_takeBound : Cond.code y_Par_takeBound b_Par_takeBound 4 none ∈ lw_tbg := tb_in (i := 638) (by decide +kernel) rfl
theorem ml_Par_107 : ax_LV "ClauseProver$Parser" 107 y_Par_takeBound b_Par_takeBound 4 none 0 := ax_LV.mk (tb_in (i := 635) (by decide +kernel) rfl) (tb_in (i := 637) (by decide +kernel) rfl) (pv_in (i := 7) (by decide +kernel) rfl) ti_Par tc_Par_takeBound (by decide +kernel)
theorem tc_Par_closeBracket : Cond.code y_Par_closeBracket b_Par_closeBracket 1 (some (.boolean)) ∈ lw_tbg := tb_in (i := 711) (by decide +kernel) rfl
theorem ml_Par_163 : ax_LV "ClauseProver$Parser" 163 y_Par_closeBracket b_Par_closeBracket 1 (some (.boolean)) 0 := ax_LV.mk (tb_in (i := 708) (by decide +kernel) rfl) (tb_in (i := 710) (by decide +kernel) rfl) (pv_in (i := 19) (by decide +kernel) rfl) ti_Par tc_Par_closeBracket (by decide +kernel)
theorem tc_Par_closeSentence : Cond.code y_Par_closeSentence b_Par_closeSentence 1 none ∈ lw_tbg := tb_in (i := 738) (by decide +kernel) rfl
theorem ml_Par_175 : ax_LV "ClauseProver$Parser" 175 y_Par_closeSentence b_Par_closeSentence 1 none 0 := ax_LV.mk (tb_in (i := 735) (by decide +kernel) rfl) (tb_in (i := 737) (by decide +kernel) rfl) (pv_in (i := 25) (by decide +kernel) rfl) ti_Par tc_Par_closeSentence (by decide +kernel)
theorem tc_Par_mayBeEquivalent : Cond.code y_Par_mayBeEquivalent b_Par_mayBeEquivalent 2 (some (.boolean)) ∈ lw_tbg := tb_in (i := 734) (by decide +kernel) rfl
theorem ml_Par_172 : ax_LV "ClauseProver$Parser" 172 y_Par_mayBeEquivalent b_Par_mayBeEquivalent 2 (some (.boolean)) 0 := ax_LV.mk (tb_in (i := 731) (by decide +kernel) rfl) (tb_in (i := 733) (by decide +kernel) rfl) (pv_in (i := 24) (by decide +kernel) rfl) ti_Par tc_Par_mayBeEquivalent (by decide +kernel)
theorem tc_For_variableOf : Cond.code y_For_variableOf b_For_variableOf 5 (some (.int)) ∈ lw_tbg := tb_in (i := 662) (by decide +kernel) rfl
theorem ml_Par_156 : ax_LV "ClauseProver$Parser" 156 y_For_variableOf b_For_variableOf 5 (some (.int)) 1 := ax_LV.mk (tb_in (i := 659) (by decide +kernel) rfl) (tb_in (i := 660) (by decide +kernel) rfl) (tb_in (i := 661) (by decide +kernel) rfl) ti_For tc_For_variableOf (by decide +kernel)
theorem tc_Sto_headOf : Cond.code y_Sto_headOf b_Sto_headOf 5 (some (.int)) ∈ lw_tbg := tb_in (i := 1188) (by decide +kernel) rfl
theorem ml_Sat_187 : ax_LV "ClauseProver$Saturation" 187 y_Sto_headOf b_Sto_headOf 5 (some (.int)) 2 := ax_LV.mk (tb_in (i := 1185) (by decide +kernel) rfl) (tb_in (i := 1186) (by decide +kernel) rfl) (tb_in (i := 1187) (by decide +kernel) rfl) ti_Sto tc_Sto_headOf (by decide +kernel)
theorem tc_Sto_isEligible : Cond.code y_Sto_isEligible b_Sto_isEligible 2 (some (.boolean)) ∈ lw_tbg := tb_in (i := 1192) (by decide +kernel) rfl
theorem ml_Sat_190 : ax_LV "ClauseProver$Saturation" 190 y_Sto_isEligible b_Sto_isEligible 2 (some (.boolean)) 1 := ax_LV.mk (tb_in (i := 1189) (by decide +kernel) rfl) (tb_in (i := 1190) (by decide +kernel) rfl) (tb_in (i := 1191) (by decide +kernel) rfl) ti_Sto tc_Sto_isEligible (by decide +kernel)
theorem tc_Sat_factorTwo : Cond.code y_Sat_factorTwo b_Sat_factorTwo 8 none ∈ lw_tbg := tb_in (i := 1272) (by decide +kernel) rfl
theorem ml_Sat_256 : ax_LV "ClauseProver$Saturation" 256 y_Sat_factorTwo b_Sat_factorTwo 8 none 3 := ax_LV.mk (tb_in (i := 1269) (by decide +kernel) rfl) (tb_in (i := 1271) (by decide +kernel) rfl) (pv_in (i := 78) (by decide +kernel) rfl) ti_Sat tc_Sat_factorTwo (by decide +kernel)
theorem tc_Sto_isUsable : Cond.code y_Sto_isUsable b_Sto_isUsable 4 (some (.boolean)) ∈ lw_tbg := tb_in (i := 1196) (by decide +kernel) rfl
theorem ml_Sat_193 : ax_LV "ClauseProver$Saturation" 193 y_Sto_isUsable b_Sto_isUsable 4 (some (.boolean)) 2 := ax_LV.mk (tb_in (i := 1193) (by decide +kernel) rfl) (tb_in (i := 1194) (by decide +kernel) rfl) (tb_in (i := 1195) (by decide +kernel) rfl) ti_Sto tc_Sto_isUsable (by decide +kernel)
theorem tc_Uni_clear : Cond.code y_Uni_clear b_Uni_clear 4 none ∈ lw_tbg := tb_in (i := 1206) (by decide +kernel) rfl
theorem ml_Sat_206 : ax_LV "ClauseProver$Saturation" 206 y_Uni_clear b_Uni_clear 4 none 2 := ax_LV.mk (tb_in (i := 1203) (by decide +kernel) rfl) (tb_in (i := 1204) (by decide +kernel) rfl) (tb_in (i := 1205) (by decide +kernel) rfl) ti_Uni tc_Uni_clear (by decide +kernel)
theorem tc_Uni_unite : Cond.code y_Uni_unite b_Uni_unite 11 (some (.boolean)) ∈ lw_tbg := tb_in (i := 1210) (by decide +kernel) rfl
theorem ml_Sat_209 : ax_LVN "ClauseProver$Saturation" 209 "ClauseProver" y_Uni_unite b_Uni_unite 11 (some (.boolean)) 5 := ax_LVN.mk (fun U h => h.1.2.1) (tb_in (i := 1209) (by decide +kernel) rfl) (pv_in (i := 67) (by decide +kernel) rfl) ti_Uni tc_Uni_unite (by decide +kernel)
theorem ml_Sat_213 : ax_LV "ClauseProver$Saturation" 213 y_Dra_clear b_Dra_clear 2 none 0 := ax_LV.mk (tb_in (i := 1235) (by decide +kernel) rfl) (tb_in (i := 784) (by decide +kernel) rfl) (tb_in (i := 785) (by decide +kernel) rfl) ti_Dra tc_Dra_clear (by decide +kernel)
theorem tc_Sat_writeOthers : Cond.code y_Sat_writeOthers b_Sat_writeOthers 8 none ∈ lw_tbg := tb_in (i := 1239) (by decide +kernel) rfl
theorem ml_Sat_215 : ax_LV "ClauseProver$Saturation" 215 y_Sat_writeOthers b_Sat_writeOthers 8 none 4 := ax_LV.mk (tb_in (i := 1236) (by decide +kernel) rfl) (tb_in (i := 1238) (by decide +kernel) rfl) (pv_in (i := 72) (by decide +kernel) rfl) ti_Sat tc_Sat_writeOthers (by decide +kernel)
theorem tc_Sat_writePair : Cond.code y_Sat_writePair b_Sat_writePair 8 none ∈ lw_tbg := tb_in (i := 1276) (by decide +kernel) rfl
theorem ml_Sat_259 : ax_LV "ClauseProver$Saturation" 259 y_Sat_writePair b_Sat_writePair 8 none 5 := ax_LV.mk (tb_in (i := 1273) (by decide +kernel) rfl) (tb_in (i := 1275) (by decide +kernel) rfl) (pv_in (i := 79) (by decide +kernel) rfl) ti_Sat tc_Sat_writePair (by decide +kernel)
theorem tc_Sat_keep : Cond.code y_Sat_keep b_Sat_keep 4 none ∈ lw_tbg := tb_in (i := 1263) (by decide +kernel) rfl
theorem ml_Sat_222 : ax_LV "ClauseProver$Saturation" 222 y_Sat_keep b_Sat_keep 4 none 3 := ax_LV.mk (tb_in (i := 1260) (by decide +kernel) rfl) (tb_in (i := 1262) (by decide +kernel) rfl) (pv_in (i := 76) (by decide +kernel) rfl) ti_Sat tc_Sat_keep (by decide +kernel)
theorem tc_Sat_superpose : Cond.code y_Sat_superpose b_Sat_superpose 10 none ∈ lw_tbg := tb_in (i := 1184) (by decide +kernel) rfl
theorem ml_Sat_175 : ax_LV "ClauseProver$Saturation" 175 y_Sat_superpose b_Sat_superpose 10 none 2 := ax_LV.mk (tb_in (i := 1181) (by decide +kernel) rfl) (tb_in (i := 1183) (by decide +kernel) rfl) (pv_in (i := 65) (by decide +kernel) rfl) ti_Sat tc_Sat_superpose (by decide +kernel)
theorem ml_Sat_178 : ax_LV "ClauseProver$Saturation" 178 y_Sto_selectedOf b_Sto_selectedOf 7 (some (.int)) 1 := ax_LV.mk (tb_in (i := 1264) (by decide +kernel) rfl) (tb_in (i := 1161) (by decide +kernel) rfl) (tb_in (i := 1162) (by decide +kernel) rfl) ti_Sto tc_Sto_selectedOf (by decide +kernel)
theorem tc_Sat_resolve : Cond.code y_Sat_resolve b_Sat_resolve 4 none ∈ lw_tbg := tb_in (i := 1280) (by decide +kernel) rfl
theorem ml_Sat_184 : ax_LV "ClauseProver$Saturation" 184 y_Sat_resolve b_Sat_resolve 4 none 2 := ax_LV.mk (tb_in (i := 1277) (by decide +kernel) rfl) (tb_in (i := 1279) (by decide +kernel) rfl) (pv_in (i := 80) (by decide +kernel) rfl) ti_Sat tc_Sat_resolve (by decide +kernel)
theorem tc_Sat_factor : Cond.code y_Sat_factor b_Sat_factor 6 none ∈ lw_tbg := tb_in (i := 1268) (by decide +kernel) rfl
theorem ml_Sat_181 : ax_LV "ClauseProver$Saturation" 181 y_Sat_factor b_Sat_factor 6 none 1 := ax_LV.mk (tb_in (i := 1265) (by decide +kernel) rfl) (tb_in (i := 1267) (by decide +kernel) rfl) (pv_in (i := 77) (by decide +kernel) rfl) ti_Sat tc_Sat_factor (by decide +kernel)
theorem ml_Sat_136 : ax_LV "ClauseProver$Saturation" 136 y_Dra_reduce b_Dra_reduce 9 none 0 := ax_LV.mk (tb_in (i := 1115) (by decide +kernel) rfl) (tb_in (i := 846) (by decide +kernel) rfl) (tb_in (i := 847) (by decide +kernel) rfl) ti_Dra tc_Dra_reduce (by decide +kernel)
theorem ml_Sat_155 : ax_LV "ClauseProver$Saturation" 155 y_Dra_isTautology b_Dra_isTautology 4 (some (.boolean)) 0 := ax_LV.mk (tb_in (i := 1120) (by decide +kernel) rfl) (tb_in (i := 863) (by decide +kernel) rfl) (tb_in (i := 864) (by decide +kernel) rfl) ti_Dra tc_Dra_isTautology (by decide +kernel)
theorem ml_Sat_159 : ax_LV "ClauseProver$Saturation" 159 y_Sto_add b_Sto_add 7 (some (.int)) 4 := ax_LV.mk (tb_in (i := 1121) (by decide +kernel) rfl) (tb_in (i := 867) (by decide +kernel) rfl) (tb_in (i := 868) (by decide +kernel) rfl) ti_Sto tc_Sto_add (by decide +kernel)
theorem ml_Sat_148 : ax_LV "ClauseProver$Saturation" 148 y_Row_add b_Row_add 2 none 1 := ax_LV.mk (tb_in (i := 1041) (by decide +kernel) rfl) (tb_in (i := 598) (by decide +kernel) rfl) (tb_in (i := 599) (by decide +kernel) rfl) ti_Row tc_Row_add (by decide +kernel)
theorem tc_Sat_markProof : Cond.code y_Sat_markProof b_Sat_markProof 2 none ∈ lw_tbg := tb_in (i := 1129) (by decide +kernel) rfl
theorem ml_Sat_162 : ax_LV "ClauseProver$Saturation" 162 y_Sat_markProof b_Sat_markProof 2 none 1 := ax_LV.mk (tb_in (i := 1126) (by decide +kernel) rfl) (tb_in (i := 1128) (by decide +kernel) rfl) (pv_in (i := 59) (by decide +kernel) rfl) ti_Sat tc_Sat_markProof (by decide +kernel)
theorem tc_Sat_listSingles : Cond.code y_Sat_listSingles b_Sat_listSingles 2 none ∈ lw_tbg := tb_in (i := 1028) (by decide +kernel) rfl
theorem ml_Sat_116 : ax_LV "ClauseProver$Saturation" 116 y_Sat_listSingles b_Sat_listSingles 2 none 0 := ax_LV.mk (tb_in (i := 1025) (by decide +kernel) rfl) (tb_in (i := 1027) (by decide +kernel) rfl) (pv_in (i := 48) (by decide +kernel) rfl) ti_Sat tc_Sat_listSingles (by decide +kernel)
theorem tc_Dra_load : Cond.code y_Dra_load b_Dra_load 7 none ∈ lw_tbg := tb_in (i := 1045) (by decide +kernel) rfl
theorem ml_Sat_119 : ax_LV "ClauseProver$Saturation" 119 y_Dra_load b_Dra_load 7 none 2 := ax_LV.mk (tb_in (i := 1042) (by decide +kernel) rfl) (tb_in (i := 1043) (by decide +kernel) rfl) (tb_in (i := 1044) (by decide +kernel) rfl) ti_Dra tc_Dra_load (by decide +kernel)
theorem tc_Mat_rewriteFirst : Cond.code y_Mat_rewriteFirst b_Mat_rewriteFirst 6 (some (.int)) ∈ lw_tbg := tb_in (i := 1063) (by decide +kernel) rfl
theorem ml_Sat_128 : ax_LV "ClauseProver$Saturation" 128 y_Mat_rewriteFirst b_Mat_rewriteFirst 6 (some (.int)) 2 := ax_LV.mk (tb_in (i := 1060) (by decide +kernel) rfl) (tb_in (i := 1061) (by decide +kernel) rfl) (tb_in (i := 1062) (by decide +kernel) rfl) ti_Mat tc_Mat_rewriteFirst (by decide +kernel)
theorem tc_Sat_noteRewriter : Cond.code y_Sat_noteRewriter b_Sat_noteRewriter 4 none ∈ lw_tbg := tb_in (i := 1114) (by decide +kernel) rfl
theorem ml_Sat_132 : ax_LV "ClauseProver$Saturation" 132 y_Sat_noteRewriter b_Sat_noteRewriter 4 none 2 := ax_LV.mk (tb_in (i := 1111) (by decide +kernel) rfl) (tb_in (i := 1113) (by decide +kernel) rfl) (pv_in (i := 56) (by decide +kernel) rfl) ti_Sat tc_Sat_noteRewriter (by decide +kernel)
theorem tc_Sat_keepRewritten : Cond.code y_Sat_keepRewritten b_Sat_keepRewritten 4 (some (.int)) ∈ lw_tbg := tb_in (i := 1119) (by decide +kernel) rfl
theorem ml_Sat_139 : ax_LV "ClauseProver$Saturation" 139 y_Sat_keepRewritten b_Sat_keepRewritten 4 (some (.int)) 2 := ax_LV.mk (tb_in (i := 1116) (by decide +kernel) rfl) (tb_in (i := 1118) (by decide +kernel) rfl) (pv_in (i := 57) (by decide +kernel) rfl) ti_Sat tc_Sat_keepRewritten (by decide +kernel)
theorem tc_Sat_superposeInto : Cond.code y_Sat_superposeInto b_Sat_superposeInto 13 none ∈ lw_tbg := tb_in (i := 1200) (by decide +kernel) rfl
theorem ml_Sat_196 : ax_LV "ClauseProver$Saturation" 196 y_Sat_superposeInto b_Sat_superposeInto 13 none 6 := ax_LV.mk (tb_in (i := 1197) (by decide +kernel) rfl) (tb_in (i := 1199) (by decide +kernel) rfl) (pv_in (i := 66) (by decide +kernel) rfl) ti_Sat tc_Sat_superposeInto (by decide +kernel)
theorem tc_Sat_writeReplaced : Cond.code y_Sat_writeReplaced b_Sat_writeReplaced 8 none ∈ lw_tbg := tb_in (i := 1254) (by decide +kernel) rfl
theorem ml_Sat_219 : ax_LV "ClauseProver$Saturation" 219 y_Sat_writeReplaced b_Sat_writeReplaced 8 none 4 := ax_LV.mk (tb_in (i := 1251) (by decide +kernel) rfl) (tb_in (i := 1253) (by decide +kernel) rfl) (pv_in (i := 74) (by decide +kernel) rfl) ti_Sat tc_Sat_writeReplaced (by decide +kernel)
theorem tc_Sat_choose : Cond.code y_Sat_choose b_Sat_choose 4 (some (.int)) ∈ lw_tbg := tb_in (i := 1015) (by decide +kernel) rfl
theorem ml_Sat_83 : ax_LV "ClauseProver$Saturation" 83 y_Sat_choose b_Sat_choose 4 (some (.int)) 0 := ax_LV.mk (tb_in (i := 1012) (by decide +kernel) rfl) (tb_in (i := 1014) (by decide +kernel) rfl) (pv_in (i := 46) (by decide +kernel) rfl) ti_Sat tc_Sat_choose (by decide +kernel)
theorem tc_Sat_rewrite : Cond.code y_Sat_rewrite b_Sat_rewrite 5 (some (.int)) ∈ lw_tbg := tb_in (i := 1024) (by decide +kernel) rfl
theorem ml_Sat_95 : ax_LV "ClauseProver$Saturation" 95 y_Sat_rewrite b_Sat_rewrite 5 (some (.int)) 1 := ax_LV.mk (tb_in (i := 1021) (by decide +kernel) rfl) (tb_in (i := 1023) (by decide +kernel) rfl) (pv_in (i := 47) (by decide +kernel) rfl) ti_Sat tc_Sat_rewrite (by decide +kernel)
theorem tc_Sat_isSubsumed : Cond.code y_Sat_isSubsumed b_Sat_isSubsumed 3 (some (.boolean)) ∈ lw_tbg := tb_in (i := 1137) (by decide +kernel) rfl
theorem ml_Sat_102 : ax_LV "ClauseProver$Saturation" 102 y_Sat_isSubsumed b_Sat_isSubsumed 3 (some (.boolean)) 1 := ax_LV.mk (tb_in (i := 1134) (by decide +kernel) rfl) (tb_in (i := 1136) (by decide +kernel) rfl) (pv_in (i := 60) (by decide +kernel) rfl) ti_Sat tc_Sat_isSubsumed (by decide +kernel)
theorem tc_Sat_clearAway : Cond.code y_Sat_clearAway b_Sat_clearAway 4 none ∈ lw_tbg := tb_in (i := 1151) (by decide +kernel) rfl
theorem ml_Sat_106 : ax_LV "ClauseProver$Saturation" 106 y_Sat_clearAway b_Sat_clearAway 4 none 1 := ax_LV.mk (tb_in (i := 1148) (by decide +kernel) rfl) (tb_in (i := 1150) (by decide +kernel) rfl) (pv_in (i := 62) (by decide +kernel) rfl) ti_Sat tc_Sat_clearAway (by decide +kernel)
theorem tc_Sto_judge : Cond.code y_Sto_judge b_Sto_judge 8 none ∈ lw_tbg := tb_in (i := 1159) (by decide +kernel) rfl
theorem ml_Sat_109 : ax_LV "ClauseProver$Saturation" 109 y_Sto_judge b_Sto_judge 8 none 1 := ax_LV.mk (tb_in (i := 1156) (by decide +kernel) rfl) (tb_in (i := 1157) (by decide +kernel) rfl) (tb_in (i := 1158) (by decide +kernel) rfl) ti_Sto tc_Sto_judge (by decide +kernel)
theorem tc_Sat_refute : Cond.code y_Sat_refute b_Sat_refute 4 none ∈ lw_tbg := tb_in (i := 1125) (by decide +kernel) rfl
theorem ml_Sat_99 : ax_LV "ClauseProver$Saturation" 99 y_Sat_refute b_Sat_refute 4 none 1 := ax_LV.mk (tb_in (i := 1122) (by decide +kernel) rfl) (tb_in (i := 1124) (by decide +kernel) rfl) (pv_in (i := 58) (by decide +kernel) rfl) ti_Sat tc_Sat_refute (by decide +kernel)
theorem ml_Sto_46 : ax_LV "ClauseProver$Store" 46 y_Row_add b_Row_add 2 none 1 := ax_LV.mk (tb_in (i := 870) (by decide +kernel) rfl) (tb_in (i := 598) (by decide +kernel) rfl) (tb_in (i := 599) (by decide +kernel) rfl) ti_Row tc_Row_add (by decide +kernel)
theorem ml_Sym_56 : ax_LV "ClauseProver$Symbols" 56 y_Row_add b_Row_add 2 none 1 := ax_LV.mk (tb_in (i := 683) (by decide +kernel) rfl) (tb_in (i := 598) (by decide +kernel) rfl) (tb_in (i := 599) (by decide +kernel) rfl) ti_Row tc_Row_add (by decide +kernel)
theorem tc_Uni_occurs : Cond.code y_Uni_occurs b_Uni_occurs 12 (some (.boolean)) ∈ lw_tbg := tb_in (i := 1223) (by decide +kernel) rfl
theorem ml_Uni_84 : ax_LV "ClauseProver$Unifier" 84 y_Uni_occurs b_Uni_occurs 12 (some (.boolean)) 3 := ax_LV.mk (tb_in (i := 1220) (by decide +kernel) rfl) (tb_in (i := 1222) (by decide +kernel) rfl) (pv_in (i := 70) (by decide +kernel) rfl) ti_Uni tc_Uni_occurs (by decide +kernel)
theorem ml_Uni_90 : ax_LV "ClauseProver$Unifier" 90 y_Uni_unite b_Uni_unite 11 (some (.boolean)) 5 := ax_LV.mk (tb_in (i := 1229) (by decide +kernel) rfl) (tb_in (i := 1209) (by decide +kernel) rfl) (pv_in (i := 67) (by decide +kernel) rfl) ti_Uni tc_Uni_unite (by decide +kernel)
theorem ml_Uni_80 : ax_LV "ClauseProver$Unifier" 80 y_Sym_isPredicate b_Sym_isPredicate 2 (some (.boolean)) 1 := ax_LV.mk (tb_in (i := 1219) (by decide +kernel) rfl) (tb_in (i := 1079) (by decide +kernel) rfl) (tb_in (i := 1080) (by decide +kernel) rfl) ti_Sym tc_Sym_isPredicate (by decide +kernel)
theorem ml_Uni_87 : ax_LV "ClauseProver$Unifier" 87 y_Row_add b_Row_add 2 none 1 := ax_LV.mk (tb_in (i := 1228) (by decide +kernel) rfl) (tb_in (i := 598) (by decide +kernel) rfl) (tb_in (i := 599) (by decide +kernel) rfl) ti_Row tc_Row_add (by decide +kernel)
theorem tc_Uni_uniteVariable : Cond.code y_Uni_uniteVariable b_Uni_uniteVariable 8 (some (.boolean)) ∈ lw_tbg := tb_in (i := 1214) (by decide +kernel) rfl
theorem ml_Uni_59 : ax_LV "ClauseProver$Unifier" 59 y_Uni_uniteVariable b_Uni_uniteVariable 8 (some (.boolean)) 5 := ax_LV.mk (tb_in (i := 1211) (by decide +kernel) rfl) (tb_in (i := 1213) (by decide +kernel) rfl) (pv_in (i := 68) (by decide +kernel) rfl) ti_Uni tc_Uni_uniteVariable (by decide +kernel)
theorem tc_Uni_join : Cond.code y_Uni_join b_Uni_join 7 (some (.boolean)) ∈ lw_tbg := tb_in (i := 1233) (by decide +kernel) rfl
theorem ml_Uni_76 : ax_LV "ClauseProver$Unifier" 76 y_Uni_join b_Uni_join 7 (some (.boolean)) 3 := ax_LV.mk (tb_in (i := 1230) (by decide +kernel) rfl) (tb_in (i := 1232) (by decide +kernel) rfl) (pv_in (i := 71) (by decide +kernel) rfl) ti_Uni tc_Uni_join (by decide +kernel)
theorem tc_Uni_meet : Cond.code y_Uni_meet b_Uni_meet 7 (some (.boolean)) ∈ lw_tbg := tb_in (i := 1218) (by decide +kernel) rfl
theorem ml_Uni_72 : ax_LV "ClauseProver$Unifier" 72 y_Uni_meet b_Uni_meet 7 (some (.boolean)) 4 := ax_LV.mk (tb_in (i := 1215) (by decide +kernel) rfl) (tb_in (i := 1217) (by decide +kernel) rfl) (pv_in (i := 69) (by decide +kernel) rfl) ti_Uni tc_Uni_meet (by decide +kernel)
theorem ml_Wds_25 : ax_LV "ClauseProver$Words" 25 y_Wds_advance b_Wds_advance 1 none 0 := ax_LV.mk (tb_in (i := 564) (by decide +kernel) rfl) (tb_in (i := 565) (by decide +kernel) rfl) (tb_in (i := 566) (by decide +kernel) rfl) ti_Wds tc_Wds_advance (by decide +kernel)
/-! rows that grow: lengths 3001 and 3002 count the cells and the slots that were made -/
def rAdd (σ : mS) (r a : Nat) (x : Int32) : mS := if σ.1 r = Int32.ofNat (σ.2.2 a) then (va_up σ.1 r (σ.1 r + 1), va_up σ.2.1 a (upd (va_cpy (σ.2.1 a) (fun _ => 0) 0 0 (σ.2.2 a)) (σ.2.2 a) x), va_up (va_up (va_up σ.2.2 a (2 * σ.2.2 a + 1)) 3001 (σ.2.2 3001 + 1)) 3002 (σ.2.2 3002 + (2 * σ.2.2 a + 1))) else (va_up σ.1 r (σ.1 r + 1), va_up σ.2.1 a (upd (σ.2.1 a) (σ.1 r).toNatClampNeg x), σ.2.2)
def rok (σ : mS) (r a : Nat) : Bool := decide (σ.2.2 a ≤ 30000000) && (decide (σ.1 r = Int32.ofNat (σ.2.2 a)) || bin (σ.1 r) (σ.2.2 a))
def gle (σ τ : mS) : Prop := σ.2.2 3001 ≤ τ.2.2 3001 ∧ σ.2.2 3002 ≤ τ.2.2 3002 ∧ σ.2.2 3000 = τ.2.2 3000
theorem gle.trans {σ τ ρ : mS} (h : gle σ τ) (g : gle τ ρ) : gle σ ρ := ⟨Nat.le_trans h.1 g.1, Nat.le_trans h.2.1 g.2.1, h.2.2.trans g.2.2⟩
theorem rAdd_le (σ : mS) (r a : Nat) (x : Int32) (h0 : a ≠ 3000 := by decide) : gle σ (rAdd σ r a x) := by
  unfold rAdd gle
  split
  · refine ⟨?_, ?_, ?_⟩
    · simp [va_up]
    · simp [va_up]
    · simp [va_up, Ne.symm h0]
  · exact ⟨Nat.le_refl _, Nat.le_refl _, rfl⟩
def gm (σ : mS) (o : Option mR) : Prop := ∀ res, o = some res → gle σ res.1
def GM (rec : mF) : Prop := ∀ t σ xs res, t < 576 → rec t σ xs = some res → gle σ res.1
theorem gm_none {σ : mS} : gm σ none := fun res h => by cases h
theorem gm_some {σ : mS} {v : Int32} {d : Nat} : gm σ (some (σ, v, d)) := fun res h => by cases h; exact ⟨Nat.le_refl _, Nat.le_refl _, rfl⟩
theorem gm_if {σ : mS} {c : Prop} {i : Decidable c} {A B : Option mR} (hA : gm σ A) (hB : gm σ B) : gm σ (if c then A else B) := by
  by_cases h : c
  · rw [if_pos h]; exact hA
  · rw [if_neg h]; exact hB
theorem gm_lt {σ τ : mS} {f : mS → Option mR} (h : gle σ τ) (g : gm τ (f τ)) : gm σ (lt_ τ f) := fun res e => h.trans (g res e)
theorem gm_tail {σ : mS} {rec : mF} {t : Nat} {xs : List Int32} (h : GM rec) (ht : t < 576) : gm σ (rec t σ xs) := fun res e => h t σ xs res ht e
theorem gm_bnd {σ : mS} {rec : mF} {t : Nat} {xs : List Int32} {k : mS → Int32 → Option mR} (h : GM rec) (ht : t < 576) (g : ∀ σ1 r1, gm σ1 (k σ1 r1)) : gm σ (bnd (rec t σ xs) k) := fun res e => by
  obtain ⟨σf, rf, d⟩ := res
  obtain ⟨σ1, r1, d1, d2, h1, h2, _, _⟩ := it_b e
  exact gle.trans (h _ _ _ _ ht h1) (g σ1 r1 (σf, rf, d2) h2)
theorem gm_use {σ : mS} {o : Option mR} {σf : mS} {rf : Int32} {d : Nat} (e : o = some (σf, rf, d)) (h : gm σ o) : gle σ σf := h _ e
theorem el_sub {A B : List Nat} (h : A.all (fun i => B.elem i) = true) {i : Nat} : B.elem i = false → A.elem i = false := fun hb => by
  cases ha : A.elem i with
  | false => rfl
  | true =>
    have := List.all_eq_true.mp h i (List.elem_iff.mp ha)
    rw [this] at hb; cases hb
theorem up_el {w : Nat → Nat} {a x i : Nat} (h : ([a] : List Nat).elem i = false) : va_up w a x i = w i := by
  have h9 : i ≠ a := fun z => by subst z; simp at h
  simp [va_up, h9]
theorem rg_rm2 {α : Type} (L : List α) (q n : Nat) (hn : L.length = n) (hq : q + 2 ≤ n) : (List.range q ++ (List.range (n - (q + 2))).map (q + 2 + ·)).map (fun i => L[i]?) = (L.take q ++ L.drop (q + 2)).map some := by
  subst hn
  rw [List.map_append, List.map_append, rg_take L q (by omega), List.map_map, ← rg_drop L (q + 2)]
  rfl
theorem rg_put2 {α : Type} (L : List α) (q n : Nat) (c d : α) (hn : L.length = n) (hq : q + 2 ≤ n) : (List.range q ++ (n - 2) :: (n - 1) :: (List.range (n - (q + 2))).map (q + ·)).map (fun i => ((L.take q ++ L.drop (q + 2)) ++ [c, d])[i]?) = ((L.set q c).set (q + 1) d).map some := by
  subst hn
  have hl : (L.take q ++ L.drop (q + 2)).length = L.length - 2 := by simp; omega
  apply List.ext_getElem?
  intro i
  rw [List.getElem?_map, List.getElem?_map]
  by_cases h1 : i < q
  · rw [List.getElem?_append_left (by simpa using h1), List.getElem?_range h1]
    simp only [Option.map_some]
    rw [List.append_assoc, List.getElem?_append_left (by simp; omega), List.getElem?_take_of_lt h1, List.getElem?_set_ne (by omega), List.getElem?_set_ne (by omega)]
    rw [List.getElem?_eq_getElem (by omega)]; rfl
  · rw [List.getElem?_append_right (by simpa using Nat.le_of_not_lt h1), List.length_range]
    by_cases h2 : i = q
    · subst h2
      simp only [Nat.sub_self, List.getElem?_cons_zero, Option.map_some]
      rw [List.getElem?_append_right (by omega), hl, List.getElem?_set_ne (by omega), List.getElem?_set_self (by omega)]
      simp
    · by_cases h3 : i = q + 1
      · subst h3
        have : q + 1 - q = 1 := by omega
        rw [this]
        simp only [List.getElem?_cons_succ, List.getElem?_cons_zero, Option.map_some]
        rw [List.getElem?_append_right (by omega), hl, List.getElem?_set_self (by simp; omega)]
        have : L.length - 1 - (L.length - 2) = 1 := by omega
        rw [this]; rfl
      · obtain ⟨j, rfl⟩ : ∃ j, i = q + 2 + j := ⟨i - (q + 2), by omega⟩
        have : q + 2 + j - q = j + 2 := by omega
        rw [this, List.getElem?_cons_succ, List.getElem?_cons_succ, List.getElem?_map, List.getElem?_set_ne (by omega), List.getElem?_set_ne (by omega)]
        by_cases h4 : j < L.length - (q + 2)
        · rw [List.getElem?_range h4]
          simp only [Option.map_some]
          rw [List.getElem?_append_left (by rw [hl]; omega), List.getElem?_append_right (by simp; omega), List.getElem?_drop]
          have e : q + 2 + (q + j - (List.take q L).length) = q + 2 + j := by simp; omega
          rw [e, List.getElem?_eq_getElem (by omega)]; rfl
        · rw [List.getElem?_eq_none (by simpa using Nat.le_of_not_lt h4), List.getElem?_eq_none (by omega)]; rfl

section GR1
variable {p : Program} {l : Launch} {e : Env} {R : Room} {s : State} {m : MethodId} {args : Array Value} {below : List Frame} {meth : Method} {c : Code} {Q : State → Prop} {D : va_G} {kA : Nat → ClassId} {A : Nat → Prop} {nL : Nat} {cc : ByteArray} {ret : Option FieldType} {pc cells slots : Nat} {ls : List (Nat × Value)} {st rest : List Value} {u w : Nat → Nat} {tx : Value} {σ σ2 : mS} {own : String}
set_option maxRecDepth 4000 in
theorem cg_0_4_CP_37 (C : ax_C p s m args meth c cc "ClauseProver" nL ret D kA A) (hdg : decode cc pc = .ok (.getfield 37, 3)) (k : AW p l e R s m args below meth c D kA A nL Q (pc + 3) ls (.ref (u 14) :: rest) (cpW kA u w tx σ) cells slots) : AW p l e R s m args below meth c D kA A nL Q (pc) ls (.ref (u 0) :: rest) (cpW kA u w tx σ) cells slots := ax_get C k_CP 4 lk_CP_37 hdg (Nat.le_of_ble_eq_true rfl) 0 rfl rfl k
set_option maxRecDepth 4000 in
theorem cg_0_5_CP_46 (C : ax_C p s m args meth c cc "ClauseProver" nL ret D kA A) (hdg : decode cc pc = .ok (.getfield 46, 3)) (k : AW p l e R s m args below meth c D kA A nL Q (pc + 3) ls (.ref (u 31) :: rest) (cpW kA u w tx σ) cells slots) : AW p l e R s m args below meth c D kA A nL Q (pc) ls (.ref (u 0) :: rest) (cpW kA u w tx σ) cells slots := ax_get C k_CP 5 lk_CP_46 hdg (Nat.le_of_ble_eq_true rfl) 0 rfl rfl k
set_option maxRecDepth 4000 in
theorem cg_0_6_CP_53 (C : ax_C p s m args meth c cc "ClauseProver" nL ret D kA A) (hdg : decode cc pc = .ok (.getfield 53, 3)) (k : AW p l e R s m args below meth c D kA A nL Q (pc + 3) ls (.ref (u 39) :: rest) (cpW kA u w tx σ) cells slots) : AW p l e R s m args below meth c D kA A nL Q (pc) ls (.ref (u 0) :: rest) (cpW kA u w tx σ) cells slots := ax_get C k_CP 6 lk_CP_53 hdg (Nat.le_of_ble_eq_true rfl) 0 rfl rfl k
set_option maxRecDepth 4000 in
theorem cg_1_0_CP_110 (C : ax_C p s m args meth c cc "ClauseProver" nL ret D kA A) (hdg : decode cc pc = .ok (.getfield 110, 3)) (k : AW p l e R s m args below meth c D kA A nL Q (pc + 3) ls (.ref (w 2) :: rest) (cpW kA u w tx σ) cells slots) : AW p l e R s m args below meth c D kA A nL Q (pc) ls (.ref (u 1) :: rest) (cpW kA u w tx σ) cells slots := ax_get C k_Row 0 lk_CP_110 hdg (Nat.le_of_ble_eq_true rfl) 1 rfl rfl k
set_option maxRecDepth 4000 in
theorem cg_6_1_Sym_15 (C : ax_C p s m args meth c cc "ClauseProver$Symbols" nL ret D kA A) (hdg : decode cc pc = .ok (.getfield 15, 3)) (k : AW p l e R s m args below meth c D kA A nL Q (pc + 3) ls (.ref (u 8) :: rest) (cpW kA u w tx σ) cells slots) : AW p l e R s m args below meth c D kA A nL Q (pc) ls (.ref (u 6) :: rest) (cpW kA u w tx σ) cells slots := ax_get C k_Sym 1 lk_Sym_15 hdg (Nat.le_of_ble_eq_true rfl) 6 rfl rfl k
set_option maxRecDepth 4000 in
theorem cg_6_2_Sym_18 (C : ax_C p s m args meth c cc "ClauseProver$Symbols" nL ret D kA A) (hdg : decode cc pc = .ok (.getfield 18, 3)) (k : AW p l e R s m args below meth c D kA A nL Q (pc + 3) ls (.ref (u 9) :: rest) (cpW kA u w tx σ) cells slots) : AW p l e R s m args below meth c D kA A nL Q (pc) ls (.ref (u 6) :: rest) (cpW kA u w tx σ) cells slots := ax_get C k_Sym 2 lk_Sym_18 hdg (Nat.le_of_ble_eq_true rfl) 6 rfl rfl k
set_option maxRecDepth 4000 in
theorem cg_10_0_Sym_47 (C : ax_C p s m args meth c cc "ClauseProver$Symbols" nL ret D kA A) (hdg : decode cc pc = .ok (.getfield 47, 3)) (k : AW p l e R s m args below meth c D kA A nL Q (pc + 3) ls (.ref (w 11) :: rest) (cpW kA u w tx σ) cells slots) : AW p l e R s m args below meth c D kA A nL Q (pc) ls (.ref (u 10) :: rest) (cpW kA u w tx σ) cells slots := ax_get C k_Row 0 lk_Sym_47 hdg (Nat.le_of_ble_eq_true rfl) 10 rfl rfl k
set_option maxRecDepth 4000 in
theorem cg_10_1_Sym_43 (C : ax_C p s m args meth c cc "ClauseProver$Symbols" nL ret D kA A) (hdg : decode cc pc = .ok (.getfield 43, 3)) (k : AW p l e R s m args below meth c D kA A nL Q (pc + 3) ls (.int (σ.1 1001) :: rest) (cpW kA u w tx σ) cells slots) : AW p l e R s m args below meth c D kA A nL Q (pc) ls (.ref (u 10) :: rest) (cpW kA u w tx σ) cells slots := ax_get C k_Row 1 lk_Sym_43 hdg (Nat.le_of_ble_eq_true rfl) 10 rfl rfl k
set_option maxRecDepth 4000 in
theorem cg_14_0_Par_120 (C : ax_C p s m args meth c cc "ClauseProver$Parser" nL ret D kA A) (hdg : decode cc pc = .ok (.getfield 120, 3)) (k : AW p l e R s m args below meth c D kA A nL Q (pc + 3) ls (.ref (u 15) :: rest) (cpW kA u w tx σ) cells slots) : AW p l e R s m args below meth c D kA A nL Q (pc) ls (.ref (u 14) :: rest) (cpW kA u w tx σ) cells slots := ax_get C k_For 0 lk_Par_120 hdg (Nat.le_of_ble_eq_true rfl) 14 rfl rfl k
set_option maxRecDepth 4000 in
theorem cg_14_1_Par_199 (C : ax_C p s m args meth c cc "ClauseProver$Parser" nL ret D kA A) (hdg : decode cc pc = .ok (.getfield 199, 3)) (k : AW p l e R s m args below meth c D kA A nL Q (pc + 3) ls (.ref (u 17) :: rest) (cpW kA u w tx σ) cells slots) : AW p l e R s m args below meth c D kA A nL Q (pc) ls (.ref (u 14) :: rest) (cpW kA u w tx σ) cells slots := ax_get C k_For 1 lk_Par_199 hdg (Nat.le_of_ble_eq_true rfl) 14 rfl rfl k
set_option maxRecDepth 4000 in
theorem cg_14_2_Par_110 (C : ax_C p s m args meth c cc "ClauseProver$Parser" nL ret D kA A) (hdg : decode cc pc = .ok (.getfield 110, 3)) (k : AW p l e R s m args below meth c D kA A nL Q (pc + 3) ls (.int (σ.1 1402) :: rest) (cpW kA u w tx σ) cells slots) : AW p l e R s m args below meth c D kA A nL Q (pc) ls (.ref (u 14) :: rest) (cpW kA u w tx σ) cells slots := ax_get C k_For 2 lk_Par_110 hdg (Nat.le_of_ble_eq_true rfl) 14 rfl rfl k
set_option maxRecDepth 4000 in
theorem cg_14_3_Par_196 (C : ax_C p s m args meth c cc "ClauseProver$Parser" nL ret D kA A) (hdg : decode cc pc = .ok (.getfield 196, 3)) (k : AW p l e R s m args below meth c D kA A nL Q (pc + 3) ls (.int (σ.1 1403) :: rest) (cpW kA u w tx σ) cells slots) : AW p l e R s m args below meth c D kA A nL Q (pc) ls (.ref (u 14) :: rest) (cpW kA u w tx σ) cells slots := ax_get C k_For 3 lk_Par_196 hdg (Nat.le_of_ble_eq_true rfl) 14 rfl rfl k
set_option maxRecDepth 4000 in
theorem cg_14_15_For_52 (C : ax_C p s m args meth c cc "ClauseProver$Formulas" nL ret D kA A) (hdg : decode cc pc = .ok (.getfield 52, 3)) (k : AW p l e R s m args below meth c D kA A nL Q (pc + 3) ls (.ref (u 29) :: rest) (cpW kA u w tx σ) cells slots) : AW p l e R s m args below meth c D kA A nL Q (pc) ls (.ref (u 14) :: rest) (cpW kA u w tx σ) cells slots := ax_get C k_For 15 lk_For_52 hdg (Nat.le_of_ble_eq_true rfl) 14 rfl rfl k
set_option maxRecDepth 4000 in
theorem cg_15_1_Par_83 (C : ax_C p s m args meth c cc "ClauseProver$Parser" nL ret D kA A) (hdg : decode cc pc = .ok (.getfield 83, 3)) (k : AW p l e R s m args below meth c D kA A nL Q (pc + 3) ls (.int (σ.1 1501) :: rest) (cpW kA u w tx σ) cells slots) : AW p l e R s m args below meth c D kA A nL Q (pc) ls (.ref (u 15) :: rest) (cpW kA u w tx σ) cells slots := ax_get C k_Row 1 lk_Par_83 hdg (Nat.le_of_ble_eq_true rfl) 15 rfl rfl k
set_option maxRecDepth 4000 in
theorem cg_29_0_For_75 (C : ax_C p s m args meth c cc "ClauseProver$Formulas" nL ret D kA A) (hdg : decode cc pc = .ok (.getfield 75, 3)) (k : AW p l e R s m args below meth c D kA A nL Q (pc + 3) ls (.ref (w 30) :: rest) (cpW kA u w tx σ) cells slots) : AW p l e R s m args below meth c D kA A nL Q (pc) ls (.ref (u 29) :: rest) (cpW kA u w tx σ) cells slots := ax_get C k_Row 0 lk_For_75 hdg (Nat.le_of_ble_eq_true rfl) 29 rfl rfl k
set_option maxRecDepth 4000 in
theorem cg_29_1_For_59 (C : ax_C p s m args meth c cc "ClauseProver$Formulas" nL ret D kA A) (hdg : decode cc pc = .ok (.getfield 59, 3)) (k : AW p l e R s m args below meth c D kA A nL Q (pc + 3) ls (.int (σ.1 2901) :: rest) (cpW kA u w tx σ) cells slots) : AW p l e R s m args below meth c D kA A nL Q (pc) ls (.ref (u 29) :: rest) (cpW kA u w tx σ) cells slots := ax_get C k_Row 1 lk_For_59 hdg (Nat.le_of_ble_eq_true rfl) 29 rfl rfl k
set_option maxRecDepth 4000 in
theorem cg_31_0_CP_117 (C : ax_C p s m args meth c cc "ClauseProver" nL ret D kA A) (hdg : decode cc pc = .ok (.getfield 117, 3)) (k : AW p l e R s m args below meth c D kA A nL Q (pc + 3) ls (.int (σ.1 3100) :: rest) (cpW kA u w tx σ) cells slots) : AW p l e R s m args below meth c D kA A nL Q (pc) ls (.ref (u 31) :: rest) (cpW kA u w tx σ) cells slots := ax_get C k_Par 0 lk_CP_117 hdg (Nat.le_of_ble_eq_true rfl) 31 rfl rfl k
set_option maxRecDepth 4000 in
theorem cg_31_1_CP_123 (C : ax_C p s m args meth c cc "ClauseProver" nL ret D kA A) (hdg : decode cc pc = .ok (.getfield 123, 3)) (k : AW p l e R s m args below meth c D kA A nL Q (pc + 3) ls (.int (σ.1 3101) :: rest) (cpW kA u w tx σ) cells slots) : AW p l e R s m args below meth c D kA A nL Q (pc) ls (.ref (u 31) :: rest) (cpW kA u w tx σ) cells slots := ax_get C k_Par 1 lk_CP_123 hdg (Nat.le_of_ble_eq_true rfl) 31 rfl rfl k
set_option maxRecDepth 4000 in
theorem cg_31_4_Par_37 (C : ax_C p s m args meth c cc "ClauseProver$Parser" nL ret D kA A) (hdg : decode cc pc = .ok (.getfield 37, 3)) (k : AW p l e R s m args below meth c D kA A nL Q (pc + 3) ls (.ref (u 14) :: rest) (cpW kA u w tx σ) cells slots) : AW p l e R s m args below meth c D kA A nL Q (pc) ls (.ref (u 31) :: rest) (cpW kA u w tx σ) cells slots := ax_get C k_Par 4 lk_Par_37 hdg (Nat.le_of_ble_eq_true rfl) 31 rfl rfl k
set_option maxRecDepth 4000 in
theorem cg_31_7_Par_30 (C : ax_C p s m args meth c cc "ClauseProver$Parser" nL ret D kA A) (hdg : decode cc pc = .ok (.getfield 30, 3)) (k : AW p l e R s m args below meth c D kA A nL Q (pc + 3) ls (.ref (u 37) :: rest) (cpW kA u w tx σ) cells slots) : AW p l e R s m args below meth c D kA A nL Q (pc) ls (.ref (u 31) :: rest) (cpW kA u w tx σ) cells slots := ax_get C k_Par 7 lk_Par_30 hdg (Nat.le_of_ble_eq_true rfl) 31 rfl rfl k
set_option maxRecDepth 4000 in
theorem cg_32_0_Sym_50 (C : ax_C p s m args meth c cc "ClauseProver$Symbols" nL ret D kA A) (htx : tx = .ref (w 2)) (hdg : decode cc pc = .ok (.getfield 50, 3)) (k : AW p l e R s m args below meth c D kA A nL Q (pc + 3) ls (.ref (w 2) :: rest) (cpW kA u w tx σ) cells slots) : AW p l e R s m args below meth c D kA A nL Q (pc) ls (.ref (u 32) :: rest) (cpW kA u w tx σ) cells slots := by
  subst htx
  exact ax_get C k_Wds 0 lk_Sym_50 hdg (Nat.le_of_ble_eq_true rfl) 32 rfl rfl k
set_option maxRecDepth 4000 in
theorem cg_32_2_Par_58 (C : ax_C p s m args meth c cc "ClauseProver$Parser" nL ret D kA A) (hdg : decode cc pc = .ok (.getfield 58, 3)) (k : AW p l e R s m args below meth c D kA A nL Q (pc + 3) ls (.int (σ.1 3202) :: rest) (cpW kA u w tx σ) cells slots) : AW p l e R s m args below meth c D kA A nL Q (pc) ls (.ref (u 32) :: rest) (cpW kA u w tx σ) cells slots := ax_get C k_Wds 2 lk_Par_58 hdg (Nat.le_of_ble_eq_true rfl) 32 rfl rfl k
set_option maxRecDepth 4000 in
theorem cg_32_3_Sym_53 (C : ax_C p s m args meth c cc "ClauseProver$Symbols" nL ret D kA A) (hdg : decode cc pc = .ok (.getfield 53, 3)) (k : AW p l e R s m args below meth c D kA A nL Q (pc + 3) ls (.int (σ.1 3203) :: rest) (cpW kA u w tx σ) cells slots) : AW p l e R s m args below meth c D kA A nL Q (pc) ls (.ref (u 32) :: rest) (cpW kA u w tx σ) cells slots := ax_get C k_Wds 3 lk_Sym_53 hdg (Nat.le_of_ble_eq_true rfl) 32 rfl rfl k
set_option maxRecDepth 4000 in
theorem cg_32_4_Sym_44 (C : ax_C p s m args meth c cc "ClauseProver$Symbols" nL ret D kA A) (hdg : decode cc pc = .ok (.getfield 44, 3)) (k : AW p l e R s m args below meth c D kA A nL Q (pc + 3) ls (.int (σ.1 3204) :: rest) (cpW kA u w tx σ) cells slots) : AW p l e R s m args below meth c D kA A nL Q (pc) ls (.ref (u 32) :: rest) (cpW kA u w tx σ) cells slots := ax_get C k_Wds 4 lk_Sym_44 hdg (Nat.le_of_ble_eq_true rfl) 32 rfl rfl k
set_option maxRecDepth 4000 in
theorem cg_35_0_Par_181 (C : ax_C p s m args meth c cc "ClauseProver$Parser" nL ret D kA A) (hdg : decode cc pc = .ok (.getfield 181, 3)) (k : AW p l e R s m args below meth c D kA A nL Q (pc + 3) ls (.ref (w 36) :: rest) (cpW kA u w tx σ) cells slots) : AW p l e R s m args below meth c D kA A nL Q (pc) ls (.ref (u 35) :: rest) (cpW kA u w tx σ) cells slots := ax_get C k_Row 0 lk_Par_181 hdg (Nat.le_of_ble_eq_true rfl) 35 rfl rfl k
set_option maxRecDepth 4000 in
theorem cg_37_0_Par_181 (C : ax_C p s m args meth c cc "ClauseProver$Parser" nL ret D kA A) (hdg : decode cc pc = .ok (.getfield 181, 3)) (k : AW p l e R s m args below meth c D kA A nL Q (pc + 3) ls (.ref (w 38) :: rest) (cpW kA u w tx σ) cells slots) : AW p l e R s m args below meth c D kA A nL Q (pc) ls (.ref (u 37) :: rest) (cpW kA u w tx σ) cells slots := ax_get C k_Row 0 lk_Par_181 hdg (Nat.le_of_ble_eq_true rfl) 37 rfl rfl k
set_option maxRecDepth 4000 in
theorem cg_37_1_Par_83 (C : ax_C p s m args meth c cc "ClauseProver$Parser" nL ret D kA A) (hdg : decode cc pc = .ok (.getfield 83, 3)) (k : AW p l e R s m args below meth c D kA A nL Q (pc + 3) ls (.int (σ.1 3701) :: rest) (cpW kA u w tx σ) cells slots) : AW p l e R s m args below meth c D kA A nL Q (pc) ls (.ref (u 37) :: rest) (cpW kA u w tx σ) cells slots := ax_get C k_Row 1 lk_Par_83 hdg (Nat.le_of_ble_eq_true rfl) 37 rfl rfl k
set_option maxRecDepth 4000 in
theorem cg_39_0_Sto_70 (C : ax_C p s m args meth c cc "ClauseProver$Store" nL ret D kA A) (hdg : decode cc pc = .ok (.getfield 70, 3)) (k : AW p l e R s m args below meth c D kA A nL Q (pc + 3) ls (.ref (u 40) :: rest) (cpW kA u w tx σ) cells slots) : AW p l e R s m args below meth c D kA A nL Q (pc) ls (.ref (u 39) :: rest) (cpW kA u w tx σ) cells slots := ax_get C k_Dra 0 lk_Sto_70 hdg (Nat.le_of_ble_eq_true rfl) 39 rfl rfl k
set_option maxRecDepth 4000 in
theorem cg_39_1_Sto_67 (C : ax_C p s m args meth c cc "ClauseProver$Store" nL ret D kA A) (hdg : decode cc pc = .ok (.getfield 67, 3)) (k : AW p l e R s m args below meth c D kA A nL Q (pc + 3) ls (.ref (u 41) :: rest) (cpW kA u w tx σ) cells slots) : AW p l e R s m args below meth c D kA A nL Q (pc) ls (.ref (u 39) :: rest) (cpW kA u w tx σ) cells slots := ax_get C k_Dra 1 lk_Sto_67 hdg (Nat.le_of_ble_eq_true rfl) 39 rfl rfl k
set_option maxRecDepth 4000 in
theorem cg_39_2_Sto_64 (C : ax_C p s m args meth c cc "ClauseProver$Store" nL ret D kA A) (hdg : decode cc pc = .ok (.getfield 64, 3)) (k : AW p l e R s m args below meth c D kA A nL Q (pc + 3) ls (.ref (u 42) :: rest) (cpW kA u w tx σ) cells slots) : AW p l e R s m args below meth c D kA A nL Q (pc) ls (.ref (u 39) :: rest) (cpW kA u w tx σ) cells slots := ax_get C k_Dra 2 lk_Sto_64 hdg (Nat.le_of_ble_eq_true rfl) 39 rfl rfl k
set_option maxRecDepth 4000 in
theorem cg_39_3_Sto_60 (C : ax_C p s m args meth c cc "ClauseProver$Store" nL ret D kA A) (hdg : decode cc pc = .ok (.getfield 60, 3)) (k : AW p l e R s m args below meth c D kA A nL Q (pc + 3) ls (.ref (u 43) :: rest) (cpW kA u w tx σ) cells slots) : AW p l e R s m args below meth c D kA A nL Q (pc) ls (.ref (u 39) :: rest) (cpW kA u w tx σ) cells slots := ax_get C k_Dra 3 lk_Sto_60 hdg (Nat.le_of_ble_eq_true rfl) 39 rfl rfl k
set_option maxRecDepth 4000 in
theorem cg_39_4_Sto_54 (C : ax_C p s m args meth c cc "ClauseProver$Store" nL ret D kA A) (hdg : decode cc pc = .ok (.getfield 54, 3)) (k : AW p l e R s m args below meth c D kA A nL Q (pc + 3) ls (.int (σ.1 3904) :: rest) (cpW kA u w tx σ) cells slots) : AW p l e R s m args below meth c D kA A nL Q (pc) ls (.ref (u 39) :: rest) (cpW kA u w tx σ) cells slots := ax_get C k_Dra 4 lk_Sto_54 hdg (Nat.le_of_ble_eq_true rfl) 39 rfl rfl k
set_option maxRecDepth 4000 in
theorem cg_39_5_Sto_49 (C : ax_C p s m args meth c cc "ClauseProver$Store" nL ret D kA A) (hdg : decode cc pc = .ok (.getfield 49, 3)) (k : AW p l e R s m args below meth c D kA A nL Q (pc + 3) ls (.int (σ.1 3905) :: rest) (cpW kA u w tx σ) cells slots) : AW p l e R s m args below meth c D kA A nL Q (pc) ls (.ref (u 39) :: rest) (cpW kA u w tx σ) cells slots := ax_get C k_Dra 5 lk_Sto_49 hdg (Nat.le_of_ble_eq_true rfl) 39 rfl rfl k
set_option maxRecDepth 4000 in
theorem cg_39_6_Sto_57 (C : ax_C p s m args meth c cc "ClauseProver$Store" nL ret D kA A) (hdg : decode cc pc = .ok (.getfield 57, 3)) (k : AW p l e R s m args below meth c D kA A nL Q (pc + 3) ls (.int (σ.1 3906) :: rest) (cpW kA u w tx σ) cells slots) : AW p l e R s m args below meth c D kA A nL Q (pc) ls (.ref (u 39) :: rest) (cpW kA u w tx σ) cells slots := ax_get C k_Dra 6 lk_Sto_57 hdg (Nat.le_of_ble_eq_true rfl) 39 rfl rfl k
set_option maxRecDepth 4000 in
theorem cg_39_7_Sat_252 (C : ax_C p s m args meth c cc "ClauseProver$Saturation" nL ret D kA A) (hdg : decode cc pc = .ok (.getfield 252, 3)) (k : AW p l e R s m args below meth c D kA A nL Q (pc + 3) ls (.int (σ.1 3907) :: rest) (cpW kA u w tx σ) cells slots) : AW p l e R s m args below meth c D kA A nL Q (pc) ls (.ref (u 39) :: rest) (cpW kA u w tx σ) cells slots := ax_get C k_Dra 7 lk_Sat_252 hdg (Nat.le_of_ble_eq_true rfl) 39 rfl rfl k
set_option maxRecDepth 4000 in
theorem cg_47_1_Sto_30 (C : ax_C p s m args meth c cc "ClauseProver$Store" nL ret D kA A) (hdg : decode cc pc = .ok (.getfield 30, 3)) (k : AW p l e R s m args below meth c D kA A nL Q (pc + 3) ls (.int (σ.1 4701) :: rest) (cpW kA u w tx σ) cells slots) : AW p l e R s m args below meth c D kA A nL Q (pc) ls (.ref (u 47) :: rest) (cpW kA u w tx σ) cells slots := ax_get C k_Row 1 lk_Sto_30 hdg (Nat.le_of_ble_eq_true rfl) 47 rfl rfl k
set_option maxRecDepth 4000 in
theorem cg_49_0_Sat_151 (C : ax_C p s m args meth c cc "ClauseProver$Saturation" nL ret D kA A) (hdg : decode cc pc = .ok (.getfield 151, 3)) (k : AW p l e R s m args below meth c D kA A nL Q (pc + 3) ls (.ref (w 50) :: rest) (cpW kA u w tx σ) cells slots) : AW p l e R s m args below meth c D kA A nL Q (pc) ls (.ref (u 49) :: rest) (cpW kA u w tx σ) cells slots := ax_get C k_Row 0 lk_Sat_151 hdg (Nat.le_of_ble_eq_true rfl) 49 rfl rfl k
set_option maxRecDepth 4000 in
theorem cg_49_1_Sat_80 (C : ax_C p s m args meth c cc "ClauseProver$Saturation" nL ret D kA A) (hdg : decode cc pc = .ok (.getfield 80, 3)) (k : AW p l e R s m args below meth c D kA A nL Q (pc + 3) ls (.int (σ.1 4901) :: rest) (cpW kA u w tx σ) cells slots) : AW p l e R s m args below meth c D kA A nL Q (pc) ls (.ref (u 49) :: rest) (cpW kA u w tx σ) cells slots := ax_get C k_Row 1 lk_Sat_80 hdg (Nat.le_of_ble_eq_true rfl) 49 rfl rfl k
set_option maxRecDepth 4000 in
theorem cg_49_1_Sto_30 (C : ax_C p s m args meth c cc "ClauseProver$Store" nL ret D kA A) (hdg : decode cc pc = .ok (.getfield 30, 3)) (k : AW p l e R s m args below meth c D kA A nL Q (pc + 3) ls (.int (σ.1 4901) :: rest) (cpW kA u w tx σ) cells slots) : AW p l e R s m args below meth c D kA A nL Q (pc) ls (.ref (u 49) :: rest) (cpW kA u w tx σ) cells slots := ax_get C k_Row 1 lk_Sto_30 hdg (Nat.le_of_ble_eq_true rfl) 49 rfl rfl k
set_option maxRecDepth 4000 in
theorem cg_53_0_Sat_58 (C : ax_C p s m args meth c cc "ClauseProver$Saturation" nL ret D kA A) (hdg : decode cc pc = .ok (.getfield 58, 3)) (k : AW p l e R s m args below meth c D kA A nL Q (pc + 3) ls (.int (σ.1 5300) :: rest) (cpW kA u w tx σ) cells slots) : AW p l e R s m args below meth c D kA A nL Q (pc) ls (.ref (u 53) :: rest) (cpW kA u w tx σ) cells slots := ax_get C k_Sat 0 lk_Sat_58 hdg (Nat.le_of_ble_eq_true rfl) 53 rfl rfl k
set_option maxRecDepth 4000 in
theorem cg_53_2_Sat_65 (C : ax_C p s m args meth c cc "ClauseProver$Saturation" nL ret D kA A) (hdg : decode cc pc = .ok (.getfield 65, 3)) (k : AW p l e R s m args below meth c D kA A nL Q (pc + 3) ls (.int (σ.1 5302) :: rest) (cpW kA u w tx σ) cells slots) : AW p l e R s m args below meth c D kA A nL Q (pc) ls (.ref (u 53) :: rest) (cpW kA u w tx σ) cells slots := ax_get C k_Sat 2 lk_Sat_65 hdg (Nat.le_of_ble_eq_true rfl) 53 rfl rfl k
set_option maxRecDepth 4000 in
theorem cg_53_3_Sat_68 (C : ax_C p s m args meth c cc "ClauseProver$Saturation" nL ret D kA A) (hdg : decode cc pc = .ok (.getfield 68, 3)) (k : AW p l e R s m args below meth c D kA A nL Q (pc + 3) ls (.int (σ.1 5303) :: rest) (cpW kA u w tx σ) cells slots) : AW p l e R s m args below meth c D kA A nL Q (pc) ls (.ref (u 53) :: rest) (cpW kA u w tx σ) cells slots := ax_get C k_Sat 3 lk_Sat_68 hdg (Nat.le_of_ble_eq_true rfl) 53 rfl rfl k
set_option maxRecDepth 4000 in
theorem cg_53_5_Sat_74 (C : ax_C p s m args meth c cc "ClauseProver$Saturation" nL ret D kA A) (hdg : decode cc pc = .ok (.getfield 74, 3)) (k : AW p l e R s m args below meth c D kA A nL Q (pc + 3) ls (.int (σ.1 5305) :: rest) (cpW kA u w tx σ) cells slots) : AW p l e R s m args below meth c D kA A nL Q (pc) ls (.ref (u 53) :: rest) (cpW kA u w tx σ) cells slots := ax_get C k_Sat 5 lk_Sat_74 hdg (Nat.le_of_ble_eq_true rfl) 53 rfl rfl k
set_option maxRecDepth 4000 in
theorem cg_53_6_Sat_77 (C : ax_C p s m args meth c cc "ClauseProver$Saturation" nL ret D kA A) (hdg : decode cc pc = .ok (.getfield 77, 3)) (k : AW p l e R s m args below meth c D kA A nL Q (pc + 3) ls (.int (σ.1 5306) :: rest) (cpW kA u w tx σ) cells slots) : AW p l e R s m args below meth c D kA A nL Q (pc) ls (.ref (u 53) :: rest) (cpW kA u w tx σ) cells slots := ax_get C k_Sat 6 lk_Sat_77 hdg (Nat.le_of_ble_eq_true rfl) 53 rfl rfl k
set_option maxRecDepth 4000 in
theorem cg_53_13_Sat_20 (C : ax_C p s m args meth c cc "ClauseProver$Saturation" nL ret D kA A) (hdg : decode cc pc = .ok (.getfield 20, 3)) (k : AW p l e R s m args below meth c D kA A nL Q (pc + 3) ls (.ref (u 57) :: rest) (cpW kA u w tx σ) cells slots) : AW p l e R s m args below meth c D kA A nL Q (pc) ls (.ref (u 53) :: rest) (cpW kA u w tx σ) cells slots := ax_get C k_Sat 13 lk_Sat_20 hdg (Nat.le_of_ble_eq_true rfl) 53 rfl rfl k
set_option maxRecDepth 4000 in
theorem cg_54_1_Sat_125 (C : ax_C p s m args meth c cc "ClauseProver$Saturation" nL ret D kA A) (hdg : decode cc pc = .ok (.getfield 125, 3)) (k : AW p l e R s m args below meth c D kA A nL Q (pc + 3) ls (.ref (u 49) :: rest) (cpW kA u w tx σ) cells slots) : AW p l e R s m args below meth c D kA A nL Q (pc) ls (.ref (u 54) :: rest) (cpW kA u w tx σ) cells slots := ax_get C k_Sto 1 lk_Sat_125 hdg (Nat.le_of_ble_eq_true rfl) 54 rfl rfl k
set_option maxRecDepth 4000 in
theorem cg_59_6_Uni_47 (C : ax_C p s m args meth c cc "ClauseProver$Unifier" nL ret D kA A) (hdg : decode cc pc = .ok (.getfield 47, 3)) (k : AW p l e R s m args below meth c D kA A nL Q (pc + 3) ls (.int (σ.1 5906) :: rest) (cpW kA u w tx σ) cells slots) : AW p l e R s m args below meth c D kA A nL Q (pc) ls (.ref (u 59) :: rest) (cpW kA u w tx σ) cells slots := ax_get C k_Uni 6 lk_Uni_47 hdg (Nat.le_of_ble_eq_true rfl) 59 rfl rfl k
set_option maxRecDepth 4000 in
theorem cg_59_7_Uni_50 (C : ax_C p s m args meth c cc "ClauseProver$Unifier" nL ret D kA A) (hdg : decode cc pc = .ok (.getfield 50, 3)) (k : AW p l e R s m args below meth c D kA A nL Q (pc + 3) ls (.int (σ.1 5907) :: rest) (cpW kA u w tx σ) cells slots) : AW p l e R s m args below meth c D kA A nL Q (pc) ls (.ref (u 59) :: rest) (cpW kA u w tx σ) cells slots := ax_get C k_Uni 7 lk_Uni_50 hdg (Nat.le_of_ble_eq_true rfl) 59 rfl rfl k
set_option maxRecDepth 4000 in
theorem cq_0_10_CP_120 (C : ax_C p s m args meth c cc "ClauseProver" nL ret D kA A) {x : Int32} (hdg : decode cc pc = .ok (.putfield 120, 3)) (k : AW p l e R s m args below meth c D kA A nL Q (pc + 3) ls (rest) (cpW kA u w tx (mI σ 10 x)) cells slots) : AW p l e R s m args below meth c D kA A nL Q (pc) ls (.int x :: .ref (u 0) :: rest) (cpW kA u w tx σ) cells slots := ax_put C k_CP 10 lk_CP_120 hdg (Nat.le_of_ble_eq_true rfl) 0 rfl rfl rfl rfl (Nat.le_of_ble_eq_true rfl) (ax_w (cpW kA u w tx (mI σ 10 x)) rfl k)
set_option maxRecDepth 4000 in
theorem cq_0_11_CP_126 (C : ax_C p s m args meth c cc "ClauseProver" nL ret D kA A) {x : Int32} (hdg : decode cc pc = .ok (.putfield 126, 3)) (k : AW p l e R s m args below meth c D kA A nL Q (pc + 3) ls (rest) (cpW kA u w tx (mI σ 11 x)) cells slots) : AW p l e R s m args below meth c D kA A nL Q (pc) ls (.int x :: .ref (u 0) :: rest) (cpW kA u w tx σ) cells slots := ax_put C k_CP 11 lk_CP_126 hdg (Nat.le_of_ble_eq_true rfl) 0 rfl rfl rfl rfl (Nat.le_of_ble_eq_true rfl) (ax_w (cpW kA u w tx (mI σ 11 x)) rfl k)
set_option maxRecDepth 4000 in
theorem cq_1_1_CP_82 (C : ax_C p s m args meth c cc "ClauseProver" nL ret D kA A) {x : Int32} (hdg : decode cc pc = .ok (.putfield 82, 3)) (k : AW p l e R s m args below meth c D kA A nL Q (pc + 3) ls (rest) (cpW kA u w tx (mI σ 101 x)) cells slots) : AW p l e R s m args below meth c D kA A nL Q (pc) ls (.int x :: .ref (u 1) :: rest) (cpW kA u w tx σ) cells slots := ax_put C k_Row 1 lk_CP_82 hdg (Nat.le_of_ble_eq_true rfl) 1 rfl rfl rfl rfl (Nat.le_of_ble_eq_true rfl) (ax_w (cpW kA u w tx (mI σ 101 x)) rfl k)
set_option maxRecDepth 4000 in
theorem cq_14_3_Par_196 (C : ax_C p s m args meth c cc "ClauseProver$Parser" nL ret D kA A) {x : Int32} (hdg : decode cc pc = .ok (.putfield 196, 3)) (k : AW p l e R s m args below meth c D kA A nL Q (pc + 3) ls (rest) (cpW kA u w tx (mI σ 1403 x)) cells slots) : AW p l e R s m args below meth c D kA A nL Q (pc) ls (.int x :: .ref (u 14) :: rest) (cpW kA u w tx σ) cells slots := ax_put C k_For 3 lk_Par_196 hdg (Nat.le_of_ble_eq_true rfl) 14 rfl rfl rfl rfl (Nat.le_of_ble_eq_true rfl) (ax_w (cpW kA u w tx (mI σ 1403 x)) rfl k)
set_option maxRecDepth 4000 in
theorem cq_29_1_For_59 (C : ax_C p s m args meth c cc "ClauseProver$Formulas" nL ret D kA A) {x : Int32} (hdg : decode cc pc = .ok (.putfield 59, 3)) (k : AW p l e R s m args below meth c D kA A nL Q (pc + 3) ls (rest) (cpW kA u w tx (mI σ 2901 x)) cells slots) : AW p l e R s m args below meth c D kA A nL Q (pc) ls (.int x :: .ref (u 29) :: rest) (cpW kA u w tx σ) cells slots := ax_put C k_Row 1 lk_For_59 hdg (Nat.le_of_ble_eq_true rfl) 29 rfl rfl rfl rfl (Nat.le_of_ble_eq_true rfl) (ax_w (cpW kA u w tx (mI σ 2901 x)) rfl k)
set_option maxRecDepth 4000 in
theorem cq_32_1_Wds_15 (C : ax_C p s m args meth c cc "ClauseProver$Words" nL ret D kA A) {x : Int32} (hdg : decode cc pc = .ok (.putfield 15, 3)) (k : AW p l e R s m args below meth c D kA A nL Q (pc + 3) ls (rest) (cpW kA u w tx (mI σ 3201 x)) cells slots) : AW p l e R s m args below meth c D kA A nL Q (pc) ls (.int x :: .ref (u 32) :: rest) (cpW kA u w tx σ) cells slots := ax_put C k_Wds 1 lk_Wds_15 hdg (Nat.le_of_ble_eq_true rfl) 32 rfl rfl rfl rfl (Nat.le_of_ble_eq_true rfl) (ax_w (cpW kA u w tx (mI σ 3201 x)) rfl k)
set_option maxRecDepth 4000 in
theorem cq_37_1_Par_83 (C : ax_C p s m args meth c cc "ClauseProver$Parser" nL ret D kA A) {x : Int32} (hdg : decode cc pc = .ok (.putfield 83, 3)) (k : AW p l e R s m args below meth c D kA A nL Q (pc + 3) ls (rest) (cpW kA u w tx (mI σ 3701 x)) cells slots) : AW p l e R s m args below meth c D kA A nL Q (pc) ls (.int x :: .ref (u 37) :: rest) (cpW kA u w tx σ) cells slots := ax_put C k_Row 1 lk_Par_83 hdg (Nat.le_of_ble_eq_true rfl) 37 rfl rfl rfl rfl (Nat.le_of_ble_eq_true rfl) (ax_w (cpW kA u w tx (mI σ 3701 x)) rfl k)
set_option maxRecDepth 4000 in
theorem cq_49_1_Sat_80 (C : ax_C p s m args meth c cc "ClauseProver$Saturation" nL ret D kA A) {x : Int32} (hdg : decode cc pc = .ok (.putfield 80, 3)) (k : AW p l e R s m args below meth c D kA A nL Q (pc + 3) ls (rest) (cpW kA u w tx (mI σ 4901 x)) cells slots) : AW p l e R s m args below meth c D kA A nL Q (pc) ls (.int x :: .ref (u 49) :: rest) (cpW kA u w tx σ) cells slots := ax_put C k_Row 1 lk_Sat_80 hdg (Nat.le_of_ble_eq_true rfl) 49 rfl rfl rfl rfl (Nat.le_of_ble_eq_true rfl) (ax_w (cpW kA u w tx (mI σ 4901 x)) rfl k)
set_option maxRecDepth 4000 in
theorem cq_54_3_CP_135 (C : ax_C p s m args meth c cc "ClauseProver" nL ret D kA A) {x : Int32} (hdg : decode cc pc = .ok (.putfield 135, 3)) (k : AW p l e R s m args below meth c D kA A nL Q (pc + 3) ls (rest) (cpW kA u w tx (mI σ 5403 x)) cells slots) : AW p l e R s m args below meth c D kA A nL Q (pc) ls (.int x :: .ref (u 54) :: rest) (cpW kA u w tx σ) cells slots := ax_put C k_Sto 3 lk_CP_135 hdg (Nat.le_of_ble_eq_true rfl) 54 rfl rfl rfl rfl (Nat.le_of_ble_eq_true rfl) (ax_w (cpW kA u w tx (mI σ 5403 x)) rfl k)
set_option maxRecDepth 4000 in
theorem cq_57_1_Sat_80 (C : ax_C p s m args meth c cc "ClauseProver$Saturation" nL ret D kA A) {x : Int32} (hdg : decode cc pc = .ok (.putfield 80, 3)) (k : AW p l e R s m args below meth c D kA A nL Q (pc + 3) ls (rest) (cpW kA u w tx (mI σ 5701 x)) cells slots) : AW p l e R s m args below meth c D kA A nL Q (pc) ls (.int x :: .ref (u 57) :: rest) (cpW kA u w tx σ) cells slots := ax_put C k_Row 1 lk_Sat_80 hdg (Nat.le_of_ble_eq_true rfl) 57 rfl rfl rfl rfl (Nat.le_of_ble_eq_true rfl) (ax_w (cpW kA u w tx (mI σ 5701 x)) rfl k)
set_option maxRecDepth 4000 in
theorem cl_8 (C : ax_C p s m args meth c cc own nL ret D kA A) {i : Int32} (hdg : decode cc pc = .ok (.iaload, 1)) (hin : vp_in i 251) (k : AW p l e R s m args below meth c D kA A nL Q (pc + 1) ls (.int (σ.2.1 8 i.toNatClampNeg) :: rest) (cpW kA u w tx σ) cells slots) : AW p l e R s m args below meth c D kA A nL Q (pc) ls (.int i :: .ref (u 8) :: rest) (cpW kA u w tx σ) cells slots := ax_iald C 8 rfl hdg hin k
set_option maxRecDepth 4000 in
theorem cs_8 (C : ax_C p s m args meth c cc own nL ret D kA A) {i x : Int32} (hdg : decode cc pc = .ok (.iastore, 1)) (hin : vp_in i 251) (k : AW p l e R s m args below meth c D kA A nL Q (pc + 1) ls (rest) (cpW kA u w tx (mA σ 8 i.toNatClampNeg x)) cells slots) : AW p l e R s m args below meth c D kA A nL Q (pc) ls (.int x :: .int i :: .ref (u 8) :: rest) (cpW kA u w tx σ) cells slots := ax_iast C 8 rfl hdg hin (ax_w (cpW kA u w tx (mA σ 8 i.toNatClampNeg x)) rfl k)
set_option maxRecDepth 4000 in
theorem cl_9 (C : ax_C p s m args meth c cc own nL ret D kA A) {i : Int32} (hdg : decode cc pc = .ok (.iaload, 1)) (hin : vp_in i 251) (k : AW p l e R s m args below meth c D kA A nL Q (pc + 1) ls (.int (σ.2.1 9 i.toNatClampNeg) :: rest) (cpW kA u w tx σ) cells slots) : AW p l e R s m args below meth c D kA A nL Q (pc) ls (.int i :: .ref (u 9) :: rest) (cpW kA u w tx σ) cells slots := ax_iald C 9 rfl hdg hin k
set_option maxRecDepth 4000 in
theorem cs_9 (C : ax_C p s m args meth c cc own nL ret D kA A) {i x : Int32} (hdg : decode cc pc = .ok (.iastore, 1)) (hin : vp_in i 251) (k : AW p l e R s m args below meth c D kA A nL Q (pc + 1) ls (rest) (cpW kA u w tx (mA σ 9 i.toNatClampNeg x)) cells slots) : AW p l e R s m args below meth c D kA A nL Q (pc) ls (.int x :: .int i :: .ref (u 9) :: rest) (cpW kA u w tx σ) cells slots := ax_iast C 9 rfl hdg hin (ax_w (cpW kA u w tx (mA σ 9 i.toNatClampNeg x)) rfl k)
set_option maxRecDepth 4000 in
theorem cl_11 (C : ax_C p s m args meth c cc own nL ret D kA A) {i : Int32} (hdg : decode cc pc = .ok (.iaload, 1)) (hin : vp_in i (σ.2.2 11)) (k : AW p l e R s m args below meth c D kA A nL Q (pc + 1) ls (.int (σ.2.1 11 i.toNatClampNeg) :: rest) (cpW kA u w tx σ) cells slots) : AW p l e R s m args below meth c D kA A nL Q (pc) ls (.int i :: .ref (w 11) :: rest) (cpW kA u w tx σ) cells slots := ax_iald C 11 rfl hdg hin k
set_option maxRecDepth 4000 in
theorem cs_11 (C : ax_C p s m args meth c cc own nL ret D kA A) {i x : Int32} (hdg : decode cc pc = .ok (.iastore, 1)) (hin : vp_in i (σ.2.2 11)) (k : AW p l e R s m args below meth c D kA A nL Q (pc + 1) ls (rest) (cpW kA u w tx (mA σ 11 i.toNatClampNeg x)) cells slots) : AW p l e R s m args below meth c D kA A nL Q (pc) ls (.int x :: .int i :: .ref (w 11) :: rest) (cpW kA u w tx σ) cells slots := ax_iast C 11 rfl hdg hin (ax_w (cpW kA u w tx (mA σ 11 i.toNatClampNeg x)) rfl k)
set_option maxRecDepth 4000 in
theorem cl_30 (C : ax_C p s m args meth c cc own nL ret D kA A) {i : Int32} (hdg : decode cc pc = .ok (.iaload, 1)) (hin : vp_in i (σ.2.2 30)) (k : AW p l e R s m args below meth c D kA A nL Q (pc + 1) ls (.int (σ.2.1 30 i.toNatClampNeg) :: rest) (cpW kA u w tx σ) cells slots) : AW p l e R s m args below meth c D kA A nL Q (pc) ls (.int i :: .ref (w 30) :: rest) (cpW kA u w tx σ) cells slots := ax_iald C 30 rfl hdg hin k
set_option maxRecDepth 4000 in
theorem cs_30 (C : ax_C p s m args meth c cc own nL ret D kA A) {i x : Int32} (hdg : decode cc pc = .ok (.iastore, 1)) (hin : vp_in i (σ.2.2 30)) (k : AW p l e R s m args below meth c D kA A nL Q (pc + 1) ls (rest) (cpW kA u w tx (mA σ 30 i.toNatClampNeg x)) cells slots) : AW p l e R s m args below meth c D kA A nL Q (pc) ls (.int x :: .int i :: .ref (w 30) :: rest) (cpW kA u w tx σ) cells slots := ax_iast C 30 rfl hdg hin (ax_w (cpW kA u w tx (mA σ 30 i.toNatClampNeg x)) rfl k)
set_option maxRecDepth 4000 in
theorem cl_36 (C : ax_C p s m args meth c cc own nL ret D kA A) {i : Int32} (hdg : decode cc pc = .ok (.iaload, 1)) (hin : vp_in i (σ.2.2 36)) (k : AW p l e R s m args below meth c D kA A nL Q (pc + 1) ls (.int (σ.2.1 36 i.toNatClampNeg) :: rest) (cpW kA u w tx σ) cells slots) : AW p l e R s m args below meth c D kA A nL Q (pc) ls (.int i :: .ref (w 36) :: rest) (cpW kA u w tx σ) cells slots := ax_iald C 36 rfl hdg hin k
set_option maxRecDepth 4000 in
theorem cs_36 (C : ax_C p s m args meth c cc own nL ret D kA A) {i x : Int32} (hdg : decode cc pc = .ok (.iastore, 1)) (hin : vp_in i (σ.2.2 36)) (k : AW p l e R s m args below meth c D kA A nL Q (pc + 1) ls (rest) (cpW kA u w tx (mA σ 36 i.toNatClampNeg x)) cells slots) : AW p l e R s m args below meth c D kA A nL Q (pc) ls (.int x :: .int i :: .ref (w 36) :: rest) (cpW kA u w tx σ) cells slots := ax_iast C 36 rfl hdg hin (ax_w (cpW kA u w tx (mA σ 36 i.toNatClampNeg x)) rfl k)
set_option maxRecDepth 4000 in
theorem cl_38 (C : ax_C p s m args meth c cc own nL ret D kA A) {i : Int32} (hdg : decode cc pc = .ok (.iaload, 1)) (hin : vp_in i (σ.2.2 38)) (k : AW p l e R s m args below meth c D kA A nL Q (pc + 1) ls (.int (σ.2.1 38 i.toNatClampNeg) :: rest) (cpW kA u w tx σ) cells slots) : AW p l e R s m args below meth c D kA A nL Q (pc) ls (.int i :: .ref (w 38) :: rest) (cpW kA u w tx σ) cells slots := ax_iald C 38 rfl hdg hin k
set_option maxRecDepth 4000 in
theorem cs_38 (C : ax_C p s m args meth c cc own nL ret D kA A) {i x : Int32} (hdg : decode cc pc = .ok (.iastore, 1)) (hin : vp_in i (σ.2.2 38)) (k : AW p l e R s m args below meth c D kA A nL Q (pc + 1) ls (rest) (cpW kA u w tx (mA σ 38 i.toNatClampNeg x)) cells slots) : AW p l e R s m args below meth c D kA A nL Q (pc) ls (.int x :: .int i :: .ref (w 38) :: rest) (cpW kA u w tx σ) cells slots := ax_iast C 38 rfl hdg hin (ax_w (cpW kA u w tx (mA σ 38 i.toNatClampNeg x)) rfl k)
set_option maxRecDepth 4000 in
theorem cl_50 (C : ax_C p s m args meth c cc own nL ret D kA A) {i : Int32} (hdg : decode cc pc = .ok (.iaload, 1)) (hin : vp_in i (σ.2.2 50)) (k : AW p l e R s m args below meth c D kA A nL Q (pc + 1) ls (.int (σ.2.1 50 i.toNatClampNeg) :: rest) (cpW kA u w tx σ) cells slots) : AW p l e R s m args below meth c D kA A nL Q (pc) ls (.int i :: .ref (w 50) :: rest) (cpW kA u w tx σ) cells slots := ax_iald C 50 rfl hdg hin k
set_option maxRecDepth 4000 in
theorem cs_50 (C : ax_C p s m args meth c cc own nL ret D kA A) {i x : Int32} (hdg : decode cc pc = .ok (.iastore, 1)) (hin : vp_in i (σ.2.2 50)) (k : AW p l e R s m args below meth c D kA A nL Q (pc + 1) ls (rest) (cpW kA u w tx (mA σ 50 i.toNatClampNeg x)) cells slots) : AW p l e R s m args below meth c D kA A nL Q (pc) ls (.int x :: .int i :: .ref (w 50) :: rest) (cpW kA u w tx σ) cells slots := ax_iast C 50 rfl hdg hin (ax_w (cpW kA u w tx (mA σ 50 i.toNatClampNeg x)) rfl k)
set_option maxRecDepth 4000 in
theorem cn_63 (C : ax_C p s m args meth c cc own nL ret D kA A) (hdg : decode cc pc = .ok (.arraylength, 1)) (k : AW p l e R s m args below meth c D kA A nL Q (pc + 1) ls (.int (Int32.ofNat 3360) :: rest) (cpW kA u w tx σ) cells slots) : AW p l e R s m args below meth c D kA A nL Q (pc) ls (.ref (u 63) :: rest) (cpW kA u w tx σ) cells slots := ax_alen C 63 1 rfl rfl _ rfl hdg k
end GR1
section GRU
variable {p : Program} {l : Launch} {e : Env} {R : Room} {s : State} {m : MethodId} {args : Array Value} {below : List Frame} {meth : Method} {c : Code} {Q : State → Prop} {D : va_G} {kA : Nat → ClassId} {A : Nat → Prop} {nL : Nat} {cc : ByteArray} {ret : Option FieldType} {pc F Lo mc ms cells slots : Nat} {ls : List (Nat × Value)} {st rest : List Value} {u w : Nat → Nat} {tx : Value} {σ σ2 : mS} {own : String}
set_option maxRecDepth 4000 in
theorem ca_1 (C : ax_C p s m args meth c cc own nL ret D kA A) {idx d : Nat} {x : Int32} (L : ax_LV own idx y_Row_add b_Row_add 2 none 1) (hdg : decode cc pc = .ok (.invokevirtual idx, 3)) (hb : rok σ 101 2 = true) (hF : d + 3 ≤ F) (hLo : 48 * d + 144 ≤ Lo) (hce : cells + ((rAdd σ 101 2 x).2.2 3001 - σ.2.2 3001) ≤ mc) (hsl : slots + ((rAdd σ 101 2 x).2.2 3002 - σ.2.2 3002) ≤ ms) (hsum : (rest.map fun v => v.category).sum ≤ 8)
    (k : ∀ w2 : Nat → Nat, (∀ i, ([2] : List Nat).elem i = false → w2 i = w i) → AW p l e { frames := F, cells := mc, slots := ms, locals := Lo } s m args below meth c D kA A nL Q (pc + 3) ls (rest) (cpW kA u w2 tx (rAdd σ 101 2 x)) (cells + ((rAdd σ 101 2 x).2.2 3001 - σ.2.2 3001)) (slots + ((rAdd σ 101 2 x).2.2 3002 - σ.2.2 3002))) : AW p l e { frames := F, cells := mc, slots := ms, locals := Lo } s m args below meth c D kA A nL Q (pc) ls (.int x :: .ref (u 1) :: rest) (cpW kA u w tx σ) (cells) (slots) := by
  simp only [rok, Bool.and_eq_true, Bool.or_eq_true, decide_eq_true_eq] at hb
  obtain ⟨hL, hb⟩ := hb
  by_cases hfull : σ.1 101 = Int32.ofNat (σ.2.2 2)
  · have e1 : (rAdd σ 101 2 x) = (va_up σ.1 101 (σ.1 101 + 1), va_up σ.2.1 2 (upd (va_cpy (σ.2.1 2) (fun _ => 0) 0 0 (σ.2.2 2)) (σ.2.2 2) x), va_up (va_up (va_up σ.2.2 2 (2 * σ.2.2 2 + 1)) 3001 (σ.2.2 3001 + 1)) 3002 (σ.2.2 3002 + (2 * σ.2.2 2 + 1))) := by unfold rAdd; rw [if_pos hfull]
    have g1 : (rAdd σ 101 2 x).2.2 3001 - σ.2.2 3001 = 1 := by rw [e1]; simp [va_up]
    have g2 : (rAdd σ 101 2 x).2.2 3002 - σ.2.2 3002 = 2 * σ.2.2 2 + 1 := by rw [e1]; simp [va_up]
    rw [g1] at hce; rw [g2] at hsl
    have hwn : cpW kA u w tx σ = cpW kA u w tx (va_up σ.1 101 (Int32.ofNat (σ.2.2 2)), σ.2) := by
      have : va_up σ.1 101 (Int32.ofNat (σ.2.2 2)) = σ.1 := by rw [← hfull]; funext j; unfold va_up; split <;> simp_all
      rw [this]
    refine ax_callVv C (As := [.int x]) (rest := rest) (wr := (cpW kA u w tx σ).take 1 ++ (cpW kA u w tx σ).drop (1 + 2)) (c_Row_add2 l D kA (u 1) (w 2) (σ.2.2 2) (σ.2.1 2) x hL) L 1 (by rw [hwn]; rfl) rfl rfl hdg rfl rfl [1, 2] (List.range 1 ++ (List.range (72 - (1 + 2))).map (1 + 2 + ·)) (by rw [hwn]; rfl) (by decide) (rg_rm2 _ 1 72 cp_len (by decide)) (by decide +kernel) (by decide +kernel) (by show 2 + 1 ≤ F; omega) (by show 8 + (2 + 11) + 120 ≤ Lo; omega) hce hsl hsum (fun w1 hw => ?_)
    obtain ⟨a2, rfl⟩ := hw
    have kk := k (va_up w 2 a2) (fun i hi => up_el hi)
    rw [g1, g2] at kk
    refine ax_sub (List.range 1 ++ (72 - 2) :: (72 - 1) :: (List.range (72 - (1 + 2))).map (1 + ·)) _ (by decide +kernel) (rg_put2 (cpW kA u w tx σ) 1 72 _ _ cp_len (by decide)) (ax_w (cpW kA u (va_up w 2 a2) tx (rAdd σ 101 2 x)) (by rw [e1, hfull]; rfl) kk)
  · have e1 : (rAdd σ 101 2 x) = (va_up σ.1 101 (σ.1 101 + 1), va_up σ.2.1 2 (upd (σ.2.1 2) (σ.1 101).toNatClampNeg x), σ.2.2) := by unfold rAdd; rw [if_neg hfull]
    have g1 : (rAdd σ 101 2 x).2.2 3001 - σ.2.2 3001 = 0 := by rw [e1]; simp
    have g2 : (rAdd σ 101 2 x).2.2 3002 - σ.2.2 3002 = 0 := by rw [e1]; simp
    rw [g1] at hce; rw [g2] at hsl
    refine ax_callVv C (As := [.int x]) (rest := rest) (wr := (cpW kA u w tx σ).take 1 ++ (cpW kA u w tx σ).drop (1 + 2)) (c_Row_add1 l D kA (u 1) (w 2) (σ.2.2 2) (σ.2.1 2) (σ.1 101) x hfull (bin_in (hb.resolve_left hfull))) L 1 rfl rfl rfl hdg rfl rfl [1, 2] (List.range 1 ++ (List.range (72 - (1 + 2))).map (1 + 2 + ·)) rfl (by decide) (rg_rm2 _ 1 72 cp_len (by decide)) (by decide +kernel) (by decide +kernel) (by show 0 + 1 ≤ F; omega) (by show 8 + (2 + 11) + 0 ≤ Lo; omega) hce hsl hsum (fun w1 hw => ?_)
    obtain rfl := hw
    have kk := k w (fun i _ => rfl)
    rw [g1, g2] at kk
    refine ax_sub (List.range 1 ++ (72 - 2) :: (72 - 1) :: (List.range (72 - (1 + 2))).map (1 + ·)) _ (by decide +kernel) (rg_put2 (cpW kA u w tx σ) 1 72 _ _ cp_len (by decide)) (ax_w (cpW kA u w tx (rAdd σ 101 2 x)) (by rw [e1]; rfl) kk)
set_option maxRecDepth 4000 in
theorem ca_3 (C : ax_C p s m args meth c cc own nL ret D kA A) {idx d : Nat} {x : Int32} (L : ax_LV own idx y_Row_add b_Row_add 2 none 1) (hdg : decode cc pc = .ok (.invokevirtual idx, 3)) (hb : rok σ 301 4 = true) (hF : d + 3 ≤ F) (hLo : 48 * d + 144 ≤ Lo) (hce : cells + ((rAdd σ 301 4 x).2.2 3001 - σ.2.2 3001) ≤ mc) (hsl : slots + ((rAdd σ 301 4 x).2.2 3002 - σ.2.2 3002) ≤ ms) (hsum : (rest.map fun v => v.category).sum ≤ 8)
    (k : ∀ w2 : Nat → Nat, (∀ i, ([4] : List Nat).elem i = false → w2 i = w i) → AW p l e { frames := F, cells := mc, slots := ms, locals := Lo } s m args below meth c D kA A nL Q (pc + 3) ls (rest) (cpW kA u w2 tx (rAdd σ 301 4 x)) (cells + ((rAdd σ 301 4 x).2.2 3001 - σ.2.2 3001)) (slots + ((rAdd σ 301 4 x).2.2 3002 - σ.2.2 3002))) : AW p l e { frames := F, cells := mc, slots := ms, locals := Lo } s m args below meth c D kA A nL Q (pc) ls (.int x :: .ref (u 3) :: rest) (cpW kA u w tx σ) (cells) (slots) := by
  simp only [rok, Bool.and_eq_true, Bool.or_eq_true, decide_eq_true_eq] at hb
  obtain ⟨hL, hb⟩ := hb
  by_cases hfull : σ.1 301 = Int32.ofNat (σ.2.2 4)
  · have e1 : (rAdd σ 301 4 x) = (va_up σ.1 301 (σ.1 301 + 1), va_up σ.2.1 4 (upd (va_cpy (σ.2.1 4) (fun _ => 0) 0 0 (σ.2.2 4)) (σ.2.2 4) x), va_up (va_up (va_up σ.2.2 4 (2 * σ.2.2 4 + 1)) 3001 (σ.2.2 3001 + 1)) 3002 (σ.2.2 3002 + (2 * σ.2.2 4 + 1))) := by unfold rAdd; rw [if_pos hfull]
    have g1 : (rAdd σ 301 4 x).2.2 3001 - σ.2.2 3001 = 1 := by rw [e1]; simp [va_up]
    have g2 : (rAdd σ 301 4 x).2.2 3002 - σ.2.2 3002 = 2 * σ.2.2 4 + 1 := by rw [e1]; simp [va_up]
    rw [g1] at hce; rw [g2] at hsl
    have hwn : cpW kA u w tx σ = cpW kA u w tx (va_up σ.1 301 (Int32.ofNat (σ.2.2 4)), σ.2) := by
      have : va_up σ.1 301 (Int32.ofNat (σ.2.2 4)) = σ.1 := by rw [← hfull]; funext j; unfold va_up; split <;> simp_all
      rw [this]
    refine ax_callVv C (As := [.int x]) (rest := rest) (wr := (cpW kA u w tx σ).take 3 ++ (cpW kA u w tx σ).drop (3 + 2)) (c_Row_add2 l D kA (u 3) (w 4) (σ.2.2 4) (σ.2.1 4) x hL) L 3 (by rw [hwn]; rfl) rfl rfl hdg rfl rfl [3, 4] (List.range 3 ++ (List.range (72 - (3 + 2))).map (3 + 2 + ·)) (by rw [hwn]; rfl) (by decide) (rg_rm2 _ 3 72 cp_len (by decide)) (by decide +kernel) (by decide +kernel) (by show 2 + 1 ≤ F; omega) (by show 8 + (2 + 11) + 120 ≤ Lo; omega) hce hsl hsum (fun w1 hw => ?_)
    obtain ⟨a2, rfl⟩ := hw
    have kk := k (va_up w 4 a2) (fun i hi => up_el hi)
    rw [g1, g2] at kk
    refine ax_sub (List.range 3 ++ (72 - 2) :: (72 - 1) :: (List.range (72 - (3 + 2))).map (3 + ·)) _ (by decide +kernel) (rg_put2 (cpW kA u w tx σ) 3 72 _ _ cp_len (by decide)) (ax_w (cpW kA u (va_up w 4 a2) tx (rAdd σ 301 4 x)) (by rw [e1, hfull]; rfl) kk)
  · have e1 : (rAdd σ 301 4 x) = (va_up σ.1 301 (σ.1 301 + 1), va_up σ.2.1 4 (upd (σ.2.1 4) (σ.1 301).toNatClampNeg x), σ.2.2) := by unfold rAdd; rw [if_neg hfull]
    have g1 : (rAdd σ 301 4 x).2.2 3001 - σ.2.2 3001 = 0 := by rw [e1]; simp
    have g2 : (rAdd σ 301 4 x).2.2 3002 - σ.2.2 3002 = 0 := by rw [e1]; simp
    rw [g1] at hce; rw [g2] at hsl
    refine ax_callVv C (As := [.int x]) (rest := rest) (wr := (cpW kA u w tx σ).take 3 ++ (cpW kA u w tx σ).drop (3 + 2)) (c_Row_add1 l D kA (u 3) (w 4) (σ.2.2 4) (σ.2.1 4) (σ.1 301) x hfull (bin_in (hb.resolve_left hfull))) L 3 rfl rfl rfl hdg rfl rfl [3, 4] (List.range 3 ++ (List.range (72 - (3 + 2))).map (3 + 2 + ·)) rfl (by decide) (rg_rm2 _ 3 72 cp_len (by decide)) (by decide +kernel) (by decide +kernel) (by show 0 + 1 ≤ F; omega) (by show 8 + (2 + 11) + 0 ≤ Lo; omega) hce hsl hsum (fun w1 hw => ?_)
    obtain rfl := hw
    have kk := k w (fun i _ => rfl)
    rw [g1, g2] at kk
    refine ax_sub (List.range 3 ++ (72 - 2) :: (72 - 1) :: (List.range (72 - (3 + 2))).map (3 + ·)) _ (by decide +kernel) (rg_put2 (cpW kA u w tx σ) 3 72 _ _ cp_len (by decide)) (ax_w (cpW kA u w tx (rAdd σ 301 4 x)) (by rw [e1]; rfl) kk)
set_option maxRecDepth 4000 in
theorem ca_10 (C : ax_C p s m args meth c cc own nL ret D kA A) {idx d : Nat} {x : Int32} (L : ax_LV own idx y_Row_add b_Row_add 2 none 1) (hdg : decode cc pc = .ok (.invokevirtual idx, 3)) (hb : rok σ 1001 11 = true) (hF : d + 3 ≤ F) (hLo : 48 * d + 144 ≤ Lo) (hce : cells + ((rAdd σ 1001 11 x).2.2 3001 - σ.2.2 3001) ≤ mc) (hsl : slots + ((rAdd σ 1001 11 x).2.2 3002 - σ.2.2 3002) ≤ ms) (hsum : (rest.map fun v => v.category).sum ≤ 8)
    (k : ∀ w2 : Nat → Nat, (∀ i, ([11] : List Nat).elem i = false → w2 i = w i) → AW p l e { frames := F, cells := mc, slots := ms, locals := Lo } s m args below meth c D kA A nL Q (pc + 3) ls (rest) (cpW kA u w2 tx (rAdd σ 1001 11 x)) (cells + ((rAdd σ 1001 11 x).2.2 3001 - σ.2.2 3001)) (slots + ((rAdd σ 1001 11 x).2.2 3002 - σ.2.2 3002))) : AW p l e { frames := F, cells := mc, slots := ms, locals := Lo } s m args below meth c D kA A nL Q (pc) ls (.int x :: .ref (u 10) :: rest) (cpW kA u w tx σ) (cells) (slots) := by
  simp only [rok, Bool.and_eq_true, Bool.or_eq_true, decide_eq_true_eq] at hb
  obtain ⟨hL, hb⟩ := hb
  by_cases hfull : σ.1 1001 = Int32.ofNat (σ.2.2 11)
  · have e1 : (rAdd σ 1001 11 x) = (va_up σ.1 1001 (σ.1 1001 + 1), va_up σ.2.1 11 (upd (va_cpy (σ.2.1 11) (fun _ => 0) 0 0 (σ.2.2 11)) (σ.2.2 11) x), va_up (va_up (va_up σ.2.2 11 (2 * σ.2.2 11 + 1)) 3001 (σ.2.2 3001 + 1)) 3002 (σ.2.2 3002 + (2 * σ.2.2 11 + 1))) := by unfold rAdd; rw [if_pos hfull]
    have g1 : (rAdd σ 1001 11 x).2.2 3001 - σ.2.2 3001 = 1 := by rw [e1]; simp [va_up]
    have g2 : (rAdd σ 1001 11 x).2.2 3002 - σ.2.2 3002 = 2 * σ.2.2 11 + 1 := by rw [e1]; simp [va_up]
    rw [g1] at hce; rw [g2] at hsl
    have hwn : cpW kA u w tx σ = cpW kA u w tx (va_up σ.1 1001 (Int32.ofNat (σ.2.2 11)), σ.2) := by
      have : va_up σ.1 1001 (Int32.ofNat (σ.2.2 11)) = σ.1 := by rw [← hfull]; funext j; unfold va_up; split <;> simp_all
      rw [this]
    refine ax_callVv C (As := [.int x]) (rest := rest) (wr := (cpW kA u w tx σ).take 10 ++ (cpW kA u w tx σ).drop (10 + 2)) (c_Row_add2 l D kA (u 10) (w 11) (σ.2.2 11) (σ.2.1 11) x hL) L 10 (by rw [hwn]; rfl) rfl rfl hdg rfl rfl [10, 11] (List.range 10 ++ (List.range (72 - (10 + 2))).map (10 + 2 + ·)) (by rw [hwn]; rfl) (by decide) (rg_rm2 _ 10 72 cp_len (by decide)) (by decide +kernel) (by decide +kernel) (by show 2 + 1 ≤ F; omega) (by show 8 + (2 + 11) + 120 ≤ Lo; omega) hce hsl hsum (fun w1 hw => ?_)
    obtain ⟨a2, rfl⟩ := hw
    have kk := k (va_up w 11 a2) (fun i hi => up_el hi)
    rw [g1, g2] at kk
    refine ax_sub (List.range 10 ++ (72 - 2) :: (72 - 1) :: (List.range (72 - (10 + 2))).map (10 + ·)) _ (by decide +kernel) (rg_put2 (cpW kA u w tx σ) 10 72 _ _ cp_len (by decide)) (ax_w (cpW kA u (va_up w 11 a2) tx (rAdd σ 1001 11 x)) (by rw [e1, hfull]; rfl) kk)
  · have e1 : (rAdd σ 1001 11 x) = (va_up σ.1 1001 (σ.1 1001 + 1), va_up σ.2.1 11 (upd (σ.2.1 11) (σ.1 1001).toNatClampNeg x), σ.2.2) := by unfold rAdd; rw [if_neg hfull]
    have g1 : (rAdd σ 1001 11 x).2.2 3001 - σ.2.2 3001 = 0 := by rw [e1]; simp
    have g2 : (rAdd σ 1001 11 x).2.2 3002 - σ.2.2 3002 = 0 := by rw [e1]; simp
    rw [g1] at hce; rw [g2] at hsl
    refine ax_callVv C (As := [.int x]) (rest := rest) (wr := (cpW kA u w tx σ).take 10 ++ (cpW kA u w tx σ).drop (10 + 2)) (c_Row_add1 l D kA (u 10) (w 11) (σ.2.2 11) (σ.2.1 11) (σ.1 1001) x hfull (bin_in (hb.resolve_left hfull))) L 10 rfl rfl rfl hdg rfl rfl [10, 11] (List.range 10 ++ (List.range (72 - (10 + 2))).map (10 + 2 + ·)) rfl (by decide) (rg_rm2 _ 10 72 cp_len (by decide)) (by decide +kernel) (by decide +kernel) (by show 0 + 1 ≤ F; omega) (by show 8 + (2 + 11) + 0 ≤ Lo; omega) hce hsl hsum (fun w1 hw => ?_)
    obtain rfl := hw
    have kk := k w (fun i _ => rfl)
    rw [g1, g2] at kk
    refine ax_sub (List.range 10 ++ (72 - 2) :: (72 - 1) :: (List.range (72 - (10 + 2))).map (10 + ·)) _ (by decide +kernel) (rg_put2 (cpW kA u w tx σ) 10 72 _ _ cp_len (by decide)) (ax_w (cpW kA u w tx (rAdd σ 1001 11 x)) (by rw [e1]; rfl) kk)
set_option maxRecDepth 4000 in
theorem ca_15 (C : ax_C p s m args meth c cc own nL ret D kA A) {idx d : Nat} {x : Int32} (L : ax_LV own idx y_Row_add b_Row_add 2 none 1) (hdg : decode cc pc = .ok (.invokevirtual idx, 3)) (hb : rok σ 1501 16 = true) (hF : d + 3 ≤ F) (hLo : 48 * d + 144 ≤ Lo) (hce : cells + ((rAdd σ 1501 16 x).2.2 3001 - σ.2.2 3001) ≤ mc) (hsl : slots + ((rAdd σ 1501 16 x).2.2 3002 - σ.2.2 3002) ≤ ms) (hsum : (rest.map fun v => v.category).sum ≤ 8)
    (k : ∀ w2 : Nat → Nat, (∀ i, ([16] : List Nat).elem i = false → w2 i = w i) → AW p l e { frames := F, cells := mc, slots := ms, locals := Lo } s m args below meth c D kA A nL Q (pc + 3) ls (rest) (cpW kA u w2 tx (rAdd σ 1501 16 x)) (cells + ((rAdd σ 1501 16 x).2.2 3001 - σ.2.2 3001)) (slots + ((rAdd σ 1501 16 x).2.2 3002 - σ.2.2 3002))) : AW p l e { frames := F, cells := mc, slots := ms, locals := Lo } s m args below meth c D kA A nL Q (pc) ls (.int x :: .ref (u 15) :: rest) (cpW kA u w tx σ) (cells) (slots) := by
  simp only [rok, Bool.and_eq_true, Bool.or_eq_true, decide_eq_true_eq] at hb
  obtain ⟨hL, hb⟩ := hb
  by_cases hfull : σ.1 1501 = Int32.ofNat (σ.2.2 16)
  · have e1 : (rAdd σ 1501 16 x) = (va_up σ.1 1501 (σ.1 1501 + 1), va_up σ.2.1 16 (upd (va_cpy (σ.2.1 16) (fun _ => 0) 0 0 (σ.2.2 16)) (σ.2.2 16) x), va_up (va_up (va_up σ.2.2 16 (2 * σ.2.2 16 + 1)) 3001 (σ.2.2 3001 + 1)) 3002 (σ.2.2 3002 + (2 * σ.2.2 16 + 1))) := by unfold rAdd; rw [if_pos hfull]
    have g1 : (rAdd σ 1501 16 x).2.2 3001 - σ.2.2 3001 = 1 := by rw [e1]; simp [va_up]
    have g2 : (rAdd σ 1501 16 x).2.2 3002 - σ.2.2 3002 = 2 * σ.2.2 16 + 1 := by rw [e1]; simp [va_up]
    rw [g1] at hce; rw [g2] at hsl
    have hwn : cpW kA u w tx σ = cpW kA u w tx (va_up σ.1 1501 (Int32.ofNat (σ.2.2 16)), σ.2) := by
      have : va_up σ.1 1501 (Int32.ofNat (σ.2.2 16)) = σ.1 := by rw [← hfull]; funext j; unfold va_up; split <;> simp_all
      rw [this]
    refine ax_callVv C (As := [.int x]) (rest := rest) (wr := (cpW kA u w tx σ).take 15 ++ (cpW kA u w tx σ).drop (15 + 2)) (c_Row_add2 l D kA (u 15) (w 16) (σ.2.2 16) (σ.2.1 16) x hL) L 15 (by rw [hwn]; rfl) rfl rfl hdg rfl rfl [15, 16] (List.range 15 ++ (List.range (72 - (15 + 2))).map (15 + 2 + ·)) (by rw [hwn]; rfl) (by decide) (rg_rm2 _ 15 72 cp_len (by decide)) (by decide +kernel) (by decide +kernel) (by show 2 + 1 ≤ F; omega) (by show 8 + (2 + 11) + 120 ≤ Lo; omega) hce hsl hsum (fun w1 hw => ?_)
    obtain ⟨a2, rfl⟩ := hw
    have kk := k (va_up w 16 a2) (fun i hi => up_el hi)
    rw [g1, g2] at kk
    refine ax_sub (List.range 15 ++ (72 - 2) :: (72 - 1) :: (List.range (72 - (15 + 2))).map (15 + ·)) _ (by decide +kernel) (rg_put2 (cpW kA u w tx σ) 15 72 _ _ cp_len (by decide)) (ax_w (cpW kA u (va_up w 16 a2) tx (rAdd σ 1501 16 x)) (by rw [e1, hfull]; rfl) kk)
  · have e1 : (rAdd σ 1501 16 x) = (va_up σ.1 1501 (σ.1 1501 + 1), va_up σ.2.1 16 (upd (σ.2.1 16) (σ.1 1501).toNatClampNeg x), σ.2.2) := by unfold rAdd; rw [if_neg hfull]
    have g1 : (rAdd σ 1501 16 x).2.2 3001 - σ.2.2 3001 = 0 := by rw [e1]; simp
    have g2 : (rAdd σ 1501 16 x).2.2 3002 - σ.2.2 3002 = 0 := by rw [e1]; simp
    rw [g1] at hce; rw [g2] at hsl
    refine ax_callVv C (As := [.int x]) (rest := rest) (wr := (cpW kA u w tx σ).take 15 ++ (cpW kA u w tx σ).drop (15 + 2)) (c_Row_add1 l D kA (u 15) (w 16) (σ.2.2 16) (σ.2.1 16) (σ.1 1501) x hfull (bin_in (hb.resolve_left hfull))) L 15 rfl rfl rfl hdg rfl rfl [15, 16] (List.range 15 ++ (List.range (72 - (15 + 2))).map (15 + 2 + ·)) rfl (by decide) (rg_rm2 _ 15 72 cp_len (by decide)) (by decide +kernel) (by decide +kernel) (by show 0 + 1 ≤ F; omega) (by show 8 + (2 + 11) + 0 ≤ Lo; omega) hce hsl hsum (fun w1 hw => ?_)
    obtain rfl := hw
    have kk := k w (fun i _ => rfl)
    rw [g1, g2] at kk
    refine ax_sub (List.range 15 ++ (72 - 2) :: (72 - 1) :: (List.range (72 - (15 + 2))).map (15 + ·)) _ (by decide +kernel) (rg_put2 (cpW kA u w tx σ) 15 72 _ _ cp_len (by decide)) (ax_w (cpW kA u w tx (rAdd σ 1501 16 x)) (by rw [e1]; rfl) kk)
set_option maxRecDepth 4000 in
theorem ca_18 (C : ax_C p s m args meth c cc own nL ret D kA A) {idx d : Nat} {x : Int32} (L : ax_LV own idx y_Row_add b_Row_add 2 none 1) (hdg : decode cc pc = .ok (.invokevirtual idx, 3)) (hb : rok σ 1801 19 = true) (hF : d + 3 ≤ F) (hLo : 48 * d + 144 ≤ Lo) (hce : cells + ((rAdd σ 1801 19 x).2.2 3001 - σ.2.2 3001) ≤ mc) (hsl : slots + ((rAdd σ 1801 19 x).2.2 3002 - σ.2.2 3002) ≤ ms) (hsum : (rest.map fun v => v.category).sum ≤ 8)
    (k : ∀ w2 : Nat → Nat, (∀ i, ([19] : List Nat).elem i = false → w2 i = w i) → AW p l e { frames := F, cells := mc, slots := ms, locals := Lo } s m args below meth c D kA A nL Q (pc + 3) ls (rest) (cpW kA u w2 tx (rAdd σ 1801 19 x)) (cells + ((rAdd σ 1801 19 x).2.2 3001 - σ.2.2 3001)) (slots + ((rAdd σ 1801 19 x).2.2 3002 - σ.2.2 3002))) : AW p l e { frames := F, cells := mc, slots := ms, locals := Lo } s m args below meth c D kA A nL Q (pc) ls (.int x :: .ref (u 18) :: rest) (cpW kA u w tx σ) (cells) (slots) := by
  simp only [rok, Bool.and_eq_true, Bool.or_eq_true, decide_eq_true_eq] at hb
  obtain ⟨hL, hb⟩ := hb
  by_cases hfull : σ.1 1801 = Int32.ofNat (σ.2.2 19)
  · have e1 : (rAdd σ 1801 19 x) = (va_up σ.1 1801 (σ.1 1801 + 1), va_up σ.2.1 19 (upd (va_cpy (σ.2.1 19) (fun _ => 0) 0 0 (σ.2.2 19)) (σ.2.2 19) x), va_up (va_up (va_up σ.2.2 19 (2 * σ.2.2 19 + 1)) 3001 (σ.2.2 3001 + 1)) 3002 (σ.2.2 3002 + (2 * σ.2.2 19 + 1))) := by unfold rAdd; rw [if_pos hfull]
    have g1 : (rAdd σ 1801 19 x).2.2 3001 - σ.2.2 3001 = 1 := by rw [e1]; simp [va_up]
    have g2 : (rAdd σ 1801 19 x).2.2 3002 - σ.2.2 3002 = 2 * σ.2.2 19 + 1 := by rw [e1]; simp [va_up]
    rw [g1] at hce; rw [g2] at hsl
    have hwn : cpW kA u w tx σ = cpW kA u w tx (va_up σ.1 1801 (Int32.ofNat (σ.2.2 19)), σ.2) := by
      have : va_up σ.1 1801 (Int32.ofNat (σ.2.2 19)) = σ.1 := by rw [← hfull]; funext j; unfold va_up; split <;> simp_all
      rw [this]
    refine ax_callVv C (As := [.int x]) (rest := rest) (wr := (cpW kA u w tx σ).take 18 ++ (cpW kA u w tx σ).drop (18 + 2)) (c_Row_add2 l D kA (u 18) (w 19) (σ.2.2 19) (σ.2.1 19) x hL) L 18 (by rw [hwn]; rfl) rfl rfl hdg rfl rfl [18, 19] (List.range 18 ++ (List.range (72 - (18 + 2))).map (18 + 2 + ·)) (by rw [hwn]; rfl) (by decide) (rg_rm2 _ 18 72 cp_len (by decide)) (by decide +kernel) (by decide +kernel) (by show 2 + 1 ≤ F; omega) (by show 8 + (2 + 11) + 120 ≤ Lo; omega) hce hsl hsum (fun w1 hw => ?_)
    obtain ⟨a2, rfl⟩ := hw
    have kk := k (va_up w 19 a2) (fun i hi => up_el hi)
    rw [g1, g2] at kk
    refine ax_sub (List.range 18 ++ (72 - 2) :: (72 - 1) :: (List.range (72 - (18 + 2))).map (18 + ·)) _ (by decide +kernel) (rg_put2 (cpW kA u w tx σ) 18 72 _ _ cp_len (by decide)) (ax_w (cpW kA u (va_up w 19 a2) tx (rAdd σ 1801 19 x)) (by rw [e1, hfull]; rfl) kk)
  · have e1 : (rAdd σ 1801 19 x) = (va_up σ.1 1801 (σ.1 1801 + 1), va_up σ.2.1 19 (upd (σ.2.1 19) (σ.1 1801).toNatClampNeg x), σ.2.2) := by unfold rAdd; rw [if_neg hfull]
    have g1 : (rAdd σ 1801 19 x).2.2 3001 - σ.2.2 3001 = 0 := by rw [e1]; simp
    have g2 : (rAdd σ 1801 19 x).2.2 3002 - σ.2.2 3002 = 0 := by rw [e1]; simp
    rw [g1] at hce; rw [g2] at hsl
    refine ax_callVv C (As := [.int x]) (rest := rest) (wr := (cpW kA u w tx σ).take 18 ++ (cpW kA u w tx σ).drop (18 + 2)) (c_Row_add1 l D kA (u 18) (w 19) (σ.2.2 19) (σ.2.1 19) (σ.1 1801) x hfull (bin_in (hb.resolve_left hfull))) L 18 rfl rfl rfl hdg rfl rfl [18, 19] (List.range 18 ++ (List.range (72 - (18 + 2))).map (18 + 2 + ·)) rfl (by decide) (rg_rm2 _ 18 72 cp_len (by decide)) (by decide +kernel) (by decide +kernel) (by show 0 + 1 ≤ F; omega) (by show 8 + (2 + 11) + 0 ≤ Lo; omega) hce hsl hsum (fun w1 hw => ?_)
    obtain rfl := hw
    have kk := k w (fun i _ => rfl)
    rw [g1, g2] at kk
    refine ax_sub (List.range 18 ++ (72 - 2) :: (72 - 1) :: (List.range (72 - (18 + 2))).map (18 + ·)) _ (by decide +kernel) (rg_put2 (cpW kA u w tx σ) 18 72 _ _ cp_len (by decide)) (ax_w (cpW kA u w tx (rAdd σ 1801 19 x)) (by rw [e1]; rfl) kk)
set_option maxRecDepth 4000 in
theorem ca_20 (C : ax_C p s m args meth c cc own nL ret D kA A) {idx d : Nat} {x : Int32} (L : ax_LV own idx y_Row_add b_Row_add 2 none 1) (hdg : decode cc pc = .ok (.invokevirtual idx, 3)) (hb : rok σ 2001 21 = true) (hF : d + 3 ≤ F) (hLo : 48 * d + 144 ≤ Lo) (hce : cells + ((rAdd σ 2001 21 x).2.2 3001 - σ.2.2 3001) ≤ mc) (hsl : slots + ((rAdd σ 2001 21 x).2.2 3002 - σ.2.2 3002) ≤ ms) (hsum : (rest.map fun v => v.category).sum ≤ 8)
    (k : ∀ w2 : Nat → Nat, (∀ i, ([21] : List Nat).elem i = false → w2 i = w i) → AW p l e { frames := F, cells := mc, slots := ms, locals := Lo } s m args below meth c D kA A nL Q (pc + 3) ls (rest) (cpW kA u w2 tx (rAdd σ 2001 21 x)) (cells + ((rAdd σ 2001 21 x).2.2 3001 - σ.2.2 3001)) (slots + ((rAdd σ 2001 21 x).2.2 3002 - σ.2.2 3002))) : AW p l e { frames := F, cells := mc, slots := ms, locals := Lo } s m args below meth c D kA A nL Q (pc) ls (.int x :: .ref (u 20) :: rest) (cpW kA u w tx σ) (cells) (slots) := by
  simp only [rok, Bool.and_eq_true, Bool.or_eq_true, decide_eq_true_eq] at hb
  obtain ⟨hL, hb⟩ := hb
  by_cases hfull : σ.1 2001 = Int32.ofNat (σ.2.2 21)
  · have e1 : (rAdd σ 2001 21 x) = (va_up σ.1 2001 (σ.1 2001 + 1), va_up σ.2.1 21 (upd (va_cpy (σ.2.1 21) (fun _ => 0) 0 0 (σ.2.2 21)) (σ.2.2 21) x), va_up (va_up (va_up σ.2.2 21 (2 * σ.2.2 21 + 1)) 3001 (σ.2.2 3001 + 1)) 3002 (σ.2.2 3002 + (2 * σ.2.2 21 + 1))) := by unfold rAdd; rw [if_pos hfull]
    have g1 : (rAdd σ 2001 21 x).2.2 3001 - σ.2.2 3001 = 1 := by rw [e1]; simp [va_up]
    have g2 : (rAdd σ 2001 21 x).2.2 3002 - σ.2.2 3002 = 2 * σ.2.2 21 + 1 := by rw [e1]; simp [va_up]
    rw [g1] at hce; rw [g2] at hsl
    have hwn : cpW kA u w tx σ = cpW kA u w tx (va_up σ.1 2001 (Int32.ofNat (σ.2.2 21)), σ.2) := by
      have : va_up σ.1 2001 (Int32.ofNat (σ.2.2 21)) = σ.1 := by rw [← hfull]; funext j; unfold va_up; split <;> simp_all
      rw [this]
    refine ax_callVv C (As := [.int x]) (rest := rest) (wr := (cpW kA u w tx σ).take 20 ++ (cpW kA u w tx σ).drop (20 + 2)) (c_Row_add2 l D kA (u 20) (w 21) (σ.2.2 21) (σ.2.1 21) x hL) L 20 (by rw [hwn]; rfl) rfl rfl hdg rfl rfl [20, 21] (List.range 20 ++ (List.range (72 - (20 + 2))).map (20 + 2 + ·)) (by rw [hwn]; rfl) (by decide) (rg_rm2 _ 20 72 cp_len (by decide)) (by decide +kernel) (by decide +kernel) (by show 2 + 1 ≤ F; omega) (by show 8 + (2 + 11) + 120 ≤ Lo; omega) hce hsl hsum (fun w1 hw => ?_)
    obtain ⟨a2, rfl⟩ := hw
    have kk := k (va_up w 21 a2) (fun i hi => up_el hi)
    rw [g1, g2] at kk
    refine ax_sub (List.range 20 ++ (72 - 2) :: (72 - 1) :: (List.range (72 - (20 + 2))).map (20 + ·)) _ (by decide +kernel) (rg_put2 (cpW kA u w tx σ) 20 72 _ _ cp_len (by decide)) (ax_w (cpW kA u (va_up w 21 a2) tx (rAdd σ 2001 21 x)) (by rw [e1, hfull]; rfl) kk)
  · have e1 : (rAdd σ 2001 21 x) = (va_up σ.1 2001 (σ.1 2001 + 1), va_up σ.2.1 21 (upd (σ.2.1 21) (σ.1 2001).toNatClampNeg x), σ.2.2) := by unfold rAdd; rw [if_neg hfull]
    have g1 : (rAdd σ 2001 21 x).2.2 3001 - σ.2.2 3001 = 0 := by rw [e1]; simp
    have g2 : (rAdd σ 2001 21 x).2.2 3002 - σ.2.2 3002 = 0 := by rw [e1]; simp
    rw [g1] at hce; rw [g2] at hsl
    refine ax_callVv C (As := [.int x]) (rest := rest) (wr := (cpW kA u w tx σ).take 20 ++ (cpW kA u w tx σ).drop (20 + 2)) (c_Row_add1 l D kA (u 20) (w 21) (σ.2.2 21) (σ.2.1 21) (σ.1 2001) x hfull (bin_in (hb.resolve_left hfull))) L 20 rfl rfl rfl hdg rfl rfl [20, 21] (List.range 20 ++ (List.range (72 - (20 + 2))).map (20 + 2 + ·)) rfl (by decide) (rg_rm2 _ 20 72 cp_len (by decide)) (by decide +kernel) (by decide +kernel) (by show 0 + 1 ≤ F; omega) (by show 8 + (2 + 11) + 0 ≤ Lo; omega) hce hsl hsum (fun w1 hw => ?_)
    obtain rfl := hw
    have kk := k w (fun i _ => rfl)
    rw [g1, g2] at kk
    refine ax_sub (List.range 20 ++ (72 - 2) :: (72 - 1) :: (List.range (72 - (20 + 2))).map (20 + ·)) _ (by decide +kernel) (rg_put2 (cpW kA u w tx σ) 20 72 _ _ cp_len (by decide)) (ax_w (cpW kA u w tx (rAdd σ 2001 21 x)) (by rw [e1]; rfl) kk)
set_option maxRecDepth 4000 in
theorem ca_29 (C : ax_C p s m args meth c cc own nL ret D kA A) {idx d : Nat} {x : Int32} (L : ax_LV own idx y_Row_add b_Row_add 2 none 1) (hdg : decode cc pc = .ok (.invokevirtual idx, 3)) (hb : rok σ 2901 30 = true) (hF : d + 3 ≤ F) (hLo : 48 * d + 144 ≤ Lo) (hce : cells + ((rAdd σ 2901 30 x).2.2 3001 - σ.2.2 3001) ≤ mc) (hsl : slots + ((rAdd σ 2901 30 x).2.2 3002 - σ.2.2 3002) ≤ ms) (hsum : (rest.map fun v => v.category).sum ≤ 8)
    (k : ∀ w2 : Nat → Nat, (∀ i, ([30] : List Nat).elem i = false → w2 i = w i) → AW p l e { frames := F, cells := mc, slots := ms, locals := Lo } s m args below meth c D kA A nL Q (pc + 3) ls (rest) (cpW kA u w2 tx (rAdd σ 2901 30 x)) (cells + ((rAdd σ 2901 30 x).2.2 3001 - σ.2.2 3001)) (slots + ((rAdd σ 2901 30 x).2.2 3002 - σ.2.2 3002))) : AW p l e { frames := F, cells := mc, slots := ms, locals := Lo } s m args below meth c D kA A nL Q (pc) ls (.int x :: .ref (u 29) :: rest) (cpW kA u w tx σ) (cells) (slots) := by
  simp only [rok, Bool.and_eq_true, Bool.or_eq_true, decide_eq_true_eq] at hb
  obtain ⟨hL, hb⟩ := hb
  by_cases hfull : σ.1 2901 = Int32.ofNat (σ.2.2 30)
  · have e1 : (rAdd σ 2901 30 x) = (va_up σ.1 2901 (σ.1 2901 + 1), va_up σ.2.1 30 (upd (va_cpy (σ.2.1 30) (fun _ => 0) 0 0 (σ.2.2 30)) (σ.2.2 30) x), va_up (va_up (va_up σ.2.2 30 (2 * σ.2.2 30 + 1)) 3001 (σ.2.2 3001 + 1)) 3002 (σ.2.2 3002 + (2 * σ.2.2 30 + 1))) := by unfold rAdd; rw [if_pos hfull]
    have g1 : (rAdd σ 2901 30 x).2.2 3001 - σ.2.2 3001 = 1 := by rw [e1]; simp [va_up]
    have g2 : (rAdd σ 2901 30 x).2.2 3002 - σ.2.2 3002 = 2 * σ.2.2 30 + 1 := by rw [e1]; simp [va_up]
    rw [g1] at hce; rw [g2] at hsl
    have hwn : cpW kA u w tx σ = cpW kA u w tx (va_up σ.1 2901 (Int32.ofNat (σ.2.2 30)), σ.2) := by
      have : va_up σ.1 2901 (Int32.ofNat (σ.2.2 30)) = σ.1 := by rw [← hfull]; funext j; unfold va_up; split <;> simp_all
      rw [this]
    refine ax_callVv C (As := [.int x]) (rest := rest) (wr := (cpW kA u w tx σ).take 29 ++ (cpW kA u w tx σ).drop (29 + 2)) (c_Row_add2 l D kA (u 29) (w 30) (σ.2.2 30) (σ.2.1 30) x hL) L 29 (by rw [hwn]; rfl) rfl rfl hdg rfl rfl [29, 30] (List.range 29 ++ (List.range (72 - (29 + 2))).map (29 + 2 + ·)) (by rw [hwn]; rfl) (by decide) (rg_rm2 _ 29 72 cp_len (by decide)) (by decide +kernel) (by decide +kernel) (by show 2 + 1 ≤ F; omega) (by show 8 + (2 + 11) + 120 ≤ Lo; omega) hce hsl hsum (fun w1 hw => ?_)
    obtain ⟨a2, rfl⟩ := hw
    have kk := k (va_up w 30 a2) (fun i hi => up_el hi)
    rw [g1, g2] at kk
    refine ax_sub (List.range 29 ++ (72 - 2) :: (72 - 1) :: (List.range (72 - (29 + 2))).map (29 + ·)) _ (by decide +kernel) (rg_put2 (cpW kA u w tx σ) 29 72 _ _ cp_len (by decide)) (ax_w (cpW kA u (va_up w 30 a2) tx (rAdd σ 2901 30 x)) (by rw [e1, hfull]; rfl) kk)
  · have e1 : (rAdd σ 2901 30 x) = (va_up σ.1 2901 (σ.1 2901 + 1), va_up σ.2.1 30 (upd (σ.2.1 30) (σ.1 2901).toNatClampNeg x), σ.2.2) := by unfold rAdd; rw [if_neg hfull]
    have g1 : (rAdd σ 2901 30 x).2.2 3001 - σ.2.2 3001 = 0 := by rw [e1]; simp
    have g2 : (rAdd σ 2901 30 x).2.2 3002 - σ.2.2 3002 = 0 := by rw [e1]; simp
    rw [g1] at hce; rw [g2] at hsl
    refine ax_callVv C (As := [.int x]) (rest := rest) (wr := (cpW kA u w tx σ).take 29 ++ (cpW kA u w tx σ).drop (29 + 2)) (c_Row_add1 l D kA (u 29) (w 30) (σ.2.2 30) (σ.2.1 30) (σ.1 2901) x hfull (bin_in (hb.resolve_left hfull))) L 29 rfl rfl rfl hdg rfl rfl [29, 30] (List.range 29 ++ (List.range (72 - (29 + 2))).map (29 + 2 + ·)) rfl (by decide) (rg_rm2 _ 29 72 cp_len (by decide)) (by decide +kernel) (by decide +kernel) (by show 0 + 1 ≤ F; omega) (by show 8 + (2 + 11) + 0 ≤ Lo; omega) hce hsl hsum (fun w1 hw => ?_)
    obtain rfl := hw
    have kk := k w (fun i _ => rfl)
    rw [g1, g2] at kk
    refine ax_sub (List.range 29 ++ (72 - 2) :: (72 - 1) :: (List.range (72 - (29 + 2))).map (29 + ·)) _ (by decide +kernel) (rg_put2 (cpW kA u w tx σ) 29 72 _ _ cp_len (by decide)) (ax_w (cpW kA u w tx (rAdd σ 2901 30 x)) (by rw [e1]; rfl) kk)
set_option maxRecDepth 4000 in
theorem ca_33 (C : ax_C p s m args meth c cc own nL ret D kA A) {idx d : Nat} {x : Int32} (L : ax_LV own idx y_Row_add b_Row_add 2 none 1) (hdg : decode cc pc = .ok (.invokevirtual idx, 3)) (hb : rok σ 3301 34 = true) (hF : d + 3 ≤ F) (hLo : 48 * d + 144 ≤ Lo) (hce : cells + ((rAdd σ 3301 34 x).2.2 3001 - σ.2.2 3001) ≤ mc) (hsl : slots + ((rAdd σ 3301 34 x).2.2 3002 - σ.2.2 3002) ≤ ms) (hsum : (rest.map fun v => v.category).sum ≤ 8)
    (k : ∀ w2 : Nat → Nat, (∀ i, ([34] : List Nat).elem i = false → w2 i = w i) → AW p l e { frames := F, cells := mc, slots := ms, locals := Lo } s m args below meth c D kA A nL Q (pc + 3) ls (rest) (cpW kA u w2 tx (rAdd σ 3301 34 x)) (cells + ((rAdd σ 3301 34 x).2.2 3001 - σ.2.2 3001)) (slots + ((rAdd σ 3301 34 x).2.2 3002 - σ.2.2 3002))) : AW p l e { frames := F, cells := mc, slots := ms, locals := Lo } s m args below meth c D kA A nL Q (pc) ls (.int x :: .ref (u 33) :: rest) (cpW kA u w tx σ) (cells) (slots) := by
  simp only [rok, Bool.and_eq_true, Bool.or_eq_true, decide_eq_true_eq] at hb
  obtain ⟨hL, hb⟩ := hb
  by_cases hfull : σ.1 3301 = Int32.ofNat (σ.2.2 34)
  · have e1 : (rAdd σ 3301 34 x) = (va_up σ.1 3301 (σ.1 3301 + 1), va_up σ.2.1 34 (upd (va_cpy (σ.2.1 34) (fun _ => 0) 0 0 (σ.2.2 34)) (σ.2.2 34) x), va_up (va_up (va_up σ.2.2 34 (2 * σ.2.2 34 + 1)) 3001 (σ.2.2 3001 + 1)) 3002 (σ.2.2 3002 + (2 * σ.2.2 34 + 1))) := by unfold rAdd; rw [if_pos hfull]
    have g1 : (rAdd σ 3301 34 x).2.2 3001 - σ.2.2 3001 = 1 := by rw [e1]; simp [va_up]
    have g2 : (rAdd σ 3301 34 x).2.2 3002 - σ.2.2 3002 = 2 * σ.2.2 34 + 1 := by rw [e1]; simp [va_up]
    rw [g1] at hce; rw [g2] at hsl
    have hwn : cpW kA u w tx σ = cpW kA u w tx (va_up σ.1 3301 (Int32.ofNat (σ.2.2 34)), σ.2) := by
      have : va_up σ.1 3301 (Int32.ofNat (σ.2.2 34)) = σ.1 := by rw [← hfull]; funext j; unfold va_up; split <;> simp_all
      rw [this]
    refine ax_callVv C (As := [.int x]) (rest := rest) (wr := (cpW kA u w tx σ).take 33 ++ (cpW kA u w tx σ).drop (33 + 2)) (c_Row_add2 l D kA (u 33) (w 34) (σ.2.2 34) (σ.2.1 34) x hL) L 33 (by rw [hwn]; rfl) rfl rfl hdg rfl rfl [33, 34] (List.range 33 ++ (List.range (72 - (33 + 2))).map (33 + 2 + ·)) (by rw [hwn]; rfl) (by decide) (rg_rm2 _ 33 72 cp_len (by decide)) (by decide +kernel) (by decide +kernel) (by show 2 + 1 ≤ F; omega) (by show 8 + (2 + 11) + 120 ≤ Lo; omega) hce hsl hsum (fun w1 hw => ?_)
    obtain ⟨a2, rfl⟩ := hw
    have kk := k (va_up w 34 a2) (fun i hi => up_el hi)
    rw [g1, g2] at kk
    refine ax_sub (List.range 33 ++ (72 - 2) :: (72 - 1) :: (List.range (72 - (33 + 2))).map (33 + ·)) _ (by decide +kernel) (rg_put2 (cpW kA u w tx σ) 33 72 _ _ cp_len (by decide)) (ax_w (cpW kA u (va_up w 34 a2) tx (rAdd σ 3301 34 x)) (by rw [e1, hfull]; rfl) kk)
  · have e1 : (rAdd σ 3301 34 x) = (va_up σ.1 3301 (σ.1 3301 + 1), va_up σ.2.1 34 (upd (σ.2.1 34) (σ.1 3301).toNatClampNeg x), σ.2.2) := by unfold rAdd; rw [if_neg hfull]
    have g1 : (rAdd σ 3301 34 x).2.2 3001 - σ.2.2 3001 = 0 := by rw [e1]; simp
    have g2 : (rAdd σ 3301 34 x).2.2 3002 - σ.2.2 3002 = 0 := by rw [e1]; simp
    rw [g1] at hce; rw [g2] at hsl
    refine ax_callVv C (As := [.int x]) (rest := rest) (wr := (cpW kA u w tx σ).take 33 ++ (cpW kA u w tx σ).drop (33 + 2)) (c_Row_add1 l D kA (u 33) (w 34) (σ.2.2 34) (σ.2.1 34) (σ.1 3301) x hfull (bin_in (hb.resolve_left hfull))) L 33 rfl rfl rfl hdg rfl rfl [33, 34] (List.range 33 ++ (List.range (72 - (33 + 2))).map (33 + 2 + ·)) rfl (by decide) (rg_rm2 _ 33 72 cp_len (by decide)) (by decide +kernel) (by decide +kernel) (by show 0 + 1 ≤ F; omega) (by show 8 + (2 + 11) + 0 ≤ Lo; omega) hce hsl hsum (fun w1 hw => ?_)
    obtain rfl := hw
    have kk := k w (fun i _ => rfl)
    rw [g1, g2] at kk
    refine ax_sub (List.range 33 ++ (72 - 2) :: (72 - 1) :: (List.range (72 - (33 + 2))).map (33 + ·)) _ (by decide +kernel) (rg_put2 (cpW kA u w tx σ) 33 72 _ _ cp_len (by decide)) (ax_w (cpW kA u w tx (rAdd σ 3301 34 x)) (by rw [e1]; rfl) kk)
set_option maxRecDepth 4000 in
theorem ca_35 (C : ax_C p s m args meth c cc own nL ret D kA A) {idx d : Nat} {x : Int32} (L : ax_LV own idx y_Row_add b_Row_add 2 none 1) (hdg : decode cc pc = .ok (.invokevirtual idx, 3)) (hb : rok σ 3501 36 = true) (hF : d + 3 ≤ F) (hLo : 48 * d + 144 ≤ Lo) (hce : cells + ((rAdd σ 3501 36 x).2.2 3001 - σ.2.2 3001) ≤ mc) (hsl : slots + ((rAdd σ 3501 36 x).2.2 3002 - σ.2.2 3002) ≤ ms) (hsum : (rest.map fun v => v.category).sum ≤ 8)
    (k : ∀ w2 : Nat → Nat, (∀ i, ([36] : List Nat).elem i = false → w2 i = w i) → AW p l e { frames := F, cells := mc, slots := ms, locals := Lo } s m args below meth c D kA A nL Q (pc + 3) ls (rest) (cpW kA u w2 tx (rAdd σ 3501 36 x)) (cells + ((rAdd σ 3501 36 x).2.2 3001 - σ.2.2 3001)) (slots + ((rAdd σ 3501 36 x).2.2 3002 - σ.2.2 3002))) : AW p l e { frames := F, cells := mc, slots := ms, locals := Lo } s m args below meth c D kA A nL Q (pc) ls (.int x :: .ref (u 35) :: rest) (cpW kA u w tx σ) (cells) (slots) := by
  simp only [rok, Bool.and_eq_true, Bool.or_eq_true, decide_eq_true_eq] at hb
  obtain ⟨hL, hb⟩ := hb
  by_cases hfull : σ.1 3501 = Int32.ofNat (σ.2.2 36)
  · have e1 : (rAdd σ 3501 36 x) = (va_up σ.1 3501 (σ.1 3501 + 1), va_up σ.2.1 36 (upd (va_cpy (σ.2.1 36) (fun _ => 0) 0 0 (σ.2.2 36)) (σ.2.2 36) x), va_up (va_up (va_up σ.2.2 36 (2 * σ.2.2 36 + 1)) 3001 (σ.2.2 3001 + 1)) 3002 (σ.2.2 3002 + (2 * σ.2.2 36 + 1))) := by unfold rAdd; rw [if_pos hfull]
    have g1 : (rAdd σ 3501 36 x).2.2 3001 - σ.2.2 3001 = 1 := by rw [e1]; simp [va_up]
    have g2 : (rAdd σ 3501 36 x).2.2 3002 - σ.2.2 3002 = 2 * σ.2.2 36 + 1 := by rw [e1]; simp [va_up]
    rw [g1] at hce; rw [g2] at hsl
    have hwn : cpW kA u w tx σ = cpW kA u w tx (va_up σ.1 3501 (Int32.ofNat (σ.2.2 36)), σ.2) := by
      have : va_up σ.1 3501 (Int32.ofNat (σ.2.2 36)) = σ.1 := by rw [← hfull]; funext j; unfold va_up; split <;> simp_all
      rw [this]
    refine ax_callVv C (As := [.int x]) (rest := rest) (wr := (cpW kA u w tx σ).take 35 ++ (cpW kA u w tx σ).drop (35 + 2)) (c_Row_add2 l D kA (u 35) (w 36) (σ.2.2 36) (σ.2.1 36) x hL) L 35 (by rw [hwn]; rfl) rfl rfl hdg rfl rfl [35, 36] (List.range 35 ++ (List.range (72 - (35 + 2))).map (35 + 2 + ·)) (by rw [hwn]; rfl) (by decide) (rg_rm2 _ 35 72 cp_len (by decide)) (by decide +kernel) (by decide +kernel) (by show 2 + 1 ≤ F; omega) (by show 8 + (2 + 11) + 120 ≤ Lo; omega) hce hsl hsum (fun w1 hw => ?_)
    obtain ⟨a2, rfl⟩ := hw
    have kk := k (va_up w 36 a2) (fun i hi => up_el hi)
    rw [g1, g2] at kk
    refine ax_sub (List.range 35 ++ (72 - 2) :: (72 - 1) :: (List.range (72 - (35 + 2))).map (35 + ·)) _ (by decide +kernel) (rg_put2 (cpW kA u w tx σ) 35 72 _ _ cp_len (by decide)) (ax_w (cpW kA u (va_up w 36 a2) tx (rAdd σ 3501 36 x)) (by rw [e1, hfull]; rfl) kk)
  · have e1 : (rAdd σ 3501 36 x) = (va_up σ.1 3501 (σ.1 3501 + 1), va_up σ.2.1 36 (upd (σ.2.1 36) (σ.1 3501).toNatClampNeg x), σ.2.2) := by unfold rAdd; rw [if_neg hfull]
    have g1 : (rAdd σ 3501 36 x).2.2 3001 - σ.2.2 3001 = 0 := by rw [e1]; simp
    have g2 : (rAdd σ 3501 36 x).2.2 3002 - σ.2.2 3002 = 0 := by rw [e1]; simp
    rw [g1] at hce; rw [g2] at hsl
    refine ax_callVv C (As := [.int x]) (rest := rest) (wr := (cpW kA u w tx σ).take 35 ++ (cpW kA u w tx σ).drop (35 + 2)) (c_Row_add1 l D kA (u 35) (w 36) (σ.2.2 36) (σ.2.1 36) (σ.1 3501) x hfull (bin_in (hb.resolve_left hfull))) L 35 rfl rfl rfl hdg rfl rfl [35, 36] (List.range 35 ++ (List.range (72 - (35 + 2))).map (35 + 2 + ·)) rfl (by decide) (rg_rm2 _ 35 72 cp_len (by decide)) (by decide +kernel) (by decide +kernel) (by show 0 + 1 ≤ F; omega) (by show 8 + (2 + 11) + 0 ≤ Lo; omega) hce hsl hsum (fun w1 hw => ?_)
    obtain rfl := hw
    have kk := k w (fun i _ => rfl)
    rw [g1, g2] at kk
    refine ax_sub (List.range 35 ++ (72 - 2) :: (72 - 1) :: (List.range (72 - (35 + 2))).map (35 + ·)) _ (by decide +kernel) (rg_put2 (cpW kA u w tx σ) 35 72 _ _ cp_len (by decide)) (ax_w (cpW kA u w tx (rAdd σ 3501 36 x)) (by rw [e1]; rfl) kk)
set_option maxRecDepth 4000 in
theorem ca_37 (C : ax_C p s m args meth c cc own nL ret D kA A) {idx d : Nat} {x : Int32} (L : ax_LV own idx y_Row_add b_Row_add 2 none 1) (hdg : decode cc pc = .ok (.invokevirtual idx, 3)) (hb : rok σ 3701 38 = true) (hF : d + 3 ≤ F) (hLo : 48 * d + 144 ≤ Lo) (hce : cells + ((rAdd σ 3701 38 x).2.2 3001 - σ.2.2 3001) ≤ mc) (hsl : slots + ((rAdd σ 3701 38 x).2.2 3002 - σ.2.2 3002) ≤ ms) (hsum : (rest.map fun v => v.category).sum ≤ 8)
    (k : ∀ w2 : Nat → Nat, (∀ i, ([38] : List Nat).elem i = false → w2 i = w i) → AW p l e { frames := F, cells := mc, slots := ms, locals := Lo } s m args below meth c D kA A nL Q (pc + 3) ls (rest) (cpW kA u w2 tx (rAdd σ 3701 38 x)) (cells + ((rAdd σ 3701 38 x).2.2 3001 - σ.2.2 3001)) (slots + ((rAdd σ 3701 38 x).2.2 3002 - σ.2.2 3002))) : AW p l e { frames := F, cells := mc, slots := ms, locals := Lo } s m args below meth c D kA A nL Q (pc) ls (.int x :: .ref (u 37) :: rest) (cpW kA u w tx σ) (cells) (slots) := by
  simp only [rok, Bool.and_eq_true, Bool.or_eq_true, decide_eq_true_eq] at hb
  obtain ⟨hL, hb⟩ := hb
  by_cases hfull : σ.1 3701 = Int32.ofNat (σ.2.2 38)
  · have e1 : (rAdd σ 3701 38 x) = (va_up σ.1 3701 (σ.1 3701 + 1), va_up σ.2.1 38 (upd (va_cpy (σ.2.1 38) (fun _ => 0) 0 0 (σ.2.2 38)) (σ.2.2 38) x), va_up (va_up (va_up σ.2.2 38 (2 * σ.2.2 38 + 1)) 3001 (σ.2.2 3001 + 1)) 3002 (σ.2.2 3002 + (2 * σ.2.2 38 + 1))) := by unfold rAdd; rw [if_pos hfull]
    have g1 : (rAdd σ 3701 38 x).2.2 3001 - σ.2.2 3001 = 1 := by rw [e1]; simp [va_up]
    have g2 : (rAdd σ 3701 38 x).2.2 3002 - σ.2.2 3002 = 2 * σ.2.2 38 + 1 := by rw [e1]; simp [va_up]
    rw [g1] at hce; rw [g2] at hsl
    have hwn : cpW kA u w tx σ = cpW kA u w tx (va_up σ.1 3701 (Int32.ofNat (σ.2.2 38)), σ.2) := by
      have : va_up σ.1 3701 (Int32.ofNat (σ.2.2 38)) = σ.1 := by rw [← hfull]; funext j; unfold va_up; split <;> simp_all
      rw [this]
    refine ax_callVv C (As := [.int x]) (rest := rest) (wr := (cpW kA u w tx σ).take 37 ++ (cpW kA u w tx σ).drop (37 + 2)) (c_Row_add2 l D kA (u 37) (w 38) (σ.2.2 38) (σ.2.1 38) x hL) L 37 (by rw [hwn]; rfl) rfl rfl hdg rfl rfl [37, 38] (List.range 37 ++ (List.range (72 - (37 + 2))).map (37 + 2 + ·)) (by rw [hwn]; rfl) (by decide) (rg_rm2 _ 37 72 cp_len (by decide)) (by decide +kernel) (by decide +kernel) (by show 2 + 1 ≤ F; omega) (by show 8 + (2 + 11) + 120 ≤ Lo; omega) hce hsl hsum (fun w1 hw => ?_)
    obtain ⟨a2, rfl⟩ := hw
    have kk := k (va_up w 38 a2) (fun i hi => up_el hi)
    rw [g1, g2] at kk
    refine ax_sub (List.range 37 ++ (72 - 2) :: (72 - 1) :: (List.range (72 - (37 + 2))).map (37 + ·)) _ (by decide +kernel) (rg_put2 (cpW kA u w tx σ) 37 72 _ _ cp_len (by decide)) (ax_w (cpW kA u (va_up w 38 a2) tx (rAdd σ 3701 38 x)) (by rw [e1, hfull]; rfl) kk)
  · have e1 : (rAdd σ 3701 38 x) = (va_up σ.1 3701 (σ.1 3701 + 1), va_up σ.2.1 38 (upd (σ.2.1 38) (σ.1 3701).toNatClampNeg x), σ.2.2) := by unfold rAdd; rw [if_neg hfull]
    have g1 : (rAdd σ 3701 38 x).2.2 3001 - σ.2.2 3001 = 0 := by rw [e1]; simp
    have g2 : (rAdd σ 3701 38 x).2.2 3002 - σ.2.2 3002 = 0 := by rw [e1]; simp
    rw [g1] at hce; rw [g2] at hsl
    refine ax_callVv C (As := [.int x]) (rest := rest) (wr := (cpW kA u w tx σ).take 37 ++ (cpW kA u w tx σ).drop (37 + 2)) (c_Row_add1 l D kA (u 37) (w 38) (σ.2.2 38) (σ.2.1 38) (σ.1 3701) x hfull (bin_in (hb.resolve_left hfull))) L 37 rfl rfl rfl hdg rfl rfl [37, 38] (List.range 37 ++ (List.range (72 - (37 + 2))).map (37 + 2 + ·)) rfl (by decide) (rg_rm2 _ 37 72 cp_len (by decide)) (by decide +kernel) (by decide +kernel) (by show 0 + 1 ≤ F; omega) (by show 8 + (2 + 11) + 0 ≤ Lo; omega) hce hsl hsum (fun w1 hw => ?_)
    obtain rfl := hw
    have kk := k w (fun i _ => rfl)
    rw [g1, g2] at kk
    refine ax_sub (List.range 37 ++ (72 - 2) :: (72 - 1) :: (List.range (72 - (37 + 2))).map (37 + ·)) _ (by decide +kernel) (rg_put2 (cpW kA u w tx σ) 37 72 _ _ cp_len (by decide)) (ax_w (cpW kA u w tx (rAdd σ 3701 38 x)) (by rw [e1]; rfl) kk)
set_option maxRecDepth 4000 in
theorem ca_47 (C : ax_C p s m args meth c cc own nL ret D kA A) {idx d : Nat} {x : Int32} (L : ax_LV own idx y_Row_add b_Row_add 2 none 1) (hdg : decode cc pc = .ok (.invokevirtual idx, 3)) (hb : rok σ 4701 48 = true) (hF : d + 3 ≤ F) (hLo : 48 * d + 144 ≤ Lo) (hce : cells + ((rAdd σ 4701 48 x).2.2 3001 - σ.2.2 3001) ≤ mc) (hsl : slots + ((rAdd σ 4701 48 x).2.2 3002 - σ.2.2 3002) ≤ ms) (hsum : (rest.map fun v => v.category).sum ≤ 8)
    (k : ∀ w2 : Nat → Nat, (∀ i, ([48] : List Nat).elem i = false → w2 i = w i) → AW p l e { frames := F, cells := mc, slots := ms, locals := Lo } s m args below meth c D kA A nL Q (pc + 3) ls (rest) (cpW kA u w2 tx (rAdd σ 4701 48 x)) (cells + ((rAdd σ 4701 48 x).2.2 3001 - σ.2.2 3001)) (slots + ((rAdd σ 4701 48 x).2.2 3002 - σ.2.2 3002))) : AW p l e { frames := F, cells := mc, slots := ms, locals := Lo } s m args below meth c D kA A nL Q (pc) ls (.int x :: .ref (u 47) :: rest) (cpW kA u w tx σ) (cells) (slots) := by
  simp only [rok, Bool.and_eq_true, Bool.or_eq_true, decide_eq_true_eq] at hb
  obtain ⟨hL, hb⟩ := hb
  by_cases hfull : σ.1 4701 = Int32.ofNat (σ.2.2 48)
  · have e1 : (rAdd σ 4701 48 x) = (va_up σ.1 4701 (σ.1 4701 + 1), va_up σ.2.1 48 (upd (va_cpy (σ.2.1 48) (fun _ => 0) 0 0 (σ.2.2 48)) (σ.2.2 48) x), va_up (va_up (va_up σ.2.2 48 (2 * σ.2.2 48 + 1)) 3001 (σ.2.2 3001 + 1)) 3002 (σ.2.2 3002 + (2 * σ.2.2 48 + 1))) := by unfold rAdd; rw [if_pos hfull]
    have g1 : (rAdd σ 4701 48 x).2.2 3001 - σ.2.2 3001 = 1 := by rw [e1]; simp [va_up]
    have g2 : (rAdd σ 4701 48 x).2.2 3002 - σ.2.2 3002 = 2 * σ.2.2 48 + 1 := by rw [e1]; simp [va_up]
    rw [g1] at hce; rw [g2] at hsl
    have hwn : cpW kA u w tx σ = cpW kA u w tx (va_up σ.1 4701 (Int32.ofNat (σ.2.2 48)), σ.2) := by
      have : va_up σ.1 4701 (Int32.ofNat (σ.2.2 48)) = σ.1 := by rw [← hfull]; funext j; unfold va_up; split <;> simp_all
      rw [this]
    refine ax_callVv C (As := [.int x]) (rest := rest) (wr := (cpW kA u w tx σ).take 47 ++ (cpW kA u w tx σ).drop (47 + 2)) (c_Row_add2 l D kA (u 47) (w 48) (σ.2.2 48) (σ.2.1 48) x hL) L 47 (by rw [hwn]; rfl) rfl rfl hdg rfl rfl [47, 48] (List.range 47 ++ (List.range (72 - (47 + 2))).map (47 + 2 + ·)) (by rw [hwn]; rfl) (by decide) (rg_rm2 _ 47 72 cp_len (by decide)) (by decide +kernel) (by decide +kernel) (by show 2 + 1 ≤ F; omega) (by show 8 + (2 + 11) + 120 ≤ Lo; omega) hce hsl hsum (fun w1 hw => ?_)
    obtain ⟨a2, rfl⟩ := hw
    have kk := k (va_up w 48 a2) (fun i hi => up_el hi)
    rw [g1, g2] at kk
    refine ax_sub (List.range 47 ++ (72 - 2) :: (72 - 1) :: (List.range (72 - (47 + 2))).map (47 + ·)) _ (by decide +kernel) (rg_put2 (cpW kA u w tx σ) 47 72 _ _ cp_len (by decide)) (ax_w (cpW kA u (va_up w 48 a2) tx (rAdd σ 4701 48 x)) (by rw [e1, hfull]; rfl) kk)
  · have e1 : (rAdd σ 4701 48 x) = (va_up σ.1 4701 (σ.1 4701 + 1), va_up σ.2.1 48 (upd (σ.2.1 48) (σ.1 4701).toNatClampNeg x), σ.2.2) := by unfold rAdd; rw [if_neg hfull]
    have g1 : (rAdd σ 4701 48 x).2.2 3001 - σ.2.2 3001 = 0 := by rw [e1]; simp
    have g2 : (rAdd σ 4701 48 x).2.2 3002 - σ.2.2 3002 = 0 := by rw [e1]; simp
    rw [g1] at hce; rw [g2] at hsl
    refine ax_callVv C (As := [.int x]) (rest := rest) (wr := (cpW kA u w tx σ).take 47 ++ (cpW kA u w tx σ).drop (47 + 2)) (c_Row_add1 l D kA (u 47) (w 48) (σ.2.2 48) (σ.2.1 48) (σ.1 4701) x hfull (bin_in (hb.resolve_left hfull))) L 47 rfl rfl rfl hdg rfl rfl [47, 48] (List.range 47 ++ (List.range (72 - (47 + 2))).map (47 + 2 + ·)) rfl (by decide) (rg_rm2 _ 47 72 cp_len (by decide)) (by decide +kernel) (by decide +kernel) (by show 0 + 1 ≤ F; omega) (by show 8 + (2 + 11) + 0 ≤ Lo; omega) hce hsl hsum (fun w1 hw => ?_)
    obtain rfl := hw
    have kk := k w (fun i _ => rfl)
    rw [g1, g2] at kk
    refine ax_sub (List.range 47 ++ (72 - 2) :: (72 - 1) :: (List.range (72 - (47 + 2))).map (47 + ·)) _ (by decide +kernel) (rg_put2 (cpW kA u w tx σ) 47 72 _ _ cp_len (by decide)) (ax_w (cpW kA u w tx (rAdd σ 4701 48 x)) (by rw [e1]; rfl) kk)
set_option maxRecDepth 4000 in
theorem ca_49 (C : ax_C p s m args meth c cc own nL ret D kA A) {idx d : Nat} {x : Int32} (L : ax_LV own idx y_Row_add b_Row_add 2 none 1) (hdg : decode cc pc = .ok (.invokevirtual idx, 3)) (hb : rok σ 4901 50 = true) (hF : d + 3 ≤ F) (hLo : 48 * d + 144 ≤ Lo) (hce : cells + ((rAdd σ 4901 50 x).2.2 3001 - σ.2.2 3001) ≤ mc) (hsl : slots + ((rAdd σ 4901 50 x).2.2 3002 - σ.2.2 3002) ≤ ms) (hsum : (rest.map fun v => v.category).sum ≤ 8)
    (k : ∀ w2 : Nat → Nat, (∀ i, ([50] : List Nat).elem i = false → w2 i = w i) → AW p l e { frames := F, cells := mc, slots := ms, locals := Lo } s m args below meth c D kA A nL Q (pc + 3) ls (rest) (cpW kA u w2 tx (rAdd σ 4901 50 x)) (cells + ((rAdd σ 4901 50 x).2.2 3001 - σ.2.2 3001)) (slots + ((rAdd σ 4901 50 x).2.2 3002 - σ.2.2 3002))) : AW p l e { frames := F, cells := mc, slots := ms, locals := Lo } s m args below meth c D kA A nL Q (pc) ls (.int x :: .ref (u 49) :: rest) (cpW kA u w tx σ) (cells) (slots) := by
  simp only [rok, Bool.and_eq_true, Bool.or_eq_true, decide_eq_true_eq] at hb
  obtain ⟨hL, hb⟩ := hb
  by_cases hfull : σ.1 4901 = Int32.ofNat (σ.2.2 50)
  · have e1 : (rAdd σ 4901 50 x) = (va_up σ.1 4901 (σ.1 4901 + 1), va_up σ.2.1 50 (upd (va_cpy (σ.2.1 50) (fun _ => 0) 0 0 (σ.2.2 50)) (σ.2.2 50) x), va_up (va_up (va_up σ.2.2 50 (2 * σ.2.2 50 + 1)) 3001 (σ.2.2 3001 + 1)) 3002 (σ.2.2 3002 + (2 * σ.2.2 50 + 1))) := by unfold rAdd; rw [if_pos hfull]
    have g1 : (rAdd σ 4901 50 x).2.2 3001 - σ.2.2 3001 = 1 := by rw [e1]; simp [va_up]
    have g2 : (rAdd σ 4901 50 x).2.2 3002 - σ.2.2 3002 = 2 * σ.2.2 50 + 1 := by rw [e1]; simp [va_up]
    rw [g1] at hce; rw [g2] at hsl
    have hwn : cpW kA u w tx σ = cpW kA u w tx (va_up σ.1 4901 (Int32.ofNat (σ.2.2 50)), σ.2) := by
      have : va_up σ.1 4901 (Int32.ofNat (σ.2.2 50)) = σ.1 := by rw [← hfull]; funext j; unfold va_up; split <;> simp_all
      rw [this]
    refine ax_callVv C (As := [.int x]) (rest := rest) (wr := (cpW kA u w tx σ).take 49 ++ (cpW kA u w tx σ).drop (49 + 2)) (c_Row_add2 l D kA (u 49) (w 50) (σ.2.2 50) (σ.2.1 50) x hL) L 49 (by rw [hwn]; rfl) rfl rfl hdg rfl rfl [49, 50] (List.range 49 ++ (List.range (72 - (49 + 2))).map (49 + 2 + ·)) (by rw [hwn]; rfl) (by decide) (rg_rm2 _ 49 72 cp_len (by decide)) (by decide +kernel) (by decide +kernel) (by show 2 + 1 ≤ F; omega) (by show 8 + (2 + 11) + 120 ≤ Lo; omega) hce hsl hsum (fun w1 hw => ?_)
    obtain ⟨a2, rfl⟩ := hw
    have kk := k (va_up w 50 a2) (fun i hi => up_el hi)
    rw [g1, g2] at kk
    refine ax_sub (List.range 49 ++ (72 - 2) :: (72 - 1) :: (List.range (72 - (49 + 2))).map (49 + ·)) _ (by decide +kernel) (rg_put2 (cpW kA u w tx σ) 49 72 _ _ cp_len (by decide)) (ax_w (cpW kA u (va_up w 50 a2) tx (rAdd σ 4901 50 x)) (by rw [e1, hfull]; rfl) kk)
  · have e1 : (rAdd σ 4901 50 x) = (va_up σ.1 4901 (σ.1 4901 + 1), va_up σ.2.1 50 (upd (σ.2.1 50) (σ.1 4901).toNatClampNeg x), σ.2.2) := by unfold rAdd; rw [if_neg hfull]
    have g1 : (rAdd σ 4901 50 x).2.2 3001 - σ.2.2 3001 = 0 := by rw [e1]; simp
    have g2 : (rAdd σ 4901 50 x).2.2 3002 - σ.2.2 3002 = 0 := by rw [e1]; simp
    rw [g1] at hce; rw [g2] at hsl
    refine ax_callVv C (As := [.int x]) (rest := rest) (wr := (cpW kA u w tx σ).take 49 ++ (cpW kA u w tx σ).drop (49 + 2)) (c_Row_add1 l D kA (u 49) (w 50) (σ.2.2 50) (σ.2.1 50) (σ.1 4901) x hfull (bin_in (hb.resolve_left hfull))) L 49 rfl rfl rfl hdg rfl rfl [49, 50] (List.range 49 ++ (List.range (72 - (49 + 2))).map (49 + 2 + ·)) rfl (by decide) (rg_rm2 _ 49 72 cp_len (by decide)) (by decide +kernel) (by decide +kernel) (by show 0 + 1 ≤ F; omega) (by show 8 + (2 + 11) + 0 ≤ Lo; omega) hce hsl hsum (fun w1 hw => ?_)
    obtain rfl := hw
    have kk := k w (fun i _ => rfl)
    rw [g1, g2] at kk
    refine ax_sub (List.range 49 ++ (72 - 2) :: (72 - 1) :: (List.range (72 - (49 + 2))).map (49 + ·)) _ (by decide +kernel) (rg_put2 (cpW kA u w tx σ) 49 72 _ _ cp_len (by decide)) (ax_w (cpW kA u w tx (rAdd σ 4901 50 x)) (by rw [e1]; rfl) kk)
set_option maxRecDepth 4000 in
theorem ca_51 (C : ax_C p s m args meth c cc own nL ret D kA A) {idx d : Nat} {x : Int32} (L : ax_LV own idx y_Row_add b_Row_add 2 none 1) (hdg : decode cc pc = .ok (.invokevirtual idx, 3)) (hb : rok σ 5101 52 = true) (hF : d + 3 ≤ F) (hLo : 48 * d + 144 ≤ Lo) (hce : cells + ((rAdd σ 5101 52 x).2.2 3001 - σ.2.2 3001) ≤ mc) (hsl : slots + ((rAdd σ 5101 52 x).2.2 3002 - σ.2.2 3002) ≤ ms) (hsum : (rest.map fun v => v.category).sum ≤ 8)
    (k : ∀ w2 : Nat → Nat, (∀ i, ([52] : List Nat).elem i = false → w2 i = w i) → AW p l e { frames := F, cells := mc, slots := ms, locals := Lo } s m args below meth c D kA A nL Q (pc + 3) ls (rest) (cpW kA u w2 tx (rAdd σ 5101 52 x)) (cells + ((rAdd σ 5101 52 x).2.2 3001 - σ.2.2 3001)) (slots + ((rAdd σ 5101 52 x).2.2 3002 - σ.2.2 3002))) : AW p l e { frames := F, cells := mc, slots := ms, locals := Lo } s m args below meth c D kA A nL Q (pc) ls (.int x :: .ref (u 51) :: rest) (cpW kA u w tx σ) (cells) (slots) := by
  simp only [rok, Bool.and_eq_true, Bool.or_eq_true, decide_eq_true_eq] at hb
  obtain ⟨hL, hb⟩ := hb
  by_cases hfull : σ.1 5101 = Int32.ofNat (σ.2.2 52)
  · have e1 : (rAdd σ 5101 52 x) = (va_up σ.1 5101 (σ.1 5101 + 1), va_up σ.2.1 52 (upd (va_cpy (σ.2.1 52) (fun _ => 0) 0 0 (σ.2.2 52)) (σ.2.2 52) x), va_up (va_up (va_up σ.2.2 52 (2 * σ.2.2 52 + 1)) 3001 (σ.2.2 3001 + 1)) 3002 (σ.2.2 3002 + (2 * σ.2.2 52 + 1))) := by unfold rAdd; rw [if_pos hfull]
    have g1 : (rAdd σ 5101 52 x).2.2 3001 - σ.2.2 3001 = 1 := by rw [e1]; simp [va_up]
    have g2 : (rAdd σ 5101 52 x).2.2 3002 - σ.2.2 3002 = 2 * σ.2.2 52 + 1 := by rw [e1]; simp [va_up]
    rw [g1] at hce; rw [g2] at hsl
    have hwn : cpW kA u w tx σ = cpW kA u w tx (va_up σ.1 5101 (Int32.ofNat (σ.2.2 52)), σ.2) := by
      have : va_up σ.1 5101 (Int32.ofNat (σ.2.2 52)) = σ.1 := by rw [← hfull]; funext j; unfold va_up; split <;> simp_all
      rw [this]
    refine ax_callVv C (As := [.int x]) (rest := rest) (wr := (cpW kA u w tx σ).take 51 ++ (cpW kA u w tx σ).drop (51 + 2)) (c_Row_add2 l D kA (u 51) (w 52) (σ.2.2 52) (σ.2.1 52) x hL) L 51 (by rw [hwn]; rfl) rfl rfl hdg rfl rfl [51, 52] (List.range 51 ++ (List.range (72 - (51 + 2))).map (51 + 2 + ·)) (by rw [hwn]; rfl) (by decide) (rg_rm2 _ 51 72 cp_len (by decide)) (by decide +kernel) (by decide +kernel) (by show 2 + 1 ≤ F; omega) (by show 8 + (2 + 11) + 120 ≤ Lo; omega) hce hsl hsum (fun w1 hw => ?_)
    obtain ⟨a2, rfl⟩ := hw
    have kk := k (va_up w 52 a2) (fun i hi => up_el hi)
    rw [g1, g2] at kk
    refine ax_sub (List.range 51 ++ (72 - 2) :: (72 - 1) :: (List.range (72 - (51 + 2))).map (51 + ·)) _ (by decide +kernel) (rg_put2 (cpW kA u w tx σ) 51 72 _ _ cp_len (by decide)) (ax_w (cpW kA u (va_up w 52 a2) tx (rAdd σ 5101 52 x)) (by rw [e1, hfull]; rfl) kk)
  · have e1 : (rAdd σ 5101 52 x) = (va_up σ.1 5101 (σ.1 5101 + 1), va_up σ.2.1 52 (upd (σ.2.1 52) (σ.1 5101).toNatClampNeg x), σ.2.2) := by unfold rAdd; rw [if_neg hfull]
    have g1 : (rAdd σ 5101 52 x).2.2 3001 - σ.2.2 3001 = 0 := by rw [e1]; simp
    have g2 : (rAdd σ 5101 52 x).2.2 3002 - σ.2.2 3002 = 0 := by rw [e1]; simp
    rw [g1] at hce; rw [g2] at hsl
    refine ax_callVv C (As := [.int x]) (rest := rest) (wr := (cpW kA u w tx σ).take 51 ++ (cpW kA u w tx σ).drop (51 + 2)) (c_Row_add1 l D kA (u 51) (w 52) (σ.2.2 52) (σ.2.1 52) (σ.1 5101) x hfull (bin_in (hb.resolve_left hfull))) L 51 rfl rfl rfl hdg rfl rfl [51, 52] (List.range 51 ++ (List.range (72 - (51 + 2))).map (51 + 2 + ·)) rfl (by decide) (rg_rm2 _ 51 72 cp_len (by decide)) (by decide +kernel) (by decide +kernel) (by show 0 + 1 ≤ F; omega) (by show 8 + (2 + 11) + 0 ≤ Lo; omega) hce hsl hsum (fun w1 hw => ?_)
    obtain rfl := hw
    have kk := k w (fun i _ => rfl)
    rw [g1, g2] at kk
    refine ax_sub (List.range 51 ++ (72 - 2) :: (72 - 1) :: (List.range (72 - (51 + 2))).map (51 + ·)) _ (by decide +kernel) (rg_put2 (cpW kA u w tx σ) 51 72 _ _ cp_len (by decide)) (ax_w (cpW kA u w tx (rAdd σ 5101 52 x)) (by rw [e1]; rfl) kk)
set_option maxRecDepth 4000 in
theorem ca_55 (C : ax_C p s m args meth c cc own nL ret D kA A) {idx d : Nat} {x : Int32} (L : ax_LV own idx y_Row_add b_Row_add 2 none 1) (hdg : decode cc pc = .ok (.invokevirtual idx, 3)) (hb : rok σ 5501 56 = true) (hF : d + 3 ≤ F) (hLo : 48 * d + 144 ≤ Lo) (hce : cells + ((rAdd σ 5501 56 x).2.2 3001 - σ.2.2 3001) ≤ mc) (hsl : slots + ((rAdd σ 5501 56 x).2.2 3002 - σ.2.2 3002) ≤ ms) (hsum : (rest.map fun v => v.category).sum ≤ 8)
    (k : ∀ w2 : Nat → Nat, (∀ i, ([56] : List Nat).elem i = false → w2 i = w i) → AW p l e { frames := F, cells := mc, slots := ms, locals := Lo } s m args below meth c D kA A nL Q (pc + 3) ls (rest) (cpW kA u w2 tx (rAdd σ 5501 56 x)) (cells + ((rAdd σ 5501 56 x).2.2 3001 - σ.2.2 3001)) (slots + ((rAdd σ 5501 56 x).2.2 3002 - σ.2.2 3002))) : AW p l e { frames := F, cells := mc, slots := ms, locals := Lo } s m args below meth c D kA A nL Q (pc) ls (.int x :: .ref (u 55) :: rest) (cpW kA u w tx σ) (cells) (slots) := by
  simp only [rok, Bool.and_eq_true, Bool.or_eq_true, decide_eq_true_eq] at hb
  obtain ⟨hL, hb⟩ := hb
  by_cases hfull : σ.1 5501 = Int32.ofNat (σ.2.2 56)
  · have e1 : (rAdd σ 5501 56 x) = (va_up σ.1 5501 (σ.1 5501 + 1), va_up σ.2.1 56 (upd (va_cpy (σ.2.1 56) (fun _ => 0) 0 0 (σ.2.2 56)) (σ.2.2 56) x), va_up (va_up (va_up σ.2.2 56 (2 * σ.2.2 56 + 1)) 3001 (σ.2.2 3001 + 1)) 3002 (σ.2.2 3002 + (2 * σ.2.2 56 + 1))) := by unfold rAdd; rw [if_pos hfull]
    have g1 : (rAdd σ 5501 56 x).2.2 3001 - σ.2.2 3001 = 1 := by rw [e1]; simp [va_up]
    have g2 : (rAdd σ 5501 56 x).2.2 3002 - σ.2.2 3002 = 2 * σ.2.2 56 + 1 := by rw [e1]; simp [va_up]
    rw [g1] at hce; rw [g2] at hsl
    have hwn : cpW kA u w tx σ = cpW kA u w tx (va_up σ.1 5501 (Int32.ofNat (σ.2.2 56)), σ.2) := by
      have : va_up σ.1 5501 (Int32.ofNat (σ.2.2 56)) = σ.1 := by rw [← hfull]; funext j; unfold va_up; split <;> simp_all
      rw [this]
    refine ax_callVv C (As := [.int x]) (rest := rest) (wr := (cpW kA u w tx σ).take 55 ++ (cpW kA u w tx σ).drop (55 + 2)) (c_Row_add2 l D kA (u 55) (w 56) (σ.2.2 56) (σ.2.1 56) x hL) L 55 (by rw [hwn]; rfl) rfl rfl hdg rfl rfl [55, 56] (List.range 55 ++ (List.range (72 - (55 + 2))).map (55 + 2 + ·)) (by rw [hwn]; rfl) (by decide) (rg_rm2 _ 55 72 cp_len (by decide)) (by decide +kernel) (by decide +kernel) (by show 2 + 1 ≤ F; omega) (by show 8 + (2 + 11) + 120 ≤ Lo; omega) hce hsl hsum (fun w1 hw => ?_)
    obtain ⟨a2, rfl⟩ := hw
    have kk := k (va_up w 56 a2) (fun i hi => up_el hi)
    rw [g1, g2] at kk
    refine ax_sub (List.range 55 ++ (72 - 2) :: (72 - 1) :: (List.range (72 - (55 + 2))).map (55 + ·)) _ (by decide +kernel) (rg_put2 (cpW kA u w tx σ) 55 72 _ _ cp_len (by decide)) (ax_w (cpW kA u (va_up w 56 a2) tx (rAdd σ 5501 56 x)) (by rw [e1, hfull]; rfl) kk)
  · have e1 : (rAdd σ 5501 56 x) = (va_up σ.1 5501 (σ.1 5501 + 1), va_up σ.2.1 56 (upd (σ.2.1 56) (σ.1 5501).toNatClampNeg x), σ.2.2) := by unfold rAdd; rw [if_neg hfull]
    have g1 : (rAdd σ 5501 56 x).2.2 3001 - σ.2.2 3001 = 0 := by rw [e1]; simp
    have g2 : (rAdd σ 5501 56 x).2.2 3002 - σ.2.2 3002 = 0 := by rw [e1]; simp
    rw [g1] at hce; rw [g2] at hsl
    refine ax_callVv C (As := [.int x]) (rest := rest) (wr := (cpW kA u w tx σ).take 55 ++ (cpW kA u w tx σ).drop (55 + 2)) (c_Row_add1 l D kA (u 55) (w 56) (σ.2.2 56) (σ.2.1 56) (σ.1 5501) x hfull (bin_in (hb.resolve_left hfull))) L 55 rfl rfl rfl hdg rfl rfl [55, 56] (List.range 55 ++ (List.range (72 - (55 + 2))).map (55 + 2 + ·)) rfl (by decide) (rg_rm2 _ 55 72 cp_len (by decide)) (by decide +kernel) (by decide +kernel) (by show 0 + 1 ≤ F; omega) (by show 8 + (2 + 11) + 0 ≤ Lo; omega) hce hsl hsum (fun w1 hw => ?_)
    obtain rfl := hw
    have kk := k w (fun i _ => rfl)
    rw [g1, g2] at kk
    refine ax_sub (List.range 55 ++ (72 - 2) :: (72 - 1) :: (List.range (72 - (55 + 2))).map (55 + ·)) _ (by decide +kernel) (rg_put2 (cpW kA u w tx σ) 55 72 _ _ cp_len (by decide)) (ax_w (cpW kA u w tx (rAdd σ 5501 56 x)) (by rw [e1]; rfl) kk)
set_option maxRecDepth 4000 in
theorem ca_57 (C : ax_C p s m args meth c cc own nL ret D kA A) {idx d : Nat} {x : Int32} (L : ax_LV own idx y_Row_add b_Row_add 2 none 1) (hdg : decode cc pc = .ok (.invokevirtual idx, 3)) (hb : rok σ 5701 58 = true) (hF : d + 3 ≤ F) (hLo : 48 * d + 144 ≤ Lo) (hce : cells + ((rAdd σ 5701 58 x).2.2 3001 - σ.2.2 3001) ≤ mc) (hsl : slots + ((rAdd σ 5701 58 x).2.2 3002 - σ.2.2 3002) ≤ ms) (hsum : (rest.map fun v => v.category).sum ≤ 8)
    (k : ∀ w2 : Nat → Nat, (∀ i, ([58] : List Nat).elem i = false → w2 i = w i) → AW p l e { frames := F, cells := mc, slots := ms, locals := Lo } s m args below meth c D kA A nL Q (pc + 3) ls (rest) (cpW kA u w2 tx (rAdd σ 5701 58 x)) (cells + ((rAdd σ 5701 58 x).2.2 3001 - σ.2.2 3001)) (slots + ((rAdd σ 5701 58 x).2.2 3002 - σ.2.2 3002))) : AW p l e { frames := F, cells := mc, slots := ms, locals := Lo } s m args below meth c D kA A nL Q (pc) ls (.int x :: .ref (u 57) :: rest) (cpW kA u w tx σ) (cells) (slots) := by
  simp only [rok, Bool.and_eq_true, Bool.or_eq_true, decide_eq_true_eq] at hb
  obtain ⟨hL, hb⟩ := hb
  by_cases hfull : σ.1 5701 = Int32.ofNat (σ.2.2 58)
  · have e1 : (rAdd σ 5701 58 x) = (va_up σ.1 5701 (σ.1 5701 + 1), va_up σ.2.1 58 (upd (va_cpy (σ.2.1 58) (fun _ => 0) 0 0 (σ.2.2 58)) (σ.2.2 58) x), va_up (va_up (va_up σ.2.2 58 (2 * σ.2.2 58 + 1)) 3001 (σ.2.2 3001 + 1)) 3002 (σ.2.2 3002 + (2 * σ.2.2 58 + 1))) := by unfold rAdd; rw [if_pos hfull]
    have g1 : (rAdd σ 5701 58 x).2.2 3001 - σ.2.2 3001 = 1 := by rw [e1]; simp [va_up]
    have g2 : (rAdd σ 5701 58 x).2.2 3002 - σ.2.2 3002 = 2 * σ.2.2 58 + 1 := by rw [e1]; simp [va_up]
    rw [g1] at hce; rw [g2] at hsl
    have hwn : cpW kA u w tx σ = cpW kA u w tx (va_up σ.1 5701 (Int32.ofNat (σ.2.2 58)), σ.2) := by
      have : va_up σ.1 5701 (Int32.ofNat (σ.2.2 58)) = σ.1 := by rw [← hfull]; funext j; unfold va_up; split <;> simp_all
      rw [this]
    refine ax_callVv C (As := [.int x]) (rest := rest) (wr := (cpW kA u w tx σ).take 57 ++ (cpW kA u w tx σ).drop (57 + 2)) (c_Row_add2 l D kA (u 57) (w 58) (σ.2.2 58) (σ.2.1 58) x hL) L 57 (by rw [hwn]; rfl) rfl rfl hdg rfl rfl [57, 58] (List.range 57 ++ (List.range (72 - (57 + 2))).map (57 + 2 + ·)) (by rw [hwn]; rfl) (by decide) (rg_rm2 _ 57 72 cp_len (by decide)) (by decide +kernel) (by decide +kernel) (by show 2 + 1 ≤ F; omega) (by show 8 + (2 + 11) + 120 ≤ Lo; omega) hce hsl hsum (fun w1 hw => ?_)
    obtain ⟨a2, rfl⟩ := hw
    have kk := k (va_up w 58 a2) (fun i hi => up_el hi)
    rw [g1, g2] at kk
    refine ax_sub (List.range 57 ++ (72 - 2) :: (72 - 1) :: (List.range (72 - (57 + 2))).map (57 + ·)) _ (by decide +kernel) (rg_put2 (cpW kA u w tx σ) 57 72 _ _ cp_len (by decide)) (ax_w (cpW kA u (va_up w 58 a2) tx (rAdd σ 5701 58 x)) (by rw [e1, hfull]; rfl) kk)
  · have e1 : (rAdd σ 5701 58 x) = (va_up σ.1 5701 (σ.1 5701 + 1), va_up σ.2.1 58 (upd (σ.2.1 58) (σ.1 5701).toNatClampNeg x), σ.2.2) := by unfold rAdd; rw [if_neg hfull]
    have g1 : (rAdd σ 5701 58 x).2.2 3001 - σ.2.2 3001 = 0 := by rw [e1]; simp
    have g2 : (rAdd σ 5701 58 x).2.2 3002 - σ.2.2 3002 = 0 := by rw [e1]; simp
    rw [g1] at hce; rw [g2] at hsl
    refine ax_callVv C (As := [.int x]) (rest := rest) (wr := (cpW kA u w tx σ).take 57 ++ (cpW kA u w tx σ).drop (57 + 2)) (c_Row_add1 l D kA (u 57) (w 58) (σ.2.2 58) (σ.2.1 58) (σ.1 5701) x hfull (bin_in (hb.resolve_left hfull))) L 57 rfl rfl rfl hdg rfl rfl [57, 58] (List.range 57 ++ (List.range (72 - (57 + 2))).map (57 + 2 + ·)) rfl (by decide) (rg_rm2 _ 57 72 cp_len (by decide)) (by decide +kernel) (by decide +kernel) (by show 0 + 1 ≤ F; omega) (by show 8 + (2 + 11) + 0 ≤ Lo; omega) hce hsl hsum (fun w1 hw => ?_)
    obtain rfl := hw
    have kk := k w (fun i _ => rfl)
    rw [g1, g2] at kk
    refine ax_sub (List.range 57 ++ (72 - 2) :: (72 - 1) :: (List.range (72 - (57 + 2))).map (57 + ·)) _ (by decide +kernel) (rg_put2 (cpW kA u w tx σ) 57 72 _ _ cp_len (by decide)) (ax_w (cpW kA u w tx (rAdd σ 5701 58 x)) (by rw [e1]; rfl) kk)
set_option maxRecDepth 4000 in
theorem ca_64 (C : ax_C p s m args meth c cc own nL ret D kA A) {idx d : Nat} {x : Int32} (L : ax_LV own idx y_Row_add b_Row_add 2 none 1) (hdg : decode cc pc = .ok (.invokevirtual idx, 3)) (hb : rok σ 6401 65 = true) (hF : d + 3 ≤ F) (hLo : 48 * d + 144 ≤ Lo) (hce : cells + ((rAdd σ 6401 65 x).2.2 3001 - σ.2.2 3001) ≤ mc) (hsl : slots + ((rAdd σ 6401 65 x).2.2 3002 - σ.2.2 3002) ≤ ms) (hsum : (rest.map fun v => v.category).sum ≤ 8)
    (k : ∀ w2 : Nat → Nat, (∀ i, ([65] : List Nat).elem i = false → w2 i = w i) → AW p l e { frames := F, cells := mc, slots := ms, locals := Lo } s m args below meth c D kA A nL Q (pc + 3) ls (rest) (cpW kA u w2 tx (rAdd σ 6401 65 x)) (cells + ((rAdd σ 6401 65 x).2.2 3001 - σ.2.2 3001)) (slots + ((rAdd σ 6401 65 x).2.2 3002 - σ.2.2 3002))) : AW p l e { frames := F, cells := mc, slots := ms, locals := Lo } s m args below meth c D kA A nL Q (pc) ls (.int x :: .ref (u 64) :: rest) (cpW kA u w tx σ) (cells) (slots) := by
  simp only [rok, Bool.and_eq_true, Bool.or_eq_true, decide_eq_true_eq] at hb
  obtain ⟨hL, hb⟩ := hb
  by_cases hfull : σ.1 6401 = Int32.ofNat (σ.2.2 65)
  · have e1 : (rAdd σ 6401 65 x) = (va_up σ.1 6401 (σ.1 6401 + 1), va_up σ.2.1 65 (upd (va_cpy (σ.2.1 65) (fun _ => 0) 0 0 (σ.2.2 65)) (σ.2.2 65) x), va_up (va_up (va_up σ.2.2 65 (2 * σ.2.2 65 + 1)) 3001 (σ.2.2 3001 + 1)) 3002 (σ.2.2 3002 + (2 * σ.2.2 65 + 1))) := by unfold rAdd; rw [if_pos hfull]
    have g1 : (rAdd σ 6401 65 x).2.2 3001 - σ.2.2 3001 = 1 := by rw [e1]; simp [va_up]
    have g2 : (rAdd σ 6401 65 x).2.2 3002 - σ.2.2 3002 = 2 * σ.2.2 65 + 1 := by rw [e1]; simp [va_up]
    rw [g1] at hce; rw [g2] at hsl
    have hwn : cpW kA u w tx σ = cpW kA u w tx (va_up σ.1 6401 (Int32.ofNat (σ.2.2 65)), σ.2) := by
      have : va_up σ.1 6401 (Int32.ofNat (σ.2.2 65)) = σ.1 := by rw [← hfull]; funext j; unfold va_up; split <;> simp_all
      rw [this]
    refine ax_callVv C (As := [.int x]) (rest := rest) (wr := (cpW kA u w tx σ).take 64 ++ (cpW kA u w tx σ).drop (64 + 2)) (c_Row_add2 l D kA (u 64) (w 65) (σ.2.2 65) (σ.2.1 65) x hL) L 64 (by rw [hwn]; rfl) rfl rfl hdg rfl rfl [64, 65] (List.range 64 ++ (List.range (72 - (64 + 2))).map (64 + 2 + ·)) (by rw [hwn]; rfl) (by decide) (rg_rm2 _ 64 72 cp_len (by decide)) (by decide +kernel) (by decide +kernel) (by show 2 + 1 ≤ F; omega) (by show 8 + (2 + 11) + 120 ≤ Lo; omega) hce hsl hsum (fun w1 hw => ?_)
    obtain ⟨a2, rfl⟩ := hw
    have kk := k (va_up w 65 a2) (fun i hi => up_el hi)
    rw [g1, g2] at kk
    refine ax_sub (List.range 64 ++ (72 - 2) :: (72 - 1) :: (List.range (72 - (64 + 2))).map (64 + ·)) _ (by decide +kernel) (rg_put2 (cpW kA u w tx σ) 64 72 _ _ cp_len (by decide)) (ax_w (cpW kA u (va_up w 65 a2) tx (rAdd σ 6401 65 x)) (by rw [e1, hfull]; rfl) kk)
  · have e1 : (rAdd σ 6401 65 x) = (va_up σ.1 6401 (σ.1 6401 + 1), va_up σ.2.1 65 (upd (σ.2.1 65) (σ.1 6401).toNatClampNeg x), σ.2.2) := by unfold rAdd; rw [if_neg hfull]
    have g1 : (rAdd σ 6401 65 x).2.2 3001 - σ.2.2 3001 = 0 := by rw [e1]; simp
    have g2 : (rAdd σ 6401 65 x).2.2 3002 - σ.2.2 3002 = 0 := by rw [e1]; simp
    rw [g1] at hce; rw [g2] at hsl
    refine ax_callVv C (As := [.int x]) (rest := rest) (wr := (cpW kA u w tx σ).take 64 ++ (cpW kA u w tx σ).drop (64 + 2)) (c_Row_add1 l D kA (u 64) (w 65) (σ.2.2 65) (σ.2.1 65) (σ.1 6401) x hfull (bin_in (hb.resolve_left hfull))) L 64 rfl rfl rfl hdg rfl rfl [64, 65] (List.range 64 ++ (List.range (72 - (64 + 2))).map (64 + 2 + ·)) rfl (by decide) (rg_rm2 _ 64 72 cp_len (by decide)) (by decide +kernel) (by decide +kernel) (by show 0 + 1 ≤ F; omega) (by show 8 + (2 + 11) + 0 ≤ Lo; omega) hce hsl hsum (fun w1 hw => ?_)
    obtain rfl := hw
    have kk := k w (fun i _ => rfl)
    rw [g1, g2] at kk
    refine ax_sub (List.range 64 ++ (72 - 2) :: (72 - 1) :: (List.range (72 - (64 + 2))).map (64 + ·)) _ (by decide +kernel) (rg_put2 (cpW kA u w tx σ) 64 72 _ _ cp_len (by decide)) (ax_w (cpW kA u w tx (rAdd σ 6401 65 x)) (by rw [e1]; rfl) kk)
theorem gc_Vi (C : ax_C p s m args meth c cc own nL ret D kA A) {idx n : Nat} {b : Nat} {ret2 : FieldType} {y : MethodName} {cc2 : ByteArray} {nL2 : Nat} {fr lo mc2 ms2 : Nat} {As : List Value} {post : Int32 → va_W → Prop} (hM : ax_Mi l D kA y cc2 nL2 ret2 fr lo mc2 ms2 (.ref b :: As) (cpW kA u w tx σ) post) (L : ax_LV own idx y cc2 nL2 (some ret2) n) (q0 : Nat) {ci : Nat} {fs : List Value} {r9 : vw_C} (he : (cpW kA u w tx σ)[q0]? = some (b, .inr (ci, fs))) (hc : ax_cl[ci]? = some r9) (hrc : r9.1 = y.cls) (hdg : decode cc pc = .ok (.invokevirtual idx, 3)) (hst : st = As.reverse ++ .ref b :: rest) (hlen : As.length = n) (hfr : fr + 1 ≤ R.frames) (hlo : 8 + (nL2 + 11) + lo ≤ R.locals) (hce : cells + mc2 ≤ R.cells) (hsl : slots + ms2 ≤ R.slots) (hsum : (rest.map fun v => v.category).sum ≤ 8) (k : ∀ (r : Int32) (w1 : va_W), post r w1 → AW p l e R s m args below meth c D kA A nL Q (pc + 3) ls (.int r :: rest) w1 (cells + mc2) (slots + ms2)) : AW p l e R s m args below meth c D kA A nL Q (pc) ls (st) (cpW kA u w tx σ) cells slots :=
  ax_callVi C (wr := []) hM L q0 he hc hrc hdg hst hlen (List.range 72) [] cp_all (by decide +kernel) rfl (by decide) (by intro i h; cases h) hfr hlo hce hsl hsum (fun r w1 hw => k r w1 hw)
theorem gc_Vv (C : ax_C p s m args meth c cc own nL ret D kA A) {idx n : Nat} {b : Nat} {y : MethodName} {cc2 : ByteArray} {nL2 : Nat} {fr lo mc2 ms2 : Nat} {As : List Value} {post : va_W → Prop} (hM : ax_Mv l D kA y cc2 nL2 fr lo mc2 ms2 (.ref b :: As) (cpW kA u w tx σ) post) (L : ax_LV own idx y cc2 nL2 none n) (q0 : Nat) {ci : Nat} {fs : List Value} {r9 : vw_C} (he : (cpW kA u w tx σ)[q0]? = some (b, .inr (ci, fs))) (hc : ax_cl[ci]? = some r9) (hrc : r9.1 = y.cls) (hdg : decode cc pc = .ok (.invokevirtual idx, 3)) (hst : st = As.reverse ++ .ref b :: rest) (hlen : As.length = n) (hfr : fr + 1 ≤ R.frames) (hlo : 8 + (nL2 + 11) + lo ≤ R.locals) (hce : cells + mc2 ≤ R.cells) (hsl : slots + ms2 ≤ R.slots) (hsum : (rest.map fun v => v.category).sum ≤ 8) (k : ∀ w1 : va_W, post w1 → AW p l e R s m args below meth c D kA A nL Q (pc + 3) ls (rest) w1 (cells + mc2) (slots + ms2)) : AW p l e R s m args below meth c D kA A nL Q (pc) ls (st) (cpW kA u w tx σ) cells slots :=
  ax_callVv C (wr := []) hM L q0 he hc hrc hdg hst hlen (List.range 72) [] cp_all (by decide +kernel) rfl (by decide) (by intro i h; cases h) hfr hlo hce hsl hsum (fun w1 hw => k w1 hw)
theorem gc_VNi (C : ax_C p s m args meth c cc own nL ret D kA A) {idx n : Nat} {b : Nat} {host : String} {ret2 : FieldType} {y : MethodName} {cc2 : ByteArray} {nL2 : Nat} {fr lo mc2 ms2 : Nat} {As : List Value} {post : Int32 → va_W → Prop} (hM : ax_Mi l D kA y cc2 nL2 ret2 fr lo mc2 ms2 (.ref b :: As) (cpW kA u w tx σ) post) (L : ax_LVN own idx host y cc2 nL2 (some ret2) n) (q0 : Nat) {ci : Nat} {fs : List Value} {r9 : vw_C} (he : (cpW kA u w tx σ)[q0]? = some (b, .inr (ci, fs))) (hc : ax_cl[ci]? = some r9) (hrc : r9.1 = y.cls) (hdg : decode cc pc = .ok (.invokevirtual idx, 3)) (hst : st = As.reverse ++ .ref b :: rest) (hlen : As.length = n) (hfr : fr + 1 ≤ R.frames) (hlo : 8 + (nL2 + 11) + lo ≤ R.locals) (hce : cells + mc2 ≤ R.cells) (hsl : slots + ms2 ≤ R.slots) (hsum : (rest.map fun v => v.category).sum ≤ 8) (k : ∀ (r : Int32) (w1 : va_W), post r w1 → AW p l e R s m args below meth c D kA A nL Q (pc + 3) ls (.int r :: rest) w1 (cells + mc2) (slots + ms2)) : AW p l e R s m args below meth c D kA A nL Q (pc) ls (st) (cpW kA u w tx σ) cells slots :=
  ax_callVNi C (wr := []) hM L q0 he hc hrc hdg hst hlen (List.range 72) [] cp_all (by decide +kernel) rfl (by decide) (by intro i h; cases h) hfr hlo hce hsl hsum (fun r w1 hw => k r w1 hw)
theorem gc_VNv (C : ax_C p s m args meth c cc own nL ret D kA A) {idx n : Nat} {b : Nat} {host : String} {y : MethodName} {cc2 : ByteArray} {nL2 : Nat} {fr lo mc2 ms2 : Nat} {As : List Value} {post : va_W → Prop} (hM : ax_Mv l D kA y cc2 nL2 fr lo mc2 ms2 (.ref b :: As) (cpW kA u w tx σ) post) (L : ax_LVN own idx host y cc2 nL2 none n) (q0 : Nat) {ci : Nat} {fs : List Value} {r9 : vw_C} (he : (cpW kA u w tx σ)[q0]? = some (b, .inr (ci, fs))) (hc : ax_cl[ci]? = some r9) (hrc : r9.1 = y.cls) (hdg : decode cc pc = .ok (.invokevirtual idx, 3)) (hst : st = As.reverse ++ .ref b :: rest) (hlen : As.length = n) (hfr : fr + 1 ≤ R.frames) (hlo : 8 + (nL2 + 11) + lo ≤ R.locals) (hce : cells + mc2 ≤ R.cells) (hsl : slots + ms2 ≤ R.slots) (hsum : (rest.map fun v => v.category).sum ≤ 8) (k : ∀ w1 : va_W, post w1 → AW p l e R s m args below meth c D kA A nL Q (pc + 3) ls (rest) w1 (cells + mc2) (slots + ms2)) : AW p l e R s m args below meth c D kA A nL Q (pc) ls (st) (cpW kA u w tx σ) cells slots :=
  ax_callVNv C (wr := []) hM L q0 he hc hrc hdg hst hlen (List.range 72) [] cp_all (by decide +kernel) rfl (by decide) (by intro i h; cases h) hfr hlo hce hsl hsum (fun w1 hw => k w1 hw)
theorem gc_Si (C : ax_C p s m args meth c cc own nL ret D kA A) {idx n : Nat} {ret2 : FieldType} {y : MethodName} {cc2 : ByteArray} {nL2 : Nat} {fr lo mc2 ms2 : Nat} {As : List Value} {post : Int32 → va_W → Prop} (hM : ax_Mi l D kA y cc2 nL2 ret2 fr lo mc2 ms2 As (cpW kA u w tx σ) post) (L : ax_LS own idx y cc2 nL2 (some ret2) n) (hdg : decode cc pc = .ok (.invokestatic idx, 3)) (hst : st = As.reverse ++ rest) (hlen : As.length = n) (hfr : fr + 1 ≤ R.frames) (hlo : 8 + (nL2 + 11) + lo ≤ R.locals) (hce : cells + mc2 ≤ R.cells) (hsl : slots + ms2 ≤ R.slots) (hsum : (rest.map fun v => v.category).sum ≤ 8) (k : ∀ (r : Int32) (w1 : va_W), post r w1 → AW p l e R s m args below meth c D kA A nL Q (pc + 3) ls (.int r :: rest) w1 (cells + mc2) (slots + ms2)) : AW p l e R s m args below meth c D kA A nL Q (pc) ls (st) (cpW kA u w tx σ) cells slots :=
  ax_callSi C (wr := []) hM L hdg hst hlen (List.range 72) [] cp_all (by decide +kernel) rfl (by decide) (by intro i h; cases h) hfr hlo hce hsl hsum (fun r w1 hw => k r w1 hw)
theorem gc_Sv (C : ax_C p s m args meth c cc own nL ret D kA A) {idx n : Nat} {y : MethodName} {cc2 : ByteArray} {nL2 : Nat} {fr lo mc2 ms2 : Nat} {As : List Value} {post : va_W → Prop} (hM : ax_Mv l D kA y cc2 nL2 fr lo mc2 ms2 As (cpW kA u w tx σ) post) (L : ax_LS own idx y cc2 nL2 none n) (hdg : decode cc pc = .ok (.invokestatic idx, 3)) (hst : st = As.reverse ++ rest) (hlen : As.length = n) (hfr : fr + 1 ≤ R.frames) (hlo : 8 + (nL2 + 11) + lo ≤ R.locals) (hce : cells + mc2 ≤ R.cells) (hsl : slots + ms2 ≤ R.slots) (hsum : (rest.map fun v => v.category).sum ≤ 8) (k : ∀ w1 : va_W, post w1 → AW p l e R s m args below meth c D kA A nL Q (pc + 3) ls (rest) w1 (cells + mc2) (slots + ms2)) : AW p l e R s m args below meth c D kA A nL Q (pc) ls (st) (cpW kA u w tx σ) cells slots :=
  ax_callSv C (wr := []) hM L hdg hst hlen (List.range 72) [] cp_all (by decide +kernel) rfl (by decide) (by intro i h; cases h) hfr hlo hce hsl hsum (fun w1 hw => k w1 hw)
theorem gx_max (C : ax_C p s m args meth c cc own nL ret D kA A) {idx d : Nat} {x y : Int32} (h1 : Cond.methodLink own idx Lib.Math.max.name ∈ lw_tbg) (h2 : Cond.static Lib.Math.max.name ∈ lw_tbg) (h3 : Cond.initialized "java/lang/Math" ∈ lw_tbg) (h4 : Cond.code Lib.Math.max.name Lib.Math.max.code 2 (some .int) ∈ lw_tbg) (hdg : decode cc pc = .ok (.invokestatic idx, 3)) (hF : d + 1 ≤ F) (hcm : cells ≤ mc) (hsm : slots ≤ ms) (hsum : (rest.map fun v => v.category).sum ≤ 8) (k : AW p l e { frames := F, cells := mc, slots := ms, locals := Lo } s m args below meth c D kA A nL Q (pc + 3) ls (.int (if x < y then y else x) :: rest) (cpW kA u w tx σ) (cells) (slots)) (hLo : 21 ≤ Lo := by omega) : AW p l e { frames := F, cells := mc, slots := ms, locals := Lo } s m args below meth c D kA A nL Q (pc) ls (.int y :: .int x :: rest) (cpW kA u w tx σ) (cells) (slots) := fun H locs la hP hD hS hl =>
  va_mmax C.1 C.2.1 (by rw [C.2.2.1]; exact hl.1.symm) C.2.2.2.1 (C.2.2.2.2.1 _ h1) (C.2.2.2.2.1 _ h2) (C.2.2.2.2.1 _ h3) (C.2.2.2.2.1 _ h4) (by show 1 ≤ F; omega) (by show _ + 13 ≤ Lo; omega) hcm hsm hdg (k H locs la hP hD hS hl)
theorem gx_min (C : ax_C p s m args meth c cc own nL ret D kA A) {idx d : Nat} {x y : Int32} (h1 : Cond.methodLink own idx Lib.Math.min.name ∈ lw_tbg) (h2 : Cond.static Lib.Math.min.name ∈ lw_tbg) (h3 : Cond.initialized "java/lang/Math" ∈ lw_tbg) (h4 : Cond.code Lib.Math.min.name Lib.Math.min.code 2 (some .int) ∈ lw_tbg) (hdg : decode cc pc = .ok (.invokestatic idx, 3)) (hF : d + 1 ≤ F) (hcm : cells ≤ mc) (hsm : slots ≤ ms) (hsum : (rest.map fun v => v.category).sum ≤ 8) (k : AW p l e { frames := F, cells := mc, slots := ms, locals := Lo } s m args below meth c D kA A nL Q (pc + 3) ls (.int (if y < x then y else x) :: rest) (cpW kA u w tx σ) (cells) (slots)) (hLo : 21 ≤ Lo := by omega) : AW p l e { frames := F, cells := mc, slots := ms, locals := Lo } s m args below meth c D kA A nL Q (pc) ls (.int y :: .int x :: rest) (cpW kA u w tx σ) (cells) (slots) := fun H locs la hP hD hS hl =>
  va_mmin C.1 C.2.1 (by rw [C.2.2.1]; exact hl.1.symm) C.2.2.2.1 (C.2.2.2.2.1 _ h1) (C.2.2.2.2.1 _ h2) (C.2.2.2.2.1 _ h3) (C.2.2.2.2.1 _ h4) (by show 1 ≤ F; omega) (by show _ + 13 ≤ Lo; omega) hcm hsm hdg (k H locs la hP hD hS hl)
set_option maxRecDepth 4000 in
theorem gp_text_Wds_9 (C : ax_C p s m args meth c cc "ClauseProver$Words" nL ret D kA A) (hdg : decode cc pc = .ok (.putfield 9, 3)) (k : AW p l e R s m args below meth c D kA A nL Q (pc + 3) ls (rest) (cpW kA u w (.ref (w 2)) σ) cells slots) : AW p l e R s m args below meth c D kA A nL Q (pc) ls (.ref (w 2) :: .ref (u 32) :: rest) (cpW kA u w tx σ) cells slots := ax_put C k_Wds 0 lk_Wds_9 hdg (Nat.le_of_ble_eq_true rfl) 32 rfl rfl rfl rfl (Nat.le_of_ble_eq_true rfl) (ax_w (cpW kA u w (.ref (w 2)) σ) rfl k)
end GRU
