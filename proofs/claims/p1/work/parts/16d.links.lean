theorem tb_instantiable_32 : Cond.instantiable "ClauseProver" 12 ∈ lw_tbg := tb_in (i := 32) (by decide +kernel) rfl
theorem tb_instantiable_1511 : Cond.instantiable "ClauseProverModel" 127 ∈ lw_tbg := tb_in (i := 1511) (by decide +kernel) rfl
theorem tb_arr_long : Cond.arrayClass .long ∈ lw_tbg := tb_in (i := 2487) (by decide +kernel) rfl
theorem tb_classLink_31 : Cond.classLink "ClauseProverLaw" 8 "ClauseProver" ∈ lw_tbg := tb_in (i := 31) (by decide +kernel) rfl
theorem tb_initialized_1 : Cond.initialized "ClauseProver" ∈ lw_tbg := tb_in (i := 1) (by decide +kernel) rfl
theorem tc_CP_init : Cond.code y_CP_init b_CP_init 1 none ∈ lw_tbg := tb_in (i := 35) (by decide +kernel) rfl
theorem ml_Law_57 : ax_LI "ClauseProverLaw" 57 y_CP_init b_CP_init 1 0 := ax_LI.mk (tb_in (i := 33) (by decide +kernel) rfl) (tb_in (i := 34) (by decide +kernel) rfl) ti_CP tc_CP_init rfl (by decide +kernel)
theorem tb_classLink_1510 : Cond.classLink "ClauseProverLaw" 58 "ClauseProverModel" ∈ lw_tbg := tb_in (i := 1510) (by decide +kernel) rfl
theorem tb_initialized_14 : Cond.initialized "ClauseProverModel" ∈ lw_tbg := tb_in (i := 14) (by decide +kernel) rfl
set_option maxRecDepth 100000 in
theorem tc_MM_init : Cond.code y_MM_init b_MM_init 1 none ∈ lw_tbg := tb_in (i := 1514) rfl rfl
theorem ml_Law_60 : ax_LI "ClauseProverLaw" 60 y_MM_init b_MM_init 1 0 := ax_LI.mk (tb_in (i := 1512) (by decide +kernel) rfl) (tb_in (i := 1513) (by decide +kernel) rfl) ti_MM tc_MM_init rfl (by decide +kernel)
