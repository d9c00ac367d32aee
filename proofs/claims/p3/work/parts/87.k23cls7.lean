theorem z1_mw_145 : (.methodLink "BreweryHouse$Stock" 50 y_Ar_fillI : Cond) ∈ lw_gd := tb_mem (i := 145) (by decide +kernel) (by decide +kernel)
theorem z1_mw_146 : (.static y_Ar_fillI : Cond) ∈ lw_gd := tb_mem (i := 146) (by decide +kernel) (by decide +kernel)
theorem z1_mw_147 : (.code y_Ar_fillI b_Ar_fillI 4 none : Cond) ∈ lw_gd := tb_mem (i := 147) (by decide +kernel) (by decide +kernel)
