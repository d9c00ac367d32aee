abbrev b_Wa_addSources : ByteArray := prog_12_method_18_code
def y_Wa_addSources : MethodName := ⟨R_Wa, "addSources", "([J)V"⟩
abbrev w_Wa_addSources : List Cond := .code y_Wa_addSources b_Wa_addSources 8 none :: lw_gd
abbrev b_Sf_findRivals : ByteArray := prog_9_method_4_code
def y_Sf_findRivals : MethodName := ⟨R_Sf, "findRivals", "()Z"⟩
abbrev w_Sf_findRivals : List Cond := .code y_Sf_findRivals b_Sf_findRivals 5 (some .boolean) :: lw_gd
abbrev b_Sf_isSafe : ByteArray := prog_9_method_2_code
def y_Sf_isSafe : MethodName := ⟨R_Sf, "isSafe", "()Z"⟩
abbrev w_Sf_isSafe : List Cond := .code y_Sf_isSafe b_Sf_isSafe 4 (some .boolean) :: lw_gd
abbrev b_Bh_danger : ByteArray := prog_1_method_35_code
def y_Bh_danger : MethodName := ⟨R_Bh, "danger", "(I)I"⟩
abbrev w_Bh_danger : List Cond := .code y_Bh_danger b_Bh_danger 3 (some .int) :: lw_gd
theorem mw_6 : (.initialized "java/util/Arrays" : Cond) ∈ lw_gd := tb_mem (i := 6) (by decide +kernel) (by decide +kernel)
theorem mw_8 : (.initialized "BreweryHouse$Safety" : Cond) ∈ lw_gd := tb_mem (i := 8) (by decide +kernel) (by decide +kernel)
theorem mw_87 : (.fieldLink "BreweryHouse$Safety" 66 "BreweryHouse$Plant" "things" "I" : Cond) ∈ lw_gd := tb_mem (i := 87) (by decide +kernel) (by decide +kernel)
theorem mw_90 : (.fieldLink "BreweryHouse$Ways" 85 "BreweryHouse$Plant" "things" "I" : Cond) ∈ lw_gd := tb_mem (i := 90) (by decide +kernel) (by decide +kernel)
theorem mw_93 : (.fieldLink "BreweryHouse$Safety" 95 "BreweryHouse$Plant" "pipes" "I" : Cond) ∈ lw_gd := tb_mem (i := 93) (by decide +kernel) (by decide +kernel)
theorem mw_150 : (.fieldLink "BreweryHouse$Safety" 60 "BreweryHouse$Stock" "plant" "LBreweryHouse$Plant;" : Cond) ∈ lw_gd := tb_mem (i := 150) (by decide +kernel) (by decide +kernel)
theorem mw_152 : (.fieldLink "BreweryHouse$Ways" 81 "BreweryHouse$Stock" "plant" "LBreweryHouse$Plant;" : Cond) ∈ lw_gd := tb_mem (i := 152) (by decide +kernel) (by decide +kernel)
theorem mw_177 : (.fieldLink "BreweryHouse$Safety" 101 "BreweryHouse$Stock" "meeting" "[I" : Cond) ∈ lw_gd := tb_mem (i := 177) (by decide +kernel) (by decide +kernel)
theorem mw_217 : (.fieldLink "BreweryHouse$Ways" 58 "BreweryHouse$Ways" "stock" "LBreweryHouse$Stock;" : Cond) ∈ lw_gd := tb_mem (i := 217) (by decide +kernel) (by decide +kernel)
theorem mw_282 : (.fieldLink "BreweryHouse$Safety" 25 "BreweryHouse$Safety" "stock" "LBreweryHouse$Stock;" : Cond) ∈ lw_gd := tb_mem (i := 282) (by decide +kernel) (by decide +kernel)
theorem mw_283 : (.fieldLink "BreweryHouse$Safety" 29 "BreweryHouse$Safety" "ways" "LBreweryHouse$Ways;" : Cond) ∈ lw_gd := tb_mem (i := 283) (by decide +kernel) (by decide +kernel)
theorem mw_284 : (.fieldLink "BreweryHouse$Safety" 9 "BreweryHouse$Safety" "sources" "[J" : Cond) ∈ lw_gd := tb_mem (i := 284) (by decide +kernel) (by decide +kernel)
theorem mw_285 : (.fieldLink "BreweryHouse$Safety" 15 "BreweryHouse$Safety" "rivals" "[I" : Cond) ∈ lw_gd := tb_mem (i := 285) (by decide +kernel) (by decide +kernel)
theorem mw_288 : (.fieldLink "BreweryHouse$Safety" 33 "BreweryHouse$Safety" "failure" "I" : Cond) ∈ lw_gd := tb_mem (i := 288) (by decide +kernel) (by decide +kernel)
theorem mw_289 : (.fieldLink "BreweryHouse" 359 "BreweryHouse$Safety" "failure" "I" : Cond) ∈ lw_gd := tb_mem (i := 289) (by decide +kernel) (by decide +kernel)
theorem mw_688 : (.fieldLink "BreweryHouse" 44 "BreweryHouse" "safety" "LBreweryHouse$Safety;" : Cond) ∈ lw_gd := tb_mem (i := 688) (by decide +kernel) (by decide +kernel)
theorem mw_1021 : (.static y_Ar_fillJ : Cond) ∈ lw_gd := tb_mem (i := 1021) (by decide +kernel) (by decide +kernel)
theorem mw_1022 : (.code y_Ar_fillJ b_Ar_fillJ 5 none : Cond) ∈ lw_gd := tb_mem (i := 1022) (by decide +kernel) (by decide +kernel)
theorem mw_1092 : (.methodLink "BreweryHouse" 218 y_Sf_isSafe : Cond) ∈ lw_gd := tb_mem (i := 1092) (by decide +kernel) (by decide +kernel)
theorem mw_1093 : (.instanceMethod y_Sf_isSafe : Cond) ∈ lw_gd := tb_mem (i := 1093) (by decide +kernel) (by decide +kernel)
theorem mw_1094 : (.selects "BreweryHouse$Safety" y_Sf_isSafe y_Sf_isSafe : Cond) ∈ lw_gd := tb_mem (i := 1094) (by decide +kernel) (by decide +kernel)
theorem mw_1095 : (.code y_Sf_isSafe b_Sf_isSafe 4 (some .boolean) : Cond) ∈ lw_gd := tb_mem (i := 1095) (by decide +kernel) (by decide +kernel)
theorem mw_1096 : (.methodLink "BreweryHouse$Safety" 37 y_Ar_fillJ : Cond) ∈ lw_gd := tb_mem (i := 1096) (by decide +kernel) (by decide +kernel)
theorem mw_1097 : (.methodLink "BreweryHouse$Safety" 43 y_Wa_addSources : Cond) ∈ lw_gd := tb_mem (i := 1097) (by decide +kernel) (by decide +kernel)
theorem mw_1098 : (.instanceMethod y_Wa_addSources : Cond) ∈ lw_gd := tb_mem (i := 1098) (by decide +kernel) (by decide +kernel)
theorem mw_1099 : (.selects "BreweryHouse$Ways" y_Wa_addSources y_Wa_addSources : Cond) ∈ lw_gd := tb_mem (i := 1099) (by decide +kernel) (by decide +kernel)
theorem mw_1100 : (.code y_Wa_addSources b_Wa_addSources 8 none : Cond) ∈ lw_gd := tb_mem (i := 1100) (by decide +kernel) (by decide +kernel)
theorem mw_1101 : (.methodLink "BreweryHouse$Safety" 49 y_Sf_findRivals : Cond) ∈ lw_gd := tb_mem (i := 1101) (by decide +kernel) (by decide +kernel)
theorem mw_1103 : (.instanceMethod y_Sf_findRivals : Cond) ∈ lw_gd := tb_mem (i := 1103) (by decide +kernel) (by decide +kernel)
theorem mw_1104 : (.code y_Sf_findRivals b_Sf_findRivals 5 (some .boolean) : Cond) ∈ lw_gd := tb_mem (i := 1104) (by decide +kernel) (by decide +kernel)
theorem sl_48 : (.selects "BreweryHouse$Safety" y_Sf_findRivals y_Sf_findRivals : Cond) ∈ lw_gd := List.mem_filter.mpr ⟨List.mem_append_left _ (List.mem_of_getElem? (i := 48) (by decide +kernel)), by decide +kernel⟩
abbrev t_Wa_addSources_103 : List UInt8 := 177 :: []
abbrev t_Wa_addSources_100 : List UInt8 := 167 :: 255 :: 169 :: t_Wa_addSources_103
abbrev t_Wa_addSources_97 : List UInt8 := 132 :: 3 :: 1 :: t_Wa_addSources_100
abbrev t_Wa_addSources_96 : List UInt8 := 80 :: t_Wa_addSources_97
abbrev t_Wa_addSources_95 : List UInt8 := 129 :: t_Wa_addSources_96
abbrev t_Wa_addSources_93 : List UInt8 := 22 :: 4 :: t_Wa_addSources_95
abbrev t_Wa_addSources_92 : List UInt8 := 47 :: t_Wa_addSources_93
abbrev t_Wa_addSources_91 : List UInt8 := 92 :: t_Wa_addSources_92
abbrev t_Wa_addSources_90 : List UInt8 := 46 :: t_Wa_addSources_91
abbrev t_Wa_addSources_89 : List UInt8 := 29 :: t_Wa_addSources_90
abbrev t_Wa_addSources_86 : List UInt8 := 180 :: 0 :: 21 :: t_Wa_addSources_89
abbrev t_Wa_addSources_85 : List UInt8 := 42 :: t_Wa_addSources_86
abbrev t_Wa_addSources_84 : List UInt8 := 43 :: t_Wa_addSources_85
abbrev t_Wa_addSources_81 : List UInt8 := 167 :: 255 :: 217 :: t_Wa_addSources_84
abbrev t_Wa_addSources_78 : List UInt8 := 132 :: 7 :: 1 :: t_Wa_addSources_81
abbrev t_Wa_addSources_76 : List UInt8 := 54 :: 6 :: t_Wa_addSources_78
abbrev t_Wa_addSources_75 : List UInt8 := 46 :: t_Wa_addSources_76
abbrev t_Wa_addSources_73 : List UInt8 := 21 :: 6 :: t_Wa_addSources_75
abbrev t_Wa_addSources_70 : List UInt8 := 180 :: 0 :: 36 :: t_Wa_addSources_73
abbrev t_Wa_addSources_69 : List UInt8 := 42 :: t_Wa_addSources_70
abbrev t_Wa_addSources_67 : List UInt8 := 55 :: 4 :: t_Wa_addSources_69
abbrev t_Wa_addSources_66 : List UInt8 := 129 :: t_Wa_addSources_67
abbrev t_Wa_addSources_65 : List UInt8 := 121 :: t_Wa_addSources_66
abbrev t_Wa_addSources_64 : List UInt8 := 96 :: t_Wa_addSources_65
abbrev t_Wa_addSources_62 : List UInt8 := 21 :: 6 :: t_Wa_addSources_64
abbrev t_Wa_addSources_61 : List UInt8 := 28 :: t_Wa_addSources_62
abbrev t_Wa_addSources_60 : List UInt8 := 10 :: t_Wa_addSources_61
abbrev t_Wa_addSources_58 : List UInt8 := 22 :: 4 :: t_Wa_addSources_60
abbrev t_Wa_addSources_55 : List UInt8 := 155 :: 0 :: 29 :: t_Wa_addSources_58
abbrev t_Wa_addSources_53 : List UInt8 := 21 :: 6 :: t_Wa_addSources_55
abbrev t_Wa_addSources_50 : List UInt8 := 162 :: 0 :: 34 :: t_Wa_addSources_53
abbrev t_Wa_addSources_49 : List UInt8 := 46 :: t_Wa_addSources_50
abbrev t_Wa_addSources_48 : List UInt8 := 29 :: t_Wa_addSources_49
abbrev t_Wa_addSources_45 : List UInt8 := 180 :: 0 :: 24 :: t_Wa_addSources_48
abbrev t_Wa_addSources_44 : List UInt8 := 42 :: t_Wa_addSources_45
abbrev t_Wa_addSources_42 : List UInt8 := 21 :: 7 :: t_Wa_addSources_44
abbrev t_Wa_addSources_40 : List UInt8 := 54 :: 7 :: t_Wa_addSources_42
abbrev t_Wa_addSources_39 : List UInt8 := 3 :: t_Wa_addSources_40
abbrev t_Wa_addSources_37 : List UInt8 := 54 :: 6 :: t_Wa_addSources_39
abbrev t_Wa_addSources_36 : List UInt8 := 46 :: t_Wa_addSources_37
abbrev t_Wa_addSources_35 : List UInt8 := 29 :: t_Wa_addSources_36
abbrev t_Wa_addSources_32 : List UInt8 := 180 :: 0 :: 27 :: t_Wa_addSources_35
abbrev t_Wa_addSources_31 : List UInt8 := 42 :: t_Wa_addSources_32
abbrev t_Wa_addSources_29 : List UInt8 := 55 :: 4 :: t_Wa_addSources_31
abbrev t_Wa_addSources_28 : List UInt8 := 121 :: t_Wa_addSources_29
abbrev t_Wa_addSources_27 : List UInt8 := 46 :: t_Wa_addSources_28
abbrev t_Wa_addSources_26 : List UInt8 := 29 :: t_Wa_addSources_27
abbrev t_Wa_addSources_23 : List UInt8 := 180 :: 0 :: 15 :: t_Wa_addSources_26
abbrev t_Wa_addSources_22 : List UInt8 := 42 :: t_Wa_addSources_23
abbrev t_Wa_addSources_21 : List UInt8 := 10 :: t_Wa_addSources_22
abbrev t_Wa_addSources_18 : List UInt8 := 162 :: 0 :: 85 :: t_Wa_addSources_21
abbrev t_Wa_addSources_15 : List UInt8 := 180 :: 0 :: 65 :: t_Wa_addSources_18
abbrev t_Wa_addSources_14 : List UInt8 := 42 :: t_Wa_addSources_15
abbrev t_Wa_addSources_13 : List UInt8 := 29 :: t_Wa_addSources_14
abbrev t_Wa_addSources_12 : List UInt8 := 62 :: t_Wa_addSources_13
abbrev t_Wa_addSources_11 : List UInt8 := 3 :: t_Wa_addSources_12
abbrev t_Wa_addSources_10 : List UInt8 := 61 :: t_Wa_addSources_11
abbrev t_Wa_addSources_7 : List UInt8 := 180 :: 0 :: 85 :: t_Wa_addSources_10
abbrev t_Wa_addSources_4 : List UInt8 := 180 :: 0 :: 81 :: t_Wa_addSources_7
abbrev t_Wa_addSources_1 : List UInt8 := 180 :: 0 :: 58 :: t_Wa_addSources_4
abbrev t_Wa_addSources_0 : List UInt8 := 42 :: t_Wa_addSources_1
theorem a_Wa_addSources_0 : dk_at b_Wa_addSources 0 t_Wa_addSources_0 := dk_start (by decide +kernel)
theorem a_Wa_addSources_1 : dk_at b_Wa_addSources 1 t_Wa_addSources_1 := dk_go 1 a_Wa_addSources_0 rfl
theorem a_Wa_addSources_4 : dk_at b_Wa_addSources 4 t_Wa_addSources_4 := dk_go 3 a_Wa_addSources_1 rfl
theorem a_Wa_addSources_7 : dk_at b_Wa_addSources 7 t_Wa_addSources_7 := dk_go 3 a_Wa_addSources_4 rfl
theorem a_Wa_addSources_10 : dk_at b_Wa_addSources 10 t_Wa_addSources_10 := dk_go 3 a_Wa_addSources_7 rfl
theorem a_Wa_addSources_11 : dk_at b_Wa_addSources 11 t_Wa_addSources_11 := dk_go 1 a_Wa_addSources_10 rfl
theorem a_Wa_addSources_12 : dk_at b_Wa_addSources 12 t_Wa_addSources_12 := dk_go 1 a_Wa_addSources_11 rfl
theorem a_Wa_addSources_13 : dk_at b_Wa_addSources 13 t_Wa_addSources_13 := dk_go 1 a_Wa_addSources_12 rfl
theorem a_Wa_addSources_14 : dk_at b_Wa_addSources 14 t_Wa_addSources_14 := dk_go 1 a_Wa_addSources_13 rfl
theorem a_Wa_addSources_15 : dk_at b_Wa_addSources 15 t_Wa_addSources_15 := dk_go 1 a_Wa_addSources_14 rfl
theorem a_Wa_addSources_18 : dk_at b_Wa_addSources 18 t_Wa_addSources_18 := dk_go 3 a_Wa_addSources_15 rfl
theorem a_Wa_addSources_21 : dk_at b_Wa_addSources 21 t_Wa_addSources_21 := dk_go 3 a_Wa_addSources_18 rfl
theorem a_Wa_addSources_22 : dk_at b_Wa_addSources 22 t_Wa_addSources_22 := dk_go 1 a_Wa_addSources_21 rfl
theorem a_Wa_addSources_23 : dk_at b_Wa_addSources 23 t_Wa_addSources_23 := dk_go 1 a_Wa_addSources_22 rfl
theorem a_Wa_addSources_26 : dk_at b_Wa_addSources 26 t_Wa_addSources_26 := dk_go 3 a_Wa_addSources_23 rfl
theorem a_Wa_addSources_27 : dk_at b_Wa_addSources 27 t_Wa_addSources_27 := dk_go 1 a_Wa_addSources_26 rfl
theorem a_Wa_addSources_28 : dk_at b_Wa_addSources 28 t_Wa_addSources_28 := dk_go 1 a_Wa_addSources_27 rfl
theorem a_Wa_addSources_29 : dk_at b_Wa_addSources 29 t_Wa_addSources_29 := dk_go 1 a_Wa_addSources_28 rfl
theorem a_Wa_addSources_31 : dk_at b_Wa_addSources 31 t_Wa_addSources_31 := dk_go 2 a_Wa_addSources_29 rfl
theorem a_Wa_addSources_32 : dk_at b_Wa_addSources 32 t_Wa_addSources_32 := dk_go 1 a_Wa_addSources_31 rfl
theorem a_Wa_addSources_35 : dk_at b_Wa_addSources 35 t_Wa_addSources_35 := dk_go 3 a_Wa_addSources_32 rfl
theorem a_Wa_addSources_36 : dk_at b_Wa_addSources 36 t_Wa_addSources_36 := dk_go 1 a_Wa_addSources_35 rfl
theorem a_Wa_addSources_37 : dk_at b_Wa_addSources 37 t_Wa_addSources_37 := dk_go 1 a_Wa_addSources_36 rfl
theorem a_Wa_addSources_39 : dk_at b_Wa_addSources 39 t_Wa_addSources_39 := dk_go 2 a_Wa_addSources_37 rfl
theorem a_Wa_addSources_40 : dk_at b_Wa_addSources 40 t_Wa_addSources_40 := dk_go 1 a_Wa_addSources_39 rfl
theorem a_Wa_addSources_42 : dk_at b_Wa_addSources 42 t_Wa_addSources_42 := dk_go 2 a_Wa_addSources_40 rfl
theorem a_Wa_addSources_44 : dk_at b_Wa_addSources 44 t_Wa_addSources_44 := dk_go 2 a_Wa_addSources_42 rfl
theorem a_Wa_addSources_45 : dk_at b_Wa_addSources 45 t_Wa_addSources_45 := dk_go 1 a_Wa_addSources_44 rfl
theorem a_Wa_addSources_48 : dk_at b_Wa_addSources 48 t_Wa_addSources_48 := dk_go 3 a_Wa_addSources_45 rfl
theorem a_Wa_addSources_49 : dk_at b_Wa_addSources 49 t_Wa_addSources_49 := dk_go 1 a_Wa_addSources_48 rfl
theorem a_Wa_addSources_50 : dk_at b_Wa_addSources 50 t_Wa_addSources_50 := dk_go 1 a_Wa_addSources_49 rfl
theorem a_Wa_addSources_53 : dk_at b_Wa_addSources 53 t_Wa_addSources_53 := dk_go 3 a_Wa_addSources_50 rfl
theorem a_Wa_addSources_55 : dk_at b_Wa_addSources 55 t_Wa_addSources_55 := dk_go 2 a_Wa_addSources_53 rfl
theorem a_Wa_addSources_58 : dk_at b_Wa_addSources 58 t_Wa_addSources_58 := dk_go 3 a_Wa_addSources_55 rfl
theorem a_Wa_addSources_60 : dk_at b_Wa_addSources 60 t_Wa_addSources_60 := dk_go 2 a_Wa_addSources_58 rfl
theorem a_Wa_addSources_61 : dk_at b_Wa_addSources 61 t_Wa_addSources_61 := dk_go 1 a_Wa_addSources_60 rfl
theorem a_Wa_addSources_62 : dk_at b_Wa_addSources 62 t_Wa_addSources_62 := dk_go 1 a_Wa_addSources_61 rfl
theorem a_Wa_addSources_64 : dk_at b_Wa_addSources 64 t_Wa_addSources_64 := dk_go 2 a_Wa_addSources_62 rfl
theorem a_Wa_addSources_65 : dk_at b_Wa_addSources 65 t_Wa_addSources_65 := dk_go 1 a_Wa_addSources_64 rfl
theorem a_Wa_addSources_66 : dk_at b_Wa_addSources 66 t_Wa_addSources_66 := dk_go 1 a_Wa_addSources_65 rfl
theorem a_Wa_addSources_67 : dk_at b_Wa_addSources 67 t_Wa_addSources_67 := dk_go 1 a_Wa_addSources_66 rfl
theorem a_Wa_addSources_69 : dk_at b_Wa_addSources 69 t_Wa_addSources_69 := dk_go 2 a_Wa_addSources_67 rfl
theorem a_Wa_addSources_70 : dk_at b_Wa_addSources 70 t_Wa_addSources_70 := dk_go 1 a_Wa_addSources_69 rfl
theorem a_Wa_addSources_73 : dk_at b_Wa_addSources 73 t_Wa_addSources_73 := dk_go 3 a_Wa_addSources_70 rfl
theorem a_Wa_addSources_75 : dk_at b_Wa_addSources 75 t_Wa_addSources_75 := dk_go 2 a_Wa_addSources_73 rfl
theorem a_Wa_addSources_76 : dk_at b_Wa_addSources 76 t_Wa_addSources_76 := dk_go 1 a_Wa_addSources_75 rfl
theorem a_Wa_addSources_78 : dk_at b_Wa_addSources 78 t_Wa_addSources_78 := dk_go 2 a_Wa_addSources_76 rfl
theorem a_Wa_addSources_81 : dk_at b_Wa_addSources 81 t_Wa_addSources_81 := dk_go 3 a_Wa_addSources_78 rfl
theorem a_Wa_addSources_84 : dk_at b_Wa_addSources 84 t_Wa_addSources_84 := dk_go 3 a_Wa_addSources_81 rfl
theorem a_Wa_addSources_85 : dk_at b_Wa_addSources 85 t_Wa_addSources_85 := dk_go 1 a_Wa_addSources_84 rfl
theorem a_Wa_addSources_86 : dk_at b_Wa_addSources 86 t_Wa_addSources_86 := dk_go 1 a_Wa_addSources_85 rfl
theorem a_Wa_addSources_89 : dk_at b_Wa_addSources 89 t_Wa_addSources_89 := dk_go 3 a_Wa_addSources_86 rfl
theorem a_Wa_addSources_90 : dk_at b_Wa_addSources 90 t_Wa_addSources_90 := dk_go 1 a_Wa_addSources_89 rfl
theorem a_Wa_addSources_91 : dk_at b_Wa_addSources 91 t_Wa_addSources_91 := dk_go 1 a_Wa_addSources_90 rfl
theorem a_Wa_addSources_92 : dk_at b_Wa_addSources 92 t_Wa_addSources_92 := dk_go 1 a_Wa_addSources_91 rfl
theorem a_Wa_addSources_93 : dk_at b_Wa_addSources 93 t_Wa_addSources_93 := dk_go 1 a_Wa_addSources_92 rfl
theorem a_Wa_addSources_95 : dk_at b_Wa_addSources 95 t_Wa_addSources_95 := dk_go 2 a_Wa_addSources_93 rfl
theorem a_Wa_addSources_96 : dk_at b_Wa_addSources 96 t_Wa_addSources_96 := dk_go 1 a_Wa_addSources_95 rfl
theorem a_Wa_addSources_97 : dk_at b_Wa_addSources 97 t_Wa_addSources_97 := dk_go 1 a_Wa_addSources_96 rfl
theorem a_Wa_addSources_100 : dk_at b_Wa_addSources 100 t_Wa_addSources_100 := dk_go 3 a_Wa_addSources_97 rfl
theorem a_Wa_addSources_103 : dk_at b_Wa_addSources 103 t_Wa_addSources_103 := dk_go 3 a_Wa_addSources_100 rfl
theorem d_Wa_addSources_0 : decode b_Wa_addSources 0 = .ok (.aload_n 0, 1) := dk_0 a_Wa_addSources_0 (dko_42 _)
theorem d_Wa_addSources_1 : decode b_Wa_addSources 1 = .ok (.getfield 58, 3) := dk_U2 a_Wa_addSources_1 (dko_180 _) rfl
theorem d_Wa_addSources_4 : decode b_Wa_addSources 4 = .ok (.getfield 81, 3) := dk_U2 a_Wa_addSources_4 (dko_180 _) rfl
theorem d_Wa_addSources_7 : decode b_Wa_addSources 7 = .ok (.getfield 85, 3) := dk_U2 a_Wa_addSources_7 (dko_180 _) rfl
theorem d_Wa_addSources_10 : decode b_Wa_addSources 10 = .ok (.istore_n 2, 1) := dk_0 a_Wa_addSources_10 (dko_61 _)
theorem d_Wa_addSources_11 : decode b_Wa_addSources 11 = .ok (.iconst 0, 1) := dk_0 a_Wa_addSources_11 (dko_3 _)
theorem d_Wa_addSources_12 : decode b_Wa_addSources 12 = .ok (.istore_n 3, 1) := dk_0 a_Wa_addSources_12 (dko_62 _)
theorem d_Wa_addSources_13 : decode b_Wa_addSources 13 = .ok (.iload_n 3, 1) := dk_0 a_Wa_addSources_13 (dko_29 _)
theorem d_Wa_addSources_14 : decode b_Wa_addSources 14 = .ok (.aload_n 0, 1) := dk_0 a_Wa_addSources_14 (dko_42 _)
theorem d_Wa_addSources_15 : decode b_Wa_addSources 15 = .ok (.getfield 65, 3) := dk_U2 a_Wa_addSources_15 (dko_180 _) rfl
theorem d_Wa_addSources_18 : decode b_Wa_addSources 18 = .ok (.if_icmp .ge 85, 3) := dk_S2 a_Wa_addSources_18 (dko_162 _) (by decide +kernel)
theorem d_Wa_addSources_103 : decode b_Wa_addSources 103 = .ok (.return_, 1) := dk_0 a_Wa_addSources_103 (dko_177 _)
set_option maxHeartbeats 4000000 in
set_option maxRecDepth 100000 in
theorem c_Wa_addSources (l : Launch) (dC : Nat → ClassId) (dI : Nat → Nat → Nat) (cI cB cZ cJ : ClassId) (oWa : Nat) (oSt : Nat) (oP1 : Nat) (xf_sources : Nat) (xw : List Value) (hwa_stock : fx xw 0 (.ref oSt)) (hwa_count : fx xw 1 (.int 0)) (xs_ : List Value) (hst_plant : fx xs_ 0 (.ref oP1)) (xp : List Value) (hxp_things : fx xp 0 (.int 0)) (sz : Nat) : Met l y_Wa_addSources w_Wa_addSources ({ frames := 0, cells := 0, slots := 0, locals := 0 }) (va_Pc [.ref oWa, .ref xf_sources] (PW dC dI cI cB cZ cJ [(oWa, .inr (5, xw)), (oSt, .inr (4, xs_)), (oP1, .inr (3, xp))] sz)) (va_Qv (fun _ : Unit => True) (fun _ _ => True) (va_A [] sz)) 0 0 (va_A [] sz) := by
  refine Met.ofW (cc := b_Wa_addSources) (maxL := 8) (ret := none) (by decide) rfl ?_
  intro p e s m args below meth c s₁ B hml hv
  obtain ⟨rfl, hsz, hP, hK, hD⟩ := hv
  have hx := B.exec
  have hb := B.bytes
  have hr := B.returns
  have hts := atoms_spec (ws := w_Wa_addSources) B.pre
  have hown : s.vm.findClass R_Wa = some m.cls := findClass_of_methodNamed B.named
  have hlocks := B.notSynchronized
  subst hsz
  generalize hAe : va_A [] s.heap.size = A at ⊢
  have hA : ∀ q : Nat, s.heap.size ≤ q → A q := fun q h => by rw [← hAe]; exact Or.inr h
  have hS : va_S A s.heap s.heap [] := va_S.rf
  have hP : va_P (dC, dI) classes [(oWa, .inr (5, xw)), (oSt, .inr (4, xs_)), (oP1, .inr (3, xp))] s.heap := hP
  have hl := lv_entry ([.ref oWa, .ref xf_sources]) (n := 8) (Nat.le_of_ble_eq_true rfl)
  rw [lg_entry_eq]
  generalize (lg_sl ([.ref oWa, .ref xf_sources]) ++ List.replicate (8 - (lg_sl ([.ref oWa, .ref xf_sources])).length) Slot.unset).toArray = ls at hl ⊢
  have hl : lv_has ls 8 [(0, .ref oWa), (1, .ref xf_sources)] := hl
  refine lv_aload_n hx hb d_Wa_addSources_0 rfl (lv_at hl 0 rfl) ?_
  refine va_get (D := (dC, dI)) (ci := 5) (v := .ref oSt) (C := R_Wa) (T := F_Wa) (N := 18) hx hb hts (fun w h => List.mem_cons_of_mem _ (in_Wa w h)) hown hK.1 hP 0 rfl rfl 0 (by decide) (hts _ (List.mem_cons_of_mem _ mw_217)) (fun _ h9 => h9) hwa_stock d_Wa_addSources_1 ?_
  refine va_get (D := (dC, dI)) (ci := 4) (v := .ref oP1) (C := R_St) (T := F_St) (N := 12) hx hb hts (fun w h => List.mem_cons_of_mem _ (in_St w h)) hown hK.1 hP 1 rfl rfl 0 (by decide) (hts _ (List.mem_cons_of_mem _ mw_152)) (fun _ h9 => h9) hst_plant d_Wa_addSources_4 ?_
  refine va_get (D := (dC, dI)) (ci := 3) (v := .int 0) (C := R_Pl) (T := F_Pl) (N := 12) hx hb hts (fun w h => List.mem_cons_of_mem _ (in_Pl w h)) hown hK.1 hP 2 rfl rfl 0 (by decide) (hts _ (List.mem_cons_of_mem _ mw_90)) (fun _ h9 => h9) hxp_things d_Wa_addSources_7 ?_
  refine lv_istore_n hx hb d_Wa_addSources_10 rfl hl (by decide) rfl (fun ls hl => ?_)
  have hl : lv_has ls 8 [(2, .int 0), (0, .ref oWa), (1, .ref xf_sources)] := hl
  refine lv_iconst (v := 0) hx hb d_Wa_addSources_11 (by decide) ?_
  refine lv_istore_n hx hb d_Wa_addSources_12 rfl hl (by decide) rfl (fun ls hl => ?_)
  have hl : lv_has ls 8 [(3, .int 0), (2, .int 0), (0, .ref oWa), (1, .ref xf_sources)] := hl
  refine lv_iload_n hx hb d_Wa_addSources_13 rfl (lv_at hl 0 rfl) ?_
  refine lv_aload_n hx hb d_Wa_addSources_14 rfl (lv_at hl 2 rfl) ?_
  refine va_get (D := (dC, dI)) (ci := 5) (v := .int 0) (C := R_Wa) (T := F_Wa) (N := 18) hx hb hts (fun w h => List.mem_cons_of_mem _ (in_Wa w h)) hown hK.1 hP 0 rfl rfl 1 (by decide) (hts _ (List.mem_cons_of_mem _ mw_218)) (fun _ h9 => h9) hwa_count d_Wa_addSources_15 ?_
  refine lv_icmp_ge (tgt := 103) hx hb d_Wa_addSources_18 (by decide) (fun _ => ?_) (fun h => absurd (by decide) h)
  exact W.vret hx hb hr (fun t ht hW => ⟨⟨(), rfl, trivial, trivial⟩, hS.F ht⟩) hS.2.2 d_Wa_addSources_103
abbrev t_Sf_findRivals_170 : List UInt8 := 172 :: []
abbrev t_Sf_findRivals_169 : List UInt8 := 28 :: t_Sf_findRivals_170
abbrev t_Sf_findRivals_166 : List UInt8 := 167 :: 255 :: 184 :: t_Sf_findRivals_169
abbrev t_Sf_findRivals_163 : List UInt8 := 132 :: 3 :: 1 :: t_Sf_findRivals_166
abbrev t_Sf_findRivals_162 : List UInt8 := 61 :: t_Sf_findRivals_163
abbrev t_Sf_findRivals_161 : List UInt8 := 3 :: t_Sf_findRivals_162
abbrev t_Sf_findRivals_158 : List UInt8 := 167 :: 0 :: 4 :: t_Sf_findRivals_161
abbrev t_Sf_findRivals_157 : List UInt8 := 4 :: t_Sf_findRivals_158
abbrev t_Sf_findRivals_154 : List UInt8 := 153 :: 0 :: 7 :: t_Sf_findRivals_157
abbrev t_Sf_findRivals_153 : List UInt8 := 46 :: t_Sf_findRivals_154
abbrev t_Sf_findRivals_152 : List UInt8 := 29 :: t_Sf_findRivals_153
abbrev t_Sf_findRivals_149 : List UInt8 := 180 :: 0 :: 15 :: t_Sf_findRivals_152
abbrev t_Sf_findRivals_148 : List UInt8 := 42 :: t_Sf_findRivals_149
abbrev t_Sf_findRivals_145 : List UInt8 := 154 :: 0 :: 12 :: t_Sf_findRivals_148
abbrev t_Sf_findRivals_144 : List UInt8 := 28 :: t_Sf_findRivals_145
abbrev t_Sf_findRivals_143 : List UInt8 := 79 :: t_Sf_findRivals_144
abbrev t_Sf_findRivals_142 : List UInt8 := 3 :: t_Sf_findRivals_143
abbrev t_Sf_findRivals_139 : List UInt8 := 167 :: 0 :: 4 :: t_Sf_findRivals_142
abbrev t_Sf_findRivals_137 : List UInt8 := 21 :: 4 :: t_Sf_findRivals_139
abbrev t_Sf_findRivals_134 : List UInt8 := 153 :: 0 :: 8 :: t_Sf_findRivals_137
abbrev t_Sf_findRivals_133 : List UInt8 := 148 :: t_Sf_findRivals_134
abbrev t_Sf_findRivals_132 : List UInt8 := 9 :: t_Sf_findRivals_133
abbrev t_Sf_findRivals_131 : List UInt8 := 47 :: t_Sf_findRivals_132
abbrev t_Sf_findRivals_130 : List UInt8 := 29 :: t_Sf_findRivals_131
abbrev t_Sf_findRivals_127 : List UInt8 := 180 :: 0 :: 9 :: t_Sf_findRivals_130
abbrev t_Sf_findRivals_126 : List UInt8 := 42 :: t_Sf_findRivals_127
abbrev t_Sf_findRivals_125 : List UInt8 := 29 :: t_Sf_findRivals_126
abbrev t_Sf_findRivals_122 : List UInt8 := 180 :: 0 :: 15 :: t_Sf_findRivals_125
abbrev t_Sf_findRivals_121 : List UInt8 := 42 :: t_Sf_findRivals_122
abbrev t_Sf_findRivals_119 : List UInt8 := 54 :: 4 :: t_Sf_findRivals_121
abbrev t_Sf_findRivals_118 : List UInt8 := 126 :: t_Sf_findRivals_119
abbrev t_Sf_findRivals_117 : List UInt8 := 130 :: t_Sf_findRivals_118
abbrev t_Sf_findRivals_116 : List UInt8 := 2 :: t_Sf_findRivals_117
abbrev t_Sf_findRivals_115 : List UInt8 := 120 :: t_Sf_findRivals_116
abbrev t_Sf_findRivals_114 : List UInt8 := 29 :: t_Sf_findRivals_115
abbrev t_Sf_findRivals_113 : List UInt8 := 4 :: t_Sf_findRivals_114
abbrev t_Sf_findRivals_112 : List UInt8 := 126 :: t_Sf_findRivals_113
abbrev t_Sf_findRivals_111 : List UInt8 := 130 :: t_Sf_findRivals_112
abbrev t_Sf_findRivals_110 : List UInt8 := 2 :: t_Sf_findRivals_111
abbrev t_Sf_findRivals_109 : List UInt8 := 46 :: t_Sf_findRivals_110
abbrev t_Sf_findRivals_108 : List UInt8 := 29 :: t_Sf_findRivals_109
abbrev t_Sf_findRivals_105 : List UInt8 := 180 :: 0 :: 101 :: t_Sf_findRivals_108
abbrev t_Sf_findRivals_102 : List UInt8 := 180 :: 0 :: 25 :: t_Sf_findRivals_105
abbrev t_Sf_findRivals_101 : List UInt8 := 42 :: t_Sf_findRivals_102
abbrev t_Sf_findRivals_100 : List UInt8 := 27 :: t_Sf_findRivals_101
abbrev t_Sf_findRivals_97 : List UInt8 := 163 :: 0 :: 72 :: t_Sf_findRivals_100
abbrev t_Sf_findRivals_95 : List UInt8 := 16 :: 14 :: t_Sf_findRivals_97
abbrev t_Sf_findRivals_94 : List UInt8 := 29 :: t_Sf_findRivals_95
abbrev t_Sf_findRivals_93 : List UInt8 := 62 :: t_Sf_findRivals_94
abbrev t_Sf_findRivals_92 : List UInt8 := 4 :: t_Sf_findRivals_93
abbrev t_Sf_findRivals_91 : List UInt8 := 61 :: t_Sf_findRivals_92
abbrev t_Sf_findRivals_90 : List UInt8 := 3 :: t_Sf_findRivals_91
abbrev t_Sf_findRivals_87 : List UInt8 := 167 :: 255 :: 226 :: t_Sf_findRivals_90
abbrev t_Sf_findRivals_84 : List UInt8 := 132 :: 2 :: 1 :: t_Sf_findRivals_87
abbrev t_Sf_findRivals_83 : List UInt8 := 60 :: t_Sf_findRivals_84
abbrev t_Sf_findRivals_82 : List UInt8 := 128 :: t_Sf_findRivals_83
abbrev t_Sf_findRivals_81 : List UInt8 := 3 :: t_Sf_findRivals_82
abbrev t_Sf_findRivals_78 : List UInt8 := 167 :: 0 :: 4 :: t_Sf_findRivals_81
abbrev t_Sf_findRivals_77 : List UInt8 := 120 :: t_Sf_findRivals_78
abbrev t_Sf_findRivals_76 : List UInt8 := 28 :: t_Sf_findRivals_77
abbrev t_Sf_findRivals_75 : List UInt8 := 4 :: t_Sf_findRivals_76
abbrev t_Sf_findRivals_72 : List UInt8 := 153 :: 0 :: 9 :: t_Sf_findRivals_75
abbrev t_Sf_findRivals_71 : List UInt8 := 148 :: t_Sf_findRivals_72
abbrev t_Sf_findRivals_70 : List UInt8 := 9 :: t_Sf_findRivals_71
abbrev t_Sf_findRivals_69 : List UInt8 := 47 :: t_Sf_findRivals_70
abbrev t_Sf_findRivals_68 : List UInt8 := 28 :: t_Sf_findRivals_69
abbrev t_Sf_findRivals_65 : List UInt8 := 180 :: 0 :: 9 :: t_Sf_findRivals_68
abbrev t_Sf_findRivals_64 : List UInt8 := 42 :: t_Sf_findRivals_65
abbrev t_Sf_findRivals_63 : List UInt8 := 27 :: t_Sf_findRivals_64
abbrev t_Sf_findRivals_60 : List UInt8 := 163 :: 0 :: 30 :: t_Sf_findRivals_63
abbrev t_Sf_findRivals_58 : List UInt8 := 16 :: 14 :: t_Sf_findRivals_60
abbrev t_Sf_findRivals_57 : List UInt8 := 28 :: t_Sf_findRivals_58
abbrev t_Sf_findRivals_56 : List UInt8 := 61 :: t_Sf_findRivals_57
abbrev t_Sf_findRivals_55 : List UInt8 := 4 :: t_Sf_findRivals_56
abbrev t_Sf_findRivals_54 : List UInt8 := 60 :: t_Sf_findRivals_55
abbrev t_Sf_findRivals_53 : List UInt8 := 3 :: t_Sf_findRivals_54
abbrev t_Sf_findRivals_50 : List UInt8 := 167 :: 255 :: 208 :: t_Sf_findRivals_53
abbrev t_Sf_findRivals_47 : List UInt8 := 132 :: 1 :: 1 :: t_Sf_findRivals_50
abbrev t_Sf_findRivals_46 : List UInt8 := 80 :: t_Sf_findRivals_47
abbrev t_Sf_findRivals_45 : List UInt8 := 129 :: t_Sf_findRivals_46
abbrev t_Sf_findRivals_44 : List UInt8 := 121 :: t_Sf_findRivals_45
abbrev t_Sf_findRivals_43 : List UInt8 := 27 :: t_Sf_findRivals_44
abbrev t_Sf_findRivals_42 : List UInt8 := 10 :: t_Sf_findRivals_43
abbrev t_Sf_findRivals_41 : List UInt8 := 47 :: t_Sf_findRivals_42
abbrev t_Sf_findRivals_40 : List UInt8 := 92 :: t_Sf_findRivals_41
abbrev t_Sf_findRivals_39 : List UInt8 := 46 :: t_Sf_findRivals_40
abbrev t_Sf_findRivals_38 : List UInt8 := 27 :: t_Sf_findRivals_39
abbrev t_Sf_findRivals_35 : List UInt8 := 180 :: 0 :: 98 :: t_Sf_findRivals_38
abbrev t_Sf_findRivals_32 : List UInt8 := 180 :: 0 :: 25 :: t_Sf_findRivals_35
abbrev t_Sf_findRivals_31 : List UInt8 := 42 :: t_Sf_findRivals_32
abbrev t_Sf_findRivals_28 : List UInt8 := 180 :: 0 :: 9 :: t_Sf_findRivals_31
abbrev t_Sf_findRivals_27 : List UInt8 := 42 :: t_Sf_findRivals_28
abbrev t_Sf_findRivals_24 : List UInt8 := 162 :: 0 :: 29 :: t_Sf_findRivals_27
abbrev t_Sf_findRivals_23 : List UInt8 := 96 :: t_Sf_findRivals_24
abbrev t_Sf_findRivals_20 : List UInt8 := 180 :: 0 :: 95 :: t_Sf_findRivals_23
abbrev t_Sf_findRivals_17 : List UInt8 := 180 :: 0 :: 60 :: t_Sf_findRivals_20
abbrev t_Sf_findRivals_14 : List UInt8 := 180 :: 0 :: 25 :: t_Sf_findRivals_17
abbrev t_Sf_findRivals_13 : List UInt8 := 42 :: t_Sf_findRivals_14
abbrev t_Sf_findRivals_10 : List UInt8 := 180 :: 0 :: 66 :: t_Sf_findRivals_13
abbrev t_Sf_findRivals_7 : List UInt8 := 180 :: 0 :: 60 :: t_Sf_findRivals_10
abbrev t_Sf_findRivals_4 : List UInt8 := 180 :: 0 :: 25 :: t_Sf_findRivals_7
abbrev t_Sf_findRivals_3 : List UInt8 := 42 :: t_Sf_findRivals_4
abbrev t_Sf_findRivals_2 : List UInt8 := 27 :: t_Sf_findRivals_3
abbrev t_Sf_findRivals_1 : List UInt8 := 60 :: t_Sf_findRivals_2
abbrev t_Sf_findRivals_0 : List UInt8 := 3 :: t_Sf_findRivals_1
theorem a_Sf_findRivals_0 : dk_at b_Sf_findRivals 0 t_Sf_findRivals_0 := dk_start (by decide +kernel)
theorem a_Sf_findRivals_1 : dk_at b_Sf_findRivals 1 t_Sf_findRivals_1 := dk_go 1 a_Sf_findRivals_0 rfl
theorem a_Sf_findRivals_2 : dk_at b_Sf_findRivals 2 t_Sf_findRivals_2 := dk_go 1 a_Sf_findRivals_1 rfl
theorem a_Sf_findRivals_3 : dk_at b_Sf_findRivals 3 t_Sf_findRivals_3 := dk_go 1 a_Sf_findRivals_2 rfl
theorem a_Sf_findRivals_4 : dk_at b_Sf_findRivals 4 t_Sf_findRivals_4 := dk_go 1 a_Sf_findRivals_3 rfl
theorem a_Sf_findRivals_7 : dk_at b_Sf_findRivals 7 t_Sf_findRivals_7 := dk_go 3 a_Sf_findRivals_4 rfl
theorem a_Sf_findRivals_10 : dk_at b_Sf_findRivals 10 t_Sf_findRivals_10 := dk_go 3 a_Sf_findRivals_7 rfl
theorem a_Sf_findRivals_13 : dk_at b_Sf_findRivals 13 t_Sf_findRivals_13 := dk_go 3 a_Sf_findRivals_10 rfl
theorem a_Sf_findRivals_14 : dk_at b_Sf_findRivals 14 t_Sf_findRivals_14 := dk_go 1 a_Sf_findRivals_13 rfl
theorem a_Sf_findRivals_17 : dk_at b_Sf_findRivals 17 t_Sf_findRivals_17 := dk_go 3 a_Sf_findRivals_14 rfl
theorem a_Sf_findRivals_20 : dk_at b_Sf_findRivals 20 t_Sf_findRivals_20 := dk_go 3 a_Sf_findRivals_17 rfl
theorem a_Sf_findRivals_23 : dk_at b_Sf_findRivals 23 t_Sf_findRivals_23 := dk_go 3 a_Sf_findRivals_20 rfl
theorem a_Sf_findRivals_24 : dk_at b_Sf_findRivals 24 t_Sf_findRivals_24 := dk_go 1 a_Sf_findRivals_23 rfl
theorem a_Sf_findRivals_27 : dk_at b_Sf_findRivals 27 t_Sf_findRivals_27 := dk_go 3 a_Sf_findRivals_24 rfl
theorem a_Sf_findRivals_28 : dk_at b_Sf_findRivals 28 t_Sf_findRivals_28 := dk_go 1 a_Sf_findRivals_27 rfl
theorem a_Sf_findRivals_31 : dk_at b_Sf_findRivals 31 t_Sf_findRivals_31 := dk_go 3 a_Sf_findRivals_28 rfl
theorem a_Sf_findRivals_32 : dk_at b_Sf_findRivals 32 t_Sf_findRivals_32 := dk_go 1 a_Sf_findRivals_31 rfl
theorem a_Sf_findRivals_35 : dk_at b_Sf_findRivals 35 t_Sf_findRivals_35 := dk_go 3 a_Sf_findRivals_32 rfl
theorem a_Sf_findRivals_38 : dk_at b_Sf_findRivals 38 t_Sf_findRivals_38 := dk_go 3 a_Sf_findRivals_35 rfl
theorem a_Sf_findRivals_39 : dk_at b_Sf_findRivals 39 t_Sf_findRivals_39 := dk_go 1 a_Sf_findRivals_38 rfl
theorem a_Sf_findRivals_40 : dk_at b_Sf_findRivals 40 t_Sf_findRivals_40 := dk_go 1 a_Sf_findRivals_39 rfl
theorem a_Sf_findRivals_41 : dk_at b_Sf_findRivals 41 t_Sf_findRivals_41 := dk_go 1 a_Sf_findRivals_40 rfl
theorem a_Sf_findRivals_42 : dk_at b_Sf_findRivals 42 t_Sf_findRivals_42 := dk_go 1 a_Sf_findRivals_41 rfl
theorem a_Sf_findRivals_43 : dk_at b_Sf_findRivals 43 t_Sf_findRivals_43 := dk_go 1 a_Sf_findRivals_42 rfl
theorem a_Sf_findRivals_44 : dk_at b_Sf_findRivals 44 t_Sf_findRivals_44 := dk_go 1 a_Sf_findRivals_43 rfl
theorem a_Sf_findRivals_45 : dk_at b_Sf_findRivals 45 t_Sf_findRivals_45 := dk_go 1 a_Sf_findRivals_44 rfl
theorem a_Sf_findRivals_46 : dk_at b_Sf_findRivals 46 t_Sf_findRivals_46 := dk_go 1 a_Sf_findRivals_45 rfl
theorem a_Sf_findRivals_47 : dk_at b_Sf_findRivals 47 t_Sf_findRivals_47 := dk_go 1 a_Sf_findRivals_46 rfl
theorem a_Sf_findRivals_50 : dk_at b_Sf_findRivals 50 t_Sf_findRivals_50 := dk_go 3 a_Sf_findRivals_47 rfl
theorem a_Sf_findRivals_53 : dk_at b_Sf_findRivals 53 t_Sf_findRivals_53 := dk_go 3 a_Sf_findRivals_50 rfl
theorem a_Sf_findRivals_54 : dk_at b_Sf_findRivals 54 t_Sf_findRivals_54 := dk_go 1 a_Sf_findRivals_53 rfl
theorem a_Sf_findRivals_55 : dk_at b_Sf_findRivals 55 t_Sf_findRivals_55 := dk_go 1 a_Sf_findRivals_54 rfl
theorem a_Sf_findRivals_56 : dk_at b_Sf_findRivals 56 t_Sf_findRivals_56 := dk_go 1 a_Sf_findRivals_55 rfl
theorem a_Sf_findRivals_57 : dk_at b_Sf_findRivals 57 t_Sf_findRivals_57 := dk_go 1 a_Sf_findRivals_56 rfl
theorem a_Sf_findRivals_58 : dk_at b_Sf_findRivals 58 t_Sf_findRivals_58 := dk_go 1 a_Sf_findRivals_57 rfl
theorem a_Sf_findRivals_60 : dk_at b_Sf_findRivals 60 t_Sf_findRivals_60 := dk_go 2 a_Sf_findRivals_58 rfl
theorem a_Sf_findRivals_63 : dk_at b_Sf_findRivals 63 t_Sf_findRivals_63 := dk_go 3 a_Sf_findRivals_60 rfl
theorem a_Sf_findRivals_64 : dk_at b_Sf_findRivals 64 t_Sf_findRivals_64 := dk_go 1 a_Sf_findRivals_63 rfl
theorem a_Sf_findRivals_65 : dk_at b_Sf_findRivals 65 t_Sf_findRivals_65 := dk_go 1 a_Sf_findRivals_64 rfl
theorem a_Sf_findRivals_68 : dk_at b_Sf_findRivals 68 t_Sf_findRivals_68 := dk_go 3 a_Sf_findRivals_65 rfl
theorem a_Sf_findRivals_69 : dk_at b_Sf_findRivals 69 t_Sf_findRivals_69 := dk_go 1 a_Sf_findRivals_68 rfl
theorem a_Sf_findRivals_70 : dk_at b_Sf_findRivals 70 t_Sf_findRivals_70 := dk_go 1 a_Sf_findRivals_69 rfl
theorem a_Sf_findRivals_71 : dk_at b_Sf_findRivals 71 t_Sf_findRivals_71 := dk_go 1 a_Sf_findRivals_70 rfl
theorem a_Sf_findRivals_72 : dk_at b_Sf_findRivals 72 t_Sf_findRivals_72 := dk_go 1 a_Sf_findRivals_71 rfl
theorem a_Sf_findRivals_75 : dk_at b_Sf_findRivals 75 t_Sf_findRivals_75 := dk_go 3 a_Sf_findRivals_72 rfl
theorem a_Sf_findRivals_76 : dk_at b_Sf_findRivals 76 t_Sf_findRivals_76 := dk_go 1 a_Sf_findRivals_75 rfl
theorem a_Sf_findRivals_77 : dk_at b_Sf_findRivals 77 t_Sf_findRivals_77 := dk_go 1 a_Sf_findRivals_76 rfl
theorem a_Sf_findRivals_78 : dk_at b_Sf_findRivals 78 t_Sf_findRivals_78 := dk_go 1 a_Sf_findRivals_77 rfl
theorem a_Sf_findRivals_81 : dk_at b_Sf_findRivals 81 t_Sf_findRivals_81 := dk_go 3 a_Sf_findRivals_78 rfl
theorem a_Sf_findRivals_82 : dk_at b_Sf_findRivals 82 t_Sf_findRivals_82 := dk_go 1 a_Sf_findRivals_81 rfl
theorem a_Sf_findRivals_83 : dk_at b_Sf_findRivals 83 t_Sf_findRivals_83 := dk_go 1 a_Sf_findRivals_82 rfl
theorem a_Sf_findRivals_84 : dk_at b_Sf_findRivals 84 t_Sf_findRivals_84 := dk_go 1 a_Sf_findRivals_83 rfl
theorem a_Sf_findRivals_87 : dk_at b_Sf_findRivals 87 t_Sf_findRivals_87 := dk_go 3 a_Sf_findRivals_84 rfl
theorem a_Sf_findRivals_90 : dk_at b_Sf_findRivals 90 t_Sf_findRivals_90 := dk_go 3 a_Sf_findRivals_87 rfl
theorem a_Sf_findRivals_91 : dk_at b_Sf_findRivals 91 t_Sf_findRivals_91 := dk_go 1 a_Sf_findRivals_90 rfl
theorem a_Sf_findRivals_92 : dk_at b_Sf_findRivals 92 t_Sf_findRivals_92 := dk_go 1 a_Sf_findRivals_91 rfl
theorem a_Sf_findRivals_93 : dk_at b_Sf_findRivals 93 t_Sf_findRivals_93 := dk_go 1 a_Sf_findRivals_92 rfl
theorem a_Sf_findRivals_94 : dk_at b_Sf_findRivals 94 t_Sf_findRivals_94 := dk_go 1 a_Sf_findRivals_93 rfl
theorem a_Sf_findRivals_95 : dk_at b_Sf_findRivals 95 t_Sf_findRivals_95 := dk_go 1 a_Sf_findRivals_94 rfl
theorem a_Sf_findRivals_97 : dk_at b_Sf_findRivals 97 t_Sf_findRivals_97 := dk_go 2 a_Sf_findRivals_95 rfl
theorem a_Sf_findRivals_100 : dk_at b_Sf_findRivals 100 t_Sf_findRivals_100 := dk_go 3 a_Sf_findRivals_97 rfl
theorem a_Sf_findRivals_101 : dk_at b_Sf_findRivals 101 t_Sf_findRivals_101 := dk_go 1 a_Sf_findRivals_100 rfl
theorem a_Sf_findRivals_102 : dk_at b_Sf_findRivals 102 t_Sf_findRivals_102 := dk_go 1 a_Sf_findRivals_101 rfl
theorem a_Sf_findRivals_105 : dk_at b_Sf_findRivals 105 t_Sf_findRivals_105 := dk_go 3 a_Sf_findRivals_102 rfl
theorem a_Sf_findRivals_108 : dk_at b_Sf_findRivals 108 t_Sf_findRivals_108 := dk_go 3 a_Sf_findRivals_105 rfl
theorem a_Sf_findRivals_109 : dk_at b_Sf_findRivals 109 t_Sf_findRivals_109 := dk_go 1 a_Sf_findRivals_108 rfl
theorem a_Sf_findRivals_110 : dk_at b_Sf_findRivals 110 t_Sf_findRivals_110 := dk_go 1 a_Sf_findRivals_109 rfl
theorem a_Sf_findRivals_111 : dk_at b_Sf_findRivals 111 t_Sf_findRivals_111 := dk_go 1 a_Sf_findRivals_110 rfl
theorem a_Sf_findRivals_112 : dk_at b_Sf_findRivals 112 t_Sf_findRivals_112 := dk_go 1 a_Sf_findRivals_111 rfl
theorem a_Sf_findRivals_113 : dk_at b_Sf_findRivals 113 t_Sf_findRivals_113 := dk_go 1 a_Sf_findRivals_112 rfl
theorem a_Sf_findRivals_114 : dk_at b_Sf_findRivals 114 t_Sf_findRivals_114 := dk_go 1 a_Sf_findRivals_113 rfl
theorem a_Sf_findRivals_115 : dk_at b_Sf_findRivals 115 t_Sf_findRivals_115 := dk_go 1 a_Sf_findRivals_114 rfl
theorem a_Sf_findRivals_116 : dk_at b_Sf_findRivals 116 t_Sf_findRivals_116 := dk_go 1 a_Sf_findRivals_115 rfl
theorem a_Sf_findRivals_117 : dk_at b_Sf_findRivals 117 t_Sf_findRivals_117 := dk_go 1 a_Sf_findRivals_116 rfl
theorem a_Sf_findRivals_118 : dk_at b_Sf_findRivals 118 t_Sf_findRivals_118 := dk_go 1 a_Sf_findRivals_117 rfl
theorem a_Sf_findRivals_119 : dk_at b_Sf_findRivals 119 t_Sf_findRivals_119 := dk_go 1 a_Sf_findRivals_118 rfl
theorem a_Sf_findRivals_121 : dk_at b_Sf_findRivals 121 t_Sf_findRivals_121 := dk_go 2 a_Sf_findRivals_119 rfl
theorem a_Sf_findRivals_122 : dk_at b_Sf_findRivals 122 t_Sf_findRivals_122 := dk_go 1 a_Sf_findRivals_121 rfl
theorem a_Sf_findRivals_125 : dk_at b_Sf_findRivals 125 t_Sf_findRivals_125 := dk_go 3 a_Sf_findRivals_122 rfl
theorem a_Sf_findRivals_126 : dk_at b_Sf_findRivals 126 t_Sf_findRivals_126 := dk_go 1 a_Sf_findRivals_125 rfl
theorem a_Sf_findRivals_127 : dk_at b_Sf_findRivals 127 t_Sf_findRivals_127 := dk_go 1 a_Sf_findRivals_126 rfl
theorem a_Sf_findRivals_130 : dk_at b_Sf_findRivals 130 t_Sf_findRivals_130 := dk_go 3 a_Sf_findRivals_127 rfl
theorem a_Sf_findRivals_131 : dk_at b_Sf_findRivals 131 t_Sf_findRivals_131 := dk_go 1 a_Sf_findRivals_130 rfl
theorem a_Sf_findRivals_132 : dk_at b_Sf_findRivals 132 t_Sf_findRivals_132 := dk_go 1 a_Sf_findRivals_131 rfl
theorem a_Sf_findRivals_133 : dk_at b_Sf_findRivals 133 t_Sf_findRivals_133 := dk_go 1 a_Sf_findRivals_132 rfl
theorem a_Sf_findRivals_134 : dk_at b_Sf_findRivals 134 t_Sf_findRivals_134 := dk_go 1 a_Sf_findRivals_133 rfl
theorem a_Sf_findRivals_137 : dk_at b_Sf_findRivals 137 t_Sf_findRivals_137 := dk_go 3 a_Sf_findRivals_134 rfl
theorem a_Sf_findRivals_139 : dk_at b_Sf_findRivals 139 t_Sf_findRivals_139 := dk_go 2 a_Sf_findRivals_137 rfl
theorem a_Sf_findRivals_142 : dk_at b_Sf_findRivals 142 t_Sf_findRivals_142 := dk_go 3 a_Sf_findRivals_139 rfl
theorem a_Sf_findRivals_143 : dk_at b_Sf_findRivals 143 t_Sf_findRivals_143 := dk_go 1 a_Sf_findRivals_142 rfl
theorem a_Sf_findRivals_144 : dk_at b_Sf_findRivals 144 t_Sf_findRivals_144 := dk_go 1 a_Sf_findRivals_143 rfl
theorem a_Sf_findRivals_145 : dk_at b_Sf_findRivals 145 t_Sf_findRivals_145 := dk_go 1 a_Sf_findRivals_144 rfl
theorem a_Sf_findRivals_148 : dk_at b_Sf_findRivals 148 t_Sf_findRivals_148 := dk_go 3 a_Sf_findRivals_145 rfl
theorem a_Sf_findRivals_149 : dk_at b_Sf_findRivals 149 t_Sf_findRivals_149 := dk_go 1 a_Sf_findRivals_148 rfl
theorem a_Sf_findRivals_152 : dk_at b_Sf_findRivals 152 t_Sf_findRivals_152 := dk_go 3 a_Sf_findRivals_149 rfl
theorem a_Sf_findRivals_153 : dk_at b_Sf_findRivals 153 t_Sf_findRivals_153 := dk_go 1 a_Sf_findRivals_152 rfl
theorem a_Sf_findRivals_154 : dk_at b_Sf_findRivals 154 t_Sf_findRivals_154 := dk_go 1 a_Sf_findRivals_153 rfl
theorem a_Sf_findRivals_157 : dk_at b_Sf_findRivals 157 t_Sf_findRivals_157 := dk_go 3 a_Sf_findRivals_154 rfl
theorem a_Sf_findRivals_158 : dk_at b_Sf_findRivals 158 t_Sf_findRivals_158 := dk_go 1 a_Sf_findRivals_157 rfl
theorem a_Sf_findRivals_161 : dk_at b_Sf_findRivals 161 t_Sf_findRivals_161 := dk_go 3 a_Sf_findRivals_158 rfl
theorem a_Sf_findRivals_162 : dk_at b_Sf_findRivals 162 t_Sf_findRivals_162 := dk_go 1 a_Sf_findRivals_161 rfl
theorem a_Sf_findRivals_163 : dk_at b_Sf_findRivals 163 t_Sf_findRivals_163 := dk_go 1 a_Sf_findRivals_162 rfl
theorem a_Sf_findRivals_166 : dk_at b_Sf_findRivals 166 t_Sf_findRivals_166 := dk_go 3 a_Sf_findRivals_163 rfl
theorem a_Sf_findRivals_169 : dk_at b_Sf_findRivals 169 t_Sf_findRivals_169 := dk_go 3 a_Sf_findRivals_166 rfl
theorem a_Sf_findRivals_170 : dk_at b_Sf_findRivals 170 t_Sf_findRivals_170 := dk_go 1 a_Sf_findRivals_169 rfl
theorem d_Sf_findRivals_0 : decode b_Sf_findRivals 0 = .ok (.iconst 0, 1) := dk_0 a_Sf_findRivals_0 (dko_3 _)
theorem d_Sf_findRivals_1 : decode b_Sf_findRivals 1 = .ok (.istore_n 1, 1) := dk_0 a_Sf_findRivals_1 (dko_60 _)
theorem d_Sf_findRivals_2 : decode b_Sf_findRivals 2 = .ok (.iload_n 1, 1) := dk_0 a_Sf_findRivals_2 (dko_27 _)
theorem d_Sf_findRivals_3 : decode b_Sf_findRivals 3 = .ok (.aload_n 0, 1) := dk_0 a_Sf_findRivals_3 (dko_42 _)
theorem d_Sf_findRivals_4 : decode b_Sf_findRivals 4 = .ok (.getfield 25, 3) := dk_U2 a_Sf_findRivals_4 (dko_180 _) rfl
theorem d_Sf_findRivals_7 : decode b_Sf_findRivals 7 = .ok (.getfield 60, 3) := dk_U2 a_Sf_findRivals_7 (dko_180 _) rfl
theorem d_Sf_findRivals_10 : decode b_Sf_findRivals 10 = .ok (.getfield 66, 3) := dk_U2 a_Sf_findRivals_10 (dko_180 _) rfl
theorem d_Sf_findRivals_13 : decode b_Sf_findRivals 13 = .ok (.aload_n 0, 1) := dk_0 a_Sf_findRivals_13 (dko_42 _)
theorem d_Sf_findRivals_14 : decode b_Sf_findRivals 14 = .ok (.getfield 25, 3) := dk_U2 a_Sf_findRivals_14 (dko_180 _) rfl
theorem d_Sf_findRivals_17 : decode b_Sf_findRivals 17 = .ok (.getfield 60, 3) := dk_U2 a_Sf_findRivals_17 (dko_180 _) rfl
theorem d_Sf_findRivals_20 : decode b_Sf_findRivals 20 = .ok (.getfield 95, 3) := dk_U2 a_Sf_findRivals_20 (dko_180 _) rfl
theorem d_Sf_findRivals_23 : decode b_Sf_findRivals 23 = .ok (.iadd, 1) := dk_0 a_Sf_findRivals_23 (dko_96 _)
theorem d_Sf_findRivals_24 : decode b_Sf_findRivals 24 = .ok (.if_icmp .ge 29, 3) := dk_S2 a_Sf_findRivals_24 (dko_162 _) (by decide +kernel)
theorem d_Sf_findRivals_53 : decode b_Sf_findRivals 53 = .ok (.iconst 0, 1) := dk_0 a_Sf_findRivals_53 (dko_3 _)
theorem d_Sf_findRivals_54 : decode b_Sf_findRivals 54 = .ok (.istore_n 1, 1) := dk_0 a_Sf_findRivals_54 (dko_60 _)
theorem d_Sf_findRivals_55 : decode b_Sf_findRivals 55 = .ok (.iconst 1, 1) := dk_0 a_Sf_findRivals_55 (dko_4 _)
theorem d_Sf_findRivals_56 : decode b_Sf_findRivals 56 = .ok (.istore_n 2, 1) := dk_0 a_Sf_findRivals_56 (dko_61 _)
theorem d_Sf_findRivals_57 : decode b_Sf_findRivals 57 = .ok (.iload_n 2, 1) := dk_0 a_Sf_findRivals_57 (dko_28 _)
theorem d_Sf_findRivals_58 : decode b_Sf_findRivals 58 = .ok (.bipush 14, 2) := dk_S1 a_Sf_findRivals_58 (dko_16 _) (by decide +kernel)
theorem d_Sf_findRivals_60 : decode b_Sf_findRivals 60 = .ok (.if_icmp .gt 30, 3) := dk_S2 a_Sf_findRivals_60 (dko_163 _) (by decide +kernel)
theorem d_Sf_findRivals_63 : decode b_Sf_findRivals 63 = .ok (.iload_n 1, 1) := dk_0 a_Sf_findRivals_63 (dko_27 _)
theorem d_Sf_findRivals_64 : decode b_Sf_findRivals 64 = .ok (.aload_n 0, 1) := dk_0 a_Sf_findRivals_64 (dko_42 _)
theorem d_Sf_findRivals_65 : decode b_Sf_findRivals 65 = .ok (.getfield 9, 3) := dk_U2 a_Sf_findRivals_65 (dko_180 _) rfl
theorem d_Sf_findRivals_68 : decode b_Sf_findRivals 68 = .ok (.iload_n 2, 1) := dk_0 a_Sf_findRivals_68 (dko_28 _)
theorem d_Sf_findRivals_69 : decode b_Sf_findRivals 69 = .ok (.laload, 1) := dk_0 a_Sf_findRivals_69 (dko_47 _)
theorem d_Sf_findRivals_70 : decode b_Sf_findRivals 70 = .ok (.lconst 0, 1) := dk_0 a_Sf_findRivals_70 (dko_9 _)
theorem d_Sf_findRivals_71 : decode b_Sf_findRivals 71 = .ok (.lcmp, 1) := dk_0 a_Sf_findRivals_71 (dko_148 _)
theorem d_Sf_findRivals_72 : decode b_Sf_findRivals 72 = .ok (.ifCond .eq 9, 3) := dk_S2 a_Sf_findRivals_72 (dko_153 _) (by decide +kernel)
theorem d_Sf_findRivals_81 : decode b_Sf_findRivals 81 = .ok (.iconst 0, 1) := dk_0 a_Sf_findRivals_81 (dko_3 _)
theorem d_Sf_findRivals_82 : decode b_Sf_findRivals 82 = .ok (.ior, 1) := dk_0 a_Sf_findRivals_82 (dko_128 _)
theorem d_Sf_findRivals_83 : decode b_Sf_findRivals 83 = .ok (.istore_n 1, 1) := dk_0 a_Sf_findRivals_83 (dko_60 _)
theorem d_Sf_findRivals_84 : decode b_Sf_findRivals 84 = .ok (.iinc 2 1, 3) := dk_US a_Sf_findRivals_84 (dko_132 _) (by decide +kernel)
theorem d_Sf_findRivals_87 : decode b_Sf_findRivals 87 = .ok (.goto (-30), 3) := dk_S2 a_Sf_findRivals_87 (dko_167 _) (by decide +kernel)
theorem d_Sf_findRivals_90 : decode b_Sf_findRivals 90 = .ok (.iconst 0, 1) := dk_0 a_Sf_findRivals_90 (dko_3 _)
theorem d_Sf_findRivals_91 : decode b_Sf_findRivals 91 = .ok (.istore_n 2, 1) := dk_0 a_Sf_findRivals_91 (dko_61 _)
theorem d_Sf_findRivals_92 : decode b_Sf_findRivals 92 = .ok (.iconst 1, 1) := dk_0 a_Sf_findRivals_92 (dko_4 _)
theorem d_Sf_findRivals_93 : decode b_Sf_findRivals 93 = .ok (.istore_n 3, 1) := dk_0 a_Sf_findRivals_93 (dko_62 _)
theorem d_Sf_findRivals_94 : decode b_Sf_findRivals 94 = .ok (.iload_n 3, 1) := dk_0 a_Sf_findRivals_94 (dko_29 _)
theorem d_Sf_findRivals_95 : decode b_Sf_findRivals 95 = .ok (.bipush 14, 2) := dk_S1 a_Sf_findRivals_95 (dko_16 _) (by decide +kernel)
theorem d_Sf_findRivals_97 : decode b_Sf_findRivals 97 = .ok (.if_icmp .gt 72, 3) := dk_S2 a_Sf_findRivals_97 (dko_163 _) (by decide +kernel)
theorem d_Sf_findRivals_100 : decode b_Sf_findRivals 100 = .ok (.iload_n 1, 1) := dk_0 a_Sf_findRivals_100 (dko_27 _)
theorem d_Sf_findRivals_101 : decode b_Sf_findRivals 101 = .ok (.aload_n 0, 1) := dk_0 a_Sf_findRivals_101 (dko_42 _)
theorem d_Sf_findRivals_102 : decode b_Sf_findRivals 102 = .ok (.getfield 25, 3) := dk_U2 a_Sf_findRivals_102 (dko_180 _) rfl
theorem d_Sf_findRivals_105 : decode b_Sf_findRivals 105 = .ok (.getfield 101, 3) := dk_U2 a_Sf_findRivals_105 (dko_180 _) rfl
theorem d_Sf_findRivals_108 : decode b_Sf_findRivals 108 = .ok (.iload_n 3, 1) := dk_0 a_Sf_findRivals_108 (dko_29 _)
theorem d_Sf_findRivals_109 : decode b_Sf_findRivals 109 = .ok (.iaload, 1) := dk_0 a_Sf_findRivals_109 (dko_46 _)
theorem d_Sf_findRivals_110 : decode b_Sf_findRivals 110 = .ok (.iconst (-1), 1) := dk_0 a_Sf_findRivals_110 (dko_2 _)
theorem d_Sf_findRivals_111 : decode b_Sf_findRivals 111 = .ok (.ixor, 1) := dk_0 a_Sf_findRivals_111 (dko_130 _)
theorem d_Sf_findRivals_112 : decode b_Sf_findRivals 112 = .ok (.iand, 1) := dk_0 a_Sf_findRivals_112 (dko_126 _)
theorem d_Sf_findRivals_113 : decode b_Sf_findRivals 113 = .ok (.iconst 1, 1) := dk_0 a_Sf_findRivals_113 (dko_4 _)
theorem d_Sf_findRivals_114 : decode b_Sf_findRivals 114 = .ok (.iload_n 3, 1) := dk_0 a_Sf_findRivals_114 (dko_29 _)
theorem d_Sf_findRivals_115 : decode b_Sf_findRivals 115 = .ok (.ishl, 1) := dk_0 a_Sf_findRivals_115 (dko_120 _)
theorem d_Sf_findRivals_116 : decode b_Sf_findRivals 116 = .ok (.iconst (-1), 1) := dk_0 a_Sf_findRivals_116 (dko_2 _)
theorem d_Sf_findRivals_117 : decode b_Sf_findRivals 117 = .ok (.ixor, 1) := dk_0 a_Sf_findRivals_117 (dko_130 _)
theorem d_Sf_findRivals_118 : decode b_Sf_findRivals 118 = .ok (.iand, 1) := dk_0 a_Sf_findRivals_118 (dko_126 _)
theorem d_Sf_findRivals_119 : decode b_Sf_findRivals 119 = .ok (.istore 4, 2) := dk_U1 a_Sf_findRivals_119 (dko_54 _) rfl
theorem d_Sf_findRivals_121 : decode b_Sf_findRivals 121 = .ok (.aload_n 0, 1) := dk_0 a_Sf_findRivals_121 (dko_42 _)
theorem d_Sf_findRivals_122 : decode b_Sf_findRivals 122 = .ok (.getfield 15, 3) := dk_U2 a_Sf_findRivals_122 (dko_180 _) rfl
theorem d_Sf_findRivals_125 : decode b_Sf_findRivals 125 = .ok (.iload_n 3, 1) := dk_0 a_Sf_findRivals_125 (dko_29 _)
theorem d_Sf_findRivals_126 : decode b_Sf_findRivals 126 = .ok (.aload_n 0, 1) := dk_0 a_Sf_findRivals_126 (dko_42 _)
theorem d_Sf_findRivals_127 : decode b_Sf_findRivals 127 = .ok (.getfield 9, 3) := dk_U2 a_Sf_findRivals_127 (dko_180 _) rfl
theorem d_Sf_findRivals_130 : decode b_Sf_findRivals 130 = .ok (.iload_n 3, 1) := dk_0 a_Sf_findRivals_130 (dko_29 _)
theorem d_Sf_findRivals_131 : decode b_Sf_findRivals 131 = .ok (.laload, 1) := dk_0 a_Sf_findRivals_131 (dko_47 _)
theorem d_Sf_findRivals_132 : decode b_Sf_findRivals 132 = .ok (.lconst 0, 1) := dk_0 a_Sf_findRivals_132 (dko_9 _)
theorem d_Sf_findRivals_133 : decode b_Sf_findRivals 133 = .ok (.lcmp, 1) := dk_0 a_Sf_findRivals_133 (dko_148 _)
theorem d_Sf_findRivals_134 : decode b_Sf_findRivals 134 = .ok (.ifCond .eq 8, 3) := dk_S2 a_Sf_findRivals_134 (dko_153 _) (by decide +kernel)
theorem d_Sf_findRivals_142 : decode b_Sf_findRivals 142 = .ok (.iconst 0, 1) := dk_0 a_Sf_findRivals_142 (dko_3 _)
theorem d_Sf_findRivals_143 : decode b_Sf_findRivals 143 = .ok (.iastore, 1) := dk_0 a_Sf_findRivals_143 (dko_79 _)
theorem d_Sf_findRivals_144 : decode b_Sf_findRivals 144 = .ok (.iload_n 2, 1) := dk_0 a_Sf_findRivals_144 (dko_28 _)
theorem d_Sf_findRivals_145 : decode b_Sf_findRivals 145 = .ok (.ifCond .ne 12, 3) := dk_S2 a_Sf_findRivals_145 (dko_154 _) (by decide +kernel)
theorem d_Sf_findRivals_148 : decode b_Sf_findRivals 148 = .ok (.aload_n 0, 1) := dk_0 a_Sf_findRivals_148 (dko_42 _)
theorem d_Sf_findRivals_149 : decode b_Sf_findRivals 149 = .ok (.getfield 15, 3) := dk_U2 a_Sf_findRivals_149 (dko_180 _) rfl
theorem d_Sf_findRivals_152 : decode b_Sf_findRivals 152 = .ok (.iload_n 3, 1) := dk_0 a_Sf_findRivals_152 (dko_29 _)
theorem d_Sf_findRivals_153 : decode b_Sf_findRivals 153 = .ok (.iaload, 1) := dk_0 a_Sf_findRivals_153 (dko_46 _)
theorem d_Sf_findRivals_154 : decode b_Sf_findRivals 154 = .ok (.ifCond .eq 7, 3) := dk_S2 a_Sf_findRivals_154 (dko_153 _) (by decide +kernel)
theorem d_Sf_findRivals_161 : decode b_Sf_findRivals 161 = .ok (.iconst 0, 1) := dk_0 a_Sf_findRivals_161 (dko_3 _)
theorem d_Sf_findRivals_162 : decode b_Sf_findRivals 162 = .ok (.istore_n 2, 1) := dk_0 a_Sf_findRivals_162 (dko_61 _)
theorem d_Sf_findRivals_163 : decode b_Sf_findRivals 163 = .ok (.iinc 3 1, 3) := dk_US a_Sf_findRivals_163 (dko_132 _) (by decide +kernel)
theorem d_Sf_findRivals_166 : decode b_Sf_findRivals 166 = .ok (.goto (-72), 3) := dk_S2 a_Sf_findRivals_166 (dko_167 _) (by decide +kernel)
theorem d_Sf_findRivals_169 : decode b_Sf_findRivals 169 = .ok (.iload_n 2, 1) := dk_0 a_Sf_findRivals_169 (dko_28 _)
theorem d_Sf_findRivals_170 : decode b_Sf_findRivals 170 = .ok (.ireturn, 1) := dk_0 a_Sf_findRivals_170 (dko_172 _)
set_option maxHeartbeats 4000000 in
set_option maxRecDepth 100000 in
theorem c_Sf_findRivals (l : Launch) (dC : Nat → ClassId) (dI : Nat → Nat → Nat) (cI cB cZ cJ : ClassId) (oSf : Nat) (oSt : Nat) (oP1 : Nat) (xf_sources : Nat) (xst_meeting : Nat) (xf_rivals : Nat) (xf : List Value) (hsf_stock : fx xf 0 (.ref oSt)) (hsf_sources : fx xf 2 (.ref xf_sources)) (hsf_rivals : fx xf 3 (.ref xf_rivals)) (xs_ : List Value) (hst_plant : fx xs_ 0 (.ref oP1)) (hst_meeting : fx xs_ 9 (.ref xst_meeting)) (xp : List Value) (hxp_things : fx xp 0 (.int 0)) (hxp_pipes : fx xp 1 (.int 0)) (sz : Nat) : Met l y_Sf_findRivals w_Sf_findRivals ({ frames := 0, cells := 0, slots := 0, locals := 0 }) (va_Pc [.ref oSf] (PW dC dI cI cB cZ cJ [(oSf, .inr (6, xf)), (oSt, .inr (4, xs_)), (oP1, .inr (3, xp)), (xf_sources, .inl (cJ, 15, .inr (.inl (fun _ => 0)))), (xst_meeting, .inl (cI, 15, .inl (fun _ => 0))), (xf_rivals, .inl (cI, 15, .inl (fun _ => 0)))] sz)) (va_Qi (fun (r : Int32) (_ : Unit) => r = 0) (fun (_ : Unit) (t : State) => ∃ (n_xf_rivals : Nat → Int32), fx xf 0 (.ref oSt) ∧ fx xf 2 (.ref xf_sources) ∧ fx xf 3 (.ref xf_rivals) ∧ fx xs_ 0 (.ref oP1) ∧ fx xs_ 9 (.ref xst_meeting) ∧ fx xp 0 (.int 0) ∧ fx xp 1 (.int 0) ∧ va_P (dC, dI) classes [(oSf, .inr (6, xf)), (oSt, .inr (4, xs_)), (oP1, .inr (3, xp)), (xf_sources, .inl (cJ, 15, .inr (.inl (fun _ => 0)))), (xst_meeting, .inl (cI, 15, .inl (fun _ => 0))), (xf_rivals, .inl (cI, 15, .inl n_xf_rivals))] t.heap ∧ va_D (va_A [(oSf, .inr (6, xf)), (oSt, .inr (4, xs_)), (oP1, .inr (3, xp)), (xf_sources, .inl (cJ, 15, .inr (.inl (fun _ => 0)))), (xst_meeting, .inl (cI, 15, .inl (fun _ => 0))), (xf_rivals, .inl (cI, 15, .inl (fun _ => 0)))] sz) [(oSf, .inr (6, xf)), (oSt, .inr (4, xs_)), (oP1, .inr (3, xp)), (xf_sources, .inl (cJ, 15, .inr (.inl (fun _ => 0)))), (xst_meeting, .inl (cI, 15, .inl (fun _ => 0))), (xf_rivals, .inl (cI, 15, .inl n_xf_rivals))]) (va_A [(oSf, .inr (6, xf)), (oSt, .inr (4, xs_)), (oP1, .inr (3, xp)), (xf_sources, .inl (cJ, 15, .inr (.inl (fun _ => 0)))), (xst_meeting, .inl (cI, 15, .inl (fun _ => 0))), (xf_rivals, .inl (cI, 15, .inl (fun _ => 0)))] sz)) 0 0 (va_A [(oSf, .inr (6, xf)), (oSt, .inr (4, xs_)), (oP1, .inr (3, xp)), (xf_sources, .inl (cJ, 15, .inr (.inl (fun _ => 0)))), (xst_meeting, .inl (cI, 15, .inl (fun _ => 0))), (xf_rivals, .inl (cI, 15, .inl (fun _ => 0)))] sz) := by
  refine Met.ofW (cc := b_Sf_findRivals) (maxL := 5) (ret := (some .boolean)) (by decide) rfl ?_
  intro p e s m args below meth c s₁ B hml hv
  obtain ⟨rfl, hsz, hP, hK, hD⟩ := hv
  have hx := B.exec
  have hb := B.bytes
  have hr := B.returns
  have hts := atoms_spec (ws := w_Sf_findRivals) B.pre
  have hown : s.vm.findClass R_Sf = some m.cls := findClass_of_methodNamed B.named
  have hlocks := B.notSynchronized
  subst hsz
  have hD := hD.self (sz := s.heap.size)
  generalize hAe : va_A [(oSf, .inr (6, xf)), (oSt, .inr (4, xs_)), (oP1, .inr (3, xp)), (xf_sources, .inl (cJ, 15, .inr (.inl (fun _ => 0)))), (xst_meeting, .inl (cI, 15, .inl (fun _ => 0))), (xf_rivals, .inl (cI, 15, .inl (fun _ => 0)))] s.heap.size = A at hD ⊢
  have hA : ∀ q : Nat, s.heap.size ≤ q → A q := fun q h => by rw [← hAe]; exact Or.inr h
  have hS : va_S A s.heap s.heap [] := va_S.rf
  have hP : va_P (dC, dI) classes [(oSf, .inr (6, xf)), (oSt, .inr (4, xs_)), (oP1, .inr (3, xp)), (xf_sources, .inl (cJ, 15, .inr (.inl (fun _ => 0)))), (xst_meeting, .inl (cI, 15, .inl (fun _ => 0))), (xf_rivals, .inl (cI, 15, .inl (fun _ => 0)))] s.heap := hP
  have hl := lv_entry ([.ref oSf]) (n := 5) (Nat.le_of_ble_eq_true rfl)
  rw [lg_entry_eq]
  generalize (lg_sl ([.ref oSf]) ++ List.replicate (5 - (lg_sl ([.ref oSf])).length) Slot.unset).toArray = ls at hl ⊢
  have hl : lv_has ls 5 [(0, .ref oSf)] := hl
  refine lv_iconst (v := 0) hx hb d_Sf_findRivals_0 (by decide) ?_
  refine lv_istore_n hx hb d_Sf_findRivals_1 rfl hl (by decide) rfl (fun ls hl => ?_)
  have hl : lv_has ls 5 [(1, .int 0), (0, .ref oSf)] := hl
  refine lv_iload_n hx hb d_Sf_findRivals_2 rfl (lv_at hl 0 rfl) ?_
  refine lv_aload_n hx hb d_Sf_findRivals_3 rfl (lv_at hl 1 rfl) ?_
  refine va_get (D := (dC, dI)) (ci := 6) (v := .ref oSt) (C := R_Sf) (T := F_Sf) (N := 10) hx hb hts (fun w h => List.mem_cons_of_mem _ (in_Sf w h)) hown hK.1 hP 0 rfl rfl 0 (by decide) (hts _ (List.mem_cons_of_mem _ mw_282)) (fun _ h9 => h9) hsf_stock d_Sf_findRivals_4 ?_
  refine va_get (D := (dC, dI)) (ci := 4) (v := .ref oP1) (C := R_St) (T := F_St) (N := 12) hx hb hts (fun w h => List.mem_cons_of_mem _ (in_St w h)) hown hK.1 hP 1 rfl rfl 0 (by decide) (hts _ (List.mem_cons_of_mem _ mw_150)) (fun _ h9 => h9) hst_plant d_Sf_findRivals_7 ?_
  refine va_get (D := (dC, dI)) (ci := 3) (v := .int 0) (C := R_Pl) (T := F_Pl) (N := 12) hx hb hts (fun w h => List.mem_cons_of_mem _ (in_Pl w h)) hown hK.1 hP 2 rfl rfl 0 (by decide) (hts _ (List.mem_cons_of_mem _ mw_87)) (fun _ h9 => h9) hxp_things d_Sf_findRivals_10 ?_
  refine lv_aload_n hx hb d_Sf_findRivals_13 rfl (lv_at hl 1 rfl) ?_
  refine va_get (D := (dC, dI)) (ci := 6) (v := .ref oSt) (C := R_Sf) (T := F_Sf) (N := 10) hx hb hts (fun w h => List.mem_cons_of_mem _ (in_Sf w h)) hown hK.1 hP 0 rfl rfl 0 (by decide) (hts _ (List.mem_cons_of_mem _ mw_282)) (fun _ h9 => h9) hsf_stock d_Sf_findRivals_14 ?_
  refine va_get (D := (dC, dI)) (ci := 4) (v := .ref oP1) (C := R_St) (T := F_St) (N := 12) hx hb hts (fun w h => List.mem_cons_of_mem _ (in_St w h)) hown hK.1 hP 1 rfl rfl 0 (by decide) (hts _ (List.mem_cons_of_mem _ mw_150)) (fun _ h9 => h9) hst_plant d_Sf_findRivals_17 ?_
  refine va_get (D := (dC, dI)) (ci := 3) (v := .int 0) (C := R_Pl) (T := F_Pl) (N := 12) hx hb hts (fun w h => List.mem_cons_of_mem _ (in_Pl w h)) hown hK.1 hP 2 rfl rfl 1 (by decide) (hts _ (List.mem_cons_of_mem _ mw_93)) (fun _ h9 => h9) hxp_pipes d_Sf_findRivals_20 ?_
  refine lv_iadd hx hb d_Sf_findRivals_23 ?_
  refine lv_topi (fun x0 e0 => ?_)
  obtain rfl : x0 = 0 := e0.trans (by decide)
  refine lv_icmp_ge (tgt := 53) hx hb d_Sf_findRivals_24 (by decide) (fun _ => ?_) (fun h => absurd (by decide) h)
  refine lv_iconst (v := 0) hx hb d_Sf_findRivals_53 (by decide) ?_
  refine lv_istore_n hx hb d_Sf_findRivals_54 rfl hl (by decide) rfl (fun ls hl => ?_)
  have hl : lv_has ls 5 [(1, .int 0), (0, .ref oSf)] := hl
  refine lv_iconst (v := 1) hx hb d_Sf_findRivals_55 (by decide) ?_
  refine lv_istore_n hx hb d_Sf_findRivals_56 rfl hl (by decide) rfl (fun ls hl => ?_)
  have hl : lv_has ls 5 [(2, .int 1), (1, .int 0), (0, .ref oSf)] := hl
  refine lv_iload_n hx hb d_Sf_findRivals_57 rfl (lv_at hl 0 rfl) ?_
  refine lv_bipush (v := 14) hx hb d_Sf_findRivals_58 (by decide) ?_
  refine lv_icmp_gt (tgt := 90) hx hb d_Sf_findRivals_60 (by decide) (fun h => absurd h (by decide)) (fun _ => ?_)
  refine lv_iload_n hx hb d_Sf_findRivals_63 rfl (lv_at hl 1 rfl) ?_
  refine lv_aload_n hx hb d_Sf_findRivals_64 rfl (lv_at hl 2 rfl) ?_
  refine va_get (D := (dC, dI)) (ci := 6) (v := .ref xf_sources) (C := R_Sf) (T := F_Sf) (N := 10) hx hb hts (fun w h => List.mem_cons_of_mem _ (in_Sf w h)) hown hK.1 hP 0 rfl rfl 2 (by decide) (hts _ (List.mem_cons_of_mem _ mw_284)) (fun _ h9 => h9) hsf_sources d_Sf_findRivals_65 ?_
  refine lv_iload_n hx hb d_Sf_findRivals_68 rfl (lv_at hl 0 rfl) ?_
  refine va_lald hx hb hK.1 hP 3 3 rfl rfl (vp_in_iff.mpr (by decide)) d_Sf_findRivals_69 ?_
  refine lv_lconst (v := 0) hx hb d_Sf_findRivals_70 (by decide) ?_
  refine W.lcmp hx hb d_Sf_findRivals_71 ?_
  refine lv_topi (fun x0 e0 => ?_)
  obtain rfl : x0 = 0 := e0.trans (by decide)
  refine lv_if_eq (tgt := 81) hx hb d_Sf_findRivals_72 (by decide) (fun _ => ?_) (fun h => absurd (by decide) h)
  refine lv_iconst (v := 0) hx hb d_Sf_findRivals_81 (by decide) ?_
  refine lv_ior hx hb d_Sf_findRivals_82 ?_
  refine lv_topi (fun x0 e0 => ?_)
  obtain rfl : x0 = 0 := e0.trans (by decide)
  refine lv_istore_n hx hb d_Sf_findRivals_83 rfl hl (by decide) rfl (fun ls hl => ?_)
  have hl : lv_has ls 5 [(1, .int 0), (2, .int 1), (0, .ref oSf)] := hl
  refine lv_iinc (k := 1) (v := 2) hx hb d_Sf_findRivals_84 hl rfl (by first | rfl | decide | exact nI_1 i | exact pv_1 j hj) (by decide) rfl (fun ls hl => ?_)
  have hl : lv_has ls 5 [(2, .int 2), (1, .int 0), (0, .ref oSf)] := hl
  refine lv_goto (tgt := 57) hx hb d_Sf_findRivals_87 (by decide) ?_
  refine lv_iload_n hx hb d_Sf_findRivals_57 rfl (lv_at hl 0 rfl) ?_
  refine lv_bipush (v := 14) hx hb d_Sf_findRivals_58 (by decide) ?_
  refine lv_icmp_gt (tgt := 90) hx hb d_Sf_findRivals_60 (by decide) (fun h => absurd h (by decide)) (fun _ => ?_)
  refine lv_iload_n hx hb d_Sf_findRivals_63 rfl (lv_at hl 1 rfl) ?_
  refine lv_aload_n hx hb d_Sf_findRivals_64 rfl (lv_at hl 2 rfl) ?_
  refine va_get (D := (dC, dI)) (ci := 6) (v := .ref xf_sources) (C := R_Sf) (T := F_Sf) (N := 10) hx hb hts (fun w h => List.mem_cons_of_mem _ (in_Sf w h)) hown hK.1 hP 0 rfl rfl 2 (by decide) (hts _ (List.mem_cons_of_mem _ mw_284)) (fun _ h9 => h9) hsf_sources d_Sf_findRivals_65 ?_
  refine lv_iload_n hx hb d_Sf_findRivals_68 rfl (lv_at hl 0 rfl) ?_
  refine va_lald hx hb hK.1 hP 3 3 rfl rfl (vp_in_iff.mpr (by decide)) d_Sf_findRivals_69 ?_
  refine lv_lconst (v := 0) hx hb d_Sf_findRivals_70 (by decide) ?_
  refine W.lcmp hx hb d_Sf_findRivals_71 ?_
  refine lv_topi (fun x0 e0 => ?_)
  obtain rfl : x0 = 0 := e0.trans (by decide)
  refine lv_if_eq (tgt := 81) hx hb d_Sf_findRivals_72 (by decide) (fun _ => ?_) (fun h => absurd (by decide) h)
  refine lv_iconst (v := 0) hx hb d_Sf_findRivals_81 (by decide) ?_
  refine lv_ior hx hb d_Sf_findRivals_82 ?_
  refine lv_topi (fun x0 e0 => ?_)
  obtain rfl : x0 = 0 := e0.trans (by decide)
  refine lv_istore_n hx hb d_Sf_findRivals_83 rfl hl (by decide) rfl (fun ls hl => ?_)
  have hl : lv_has ls 5 [(1, .int 0), (2, .int 2), (0, .ref oSf)] := hl
  refine lv_iinc (k := 1) (v := 3) hx hb d_Sf_findRivals_84 hl rfl (by first | rfl | decide | exact nI_1 i | exact pv_1 j hj) (by decide) rfl (fun ls hl => ?_)
  have hl : lv_has ls 5 [(2, .int 3), (1, .int 0), (0, .ref oSf)] := hl
  refine lv_goto (tgt := 57) hx hb d_Sf_findRivals_87 (by decide) ?_
  refine lv_iload_n hx hb d_Sf_findRivals_57 rfl (lv_at hl 0 rfl) ?_
  refine lv_bipush (v := 14) hx hb d_Sf_findRivals_58 (by decide) ?_
  refine lv_icmp_gt (tgt := 90) hx hb d_Sf_findRivals_60 (by decide) (fun h => absurd h (by decide)) (fun _ => ?_)
  refine lv_iload_n hx hb d_Sf_findRivals_63 rfl (lv_at hl 1 rfl) ?_
  refine lv_aload_n hx hb d_Sf_findRivals_64 rfl (lv_at hl 2 rfl) ?_
  refine va_get (D := (dC, dI)) (ci := 6) (v := .ref xf_sources) (C := R_Sf) (T := F_Sf) (N := 10) hx hb hts (fun w h => List.mem_cons_of_mem _ (in_Sf w h)) hown hK.1 hP 0 rfl rfl 2 (by decide) (hts _ (List.mem_cons_of_mem _ mw_284)) (fun _ h9 => h9) hsf_sources d_Sf_findRivals_65 ?_
  refine lv_iload_n hx hb d_Sf_findRivals_68 rfl (lv_at hl 0 rfl) ?_
  refine va_lald hx hb hK.1 hP 3 3 rfl rfl (vp_in_iff.mpr (by decide)) d_Sf_findRivals_69 ?_
  refine lv_lconst (v := 0) hx hb d_Sf_findRivals_70 (by decide) ?_
  refine W.lcmp hx hb d_Sf_findRivals_71 ?_
  refine lv_topi (fun x0 e0 => ?_)
  obtain rfl : x0 = 0 := e0.trans (by decide)
  refine lv_if_eq (tgt := 81) hx hb d_Sf_findRivals_72 (by decide) (fun _ => ?_) (fun h => absurd (by decide) h)
  refine lv_iconst (v := 0) hx hb d_Sf_findRivals_81 (by decide) ?_
  refine lv_ior hx hb d_Sf_findRivals_82 ?_
  refine lv_topi (fun x0 e0 => ?_)
  obtain rfl : x0 = 0 := e0.trans (by decide)
  refine lv_istore_n hx hb d_Sf_findRivals_83 rfl hl (by decide) rfl (fun ls hl => ?_)
  have hl : lv_has ls 5 [(1, .int 0), (2, .int 3), (0, .ref oSf)] := hl
  refine lv_iinc (k := 1) (v := 4) hx hb d_Sf_findRivals_84 hl rfl (by first | rfl | decide | exact nI_1 i | exact pv_1 j hj) (by decide) rfl (fun ls hl => ?_)
  have hl : lv_has ls 5 [(2, .int 4), (1, .int 0), (0, .ref oSf)] := hl
  refine lv_goto (tgt := 57) hx hb d_Sf_findRivals_87 (by decide) ?_
  refine lv_iload_n hx hb d_Sf_findRivals_57 rfl (lv_at hl 0 rfl) ?_
  refine lv_bipush (v := 14) hx hb d_Sf_findRivals_58 (by decide) ?_
  refine lv_icmp_gt (tgt := 90) hx hb d_Sf_findRivals_60 (by decide) (fun h => absurd h (by decide)) (fun _ => ?_)
  refine lv_iload_n hx hb d_Sf_findRivals_63 rfl (lv_at hl 1 rfl) ?_
  refine lv_aload_n hx hb d_Sf_findRivals_64 rfl (lv_at hl 2 rfl) ?_
  refine va_get (D := (dC, dI)) (ci := 6) (v := .ref xf_sources) (C := R_Sf) (T := F_Sf) (N := 10) hx hb hts (fun w h => List.mem_cons_of_mem _ (in_Sf w h)) hown hK.1 hP 0 rfl rfl 2 (by decide) (hts _ (List.mem_cons_of_mem _ mw_284)) (fun _ h9 => h9) hsf_sources d_Sf_findRivals_65 ?_
  refine lv_iload_n hx hb d_Sf_findRivals_68 rfl (lv_at hl 0 rfl) ?_
  refine va_lald hx hb hK.1 hP 3 3 rfl rfl (vp_in_iff.mpr (by decide)) d_Sf_findRivals_69 ?_
  refine lv_lconst (v := 0) hx hb d_Sf_findRivals_70 (by decide) ?_
  refine W.lcmp hx hb d_Sf_findRivals_71 ?_
  refine lv_topi (fun x0 e0 => ?_)
  obtain rfl : x0 = 0 := e0.trans (by decide)
  refine lv_if_eq (tgt := 81) hx hb d_Sf_findRivals_72 (by decide) (fun _ => ?_) (fun h => absurd (by decide) h)
  refine lv_iconst (v := 0) hx hb d_Sf_findRivals_81 (by decide) ?_
  refine lv_ior hx hb d_Sf_findRivals_82 ?_
  refine lv_topi (fun x0 e0 => ?_)
  obtain rfl : x0 = 0 := e0.trans (by decide)
  refine lv_istore_n hx hb d_Sf_findRivals_83 rfl hl (by decide) rfl (fun ls hl => ?_)
  have hl : lv_has ls 5 [(1, .int 0), (2, .int 4), (0, .ref oSf)] := hl
  refine lv_iinc (k := 1) (v := 5) hx hb d_Sf_findRivals_84 hl rfl (by first | rfl | decide | exact nI_1 i | exact pv_1 j hj) (by decide) rfl (fun ls hl => ?_)
  have hl : lv_has ls 5 [(2, .int 5), (1, .int 0), (0, .ref oSf)] := hl
  refine lv_goto (tgt := 57) hx hb d_Sf_findRivals_87 (by decide) ?_
  refine lv_iload_n hx hb d_Sf_findRivals_57 rfl (lv_at hl 0 rfl) ?_
  refine lv_bipush (v := 14) hx hb d_Sf_findRivals_58 (by decide) ?_
  refine lv_icmp_gt (tgt := 90) hx hb d_Sf_findRivals_60 (by decide) (fun h => absurd h (by decide)) (fun _ => ?_)
  refine lv_iload_n hx hb d_Sf_findRivals_63 rfl (lv_at hl 1 rfl) ?_
  refine lv_aload_n hx hb d_Sf_findRivals_64 rfl (lv_at hl 2 rfl) ?_
  refine va_get (D := (dC, dI)) (ci := 6) (v := .ref xf_sources) (C := R_Sf) (T := F_Sf) (N := 10) hx hb hts (fun w h => List.mem_cons_of_mem _ (in_Sf w h)) hown hK.1 hP 0 rfl rfl 2 (by decide) (hts _ (List.mem_cons_of_mem _ mw_284)) (fun _ h9 => h9) hsf_sources d_Sf_findRivals_65 ?_
  refine lv_iload_n hx hb d_Sf_findRivals_68 rfl (lv_at hl 0 rfl) ?_
  refine va_lald hx hb hK.1 hP 3 3 rfl rfl (vp_in_iff.mpr (by decide)) d_Sf_findRivals_69 ?_
  refine lv_lconst (v := 0) hx hb d_Sf_findRivals_70 (by decide) ?_
  refine W.lcmp hx hb d_Sf_findRivals_71 ?_
  refine lv_topi (fun x0 e0 => ?_)
  obtain rfl : x0 = 0 := e0.trans (by decide)
  refine lv_if_eq (tgt := 81) hx hb d_Sf_findRivals_72 (by decide) (fun _ => ?_) (fun h => absurd (by decide) h)
  refine lv_iconst (v := 0) hx hb d_Sf_findRivals_81 (by decide) ?_
  refine lv_ior hx hb d_Sf_findRivals_82 ?_
  refine lv_topi (fun x0 e0 => ?_)
  obtain rfl : x0 = 0 := e0.trans (by decide)
  refine lv_istore_n hx hb d_Sf_findRivals_83 rfl hl (by decide) rfl (fun ls hl => ?_)
  have hl : lv_has ls 5 [(1, .int 0), (2, .int 5), (0, .ref oSf)] := hl
  refine lv_iinc (k := 1) (v := 6) hx hb d_Sf_findRivals_84 hl rfl (by first | rfl | decide | exact nI_1 i | exact pv_1 j hj) (by decide) rfl (fun ls hl => ?_)
  have hl : lv_has ls 5 [(2, .int 6), (1, .int 0), (0, .ref oSf)] := hl
  refine lv_goto (tgt := 57) hx hb d_Sf_findRivals_87 (by decide) ?_
  refine lv_iload_n hx hb d_Sf_findRivals_57 rfl (lv_at hl 0 rfl) ?_
  refine lv_bipush (v := 14) hx hb d_Sf_findRivals_58 (by decide) ?_
  refine lv_icmp_gt (tgt := 90) hx hb d_Sf_findRivals_60 (by decide) (fun h => absurd h (by decide)) (fun _ => ?_)
  refine lv_iload_n hx hb d_Sf_findRivals_63 rfl (lv_at hl 1 rfl) ?_
  refine lv_aload_n hx hb d_Sf_findRivals_64 rfl (lv_at hl 2 rfl) ?_
  refine va_get (D := (dC, dI)) (ci := 6) (v := .ref xf_sources) (C := R_Sf) (T := F_Sf) (N := 10) hx hb hts (fun w h => List.mem_cons_of_mem _ (in_Sf w h)) hown hK.1 hP 0 rfl rfl 2 (by decide) (hts _ (List.mem_cons_of_mem _ mw_284)) (fun _ h9 => h9) hsf_sources d_Sf_findRivals_65 ?_
  refine lv_iload_n hx hb d_Sf_findRivals_68 rfl (lv_at hl 0 rfl) ?_
  refine va_lald hx hb hK.1 hP 3 3 rfl rfl (vp_in_iff.mpr (by decide)) d_Sf_findRivals_69 ?_
  refine lv_lconst (v := 0) hx hb d_Sf_findRivals_70 (by decide) ?_
  refine W.lcmp hx hb d_Sf_findRivals_71 ?_
  refine lv_topi (fun x0 e0 => ?_)
  obtain rfl : x0 = 0 := e0.trans (by decide)
  refine lv_if_eq (tgt := 81) hx hb d_Sf_findRivals_72 (by decide) (fun _ => ?_) (fun h => absurd (by decide) h)
  refine lv_iconst (v := 0) hx hb d_Sf_findRivals_81 (by decide) ?_
  refine lv_ior hx hb d_Sf_findRivals_82 ?_
  refine lv_topi (fun x0 e0 => ?_)
  obtain rfl : x0 = 0 := e0.trans (by decide)
  refine lv_istore_n hx hb d_Sf_findRivals_83 rfl hl (by decide) rfl (fun ls hl => ?_)
  have hl : lv_has ls 5 [(1, .int 0), (2, .int 6), (0, .ref oSf)] := hl
  refine lv_iinc (k := 1) (v := 7) hx hb d_Sf_findRivals_84 hl rfl (by first | rfl | decide | exact nI_1 i | exact pv_1 j hj) (by decide) rfl (fun ls hl => ?_)
  have hl : lv_has ls 5 [(2, .int 7), (1, .int 0), (0, .ref oSf)] := hl
  refine lv_goto (tgt := 57) hx hb d_Sf_findRivals_87 (by decide) ?_
  refine lv_iload_n hx hb d_Sf_findRivals_57 rfl (lv_at hl 0 rfl) ?_
  refine lv_bipush (v := 14) hx hb d_Sf_findRivals_58 (by decide) ?_
  refine lv_icmp_gt (tgt := 90) hx hb d_Sf_findRivals_60 (by decide) (fun h => absurd h (by decide)) (fun _ => ?_)
  refine lv_iload_n hx hb d_Sf_findRivals_63 rfl (lv_at hl 1 rfl) ?_
  refine lv_aload_n hx hb d_Sf_findRivals_64 rfl (lv_at hl 2 rfl) ?_
  refine va_get (D := (dC, dI)) (ci := 6) (v := .ref xf_sources) (C := R_Sf) (T := F_Sf) (N := 10) hx hb hts (fun w h => List.mem_cons_of_mem _ (in_Sf w h)) hown hK.1 hP 0 rfl rfl 2 (by decide) (hts _ (List.mem_cons_of_mem _ mw_284)) (fun _ h9 => h9) hsf_sources d_Sf_findRivals_65 ?_
  refine lv_iload_n hx hb d_Sf_findRivals_68 rfl (lv_at hl 0 rfl) ?_
  refine va_lald hx hb hK.1 hP 3 3 rfl rfl (vp_in_iff.mpr (by decide)) d_Sf_findRivals_69 ?_
  refine lv_lconst (v := 0) hx hb d_Sf_findRivals_70 (by decide) ?_
  refine W.lcmp hx hb d_Sf_findRivals_71 ?_
  refine lv_topi (fun x0 e0 => ?_)
  obtain rfl : x0 = 0 := e0.trans (by decide)
  refine lv_if_eq (tgt := 81) hx hb d_Sf_findRivals_72 (by decide) (fun _ => ?_) (fun h => absurd (by decide) h)
  refine lv_iconst (v := 0) hx hb d_Sf_findRivals_81 (by decide) ?_
  refine lv_ior hx hb d_Sf_findRivals_82 ?_
  refine lv_topi (fun x0 e0 => ?_)
  obtain rfl : x0 = 0 := e0.trans (by decide)
  refine lv_istore_n hx hb d_Sf_findRivals_83 rfl hl (by decide) rfl (fun ls hl => ?_)
  have hl : lv_has ls 5 [(1, .int 0), (2, .int 7), (0, .ref oSf)] := hl
  refine lv_iinc (k := 1) (v := 8) hx hb d_Sf_findRivals_84 hl rfl (by first | rfl | decide | exact nI_1 i | exact pv_1 j hj) (by decide) rfl (fun ls hl => ?_)
  have hl : lv_has ls 5 [(2, .int 8), (1, .int 0), (0, .ref oSf)] := hl
  refine lv_goto (tgt := 57) hx hb d_Sf_findRivals_87 (by decide) ?_
  refine lv_iload_n hx hb d_Sf_findRivals_57 rfl (lv_at hl 0 rfl) ?_
  refine lv_bipush (v := 14) hx hb d_Sf_findRivals_58 (by decide) ?_
  refine lv_icmp_gt (tgt := 90) hx hb d_Sf_findRivals_60 (by decide) (fun h => absurd h (by decide)) (fun _ => ?_)
  refine lv_iload_n hx hb d_Sf_findRivals_63 rfl (lv_at hl 1 rfl) ?_
  refine lv_aload_n hx hb d_Sf_findRivals_64 rfl (lv_at hl 2 rfl) ?_
  refine va_get (D := (dC, dI)) (ci := 6) (v := .ref xf_sources) (C := R_Sf) (T := F_Sf) (N := 10) hx hb hts (fun w h => List.mem_cons_of_mem _ (in_Sf w h)) hown hK.1 hP 0 rfl rfl 2 (by decide) (hts _ (List.mem_cons_of_mem _ mw_284)) (fun _ h9 => h9) hsf_sources d_Sf_findRivals_65 ?_
  refine lv_iload_n hx hb d_Sf_findRivals_68 rfl (lv_at hl 0 rfl) ?_
  refine va_lald hx hb hK.1 hP 3 3 rfl rfl (vp_in_iff.mpr (by decide)) d_Sf_findRivals_69 ?_
  refine lv_lconst (v := 0) hx hb d_Sf_findRivals_70 (by decide) ?_
  refine W.lcmp hx hb d_Sf_findRivals_71 ?_
  refine lv_topi (fun x0 e0 => ?_)
  obtain rfl : x0 = 0 := e0.trans (by decide)
  refine lv_if_eq (tgt := 81) hx hb d_Sf_findRivals_72 (by decide) (fun _ => ?_) (fun h => absurd (by decide) h)
  refine lv_iconst (v := 0) hx hb d_Sf_findRivals_81 (by decide) ?_
  refine lv_ior hx hb d_Sf_findRivals_82 ?_
  refine lv_topi (fun x0 e0 => ?_)
  obtain rfl : x0 = 0 := e0.trans (by decide)
  refine lv_istore_n hx hb d_Sf_findRivals_83 rfl hl (by decide) rfl (fun ls hl => ?_)
  have hl : lv_has ls 5 [(1, .int 0), (2, .int 8), (0, .ref oSf)] := hl
  refine lv_iinc (k := 1) (v := 9) hx hb d_Sf_findRivals_84 hl rfl (by first | rfl | decide | exact nI_1 i | exact pv_1 j hj) (by decide) rfl (fun ls hl => ?_)
  have hl : lv_has ls 5 [(2, .int 9), (1, .int 0), (0, .ref oSf)] := hl
  refine lv_goto (tgt := 57) hx hb d_Sf_findRivals_87 (by decide) ?_
  refine lv_iload_n hx hb d_Sf_findRivals_57 rfl (lv_at hl 0 rfl) ?_
  refine lv_bipush (v := 14) hx hb d_Sf_findRivals_58 (by decide) ?_
  refine lv_icmp_gt (tgt := 90) hx hb d_Sf_findRivals_60 (by decide) (fun h => absurd h (by decide)) (fun _ => ?_)
  refine lv_iload_n hx hb d_Sf_findRivals_63 rfl (lv_at hl 1 rfl) ?_
  refine lv_aload_n hx hb d_Sf_findRivals_64 rfl (lv_at hl 2 rfl) ?_
  refine va_get (D := (dC, dI)) (ci := 6) (v := .ref xf_sources) (C := R_Sf) (T := F_Sf) (N := 10) hx hb hts (fun w h => List.mem_cons_of_mem _ (in_Sf w h)) hown hK.1 hP 0 rfl rfl 2 (by decide) (hts _ (List.mem_cons_of_mem _ mw_284)) (fun _ h9 => h9) hsf_sources d_Sf_findRivals_65 ?_
  refine lv_iload_n hx hb d_Sf_findRivals_68 rfl (lv_at hl 0 rfl) ?_
  refine va_lald hx hb hK.1 hP 3 3 rfl rfl (vp_in_iff.mpr (by decide)) d_Sf_findRivals_69 ?_
  refine lv_lconst (v := 0) hx hb d_Sf_findRivals_70 (by decide) ?_
  refine W.lcmp hx hb d_Sf_findRivals_71 ?_
  refine lv_topi (fun x0 e0 => ?_)
  obtain rfl : x0 = 0 := e0.trans (by decide)
  refine lv_if_eq (tgt := 81) hx hb d_Sf_findRivals_72 (by decide) (fun _ => ?_) (fun h => absurd (by decide) h)
  refine lv_iconst (v := 0) hx hb d_Sf_findRivals_81 (by decide) ?_
  refine lv_ior hx hb d_Sf_findRivals_82 ?_
  refine lv_topi (fun x0 e0 => ?_)
  obtain rfl : x0 = 0 := e0.trans (by decide)
  refine lv_istore_n hx hb d_Sf_findRivals_83 rfl hl (by decide) rfl (fun ls hl => ?_)
  have hl : lv_has ls 5 [(1, .int 0), (2, .int 9), (0, .ref oSf)] := hl
  refine lv_iinc (k := 1) (v := 10) hx hb d_Sf_findRivals_84 hl rfl (by first | rfl | decide | exact nI_1 i | exact pv_1 j hj) (by decide) rfl (fun ls hl => ?_)
  have hl : lv_has ls 5 [(2, .int 10), (1, .int 0), (0, .ref oSf)] := hl
  refine lv_goto (tgt := 57) hx hb d_Sf_findRivals_87 (by decide) ?_
  refine lv_iload_n hx hb d_Sf_findRivals_57 rfl (lv_at hl 0 rfl) ?_
  refine lv_bipush (v := 14) hx hb d_Sf_findRivals_58 (by decide) ?_
  refine lv_icmp_gt (tgt := 90) hx hb d_Sf_findRivals_60 (by decide) (fun h => absurd h (by decide)) (fun _ => ?_)
  refine lv_iload_n hx hb d_Sf_findRivals_63 rfl (lv_at hl 1 rfl) ?_
  refine lv_aload_n hx hb d_Sf_findRivals_64 rfl (lv_at hl 2 rfl) ?_
  refine va_get (D := (dC, dI)) (ci := 6) (v := .ref xf_sources) (C := R_Sf) (T := F_Sf) (N := 10) hx hb hts (fun w h => List.mem_cons_of_mem _ (in_Sf w h)) hown hK.1 hP 0 rfl rfl 2 (by decide) (hts _ (List.mem_cons_of_mem _ mw_284)) (fun _ h9 => h9) hsf_sources d_Sf_findRivals_65 ?_
  refine lv_iload_n hx hb d_Sf_findRivals_68 rfl (lv_at hl 0 rfl) ?_
  refine va_lald hx hb hK.1 hP 3 3 rfl rfl (vp_in_iff.mpr (by decide)) d_Sf_findRivals_69 ?_
  refine lv_lconst (v := 0) hx hb d_Sf_findRivals_70 (by decide) ?_
  refine W.lcmp hx hb d_Sf_findRivals_71 ?_
  refine lv_topi (fun x0 e0 => ?_)
  obtain rfl : x0 = 0 := e0.trans (by decide)
  refine lv_if_eq (tgt := 81) hx hb d_Sf_findRivals_72 (by decide) (fun _ => ?_) (fun h => absurd (by decide) h)
  refine lv_iconst (v := 0) hx hb d_Sf_findRivals_81 (by decide) ?_
  refine lv_ior hx hb d_Sf_findRivals_82 ?_
  refine lv_topi (fun x0 e0 => ?_)
  obtain rfl : x0 = 0 := e0.trans (by decide)
  refine lv_istore_n hx hb d_Sf_findRivals_83 rfl hl (by decide) rfl (fun ls hl => ?_)
  have hl : lv_has ls 5 [(1, .int 0), (2, .int 10), (0, .ref oSf)] := hl
  refine lv_iinc (k := 1) (v := 11) hx hb d_Sf_findRivals_84 hl rfl (by first | rfl | decide | exact nI_1 i | exact pv_1 j hj) (by decide) rfl (fun ls hl => ?_)
  have hl : lv_has ls 5 [(2, .int 11), (1, .int 0), (0, .ref oSf)] := hl
  refine lv_goto (tgt := 57) hx hb d_Sf_findRivals_87 (by decide) ?_
  refine lv_iload_n hx hb d_Sf_findRivals_57 rfl (lv_at hl 0 rfl) ?_
  refine lv_bipush (v := 14) hx hb d_Sf_findRivals_58 (by decide) ?_
  refine lv_icmp_gt (tgt := 90) hx hb d_Sf_findRivals_60 (by decide) (fun h => absurd h (by decide)) (fun _ => ?_)
  refine lv_iload_n hx hb d_Sf_findRivals_63 rfl (lv_at hl 1 rfl) ?_
  refine lv_aload_n hx hb d_Sf_findRivals_64 rfl (lv_at hl 2 rfl) ?_
  refine va_get (D := (dC, dI)) (ci := 6) (v := .ref xf_sources) (C := R_Sf) (T := F_Sf) (N := 10) hx hb hts (fun w h => List.mem_cons_of_mem _ (in_Sf w h)) hown hK.1 hP 0 rfl rfl 2 (by decide) (hts _ (List.mem_cons_of_mem _ mw_284)) (fun _ h9 => h9) hsf_sources d_Sf_findRivals_65 ?_
  refine lv_iload_n hx hb d_Sf_findRivals_68 rfl (lv_at hl 0 rfl) ?_
  refine va_lald hx hb hK.1 hP 3 3 rfl rfl (vp_in_iff.mpr (by decide)) d_Sf_findRivals_69 ?_
  refine lv_lconst (v := 0) hx hb d_Sf_findRivals_70 (by decide) ?_
  refine W.lcmp hx hb d_Sf_findRivals_71 ?_
  refine lv_topi (fun x0 e0 => ?_)
  obtain rfl : x0 = 0 := e0.trans (by decide)
  refine lv_if_eq (tgt := 81) hx hb d_Sf_findRivals_72 (by decide) (fun _ => ?_) (fun h => absurd (by decide) h)
  refine lv_iconst (v := 0) hx hb d_Sf_findRivals_81 (by decide) ?_
  refine lv_ior hx hb d_Sf_findRivals_82 ?_
  refine lv_topi (fun x0 e0 => ?_)
  obtain rfl : x0 = 0 := e0.trans (by decide)
  refine lv_istore_n hx hb d_Sf_findRivals_83 rfl hl (by decide) rfl (fun ls hl => ?_)
  have hl : lv_has ls 5 [(1, .int 0), (2, .int 11), (0, .ref oSf)] := hl
  refine lv_iinc (k := 1) (v := 12) hx hb d_Sf_findRivals_84 hl rfl (by first | rfl | decide | exact nI_1 i | exact pv_1 j hj) (by decide) rfl (fun ls hl => ?_)
  have hl : lv_has ls 5 [(2, .int 12), (1, .int 0), (0, .ref oSf)] := hl
  refine lv_goto (tgt := 57) hx hb d_Sf_findRivals_87 (by decide) ?_
  refine lv_iload_n hx hb d_Sf_findRivals_57 rfl (lv_at hl 0 rfl) ?_
  refine lv_bipush (v := 14) hx hb d_Sf_findRivals_58 (by decide) ?_
  refine lv_icmp_gt (tgt := 90) hx hb d_Sf_findRivals_60 (by decide) (fun h => absurd h (by decide)) (fun _ => ?_)
  refine lv_iload_n hx hb d_Sf_findRivals_63 rfl (lv_at hl 1 rfl) ?_
  refine lv_aload_n hx hb d_Sf_findRivals_64 rfl (lv_at hl 2 rfl) ?_
  refine va_get (D := (dC, dI)) (ci := 6) (v := .ref xf_sources) (C := R_Sf) (T := F_Sf) (N := 10) hx hb hts (fun w h => List.mem_cons_of_mem _ (in_Sf w h)) hown hK.1 hP 0 rfl rfl 2 (by decide) (hts _ (List.mem_cons_of_mem _ mw_284)) (fun _ h9 => h9) hsf_sources d_Sf_findRivals_65 ?_
  refine lv_iload_n hx hb d_Sf_findRivals_68 rfl (lv_at hl 0 rfl) ?_
  refine va_lald hx hb hK.1 hP 3 3 rfl rfl (vp_in_iff.mpr (by decide)) d_Sf_findRivals_69 ?_
  refine lv_lconst (v := 0) hx hb d_Sf_findRivals_70 (by decide) ?_
  refine W.lcmp hx hb d_Sf_findRivals_71 ?_
  refine lv_topi (fun x0 e0 => ?_)
  obtain rfl : x0 = 0 := e0.trans (by decide)
  refine lv_if_eq (tgt := 81) hx hb d_Sf_findRivals_72 (by decide) (fun _ => ?_) (fun h => absurd (by decide) h)
  refine lv_iconst (v := 0) hx hb d_Sf_findRivals_81 (by decide) ?_
  refine lv_ior hx hb d_Sf_findRivals_82 ?_
  refine lv_topi (fun x0 e0 => ?_)
  obtain rfl : x0 = 0 := e0.trans (by decide)
  refine lv_istore_n hx hb d_Sf_findRivals_83 rfl hl (by decide) rfl (fun ls hl => ?_)
  have hl : lv_has ls 5 [(1, .int 0), (2, .int 12), (0, .ref oSf)] := hl
  refine lv_iinc (k := 1) (v := 13) hx hb d_Sf_findRivals_84 hl rfl (by first | rfl | decide | exact nI_1 i | exact pv_1 j hj) (by decide) rfl (fun ls hl => ?_)
  have hl : lv_has ls 5 [(2, .int 13), (1, .int 0), (0, .ref oSf)] := hl
  refine lv_goto (tgt := 57) hx hb d_Sf_findRivals_87 (by decide) ?_
  refine lv_iload_n hx hb d_Sf_findRivals_57 rfl (lv_at hl 0 rfl) ?_
  refine lv_bipush (v := 14) hx hb d_Sf_findRivals_58 (by decide) ?_
  refine lv_icmp_gt (tgt := 90) hx hb d_Sf_findRivals_60 (by decide) (fun h => absurd h (by decide)) (fun _ => ?_)
  refine lv_iload_n hx hb d_Sf_findRivals_63 rfl (lv_at hl 1 rfl) ?_
  refine lv_aload_n hx hb d_Sf_findRivals_64 rfl (lv_at hl 2 rfl) ?_
  refine va_get (D := (dC, dI)) (ci := 6) (v := .ref xf_sources) (C := R_Sf) (T := F_Sf) (N := 10) hx hb hts (fun w h => List.mem_cons_of_mem _ (in_Sf w h)) hown hK.1 hP 0 rfl rfl 2 (by decide) (hts _ (List.mem_cons_of_mem _ mw_284)) (fun _ h9 => h9) hsf_sources d_Sf_findRivals_65 ?_
  refine lv_iload_n hx hb d_Sf_findRivals_68 rfl (lv_at hl 0 rfl) ?_
  refine va_lald hx hb hK.1 hP 3 3 rfl rfl (vp_in_iff.mpr (by decide)) d_Sf_findRivals_69 ?_
  refine lv_lconst (v := 0) hx hb d_Sf_findRivals_70 (by decide) ?_
  refine W.lcmp hx hb d_Sf_findRivals_71 ?_
  refine lv_topi (fun x0 e0 => ?_)
  obtain rfl : x0 = 0 := e0.trans (by decide)
  refine lv_if_eq (tgt := 81) hx hb d_Sf_findRivals_72 (by decide) (fun _ => ?_) (fun h => absurd (by decide) h)
  refine lv_iconst (v := 0) hx hb d_Sf_findRivals_81 (by decide) ?_
  refine lv_ior hx hb d_Sf_findRivals_82 ?_
  refine lv_topi (fun x0 e0 => ?_)
  obtain rfl : x0 = 0 := e0.trans (by decide)
  refine lv_istore_n hx hb d_Sf_findRivals_83 rfl hl (by decide) rfl (fun ls hl => ?_)
  have hl : lv_has ls 5 [(1, .int 0), (2, .int 13), (0, .ref oSf)] := hl
  refine lv_iinc (k := 1) (v := 14) hx hb d_Sf_findRivals_84 hl rfl (by first | rfl | decide | exact nI_1 i | exact pv_1 j hj) (by decide) rfl (fun ls hl => ?_)
  have hl : lv_has ls 5 [(2, .int 14), (1, .int 0), (0, .ref oSf)] := hl
  refine lv_goto (tgt := 57) hx hb d_Sf_findRivals_87 (by decide) ?_
  refine lv_iload_n hx hb d_Sf_findRivals_57 rfl (lv_at hl 0 rfl) ?_
  refine lv_bipush (v := 14) hx hb d_Sf_findRivals_58 (by decide) ?_
  refine lv_icmp_gt (tgt := 90) hx hb d_Sf_findRivals_60 (by decide) (fun h => absurd h (by decide)) (fun _ => ?_)
  refine lv_iload_n hx hb d_Sf_findRivals_63 rfl (lv_at hl 1 rfl) ?_
  refine lv_aload_n hx hb d_Sf_findRivals_64 rfl (lv_at hl 2 rfl) ?_
  refine va_get (D := (dC, dI)) (ci := 6) (v := .ref xf_sources) (C := R_Sf) (T := F_Sf) (N := 10) hx hb hts (fun w h => List.mem_cons_of_mem _ (in_Sf w h)) hown hK.1 hP 0 rfl rfl 2 (by decide) (hts _ (List.mem_cons_of_mem _ mw_284)) (fun _ h9 => h9) hsf_sources d_Sf_findRivals_65 ?_
  refine lv_iload_n hx hb d_Sf_findRivals_68 rfl (lv_at hl 0 rfl) ?_
  refine va_lald hx hb hK.1 hP 3 3 rfl rfl (vp_in_iff.mpr (by decide)) d_Sf_findRivals_69 ?_
  refine lv_lconst (v := 0) hx hb d_Sf_findRivals_70 (by decide) ?_
  refine W.lcmp hx hb d_Sf_findRivals_71 ?_
  refine lv_topi (fun x0 e0 => ?_)
  obtain rfl : x0 = 0 := e0.trans (by decide)
  refine lv_if_eq (tgt := 81) hx hb d_Sf_findRivals_72 (by decide) (fun _ => ?_) (fun h => absurd (by decide) h)
  refine lv_iconst (v := 0) hx hb d_Sf_findRivals_81 (by decide) ?_
  refine lv_ior hx hb d_Sf_findRivals_82 ?_
  refine lv_topi (fun x0 e0 => ?_)
  obtain rfl : x0 = 0 := e0.trans (by decide)
  refine lv_istore_n hx hb d_Sf_findRivals_83 rfl hl (by decide) rfl (fun ls hl => ?_)
  have hl : lv_has ls 5 [(1, .int 0), (2, .int 14), (0, .ref oSf)] := hl
  refine lv_iinc (k := 1) (v := 15) hx hb d_Sf_findRivals_84 hl rfl (by first | rfl | decide | exact nI_1 i | exact pv_1 j hj) (by decide) rfl (fun ls hl => ?_)
  have hl : lv_has ls 5 [(2, .int 15), (1, .int 0), (0, .ref oSf)] := hl
  refine lv_goto (tgt := 57) hx hb d_Sf_findRivals_87 (by decide) ?_
  refine lv_iload_n hx hb d_Sf_findRivals_57 rfl (lv_at hl 0 rfl) ?_
  refine lv_bipush (v := 14) hx hb d_Sf_findRivals_58 (by decide) ?_
  refine lv_icmp_gt (tgt := 90) hx hb d_Sf_findRivals_60 (by decide) (fun _ => ?_) (fun h => absurd (by decide) h)
  refine lv_iconst (v := 0) hx hb d_Sf_findRivals_90 (by decide) ?_
  refine lv_istore_n hx hb d_Sf_findRivals_91 rfl hl (by decide) rfl (fun ls hl => ?_)
  have hl : lv_has ls 5 [(2, .int 0), (1, .int 0), (0, .ref oSf)] := hl
  refine lv_iconst (v := 1) hx hb d_Sf_findRivals_92 (by decide) ?_
  refine lv_istore_n hx hb d_Sf_findRivals_93 rfl hl (by decide) rfl (fun ls hl => ?_)
  have hl : lv_has ls 5 [(3, .int 1), (2, .int 0), (1, .int 0), (0, .ref oSf)] := hl
  refine lv_iload_n hx hb d_Sf_findRivals_94 rfl (lv_at hl 0 rfl) ?_
  refine lv_bipush (v := 14) hx hb d_Sf_findRivals_95 (by decide) ?_
  refine lv_icmp_gt (tgt := 169) hx hb d_Sf_findRivals_97 (by decide) (fun h => absurd h (by decide)) (fun _ => ?_)
  refine lv_iload_n hx hb d_Sf_findRivals_100 rfl (lv_at hl 2 rfl) ?_
  refine lv_aload_n hx hb d_Sf_findRivals_101 rfl (lv_at hl 3 rfl) ?_
  refine va_get (D := (dC, dI)) (ci := 6) (v := .ref oSt) (C := R_Sf) (T := F_Sf) (N := 10) hx hb hts (fun w h => List.mem_cons_of_mem _ (in_Sf w h)) hown hK.1 hP 0 rfl rfl 0 (by decide) (hts _ (List.mem_cons_of_mem _ mw_282)) (fun _ h9 => h9) hsf_stock d_Sf_findRivals_102 ?_
  refine va_get (D := (dC, dI)) (ci := 4) (v := .ref xst_meeting) (C := R_St) (T := F_St) (N := 12) hx hb hts (fun w h => List.mem_cons_of_mem _ (in_St w h)) hown hK.1 hP 1 rfl rfl 9 (by decide) (hts _ (List.mem_cons_of_mem _ mw_177)) (fun _ h9 => h9) hst_meeting d_Sf_findRivals_105 ?_
  refine lv_iload_n hx hb d_Sf_findRivals_108 rfl (lv_at hl 0 rfl) ?_
  refine va_iald hx hb hK.1 hP 4 0 rfl rfl (vp_in_iff.mpr (by decide)) d_Sf_findRivals_109 ?_
  refine lv_iconst (v := (-1)) hx hb d_Sf_findRivals_110 (by decide) ?_
  refine lv_ixor hx hb d_Sf_findRivals_111 ?_
  refine lv_topi (fun x0 e0 => ?_)
  obtain rfl : x0 = (-1) := e0.trans (by decide)
  refine lv_iand hx hb d_Sf_findRivals_112 ?_
  refine lv_topi (fun x0 e0 => ?_)
  obtain rfl : x0 = 0 := e0.trans (by decide)
  refine lv_iconst (v := 1) hx hb d_Sf_findRivals_113 (by decide) ?_
  refine lv_iload_n hx hb d_Sf_findRivals_114 rfl (lv_at hl 0 rfl) ?_
  refine lv_ishl hx hb d_Sf_findRivals_115 ?_
  refine lv_topi (fun x0 e0 => ?_)
  obtain rfl : x0 = 2 := e0.trans (by decide)
  refine lv_iconst (v := (-1)) hx hb d_Sf_findRivals_116 (by decide) ?_
  refine lv_ixor hx hb d_Sf_findRivals_117 ?_
  refine lv_topi (fun x0 e0 => ?_)
  obtain rfl : x0 = (-3) := e0.trans (by decide)
  refine lv_iand hx hb d_Sf_findRivals_118 ?_
  refine lv_topi (fun x0 e0 => ?_)
  obtain rfl : x0 = 0 := e0.trans (by decide)
  refine lv_istore hx hb d_Sf_findRivals_119 hl (by decide) rfl (fun ls hl => ?_)
  have hl : lv_has ls 5 [(4, .int 0), (3, .int 1), (2, .int 0), (1, .int 0), (0, .ref oSf)] := hl
  refine lv_aload_n hx hb d_Sf_findRivals_121 rfl (lv_at hl 4 rfl) ?_
  refine va_get (D := (dC, dI)) (ci := 6) (v := .ref xf_rivals) (C := R_Sf) (T := F_Sf) (N := 10) hx hb hts (fun w h => List.mem_cons_of_mem _ (in_Sf w h)) hown hK.1 hP 0 rfl rfl 3 (by decide) (hts _ (List.mem_cons_of_mem _ mw_285)) (fun _ h9 => h9) hsf_rivals d_Sf_findRivals_122 ?_
  refine lv_iload_n hx hb d_Sf_findRivals_125 rfl (lv_at hl 1 rfl) ?_
  refine lv_aload_n hx hb d_Sf_findRivals_126 rfl (lv_at hl 4 rfl) ?_
  refine va_get (D := (dC, dI)) (ci := 6) (v := .ref xf_sources) (C := R_Sf) (T := F_Sf) (N := 10) hx hb hts (fun w h => List.mem_cons_of_mem _ (in_Sf w h)) hown hK.1 hP 0 rfl rfl 2 (by decide) (hts _ (List.mem_cons_of_mem _ mw_284)) (fun _ h9 => h9) hsf_sources d_Sf_findRivals_127 ?_
  refine lv_iload_n hx hb d_Sf_findRivals_130 rfl (lv_at hl 1 rfl) ?_
  refine va_lald hx hb hK.1 hP 3 3 rfl rfl (vp_in_iff.mpr (by decide)) d_Sf_findRivals_131 ?_
  refine lv_lconst (v := 0) hx hb d_Sf_findRivals_132 (by decide) ?_
  refine W.lcmp hx hb d_Sf_findRivals_133 ?_
  refine lv_topi (fun x0 e0 => ?_)
  obtain rfl : x0 = 0 := e0.trans (by decide)
  refine lv_if_eq (tgt := 142) hx hb d_Sf_findRivals_134 (by decide) (fun _ => ?_) (fun h => absurd (by decide) h)
  refine lv_iconst (v := 0) hx hb d_Sf_findRivals_142 (by decide) ?_
  refine va_iast hx hb hK.1 hP hD hS 5 0 rfl rfl (vp_in_iff.mpr (by decide)) d_Sf_findRivals_143 (fun H locs hP hD hS => ?_)
  have hP : va_P (dC, dI) classes [(oSf, .inr (6, xf)), (oSt, .inr (4, xs_)), (oP1, .inr (3, xp)), (xf_sources, .inl (cJ, 15, .inr (.inl (fun _ => 0)))), (xst_meeting, .inl (cI, 15, .inl (fun _ => 0))), (xf_rivals, .inl (cI, 15, .inl ((upd (fun _ => 0) (1 : Int32).toNatClampNeg 0))))] H := hP
  have hD : va_D A [(oSf, .inr (6, xf)), (oSt, .inr (4, xs_)), (oP1, .inr (3, xp)), (xf_sources, .inl (cJ, 15, .inr (.inl (fun _ => 0)))), (xst_meeting, .inl (cI, 15, .inl (fun _ => 0))), (xf_rivals, .inl (cI, 15, .inl ((upd (fun _ => 0) (1 : Int32).toNatClampNeg 0))))] := hD
  generalize hg_f143_1 : (upd (fun _ => 0) (1 : Int32).toNatClampNeg 0) = f143_1 at hP hD
  have hv_f143_1 : f143_1 (1 : Int32).toNatClampNeg = 0 := by rw [← hg_f143_1]; exact pk_us
  refine lv_iload_n hx hb d_Sf_findRivals_144 rfl (lv_at hl 2 rfl) ?_
  refine lv_if_ne (tgt := 157) hx hb d_Sf_findRivals_145 (by decide) (fun h => absurd rfl h) (fun _ => ?_)
  refine lv_aload_n hx hb d_Sf_findRivals_148 rfl (lv_at hl 4 rfl) ?_
  refine va_get (D := (dC, dI)) (ci := 6) (v := .ref xf_rivals) (C := R_Sf) (T := F_Sf) (N := 10) hx hb hts (fun w h => List.mem_cons_of_mem _ (in_Sf w h)) hown hK.1 hP 0 rfl rfl 3 (by decide) (hts _ (List.mem_cons_of_mem _ mw_285)) (fun _ h9 => h9) hsf_rivals d_Sf_findRivals_149 ?_
  refine lv_iload_n hx hb d_Sf_findRivals_152 rfl (lv_at hl 1 rfl) ?_
  refine va_iald hx hb hK.1 hP 5 0 rfl rfl (vp_in_iff.mpr (by decide)) d_Sf_findRivals_153 ?_
  refine lv_topi (fun x0 e0 => ?_)
  obtain rfl : x0 = 0 := e0.trans hv_f143_1
  refine lv_if_eq (tgt := 161) hx hb d_Sf_findRivals_154 (by decide) (fun _ => ?_) (fun h => absurd (by decide) h)
  refine lv_iconst (v := 0) hx hb d_Sf_findRivals_161 (by decide) ?_
  refine lv_istore_n hx hb d_Sf_findRivals_162 rfl hl (by decide) rfl (fun ls hl => ?_)
  have hl : lv_has ls 5 [(2, .int 0), (4, .int 0), (3, .int 1), (1, .int 0), (0, .ref oSf)] := hl
  refine lv_iinc (k := 2) (v := 2) hx hb d_Sf_findRivals_163 hl rfl (by first | rfl | decide | exact nI_1 i | exact pv_1 j hj) (by decide) rfl (fun ls hl => ?_)
  have hl : lv_has ls 5 [(3, .int 2), (2, .int 0), (4, .int 0), (1, .int 0), (0, .ref oSf)] := hl
  refine lv_goto (tgt := 94) hx hb d_Sf_findRivals_166 (by decide) ?_
  refine lv_iload_n hx hb d_Sf_findRivals_94 rfl (lv_at hl 0 rfl) ?_
  refine lv_bipush (v := 14) hx hb d_Sf_findRivals_95 (by decide) ?_
  refine lv_icmp_gt (tgt := 169) hx hb d_Sf_findRivals_97 (by decide) (fun h => absurd h (by decide)) (fun _ => ?_)
  refine lv_iload_n hx hb d_Sf_findRivals_100 rfl (lv_at hl 3 rfl) ?_
  refine lv_aload_n hx hb d_Sf_findRivals_101 rfl (lv_at hl 4 rfl) ?_
  refine va_get (D := (dC, dI)) (ci := 6) (v := .ref oSt) (C := R_Sf) (T := F_Sf) (N := 10) hx hb hts (fun w h => List.mem_cons_of_mem _ (in_Sf w h)) hown hK.1 hP 0 rfl rfl 0 (by decide) (hts _ (List.mem_cons_of_mem _ mw_282)) (fun _ h9 => h9) hsf_stock d_Sf_findRivals_102 ?_
  refine va_get (D := (dC, dI)) (ci := 4) (v := .ref xst_meeting) (C := R_St) (T := F_St) (N := 12) hx hb hts (fun w h => List.mem_cons_of_mem _ (in_St w h)) hown hK.1 hP 1 rfl rfl 9 (by decide) (hts _ (List.mem_cons_of_mem _ mw_177)) (fun _ h9 => h9) hst_meeting d_Sf_findRivals_105 ?_
  refine lv_iload_n hx hb d_Sf_findRivals_108 rfl (lv_at hl 0 rfl) ?_
  refine va_iald hx hb hK.1 hP 4 0 rfl rfl (vp_in_iff.mpr (by decide)) d_Sf_findRivals_109 ?_
  refine lv_iconst (v := (-1)) hx hb d_Sf_findRivals_110 (by decide) ?_
  refine lv_ixor hx hb d_Sf_findRivals_111 ?_
  refine lv_topi (fun x0 e0 => ?_)
  obtain rfl : x0 = (-1) := e0.trans (by decide)
  refine lv_iand hx hb d_Sf_findRivals_112 ?_
  refine lv_topi (fun x0 e0 => ?_)
  obtain rfl : x0 = 0 := e0.trans (by decide)
  refine lv_iconst (v := 1) hx hb d_Sf_findRivals_113 (by decide) ?_
  refine lv_iload_n hx hb d_Sf_findRivals_114 rfl (lv_at hl 0 rfl) ?_
  refine lv_ishl hx hb d_Sf_findRivals_115 ?_
  refine lv_topi (fun x0 e0 => ?_)
  obtain rfl : x0 = 4 := e0.trans (by decide)
  refine lv_iconst (v := (-1)) hx hb d_Sf_findRivals_116 (by decide) ?_
  refine lv_ixor hx hb d_Sf_findRivals_117 ?_
  refine lv_topi (fun x0 e0 => ?_)
  obtain rfl : x0 = (-5) := e0.trans (by decide)
  refine lv_iand hx hb d_Sf_findRivals_118 ?_
  refine lv_topi (fun x0 e0 => ?_)
  obtain rfl : x0 = 0 := e0.trans (by decide)
  refine lv_istore hx hb d_Sf_findRivals_119 hl (by decide) rfl (fun ls hl => ?_)
  have hl : lv_has ls 5 [(4, .int 0), (3, .int 2), (2, .int 0), (1, .int 0), (0, .ref oSf)] := hl
  refine lv_aload_n hx hb d_Sf_findRivals_121 rfl (lv_at hl 4 rfl) ?_
  refine va_get (D := (dC, dI)) (ci := 6) (v := .ref xf_rivals) (C := R_Sf) (T := F_Sf) (N := 10) hx hb hts (fun w h => List.mem_cons_of_mem _ (in_Sf w h)) hown hK.1 hP 0 rfl rfl 3 (by decide) (hts _ (List.mem_cons_of_mem _ mw_285)) (fun _ h9 => h9) hsf_rivals d_Sf_findRivals_122 ?_
  refine lv_iload_n hx hb d_Sf_findRivals_125 rfl (lv_at hl 1 rfl) ?_
  refine lv_aload_n hx hb d_Sf_findRivals_126 rfl (lv_at hl 4 rfl) ?_
  refine va_get (D := (dC, dI)) (ci := 6) (v := .ref xf_sources) (C := R_Sf) (T := F_Sf) (N := 10) hx hb hts (fun w h => List.mem_cons_of_mem _ (in_Sf w h)) hown hK.1 hP 0 rfl rfl 2 (by decide) (hts _ (List.mem_cons_of_mem _ mw_284)) (fun _ h9 => h9) hsf_sources d_Sf_findRivals_127 ?_
  refine lv_iload_n hx hb d_Sf_findRivals_130 rfl (lv_at hl 1 rfl) ?_
  refine va_lald hx hb hK.1 hP 3 3 rfl rfl (vp_in_iff.mpr (by decide)) d_Sf_findRivals_131 ?_
  refine lv_lconst (v := 0) hx hb d_Sf_findRivals_132 (by decide) ?_
  refine W.lcmp hx hb d_Sf_findRivals_133 ?_
  refine lv_topi (fun x0 e0 => ?_)
  obtain rfl : x0 = 0 := e0.trans (by decide)
  refine lv_if_eq (tgt := 142) hx hb d_Sf_findRivals_134 (by decide) (fun _ => ?_) (fun h => absurd (by decide) h)
  refine lv_iconst (v := 0) hx hb d_Sf_findRivals_142 (by decide) ?_
  refine va_iast hx hb hK.1 hP hD hS 5 0 rfl rfl (vp_in_iff.mpr (by decide)) d_Sf_findRivals_143 (fun H locs hP hD hS => ?_)
  have hP : va_P (dC, dI) classes [(oSf, .inr (6, xf)), (oSt, .inr (4, xs_)), (oP1, .inr (3, xp)), (xf_sources, .inl (cJ, 15, .inr (.inl (fun _ => 0)))), (xst_meeting, .inl (cI, 15, .inl (fun _ => 0))), (xf_rivals, .inl (cI, 15, .inl ((upd f143_1 (2 : Int32).toNatClampNeg 0))))] H := hP
  have hD : va_D A [(oSf, .inr (6, xf)), (oSt, .inr (4, xs_)), (oP1, .inr (3, xp)), (xf_sources, .inl (cJ, 15, .inr (.inl (fun _ => 0)))), (xst_meeting, .inl (cI, 15, .inl (fun _ => 0))), (xf_rivals, .inl (cI, 15, .inl ((upd f143_1 (2 : Int32).toNatClampNeg 0))))] := hD
  generalize hg_f143_2 : (upd f143_1 (2 : Int32).toNatClampNeg 0) = f143_2 at hP hD
  have hv_f143_2 : f143_2 (2 : Int32).toNatClampNeg = 0 := by rw [← hg_f143_2]; exact pk_us
  refine lv_iload_n hx hb d_Sf_findRivals_144 rfl (lv_at hl 2 rfl) ?_
  refine lv_if_ne (tgt := 157) hx hb d_Sf_findRivals_145 (by decide) (fun h => absurd rfl h) (fun _ => ?_)
  refine lv_aload_n hx hb d_Sf_findRivals_148 rfl (lv_at hl 4 rfl) ?_
  refine va_get (D := (dC, dI)) (ci := 6) (v := .ref xf_rivals) (C := R_Sf) (T := F_Sf) (N := 10) hx hb hts (fun w h => List.mem_cons_of_mem _ (in_Sf w h)) hown hK.1 hP 0 rfl rfl 3 (by decide) (hts _ (List.mem_cons_of_mem _ mw_285)) (fun _ h9 => h9) hsf_rivals d_Sf_findRivals_149 ?_
  refine lv_iload_n hx hb d_Sf_findRivals_152 rfl (lv_at hl 1 rfl) ?_
  refine va_iald hx hb hK.1 hP 5 0 rfl rfl (vp_in_iff.mpr (by decide)) d_Sf_findRivals_153 ?_
  refine lv_topi (fun x0 e0 => ?_)
  obtain rfl : x0 = 0 := e0.trans hv_f143_2
  refine lv_if_eq (tgt := 161) hx hb d_Sf_findRivals_154 (by decide) (fun _ => ?_) (fun h => absurd (by decide) h)
  refine lv_iconst (v := 0) hx hb d_Sf_findRivals_161 (by decide) ?_
  refine lv_istore_n hx hb d_Sf_findRivals_162 rfl hl (by decide) rfl (fun ls hl => ?_)
  have hl : lv_has ls 5 [(2, .int 0), (4, .int 0), (3, .int 2), (1, .int 0), (0, .ref oSf)] := hl
  refine lv_iinc (k := 2) (v := 3) hx hb d_Sf_findRivals_163 hl rfl (by first | rfl | decide | exact nI_1 i | exact pv_1 j hj) (by decide) rfl (fun ls hl => ?_)
  have hl : lv_has ls 5 [(3, .int 3), (2, .int 0), (4, .int 0), (1, .int 0), (0, .ref oSf)] := hl
  refine lv_goto (tgt := 94) hx hb d_Sf_findRivals_166 (by decide) ?_
  refine lv_iload_n hx hb d_Sf_findRivals_94 rfl (lv_at hl 0 rfl) ?_
  refine lv_bipush (v := 14) hx hb d_Sf_findRivals_95 (by decide) ?_
  refine lv_icmp_gt (tgt := 169) hx hb d_Sf_findRivals_97 (by decide) (fun h => absurd h (by decide)) (fun _ => ?_)
  refine lv_iload_n hx hb d_Sf_findRivals_100 rfl (lv_at hl 3 rfl) ?_
  refine lv_aload_n hx hb d_Sf_findRivals_101 rfl (lv_at hl 4 rfl) ?_
  refine va_get (D := (dC, dI)) (ci := 6) (v := .ref oSt) (C := R_Sf) (T := F_Sf) (N := 10) hx hb hts (fun w h => List.mem_cons_of_mem _ (in_Sf w h)) hown hK.1 hP 0 rfl rfl 0 (by decide) (hts _ (List.mem_cons_of_mem _ mw_282)) (fun _ h9 => h9) hsf_stock d_Sf_findRivals_102 ?_
  refine va_get (D := (dC, dI)) (ci := 4) (v := .ref xst_meeting) (C := R_St) (T := F_St) (N := 12) hx hb hts (fun w h => List.mem_cons_of_mem _ (in_St w h)) hown hK.1 hP 1 rfl rfl 9 (by decide) (hts _ (List.mem_cons_of_mem _ mw_177)) (fun _ h9 => h9) hst_meeting d_Sf_findRivals_105 ?_
  refine lv_iload_n hx hb d_Sf_findRivals_108 rfl (lv_at hl 0 rfl) ?_
  refine va_iald hx hb hK.1 hP 4 0 rfl rfl (vp_in_iff.mpr (by decide)) d_Sf_findRivals_109 ?_
  refine lv_iconst (v := (-1)) hx hb d_Sf_findRivals_110 (by decide) ?_
  refine lv_ixor hx hb d_Sf_findRivals_111 ?_
  refine lv_topi (fun x0 e0 => ?_)
  obtain rfl : x0 = (-1) := e0.trans (by decide)
  refine lv_iand hx hb d_Sf_findRivals_112 ?_
  refine lv_topi (fun x0 e0 => ?_)
  obtain rfl : x0 = 0 := e0.trans (by decide)
  refine lv_iconst (v := 1) hx hb d_Sf_findRivals_113 (by decide) ?_
  refine lv_iload_n hx hb d_Sf_findRivals_114 rfl (lv_at hl 0 rfl) ?_
  refine lv_ishl hx hb d_Sf_findRivals_115 ?_
  refine lv_topi (fun x0 e0 => ?_)
  obtain rfl : x0 = 8 := e0.trans (by decide)
  refine lv_iconst (v := (-1)) hx hb d_Sf_findRivals_116 (by decide) ?_
  refine lv_ixor hx hb d_Sf_findRivals_117 ?_
  refine lv_topi (fun x0 e0 => ?_)
  obtain rfl : x0 = (-9) := e0.trans (by decide)
  refine lv_iand hx hb d_Sf_findRivals_118 ?_
  refine lv_topi (fun x0 e0 => ?_)
  obtain rfl : x0 = 0 := e0.trans (by decide)
  refine lv_istore hx hb d_Sf_findRivals_119 hl (by decide) rfl (fun ls hl => ?_)
  have hl : lv_has ls 5 [(4, .int 0), (3, .int 3), (2, .int 0), (1, .int 0), (0, .ref oSf)] := hl
  refine lv_aload_n hx hb d_Sf_findRivals_121 rfl (lv_at hl 4 rfl) ?_
  refine va_get (D := (dC, dI)) (ci := 6) (v := .ref xf_rivals) (C := R_Sf) (T := F_Sf) (N := 10) hx hb hts (fun w h => List.mem_cons_of_mem _ (in_Sf w h)) hown hK.1 hP 0 rfl rfl 3 (by decide) (hts _ (List.mem_cons_of_mem _ mw_285)) (fun _ h9 => h9) hsf_rivals d_Sf_findRivals_122 ?_
  refine lv_iload_n hx hb d_Sf_findRivals_125 rfl (lv_at hl 1 rfl) ?_
  refine lv_aload_n hx hb d_Sf_findRivals_126 rfl (lv_at hl 4 rfl) ?_
  refine va_get (D := (dC, dI)) (ci := 6) (v := .ref xf_sources) (C := R_Sf) (T := F_Sf) (N := 10) hx hb hts (fun w h => List.mem_cons_of_mem _ (in_Sf w h)) hown hK.1 hP 0 rfl rfl 2 (by decide) (hts _ (List.mem_cons_of_mem _ mw_284)) (fun _ h9 => h9) hsf_sources d_Sf_findRivals_127 ?_
  refine lv_iload_n hx hb d_Sf_findRivals_130 rfl (lv_at hl 1 rfl) ?_
  refine va_lald hx hb hK.1 hP 3 3 rfl rfl (vp_in_iff.mpr (by decide)) d_Sf_findRivals_131 ?_
  refine lv_lconst (v := 0) hx hb d_Sf_findRivals_132 (by decide) ?_
  refine W.lcmp hx hb d_Sf_findRivals_133 ?_
  refine lv_topi (fun x0 e0 => ?_)
  obtain rfl : x0 = 0 := e0.trans (by decide)
  refine lv_if_eq (tgt := 142) hx hb d_Sf_findRivals_134 (by decide) (fun _ => ?_) (fun h => absurd (by decide) h)
  refine lv_iconst (v := 0) hx hb d_Sf_findRivals_142 (by decide) ?_
  refine va_iast hx hb hK.1 hP hD hS 5 0 rfl rfl (vp_in_iff.mpr (by decide)) d_Sf_findRivals_143 (fun H locs hP hD hS => ?_)
  have hP : va_P (dC, dI) classes [(oSf, .inr (6, xf)), (oSt, .inr (4, xs_)), (oP1, .inr (3, xp)), (xf_sources, .inl (cJ, 15, .inr (.inl (fun _ => 0)))), (xst_meeting, .inl (cI, 15, .inl (fun _ => 0))), (xf_rivals, .inl (cI, 15, .inl ((upd f143_2 (3 : Int32).toNatClampNeg 0))))] H := hP
  have hD : va_D A [(oSf, .inr (6, xf)), (oSt, .inr (4, xs_)), (oP1, .inr (3, xp)), (xf_sources, .inl (cJ, 15, .inr (.inl (fun _ => 0)))), (xst_meeting, .inl (cI, 15, .inl (fun _ => 0))), (xf_rivals, .inl (cI, 15, .inl ((upd f143_2 (3 : Int32).toNatClampNeg 0))))] := hD
  generalize hg_f143_3 : (upd f143_2 (3 : Int32).toNatClampNeg 0) = f143_3 at hP hD
  have hv_f143_3 : f143_3 (3 : Int32).toNatClampNeg = 0 := by rw [← hg_f143_3]; exact pk_us
  refine lv_iload_n hx hb d_Sf_findRivals_144 rfl (lv_at hl 2 rfl) ?_
  refine lv_if_ne (tgt := 157) hx hb d_Sf_findRivals_145 (by decide) (fun h => absurd rfl h) (fun _ => ?_)
  refine lv_aload_n hx hb d_Sf_findRivals_148 rfl (lv_at hl 4 rfl) ?_
  refine va_get (D := (dC, dI)) (ci := 6) (v := .ref xf_rivals) (C := R_Sf) (T := F_Sf) (N := 10) hx hb hts (fun w h => List.mem_cons_of_mem _ (in_Sf w h)) hown hK.1 hP 0 rfl rfl 3 (by decide) (hts _ (List.mem_cons_of_mem _ mw_285)) (fun _ h9 => h9) hsf_rivals d_Sf_findRivals_149 ?_
  refine lv_iload_n hx hb d_Sf_findRivals_152 rfl (lv_at hl 1 rfl) ?_
  refine va_iald hx hb hK.1 hP 5 0 rfl rfl (vp_in_iff.mpr (by decide)) d_Sf_findRivals_153 ?_
  refine lv_topi (fun x0 e0 => ?_)
  obtain rfl : x0 = 0 := e0.trans hv_f143_3
  refine lv_if_eq (tgt := 161) hx hb d_Sf_findRivals_154 (by decide) (fun _ => ?_) (fun h => absurd (by decide) h)
  refine lv_iconst (v := 0) hx hb d_Sf_findRivals_161 (by decide) ?_
  refine lv_istore_n hx hb d_Sf_findRivals_162 rfl hl (by decide) rfl (fun ls hl => ?_)
  have hl : lv_has ls 5 [(2, .int 0), (4, .int 0), (3, .int 3), (1, .int 0), (0, .ref oSf)] := hl
  refine lv_iinc (k := 2) (v := 4) hx hb d_Sf_findRivals_163 hl rfl (by first | rfl | decide | exact nI_1 i | exact pv_1 j hj) (by decide) rfl (fun ls hl => ?_)
  have hl : lv_has ls 5 [(3, .int 4), (2, .int 0), (4, .int 0), (1, .int 0), (0, .ref oSf)] := hl
  refine lv_goto (tgt := 94) hx hb d_Sf_findRivals_166 (by decide) ?_
  refine lv_iload_n hx hb d_Sf_findRivals_94 rfl (lv_at hl 0 rfl) ?_
  refine lv_bipush (v := 14) hx hb d_Sf_findRivals_95 (by decide) ?_
  refine lv_icmp_gt (tgt := 169) hx hb d_Sf_findRivals_97 (by decide) (fun h => absurd h (by decide)) (fun _ => ?_)
  refine lv_iload_n hx hb d_Sf_findRivals_100 rfl (lv_at hl 3 rfl) ?_
  refine lv_aload_n hx hb d_Sf_findRivals_101 rfl (lv_at hl 4 rfl) ?_
  refine va_get (D := (dC, dI)) (ci := 6) (v := .ref oSt) (C := R_Sf) (T := F_Sf) (N := 10) hx hb hts (fun w h => List.mem_cons_of_mem _ (in_Sf w h)) hown hK.1 hP 0 rfl rfl 0 (by decide) (hts _ (List.mem_cons_of_mem _ mw_282)) (fun _ h9 => h9) hsf_stock d_Sf_findRivals_102 ?_
  refine va_get (D := (dC, dI)) (ci := 4) (v := .ref xst_meeting) (C := R_St) (T := F_St) (N := 12) hx hb hts (fun w h => List.mem_cons_of_mem _ (in_St w h)) hown hK.1 hP 1 rfl rfl 9 (by decide) (hts _ (List.mem_cons_of_mem _ mw_177)) (fun _ h9 => h9) hst_meeting d_Sf_findRivals_105 ?_
  refine lv_iload_n hx hb d_Sf_findRivals_108 rfl (lv_at hl 0 rfl) ?_
  refine va_iald hx hb hK.1 hP 4 0 rfl rfl (vp_in_iff.mpr (by decide)) d_Sf_findRivals_109 ?_
  refine lv_iconst (v := (-1)) hx hb d_Sf_findRivals_110 (by decide) ?_
  refine lv_ixor hx hb d_Sf_findRivals_111 ?_
  refine lv_topi (fun x0 e0 => ?_)
  obtain rfl : x0 = (-1) := e0.trans (by decide)
  refine lv_iand hx hb d_Sf_findRivals_112 ?_
  refine lv_topi (fun x0 e0 => ?_)
  obtain rfl : x0 = 0 := e0.trans (by decide)
  refine lv_iconst (v := 1) hx hb d_Sf_findRivals_113 (by decide) ?_
  refine lv_iload_n hx hb d_Sf_findRivals_114 rfl (lv_at hl 0 rfl) ?_
  refine lv_ishl hx hb d_Sf_findRivals_115 ?_
  refine lv_topi (fun x0 e0 => ?_)
  obtain rfl : x0 = 16 := e0.trans (by decide)
  refine lv_iconst (v := (-1)) hx hb d_Sf_findRivals_116 (by decide) ?_
  refine lv_ixor hx hb d_Sf_findRivals_117 ?_
  refine lv_topi (fun x0 e0 => ?_)
  obtain rfl : x0 = (-17) := e0.trans (by decide)
  refine lv_iand hx hb d_Sf_findRivals_118 ?_
  refine lv_topi (fun x0 e0 => ?_)
  obtain rfl : x0 = 0 := e0.trans (by decide)
  refine lv_istore hx hb d_Sf_findRivals_119 hl (by decide) rfl (fun ls hl => ?_)
  have hl : lv_has ls 5 [(4, .int 0), (3, .int 4), (2, .int 0), (1, .int 0), (0, .ref oSf)] := hl
  refine lv_aload_n hx hb d_Sf_findRivals_121 rfl (lv_at hl 4 rfl) ?_
  refine va_get (D := (dC, dI)) (ci := 6) (v := .ref xf_rivals) (C := R_Sf) (T := F_Sf) (N := 10) hx hb hts (fun w h => List.mem_cons_of_mem _ (in_Sf w h)) hown hK.1 hP 0 rfl rfl 3 (by decide) (hts _ (List.mem_cons_of_mem _ mw_285)) (fun _ h9 => h9) hsf_rivals d_Sf_findRivals_122 ?_
  refine lv_iload_n hx hb d_Sf_findRivals_125 rfl (lv_at hl 1 rfl) ?_
  refine lv_aload_n hx hb d_Sf_findRivals_126 rfl (lv_at hl 4 rfl) ?_
  refine va_get (D := (dC, dI)) (ci := 6) (v := .ref xf_sources) (C := R_Sf) (T := F_Sf) (N := 10) hx hb hts (fun w h => List.mem_cons_of_mem _ (in_Sf w h)) hown hK.1 hP 0 rfl rfl 2 (by decide) (hts _ (List.mem_cons_of_mem _ mw_284)) (fun _ h9 => h9) hsf_sources d_Sf_findRivals_127 ?_
  refine lv_iload_n hx hb d_Sf_findRivals_130 rfl (lv_at hl 1 rfl) ?_
  refine va_lald hx hb hK.1 hP 3 3 rfl rfl (vp_in_iff.mpr (by decide)) d_Sf_findRivals_131 ?_
  refine lv_lconst (v := 0) hx hb d_Sf_findRivals_132 (by decide) ?_
  refine W.lcmp hx hb d_Sf_findRivals_133 ?_
  refine lv_topi (fun x0 e0 => ?_)
  obtain rfl : x0 = 0 := e0.trans (by decide)
  refine lv_if_eq (tgt := 142) hx hb d_Sf_findRivals_134 (by decide) (fun _ => ?_) (fun h => absurd (by decide) h)
  refine lv_iconst (v := 0) hx hb d_Sf_findRivals_142 (by decide) ?_
  refine va_iast hx hb hK.1 hP hD hS 5 0 rfl rfl (vp_in_iff.mpr (by decide)) d_Sf_findRivals_143 (fun H locs hP hD hS => ?_)
  have hP : va_P (dC, dI) classes [(oSf, .inr (6, xf)), (oSt, .inr (4, xs_)), (oP1, .inr (3, xp)), (xf_sources, .inl (cJ, 15, .inr (.inl (fun _ => 0)))), (xst_meeting, .inl (cI, 15, .inl (fun _ => 0))), (xf_rivals, .inl (cI, 15, .inl ((upd f143_3 (4 : Int32).toNatClampNeg 0))))] H := hP
  have hD : va_D A [(oSf, .inr (6, xf)), (oSt, .inr (4, xs_)), (oP1, .inr (3, xp)), (xf_sources, .inl (cJ, 15, .inr (.inl (fun _ => 0)))), (xst_meeting, .inl (cI, 15, .inl (fun _ => 0))), (xf_rivals, .inl (cI, 15, .inl ((upd f143_3 (4 : Int32).toNatClampNeg 0))))] := hD
  generalize hg_f143_4 : (upd f143_3 (4 : Int32).toNatClampNeg 0) = f143_4 at hP hD
  have hv_f143_4 : f143_4 (4 : Int32).toNatClampNeg = 0 := by rw [← hg_f143_4]; exact pk_us
  refine lv_iload_n hx hb d_Sf_findRivals_144 rfl (lv_at hl 2 rfl) ?_
  refine lv_if_ne (tgt := 157) hx hb d_Sf_findRivals_145 (by decide) (fun h => absurd rfl h) (fun _ => ?_)
  refine lv_aload_n hx hb d_Sf_findRivals_148 rfl (lv_at hl 4 rfl) ?_
  refine va_get (D := (dC, dI)) (ci := 6) (v := .ref xf_rivals) (C := R_Sf) (T := F_Sf) (N := 10) hx hb hts (fun w h => List.mem_cons_of_mem _ (in_Sf w h)) hown hK.1 hP 0 rfl rfl 3 (by decide) (hts _ (List.mem_cons_of_mem _ mw_285)) (fun _ h9 => h9) hsf_rivals d_Sf_findRivals_149 ?_
  refine lv_iload_n hx hb d_Sf_findRivals_152 rfl (lv_at hl 1 rfl) ?_
  refine va_iald hx hb hK.1 hP 5 0 rfl rfl (vp_in_iff.mpr (by decide)) d_Sf_findRivals_153 ?_
  refine lv_topi (fun x0 e0 => ?_)
  obtain rfl : x0 = 0 := e0.trans hv_f143_4
  refine lv_if_eq (tgt := 161) hx hb d_Sf_findRivals_154 (by decide) (fun _ => ?_) (fun h => absurd (by decide) h)
  refine lv_iconst (v := 0) hx hb d_Sf_findRivals_161 (by decide) ?_
  refine lv_istore_n hx hb d_Sf_findRivals_162 rfl hl (by decide) rfl (fun ls hl => ?_)
  have hl : lv_has ls 5 [(2, .int 0), (4, .int 0), (3, .int 4), (1, .int 0), (0, .ref oSf)] := hl
  refine lv_iinc (k := 2) (v := 5) hx hb d_Sf_findRivals_163 hl rfl (by first | rfl | decide | exact nI_1 i | exact pv_1 j hj) (by decide) rfl (fun ls hl => ?_)
  have hl : lv_has ls 5 [(3, .int 5), (2, .int 0), (4, .int 0), (1, .int 0), (0, .ref oSf)] := hl
  refine lv_goto (tgt := 94) hx hb d_Sf_findRivals_166 (by decide) ?_
  refine lv_iload_n hx hb d_Sf_findRivals_94 rfl (lv_at hl 0 rfl) ?_
  refine lv_bipush (v := 14) hx hb d_Sf_findRivals_95 (by decide) ?_
  refine lv_icmp_gt (tgt := 169) hx hb d_Sf_findRivals_97 (by decide) (fun h => absurd h (by decide)) (fun _ => ?_)
  refine lv_iload_n hx hb d_Sf_findRivals_100 rfl (lv_at hl 3 rfl) ?_
  refine lv_aload_n hx hb d_Sf_findRivals_101 rfl (lv_at hl 4 rfl) ?_
  refine va_get (D := (dC, dI)) (ci := 6) (v := .ref oSt) (C := R_Sf) (T := F_Sf) (N := 10) hx hb hts (fun w h => List.mem_cons_of_mem _ (in_Sf w h)) hown hK.1 hP 0 rfl rfl 0 (by decide) (hts _ (List.mem_cons_of_mem _ mw_282)) (fun _ h9 => h9) hsf_stock d_Sf_findRivals_102 ?_
  refine va_get (D := (dC, dI)) (ci := 4) (v := .ref xst_meeting) (C := R_St) (T := F_St) (N := 12) hx hb hts (fun w h => List.mem_cons_of_mem _ (in_St w h)) hown hK.1 hP 1 rfl rfl 9 (by decide) (hts _ (List.mem_cons_of_mem _ mw_177)) (fun _ h9 => h9) hst_meeting d_Sf_findRivals_105 ?_
  refine lv_iload_n hx hb d_Sf_findRivals_108 rfl (lv_at hl 0 rfl) ?_
  refine va_iald hx hb hK.1 hP 4 0 rfl rfl (vp_in_iff.mpr (by decide)) d_Sf_findRivals_109 ?_
  refine lv_iconst (v := (-1)) hx hb d_Sf_findRivals_110 (by decide) ?_
  refine lv_ixor hx hb d_Sf_findRivals_111 ?_
  refine lv_topi (fun x0 e0 => ?_)
  obtain rfl : x0 = (-1) := e0.trans (by decide)
  refine lv_iand hx hb d_Sf_findRivals_112 ?_
  refine lv_topi (fun x0 e0 => ?_)
  obtain rfl : x0 = 0 := e0.trans (by decide)
  refine lv_iconst (v := 1) hx hb d_Sf_findRivals_113 (by decide) ?_
  refine lv_iload_n hx hb d_Sf_findRivals_114 rfl (lv_at hl 0 rfl) ?_
  refine lv_ishl hx hb d_Sf_findRivals_115 ?_
  refine lv_topi (fun x0 e0 => ?_)
  obtain rfl : x0 = 32 := e0.trans (by decide)
  refine lv_iconst (v := (-1)) hx hb d_Sf_findRivals_116 (by decide) ?_
  refine lv_ixor hx hb d_Sf_findRivals_117 ?_
  refine lv_topi (fun x0 e0 => ?_)
  obtain rfl : x0 = (-33) := e0.trans (by decide)
  refine lv_iand hx hb d_Sf_findRivals_118 ?_
  refine lv_topi (fun x0 e0 => ?_)
  obtain rfl : x0 = 0 := e0.trans (by decide)
  refine lv_istore hx hb d_Sf_findRivals_119 hl (by decide) rfl (fun ls hl => ?_)
  have hl : lv_has ls 5 [(4, .int 0), (3, .int 5), (2, .int 0), (1, .int 0), (0, .ref oSf)] := hl
  refine lv_aload_n hx hb d_Sf_findRivals_121 rfl (lv_at hl 4 rfl) ?_
  refine va_get (D := (dC, dI)) (ci := 6) (v := .ref xf_rivals) (C := R_Sf) (T := F_Sf) (N := 10) hx hb hts (fun w h => List.mem_cons_of_mem _ (in_Sf w h)) hown hK.1 hP 0 rfl rfl 3 (by decide) (hts _ (List.mem_cons_of_mem _ mw_285)) (fun _ h9 => h9) hsf_rivals d_Sf_findRivals_122 ?_
  refine lv_iload_n hx hb d_Sf_findRivals_125 rfl (lv_at hl 1 rfl) ?_
  refine lv_aload_n hx hb d_Sf_findRivals_126 rfl (lv_at hl 4 rfl) ?_
  refine va_get (D := (dC, dI)) (ci := 6) (v := .ref xf_sources) (C := R_Sf) (T := F_Sf) (N := 10) hx hb hts (fun w h => List.mem_cons_of_mem _ (in_Sf w h)) hown hK.1 hP 0 rfl rfl 2 (by decide) (hts _ (List.mem_cons_of_mem _ mw_284)) (fun _ h9 => h9) hsf_sources d_Sf_findRivals_127 ?_
  refine lv_iload_n hx hb d_Sf_findRivals_130 rfl (lv_at hl 1 rfl) ?_
  refine va_lald hx hb hK.1 hP 3 3 rfl rfl (vp_in_iff.mpr (by decide)) d_Sf_findRivals_131 ?_
  refine lv_lconst (v := 0) hx hb d_Sf_findRivals_132 (by decide) ?_
  refine W.lcmp hx hb d_Sf_findRivals_133 ?_
  refine lv_topi (fun x0 e0 => ?_)
  obtain rfl : x0 = 0 := e0.trans (by decide)
  refine lv_if_eq (tgt := 142) hx hb d_Sf_findRivals_134 (by decide) (fun _ => ?_) (fun h => absurd (by decide) h)
  refine lv_iconst (v := 0) hx hb d_Sf_findRivals_142 (by decide) ?_
  refine va_iast hx hb hK.1 hP hD hS 5 0 rfl rfl (vp_in_iff.mpr (by decide)) d_Sf_findRivals_143 (fun H locs hP hD hS => ?_)
  have hP : va_P (dC, dI) classes [(oSf, .inr (6, xf)), (oSt, .inr (4, xs_)), (oP1, .inr (3, xp)), (xf_sources, .inl (cJ, 15, .inr (.inl (fun _ => 0)))), (xst_meeting, .inl (cI, 15, .inl (fun _ => 0))), (xf_rivals, .inl (cI, 15, .inl ((upd f143_4 (5 : Int32).toNatClampNeg 0))))] H := hP
  have hD : va_D A [(oSf, .inr (6, xf)), (oSt, .inr (4, xs_)), (oP1, .inr (3, xp)), (xf_sources, .inl (cJ, 15, .inr (.inl (fun _ => 0)))), (xst_meeting, .inl (cI, 15, .inl (fun _ => 0))), (xf_rivals, .inl (cI, 15, .inl ((upd f143_4 (5 : Int32).toNatClampNeg 0))))] := hD
  generalize hg_f143_5 : (upd f143_4 (5 : Int32).toNatClampNeg 0) = f143_5 at hP hD
  have hv_f143_5 : f143_5 (5 : Int32).toNatClampNeg = 0 := by rw [← hg_f143_5]; exact pk_us
  refine lv_iload_n hx hb d_Sf_findRivals_144 rfl (lv_at hl 2 rfl) ?_
  refine lv_if_ne (tgt := 157) hx hb d_Sf_findRivals_145 (by decide) (fun h => absurd rfl h) (fun _ => ?_)
  refine lv_aload_n hx hb d_Sf_findRivals_148 rfl (lv_at hl 4 rfl) ?_
  refine va_get (D := (dC, dI)) (ci := 6) (v := .ref xf_rivals) (C := R_Sf) (T := F_Sf) (N := 10) hx hb hts (fun w h => List.mem_cons_of_mem _ (in_Sf w h)) hown hK.1 hP 0 rfl rfl 3 (by decide) (hts _ (List.mem_cons_of_mem _ mw_285)) (fun _ h9 => h9) hsf_rivals d_Sf_findRivals_149 ?_
  refine lv_iload_n hx hb d_Sf_findRivals_152 rfl (lv_at hl 1 rfl) ?_
  refine va_iald hx hb hK.1 hP 5 0 rfl rfl (vp_in_iff.mpr (by decide)) d_Sf_findRivals_153 ?_
  refine lv_topi (fun x0 e0 => ?_)
  obtain rfl : x0 = 0 := e0.trans hv_f143_5
  refine lv_if_eq (tgt := 161) hx hb d_Sf_findRivals_154 (by decide) (fun _ => ?_) (fun h => absurd (by decide) h)
  refine lv_iconst (v := 0) hx hb d_Sf_findRivals_161 (by decide) ?_
  refine lv_istore_n hx hb d_Sf_findRivals_162 rfl hl (by decide) rfl (fun ls hl => ?_)
  have hl : lv_has ls 5 [(2, .int 0), (4, .int 0), (3, .int 5), (1, .int 0), (0, .ref oSf)] := hl
  refine lv_iinc (k := 2) (v := 6) hx hb d_Sf_findRivals_163 hl rfl (by first | rfl | decide | exact nI_1 i | exact pv_1 j hj) (by decide) rfl (fun ls hl => ?_)
  have hl : lv_has ls 5 [(3, .int 6), (2, .int 0), (4, .int 0), (1, .int 0), (0, .ref oSf)] := hl
  refine lv_goto (tgt := 94) hx hb d_Sf_findRivals_166 (by decide) ?_
  refine lv_iload_n hx hb d_Sf_findRivals_94 rfl (lv_at hl 0 rfl) ?_
  refine lv_bipush (v := 14) hx hb d_Sf_findRivals_95 (by decide) ?_
  refine lv_icmp_gt (tgt := 169) hx hb d_Sf_findRivals_97 (by decide) (fun h => absurd h (by decide)) (fun _ => ?_)
  refine lv_iload_n hx hb d_Sf_findRivals_100 rfl (lv_at hl 3 rfl) ?_
  refine lv_aload_n hx hb d_Sf_findRivals_101 rfl (lv_at hl 4 rfl) ?_
  refine va_get (D := (dC, dI)) (ci := 6) (v := .ref oSt) (C := R_Sf) (T := F_Sf) (N := 10) hx hb hts (fun w h => List.mem_cons_of_mem _ (in_Sf w h)) hown hK.1 hP 0 rfl rfl 0 (by decide) (hts _ (List.mem_cons_of_mem _ mw_282)) (fun _ h9 => h9) hsf_stock d_Sf_findRivals_102 ?_
  refine va_get (D := (dC, dI)) (ci := 4) (v := .ref xst_meeting) (C := R_St) (T := F_St) (N := 12) hx hb hts (fun w h => List.mem_cons_of_mem _ (in_St w h)) hown hK.1 hP 1 rfl rfl 9 (by decide) (hts _ (List.mem_cons_of_mem _ mw_177)) (fun _ h9 => h9) hst_meeting d_Sf_findRivals_105 ?_
  refine lv_iload_n hx hb d_Sf_findRivals_108 rfl (lv_at hl 0 rfl) ?_
  refine va_iald hx hb hK.1 hP 4 0 rfl rfl (vp_in_iff.mpr (by decide)) d_Sf_findRivals_109 ?_
  refine lv_iconst (v := (-1)) hx hb d_Sf_findRivals_110 (by decide) ?_
  refine lv_ixor hx hb d_Sf_findRivals_111 ?_
  refine lv_topi (fun x0 e0 => ?_)
  obtain rfl : x0 = (-1) := e0.trans (by decide)
  refine lv_iand hx hb d_Sf_findRivals_112 ?_
  refine lv_topi (fun x0 e0 => ?_)
  obtain rfl : x0 = 0 := e0.trans (by decide)
  refine lv_iconst (v := 1) hx hb d_Sf_findRivals_113 (by decide) ?_
  refine lv_iload_n hx hb d_Sf_findRivals_114 rfl (lv_at hl 0 rfl) ?_
  refine lv_ishl hx hb d_Sf_findRivals_115 ?_
  refine lv_topi (fun x0 e0 => ?_)
  obtain rfl : x0 = 64 := e0.trans (by decide)
  refine lv_iconst (v := (-1)) hx hb d_Sf_findRivals_116 (by decide) ?_
  refine lv_ixor hx hb d_Sf_findRivals_117 ?_
  refine lv_topi (fun x0 e0 => ?_)
  obtain rfl : x0 = (-65) := e0.trans (by decide)
  refine lv_iand hx hb d_Sf_findRivals_118 ?_
  refine lv_topi (fun x0 e0 => ?_)
  obtain rfl : x0 = 0 := e0.trans (by decide)
  refine lv_istore hx hb d_Sf_findRivals_119 hl (by decide) rfl (fun ls hl => ?_)
  have hl : lv_has ls 5 [(4, .int 0), (3, .int 6), (2, .int 0), (1, .int 0), (0, .ref oSf)] := hl
  refine lv_aload_n hx hb d_Sf_findRivals_121 rfl (lv_at hl 4 rfl) ?_
  refine va_get (D := (dC, dI)) (ci := 6) (v := .ref xf_rivals) (C := R_Sf) (T := F_Sf) (N := 10) hx hb hts (fun w h => List.mem_cons_of_mem _ (in_Sf w h)) hown hK.1 hP 0 rfl rfl 3 (by decide) (hts _ (List.mem_cons_of_mem _ mw_285)) (fun _ h9 => h9) hsf_rivals d_Sf_findRivals_122 ?_
  refine lv_iload_n hx hb d_Sf_findRivals_125 rfl (lv_at hl 1 rfl) ?_
  refine lv_aload_n hx hb d_Sf_findRivals_126 rfl (lv_at hl 4 rfl) ?_
  refine va_get (D := (dC, dI)) (ci := 6) (v := .ref xf_sources) (C := R_Sf) (T := F_Sf) (N := 10) hx hb hts (fun w h => List.mem_cons_of_mem _ (in_Sf w h)) hown hK.1 hP 0 rfl rfl 2 (by decide) (hts _ (List.mem_cons_of_mem _ mw_284)) (fun _ h9 => h9) hsf_sources d_Sf_findRivals_127 ?_
  refine lv_iload_n hx hb d_Sf_findRivals_130 rfl (lv_at hl 1 rfl) ?_
  refine va_lald hx hb hK.1 hP 3 3 rfl rfl (vp_in_iff.mpr (by decide)) d_Sf_findRivals_131 ?_
  refine lv_lconst (v := 0) hx hb d_Sf_findRivals_132 (by decide) ?_
  refine W.lcmp hx hb d_Sf_findRivals_133 ?_
  refine lv_topi (fun x0 e0 => ?_)
  obtain rfl : x0 = 0 := e0.trans (by decide)
  refine lv_if_eq (tgt := 142) hx hb d_Sf_findRivals_134 (by decide) (fun _ => ?_) (fun h => absurd (by decide) h)
  refine lv_iconst (v := 0) hx hb d_Sf_findRivals_142 (by decide) ?_
  refine va_iast hx hb hK.1 hP hD hS 5 0 rfl rfl (vp_in_iff.mpr (by decide)) d_Sf_findRivals_143 (fun H locs hP hD hS => ?_)
  have hP : va_P (dC, dI) classes [(oSf, .inr (6, xf)), (oSt, .inr (4, xs_)), (oP1, .inr (3, xp)), (xf_sources, .inl (cJ, 15, .inr (.inl (fun _ => 0)))), (xst_meeting, .inl (cI, 15, .inl (fun _ => 0))), (xf_rivals, .inl (cI, 15, .inl ((upd f143_5 (6 : Int32).toNatClampNeg 0))))] H := hP
  have hD : va_D A [(oSf, .inr (6, xf)), (oSt, .inr (4, xs_)), (oP1, .inr (3, xp)), (xf_sources, .inl (cJ, 15, .inr (.inl (fun _ => 0)))), (xst_meeting, .inl (cI, 15, .inl (fun _ => 0))), (xf_rivals, .inl (cI, 15, .inl ((upd f143_5 (6 : Int32).toNatClampNeg 0))))] := hD
  generalize hg_f143_6 : (upd f143_5 (6 : Int32).toNatClampNeg 0) = f143_6 at hP hD
  have hv_f143_6 : f143_6 (6 : Int32).toNatClampNeg = 0 := by rw [← hg_f143_6]; exact pk_us
  refine lv_iload_n hx hb d_Sf_findRivals_144 rfl (lv_at hl 2 rfl) ?_
  refine lv_if_ne (tgt := 157) hx hb d_Sf_findRivals_145 (by decide) (fun h => absurd rfl h) (fun _ => ?_)
  refine lv_aload_n hx hb d_Sf_findRivals_148 rfl (lv_at hl 4 rfl) ?_
  refine va_get (D := (dC, dI)) (ci := 6) (v := .ref xf_rivals) (C := R_Sf) (T := F_Sf) (N := 10) hx hb hts (fun w h => List.mem_cons_of_mem _ (in_Sf w h)) hown hK.1 hP 0 rfl rfl 3 (by decide) (hts _ (List.mem_cons_of_mem _ mw_285)) (fun _ h9 => h9) hsf_rivals d_Sf_findRivals_149 ?_
  refine lv_iload_n hx hb d_Sf_findRivals_152 rfl (lv_at hl 1 rfl) ?_
  refine va_iald hx hb hK.1 hP 5 0 rfl rfl (vp_in_iff.mpr (by decide)) d_Sf_findRivals_153 ?_
  refine lv_topi (fun x0 e0 => ?_)
  obtain rfl : x0 = 0 := e0.trans hv_f143_6
  refine lv_if_eq (tgt := 161) hx hb d_Sf_findRivals_154 (by decide) (fun _ => ?_) (fun h => absurd (by decide) h)
  refine lv_iconst (v := 0) hx hb d_Sf_findRivals_161 (by decide) ?_
  refine lv_istore_n hx hb d_Sf_findRivals_162 rfl hl (by decide) rfl (fun ls hl => ?_)
  have hl : lv_has ls 5 [(2, .int 0), (4, .int 0), (3, .int 6), (1, .int 0), (0, .ref oSf)] := hl
  refine lv_iinc (k := 2) (v := 7) hx hb d_Sf_findRivals_163 hl rfl (by first | rfl | decide | exact nI_1 i | exact pv_1 j hj) (by decide) rfl (fun ls hl => ?_)
  have hl : lv_has ls 5 [(3, .int 7), (2, .int 0), (4, .int 0), (1, .int 0), (0, .ref oSf)] := hl
  refine lv_goto (tgt := 94) hx hb d_Sf_findRivals_166 (by decide) ?_
  refine lv_iload_n hx hb d_Sf_findRivals_94 rfl (lv_at hl 0 rfl) ?_
  refine lv_bipush (v := 14) hx hb d_Sf_findRivals_95 (by decide) ?_
  refine lv_icmp_gt (tgt := 169) hx hb d_Sf_findRivals_97 (by decide) (fun h => absurd h (by decide)) (fun _ => ?_)
  refine lv_iload_n hx hb d_Sf_findRivals_100 rfl (lv_at hl 3 rfl) ?_
  refine lv_aload_n hx hb d_Sf_findRivals_101 rfl (lv_at hl 4 rfl) ?_
  refine va_get (D := (dC, dI)) (ci := 6) (v := .ref oSt) (C := R_Sf) (T := F_Sf) (N := 10) hx hb hts (fun w h => List.mem_cons_of_mem _ (in_Sf w h)) hown hK.1 hP 0 rfl rfl 0 (by decide) (hts _ (List.mem_cons_of_mem _ mw_282)) (fun _ h9 => h9) hsf_stock d_Sf_findRivals_102 ?_
  refine va_get (D := (dC, dI)) (ci := 4) (v := .ref xst_meeting) (C := R_St) (T := F_St) (N := 12) hx hb hts (fun w h => List.mem_cons_of_mem _ (in_St w h)) hown hK.1 hP 1 rfl rfl 9 (by decide) (hts _ (List.mem_cons_of_mem _ mw_177)) (fun _ h9 => h9) hst_meeting d_Sf_findRivals_105 ?_
  refine lv_iload_n hx hb d_Sf_findRivals_108 rfl (lv_at hl 0 rfl) ?_
  refine va_iald hx hb hK.1 hP 4 0 rfl rfl (vp_in_iff.mpr (by decide)) d_Sf_findRivals_109 ?_
  refine lv_iconst (v := (-1)) hx hb d_Sf_findRivals_110 (by decide) ?_
  refine lv_ixor hx hb d_Sf_findRivals_111 ?_
  refine lv_topi (fun x0 e0 => ?_)
  obtain rfl : x0 = (-1) := e0.trans (by decide)
  refine lv_iand hx hb d_Sf_findRivals_112 ?_
  refine lv_topi (fun x0 e0 => ?_)
  obtain rfl : x0 = 0 := e0.trans (by decide)
  refine lv_iconst (v := 1) hx hb d_Sf_findRivals_113 (by decide) ?_
  refine lv_iload_n hx hb d_Sf_findRivals_114 rfl (lv_at hl 0 rfl) ?_
  refine lv_ishl hx hb d_Sf_findRivals_115 ?_
  refine lv_topi (fun x0 e0 => ?_)
  obtain rfl : x0 = 128 := e0.trans (by decide)
  refine lv_iconst (v := (-1)) hx hb d_Sf_findRivals_116 (by decide) ?_
  refine lv_ixor hx hb d_Sf_findRivals_117 ?_
  refine lv_topi (fun x0 e0 => ?_)
  obtain rfl : x0 = (-129) := e0.trans (by decide)
  refine lv_iand hx hb d_Sf_findRivals_118 ?_
  refine lv_topi (fun x0 e0 => ?_)
  obtain rfl : x0 = 0 := e0.trans (by decide)
  refine lv_istore hx hb d_Sf_findRivals_119 hl (by decide) rfl (fun ls hl => ?_)
  have hl : lv_has ls 5 [(4, .int 0), (3, .int 7), (2, .int 0), (1, .int 0), (0, .ref oSf)] := hl
  refine lv_aload_n hx hb d_Sf_findRivals_121 rfl (lv_at hl 4 rfl) ?_
  refine va_get (D := (dC, dI)) (ci := 6) (v := .ref xf_rivals) (C := R_Sf) (T := F_Sf) (N := 10) hx hb hts (fun w h => List.mem_cons_of_mem _ (in_Sf w h)) hown hK.1 hP 0 rfl rfl 3 (by decide) (hts _ (List.mem_cons_of_mem _ mw_285)) (fun _ h9 => h9) hsf_rivals d_Sf_findRivals_122 ?_
  refine lv_iload_n hx hb d_Sf_findRivals_125 rfl (lv_at hl 1 rfl) ?_
  refine lv_aload_n hx hb d_Sf_findRivals_126 rfl (lv_at hl 4 rfl) ?_
  refine va_get (D := (dC, dI)) (ci := 6) (v := .ref xf_sources) (C := R_Sf) (T := F_Sf) (N := 10) hx hb hts (fun w h => List.mem_cons_of_mem _ (in_Sf w h)) hown hK.1 hP 0 rfl rfl 2 (by decide) (hts _ (List.mem_cons_of_mem _ mw_284)) (fun _ h9 => h9) hsf_sources d_Sf_findRivals_127 ?_
  refine lv_iload_n hx hb d_Sf_findRivals_130 rfl (lv_at hl 1 rfl) ?_
  refine va_lald hx hb hK.1 hP 3 3 rfl rfl (vp_in_iff.mpr (by decide)) d_Sf_findRivals_131 ?_
  refine lv_lconst (v := 0) hx hb d_Sf_findRivals_132 (by decide) ?_
  refine W.lcmp hx hb d_Sf_findRivals_133 ?_
  refine lv_topi (fun x0 e0 => ?_)
  obtain rfl : x0 = 0 := e0.trans (by decide)
  refine lv_if_eq (tgt := 142) hx hb d_Sf_findRivals_134 (by decide) (fun _ => ?_) (fun h => absurd (by decide) h)
  refine lv_iconst (v := 0) hx hb d_Sf_findRivals_142 (by decide) ?_
  refine va_iast hx hb hK.1 hP hD hS 5 0 rfl rfl (vp_in_iff.mpr (by decide)) d_Sf_findRivals_143 (fun H locs hP hD hS => ?_)
  have hP : va_P (dC, dI) classes [(oSf, .inr (6, xf)), (oSt, .inr (4, xs_)), (oP1, .inr (3, xp)), (xf_sources, .inl (cJ, 15, .inr (.inl (fun _ => 0)))), (xst_meeting, .inl (cI, 15, .inl (fun _ => 0))), (xf_rivals, .inl (cI, 15, .inl ((upd f143_6 (7 : Int32).toNatClampNeg 0))))] H := hP
  have hD : va_D A [(oSf, .inr (6, xf)), (oSt, .inr (4, xs_)), (oP1, .inr (3, xp)), (xf_sources, .inl (cJ, 15, .inr (.inl (fun _ => 0)))), (xst_meeting, .inl (cI, 15, .inl (fun _ => 0))), (xf_rivals, .inl (cI, 15, .inl ((upd f143_6 (7 : Int32).toNatClampNeg 0))))] := hD
  generalize hg_f143_7 : (upd f143_6 (7 : Int32).toNatClampNeg 0) = f143_7 at hP hD
  have hv_f143_7 : f143_7 (7 : Int32).toNatClampNeg = 0 := by rw [← hg_f143_7]; exact pk_us
  refine lv_iload_n hx hb d_Sf_findRivals_144 rfl (lv_at hl 2 rfl) ?_
  refine lv_if_ne (tgt := 157) hx hb d_Sf_findRivals_145 (by decide) (fun h => absurd rfl h) (fun _ => ?_)
  refine lv_aload_n hx hb d_Sf_findRivals_148 rfl (lv_at hl 4 rfl) ?_
  refine va_get (D := (dC, dI)) (ci := 6) (v := .ref xf_rivals) (C := R_Sf) (T := F_Sf) (N := 10) hx hb hts (fun w h => List.mem_cons_of_mem _ (in_Sf w h)) hown hK.1 hP 0 rfl rfl 3 (by decide) (hts _ (List.mem_cons_of_mem _ mw_285)) (fun _ h9 => h9) hsf_rivals d_Sf_findRivals_149 ?_
  refine lv_iload_n hx hb d_Sf_findRivals_152 rfl (lv_at hl 1 rfl) ?_
  refine va_iald hx hb hK.1 hP 5 0 rfl rfl (vp_in_iff.mpr (by decide)) d_Sf_findRivals_153 ?_
  refine lv_topi (fun x0 e0 => ?_)
  obtain rfl : x0 = 0 := e0.trans hv_f143_7
  refine lv_if_eq (tgt := 161) hx hb d_Sf_findRivals_154 (by decide) (fun _ => ?_) (fun h => absurd (by decide) h)
  refine lv_iconst (v := 0) hx hb d_Sf_findRivals_161 (by decide) ?_
  refine lv_istore_n hx hb d_Sf_findRivals_162 rfl hl (by decide) rfl (fun ls hl => ?_)
  have hl : lv_has ls 5 [(2, .int 0), (4, .int 0), (3, .int 7), (1, .int 0), (0, .ref oSf)] := hl
  refine lv_iinc (k := 2) (v := 8) hx hb d_Sf_findRivals_163 hl rfl (by first | rfl | decide | exact nI_1 i | exact pv_1 j hj) (by decide) rfl (fun ls hl => ?_)
  have hl : lv_has ls 5 [(3, .int 8), (2, .int 0), (4, .int 0), (1, .int 0), (0, .ref oSf)] := hl
  refine lv_goto (tgt := 94) hx hb d_Sf_findRivals_166 (by decide) ?_
  refine lv_iload_n hx hb d_Sf_findRivals_94 rfl (lv_at hl 0 rfl) ?_
  refine lv_bipush (v := 14) hx hb d_Sf_findRivals_95 (by decide) ?_
  refine lv_icmp_gt (tgt := 169) hx hb d_Sf_findRivals_97 (by decide) (fun h => absurd h (by decide)) (fun _ => ?_)
  refine lv_iload_n hx hb d_Sf_findRivals_100 rfl (lv_at hl 3 rfl) ?_
  refine lv_aload_n hx hb d_Sf_findRivals_101 rfl (lv_at hl 4 rfl) ?_
  refine va_get (D := (dC, dI)) (ci := 6) (v := .ref oSt) (C := R_Sf) (T := F_Sf) (N := 10) hx hb hts (fun w h => List.mem_cons_of_mem _ (in_Sf w h)) hown hK.1 hP 0 rfl rfl 0 (by decide) (hts _ (List.mem_cons_of_mem _ mw_282)) (fun _ h9 => h9) hsf_stock d_Sf_findRivals_102 ?_
  refine va_get (D := (dC, dI)) (ci := 4) (v := .ref xst_meeting) (C := R_St) (T := F_St) (N := 12) hx hb hts (fun w h => List.mem_cons_of_mem _ (in_St w h)) hown hK.1 hP 1 rfl rfl 9 (by decide) (hts _ (List.mem_cons_of_mem _ mw_177)) (fun _ h9 => h9) hst_meeting d_Sf_findRivals_105 ?_
  refine lv_iload_n hx hb d_Sf_findRivals_108 rfl (lv_at hl 0 rfl) ?_
  refine va_iald hx hb hK.1 hP 4 0 rfl rfl (vp_in_iff.mpr (by decide)) d_Sf_findRivals_109 ?_
  refine lv_iconst (v := (-1)) hx hb d_Sf_findRivals_110 (by decide) ?_
  refine lv_ixor hx hb d_Sf_findRivals_111 ?_
  refine lv_topi (fun x0 e0 => ?_)
  obtain rfl : x0 = (-1) := e0.trans (by decide)
  refine lv_iand hx hb d_Sf_findRivals_112 ?_
  refine lv_topi (fun x0 e0 => ?_)
  obtain rfl : x0 = 0 := e0.trans (by decide)
  refine lv_iconst (v := 1) hx hb d_Sf_findRivals_113 (by decide) ?_
  refine lv_iload_n hx hb d_Sf_findRivals_114 rfl (lv_at hl 0 rfl) ?_
  refine lv_ishl hx hb d_Sf_findRivals_115 ?_
  refine lv_topi (fun x0 e0 => ?_)
  obtain rfl : x0 = 256 := e0.trans (by decide)
  refine lv_iconst (v := (-1)) hx hb d_Sf_findRivals_116 (by decide) ?_
  refine lv_ixor hx hb d_Sf_findRivals_117 ?_
  refine lv_topi (fun x0 e0 => ?_)
  obtain rfl : x0 = (-257) := e0.trans (by decide)
  refine lv_iand hx hb d_Sf_findRivals_118 ?_
  refine lv_topi (fun x0 e0 => ?_)
  obtain rfl : x0 = 0 := e0.trans (by decide)
  refine lv_istore hx hb d_Sf_findRivals_119 hl (by decide) rfl (fun ls hl => ?_)
  have hl : lv_has ls 5 [(4, .int 0), (3, .int 8), (2, .int 0), (1, .int 0), (0, .ref oSf)] := hl
  refine lv_aload_n hx hb d_Sf_findRivals_121 rfl (lv_at hl 4 rfl) ?_
  refine va_get (D := (dC, dI)) (ci := 6) (v := .ref xf_rivals) (C := R_Sf) (T := F_Sf) (N := 10) hx hb hts (fun w h => List.mem_cons_of_mem _ (in_Sf w h)) hown hK.1 hP 0 rfl rfl 3 (by decide) (hts _ (List.mem_cons_of_mem _ mw_285)) (fun _ h9 => h9) hsf_rivals d_Sf_findRivals_122 ?_
  refine lv_iload_n hx hb d_Sf_findRivals_125 rfl (lv_at hl 1 rfl) ?_
  refine lv_aload_n hx hb d_Sf_findRivals_126 rfl (lv_at hl 4 rfl) ?_
  refine va_get (D := (dC, dI)) (ci := 6) (v := .ref xf_sources) (C := R_Sf) (T := F_Sf) (N := 10) hx hb hts (fun w h => List.mem_cons_of_mem _ (in_Sf w h)) hown hK.1 hP 0 rfl rfl 2 (by decide) (hts _ (List.mem_cons_of_mem _ mw_284)) (fun _ h9 => h9) hsf_sources d_Sf_findRivals_127 ?_
  refine lv_iload_n hx hb d_Sf_findRivals_130 rfl (lv_at hl 1 rfl) ?_
  refine va_lald hx hb hK.1 hP 3 3 rfl rfl (vp_in_iff.mpr (by decide)) d_Sf_findRivals_131 ?_
  refine lv_lconst (v := 0) hx hb d_Sf_findRivals_132 (by decide) ?_
  refine W.lcmp hx hb d_Sf_findRivals_133 ?_
  refine lv_topi (fun x0 e0 => ?_)
  obtain rfl : x0 = 0 := e0.trans (by decide)
  refine lv_if_eq (tgt := 142) hx hb d_Sf_findRivals_134 (by decide) (fun _ => ?_) (fun h => absurd (by decide) h)
  refine lv_iconst (v := 0) hx hb d_Sf_findRivals_142 (by decide) ?_
  refine va_iast hx hb hK.1 hP hD hS 5 0 rfl rfl (vp_in_iff.mpr (by decide)) d_Sf_findRivals_143 (fun H locs hP hD hS => ?_)
  have hP : va_P (dC, dI) classes [(oSf, .inr (6, xf)), (oSt, .inr (4, xs_)), (oP1, .inr (3, xp)), (xf_sources, .inl (cJ, 15, .inr (.inl (fun _ => 0)))), (xst_meeting, .inl (cI, 15, .inl (fun _ => 0))), (xf_rivals, .inl (cI, 15, .inl ((upd f143_7 (8 : Int32).toNatClampNeg 0))))] H := hP
  have hD : va_D A [(oSf, .inr (6, xf)), (oSt, .inr (4, xs_)), (oP1, .inr (3, xp)), (xf_sources, .inl (cJ, 15, .inr (.inl (fun _ => 0)))), (xst_meeting, .inl (cI, 15, .inl (fun _ => 0))), (xf_rivals, .inl (cI, 15, .inl ((upd f143_7 (8 : Int32).toNatClampNeg 0))))] := hD
  generalize hg_f143_8 : (upd f143_7 (8 : Int32).toNatClampNeg 0) = f143_8 at hP hD
  have hv_f143_8 : f143_8 (8 : Int32).toNatClampNeg = 0 := by rw [← hg_f143_8]; exact pk_us
  refine lv_iload_n hx hb d_Sf_findRivals_144 rfl (lv_at hl 2 rfl) ?_
  refine lv_if_ne (tgt := 157) hx hb d_Sf_findRivals_145 (by decide) (fun h => absurd rfl h) (fun _ => ?_)
  refine lv_aload_n hx hb d_Sf_findRivals_148 rfl (lv_at hl 4 rfl) ?_
  refine va_get (D := (dC, dI)) (ci := 6) (v := .ref xf_rivals) (C := R_Sf) (T := F_Sf) (N := 10) hx hb hts (fun w h => List.mem_cons_of_mem _ (in_Sf w h)) hown hK.1 hP 0 rfl rfl 3 (by decide) (hts _ (List.mem_cons_of_mem _ mw_285)) (fun _ h9 => h9) hsf_rivals d_Sf_findRivals_149 ?_
  refine lv_iload_n hx hb d_Sf_findRivals_152 rfl (lv_at hl 1 rfl) ?_
  refine va_iald hx hb hK.1 hP 5 0 rfl rfl (vp_in_iff.mpr (by decide)) d_Sf_findRivals_153 ?_
  refine lv_topi (fun x0 e0 => ?_)
  obtain rfl : x0 = 0 := e0.trans hv_f143_8
  refine lv_if_eq (tgt := 161) hx hb d_Sf_findRivals_154 (by decide) (fun _ => ?_) (fun h => absurd (by decide) h)
  refine lv_iconst (v := 0) hx hb d_Sf_findRivals_161 (by decide) ?_
  refine lv_istore_n hx hb d_Sf_findRivals_162 rfl hl (by decide) rfl (fun ls hl => ?_)
  have hl : lv_has ls 5 [(2, .int 0), (4, .int 0), (3, .int 8), (1, .int 0), (0, .ref oSf)] := hl
  refine lv_iinc (k := 2) (v := 9) hx hb d_Sf_findRivals_163 hl rfl (by first | rfl | decide | exact nI_1 i | exact pv_1 j hj) (by decide) rfl (fun ls hl => ?_)
  have hl : lv_has ls 5 [(3, .int 9), (2, .int 0), (4, .int 0), (1, .int 0), (0, .ref oSf)] := hl
  refine lv_goto (tgt := 94) hx hb d_Sf_findRivals_166 (by decide) ?_
  refine lv_iload_n hx hb d_Sf_findRivals_94 rfl (lv_at hl 0 rfl) ?_
  refine lv_bipush (v := 14) hx hb d_Sf_findRivals_95 (by decide) ?_
  refine lv_icmp_gt (tgt := 169) hx hb d_Sf_findRivals_97 (by decide) (fun h => absurd h (by decide)) (fun _ => ?_)
  refine lv_iload_n hx hb d_Sf_findRivals_100 rfl (lv_at hl 3 rfl) ?_
  refine lv_aload_n hx hb d_Sf_findRivals_101 rfl (lv_at hl 4 rfl) ?_
  refine va_get (D := (dC, dI)) (ci := 6) (v := .ref oSt) (C := R_Sf) (T := F_Sf) (N := 10) hx hb hts (fun w h => List.mem_cons_of_mem _ (in_Sf w h)) hown hK.1 hP 0 rfl rfl 0 (by decide) (hts _ (List.mem_cons_of_mem _ mw_282)) (fun _ h9 => h9) hsf_stock d_Sf_findRivals_102 ?_
  refine va_get (D := (dC, dI)) (ci := 4) (v := .ref xst_meeting) (C := R_St) (T := F_St) (N := 12) hx hb hts (fun w h => List.mem_cons_of_mem _ (in_St w h)) hown hK.1 hP 1 rfl rfl 9 (by decide) (hts _ (List.mem_cons_of_mem _ mw_177)) (fun _ h9 => h9) hst_meeting d_Sf_findRivals_105 ?_
  refine lv_iload_n hx hb d_Sf_findRivals_108 rfl (lv_at hl 0 rfl) ?_
  refine va_iald hx hb hK.1 hP 4 0 rfl rfl (vp_in_iff.mpr (by decide)) d_Sf_findRivals_109 ?_
  refine lv_iconst (v := (-1)) hx hb d_Sf_findRivals_110 (by decide) ?_
  refine lv_ixor hx hb d_Sf_findRivals_111 ?_
  refine lv_topi (fun x0 e0 => ?_)
  obtain rfl : x0 = (-1) := e0.trans (by decide)
  refine lv_iand hx hb d_Sf_findRivals_112 ?_
  refine lv_topi (fun x0 e0 => ?_)
  obtain rfl : x0 = 0 := e0.trans (by decide)
  refine lv_iconst (v := 1) hx hb d_Sf_findRivals_113 (by decide) ?_
  refine lv_iload_n hx hb d_Sf_findRivals_114 rfl (lv_at hl 0 rfl) ?_
  refine lv_ishl hx hb d_Sf_findRivals_115 ?_
  refine lv_topi (fun x0 e0 => ?_)
  obtain rfl : x0 = 512 := e0.trans (by decide)
  refine lv_iconst (v := (-1)) hx hb d_Sf_findRivals_116 (by decide) ?_
  refine lv_ixor hx hb d_Sf_findRivals_117 ?_
  refine lv_topi (fun x0 e0 => ?_)
  obtain rfl : x0 = (-513) := e0.trans (by decide)
  refine lv_iand hx hb d_Sf_findRivals_118 ?_
  refine lv_topi (fun x0 e0 => ?_)
  obtain rfl : x0 = 0 := e0.trans (by decide)
  refine lv_istore hx hb d_Sf_findRivals_119 hl (by decide) rfl (fun ls hl => ?_)
  have hl : lv_has ls 5 [(4, .int 0), (3, .int 9), (2, .int 0), (1, .int 0), (0, .ref oSf)] := hl
  refine lv_aload_n hx hb d_Sf_findRivals_121 rfl (lv_at hl 4 rfl) ?_
  refine va_get (D := (dC, dI)) (ci := 6) (v := .ref xf_rivals) (C := R_Sf) (T := F_Sf) (N := 10) hx hb hts (fun w h => List.mem_cons_of_mem _ (in_Sf w h)) hown hK.1 hP 0 rfl rfl 3 (by decide) (hts _ (List.mem_cons_of_mem _ mw_285)) (fun _ h9 => h9) hsf_rivals d_Sf_findRivals_122 ?_
  refine lv_iload_n hx hb d_Sf_findRivals_125 rfl (lv_at hl 1 rfl) ?_
  refine lv_aload_n hx hb d_Sf_findRivals_126 rfl (lv_at hl 4 rfl) ?_
  refine va_get (D := (dC, dI)) (ci := 6) (v := .ref xf_sources) (C := R_Sf) (T := F_Sf) (N := 10) hx hb hts (fun w h => List.mem_cons_of_mem _ (in_Sf w h)) hown hK.1 hP 0 rfl rfl 2 (by decide) (hts _ (List.mem_cons_of_mem _ mw_284)) (fun _ h9 => h9) hsf_sources d_Sf_findRivals_127 ?_
  refine lv_iload_n hx hb d_Sf_findRivals_130 rfl (lv_at hl 1 rfl) ?_
  refine va_lald hx hb hK.1 hP 3 3 rfl rfl (vp_in_iff.mpr (by decide)) d_Sf_findRivals_131 ?_
  refine lv_lconst (v := 0) hx hb d_Sf_findRivals_132 (by decide) ?_
  refine W.lcmp hx hb d_Sf_findRivals_133 ?_
  refine lv_topi (fun x0 e0 => ?_)
  obtain rfl : x0 = 0 := e0.trans (by decide)
  refine lv_if_eq (tgt := 142) hx hb d_Sf_findRivals_134 (by decide) (fun _ => ?_) (fun h => absurd (by decide) h)
  refine lv_iconst (v := 0) hx hb d_Sf_findRivals_142 (by decide) ?_
  refine va_iast hx hb hK.1 hP hD hS 5 0 rfl rfl (vp_in_iff.mpr (by decide)) d_Sf_findRivals_143 (fun H locs hP hD hS => ?_)
  have hP : va_P (dC, dI) classes [(oSf, .inr (6, xf)), (oSt, .inr (4, xs_)), (oP1, .inr (3, xp)), (xf_sources, .inl (cJ, 15, .inr (.inl (fun _ => 0)))), (xst_meeting, .inl (cI, 15, .inl (fun _ => 0))), (xf_rivals, .inl (cI, 15, .inl ((upd f143_8 (9 : Int32).toNatClampNeg 0))))] H := hP
  have hD : va_D A [(oSf, .inr (6, xf)), (oSt, .inr (4, xs_)), (oP1, .inr (3, xp)), (xf_sources, .inl (cJ, 15, .inr (.inl (fun _ => 0)))), (xst_meeting, .inl (cI, 15, .inl (fun _ => 0))), (xf_rivals, .inl (cI, 15, .inl ((upd f143_8 (9 : Int32).toNatClampNeg 0))))] := hD
  generalize hg_f143_9 : (upd f143_8 (9 : Int32).toNatClampNeg 0) = f143_9 at hP hD
  have hv_f143_9 : f143_9 (9 : Int32).toNatClampNeg = 0 := by rw [← hg_f143_9]; exact pk_us
  refine lv_iload_n hx hb d_Sf_findRivals_144 rfl (lv_at hl 2 rfl) ?_
  refine lv_if_ne (tgt := 157) hx hb d_Sf_findRivals_145 (by decide) (fun h => absurd rfl h) (fun _ => ?_)
  refine lv_aload_n hx hb d_Sf_findRivals_148 rfl (lv_at hl 4 rfl) ?_
  refine va_get (D := (dC, dI)) (ci := 6) (v := .ref xf_rivals) (C := R_Sf) (T := F_Sf) (N := 10) hx hb hts (fun w h => List.mem_cons_of_mem _ (in_Sf w h)) hown hK.1 hP 0 rfl rfl 3 (by decide) (hts _ (List.mem_cons_of_mem _ mw_285)) (fun _ h9 => h9) hsf_rivals d_Sf_findRivals_149 ?_
  refine lv_iload_n hx hb d_Sf_findRivals_152 rfl (lv_at hl 1 rfl) ?_
  refine va_iald hx hb hK.1 hP 5 0 rfl rfl (vp_in_iff.mpr (by decide)) d_Sf_findRivals_153 ?_
  refine lv_topi (fun x0 e0 => ?_)
  obtain rfl : x0 = 0 := e0.trans hv_f143_9
  refine lv_if_eq (tgt := 161) hx hb d_Sf_findRivals_154 (by decide) (fun _ => ?_) (fun h => absurd (by decide) h)
  refine lv_iconst (v := 0) hx hb d_Sf_findRivals_161 (by decide) ?_
  refine lv_istore_n hx hb d_Sf_findRivals_162 rfl hl (by decide) rfl (fun ls hl => ?_)
  have hl : lv_has ls 5 [(2, .int 0), (4, .int 0), (3, .int 9), (1, .int 0), (0, .ref oSf)] := hl
  refine lv_iinc (k := 2) (v := 10) hx hb d_Sf_findRivals_163 hl rfl (by first | rfl | decide | exact nI_1 i | exact pv_1 j hj) (by decide) rfl (fun ls hl => ?_)
  have hl : lv_has ls 5 [(3, .int 10), (2, .int 0), (4, .int 0), (1, .int 0), (0, .ref oSf)] := hl
  refine lv_goto (tgt := 94) hx hb d_Sf_findRivals_166 (by decide) ?_
  refine lv_iload_n hx hb d_Sf_findRivals_94 rfl (lv_at hl 0 rfl) ?_
  refine lv_bipush (v := 14) hx hb d_Sf_findRivals_95 (by decide) ?_
  refine lv_icmp_gt (tgt := 169) hx hb d_Sf_findRivals_97 (by decide) (fun h => absurd h (by decide)) (fun _ => ?_)
  refine lv_iload_n hx hb d_Sf_findRivals_100 rfl (lv_at hl 3 rfl) ?_
  refine lv_aload_n hx hb d_Sf_findRivals_101 rfl (lv_at hl 4 rfl) ?_
  refine va_get (D := (dC, dI)) (ci := 6) (v := .ref oSt) (C := R_Sf) (T := F_Sf) (N := 10) hx hb hts (fun w h => List.mem_cons_of_mem _ (in_Sf w h)) hown hK.1 hP 0 rfl rfl 0 (by decide) (hts _ (List.mem_cons_of_mem _ mw_282)) (fun _ h9 => h9) hsf_stock d_Sf_findRivals_102 ?_
  refine va_get (D := (dC, dI)) (ci := 4) (v := .ref xst_meeting) (C := R_St) (T := F_St) (N := 12) hx hb hts (fun w h => List.mem_cons_of_mem _ (in_St w h)) hown hK.1 hP 1 rfl rfl 9 (by decide) (hts _ (List.mem_cons_of_mem _ mw_177)) (fun _ h9 => h9) hst_meeting d_Sf_findRivals_105 ?_
  refine lv_iload_n hx hb d_Sf_findRivals_108 rfl (lv_at hl 0 rfl) ?_
  refine va_iald hx hb hK.1 hP 4 0 rfl rfl (vp_in_iff.mpr (by decide)) d_Sf_findRivals_109 ?_
  refine lv_iconst (v := (-1)) hx hb d_Sf_findRivals_110 (by decide) ?_
  refine lv_ixor hx hb d_Sf_findRivals_111 ?_
  refine lv_topi (fun x0 e0 => ?_)
  obtain rfl : x0 = (-1) := e0.trans (by decide)
  refine lv_iand hx hb d_Sf_findRivals_112 ?_
  refine lv_topi (fun x0 e0 => ?_)
  obtain rfl : x0 = 0 := e0.trans (by decide)
  refine lv_iconst (v := 1) hx hb d_Sf_findRivals_113 (by decide) ?_
  refine lv_iload_n hx hb d_Sf_findRivals_114 rfl (lv_at hl 0 rfl) ?_
  refine lv_ishl hx hb d_Sf_findRivals_115 ?_
  refine lv_topi (fun x0 e0 => ?_)
  obtain rfl : x0 = 1024 := e0.trans (by decide)
  refine lv_iconst (v := (-1)) hx hb d_Sf_findRivals_116 (by decide) ?_
  refine lv_ixor hx hb d_Sf_findRivals_117 ?_
  refine lv_topi (fun x0 e0 => ?_)
  obtain rfl : x0 = (-1025) := e0.trans (by decide)
  refine lv_iand hx hb d_Sf_findRivals_118 ?_
  refine lv_topi (fun x0 e0 => ?_)
  obtain rfl : x0 = 0 := e0.trans (by decide)
  refine lv_istore hx hb d_Sf_findRivals_119 hl (by decide) rfl (fun ls hl => ?_)
  have hl : lv_has ls 5 [(4, .int 0), (3, .int 10), (2, .int 0), (1, .int 0), (0, .ref oSf)] := hl
  refine lv_aload_n hx hb d_Sf_findRivals_121 rfl (lv_at hl 4 rfl) ?_
  refine va_get (D := (dC, dI)) (ci := 6) (v := .ref xf_rivals) (C := R_Sf) (T := F_Sf) (N := 10) hx hb hts (fun w h => List.mem_cons_of_mem _ (in_Sf w h)) hown hK.1 hP 0 rfl rfl 3 (by decide) (hts _ (List.mem_cons_of_mem _ mw_285)) (fun _ h9 => h9) hsf_rivals d_Sf_findRivals_122 ?_
  refine lv_iload_n hx hb d_Sf_findRivals_125 rfl (lv_at hl 1 rfl) ?_
  refine lv_aload_n hx hb d_Sf_findRivals_126 rfl (lv_at hl 4 rfl) ?_
  refine va_get (D := (dC, dI)) (ci := 6) (v := .ref xf_sources) (C := R_Sf) (T := F_Sf) (N := 10) hx hb hts (fun w h => List.mem_cons_of_mem _ (in_Sf w h)) hown hK.1 hP 0 rfl rfl 2 (by decide) (hts _ (List.mem_cons_of_mem _ mw_284)) (fun _ h9 => h9) hsf_sources d_Sf_findRivals_127 ?_
  refine lv_iload_n hx hb d_Sf_findRivals_130 rfl (lv_at hl 1 rfl) ?_
  refine va_lald hx hb hK.1 hP 3 3 rfl rfl (vp_in_iff.mpr (by decide)) d_Sf_findRivals_131 ?_
  refine lv_lconst (v := 0) hx hb d_Sf_findRivals_132 (by decide) ?_
  refine W.lcmp hx hb d_Sf_findRivals_133 ?_
  refine lv_topi (fun x0 e0 => ?_)
  obtain rfl : x0 = 0 := e0.trans (by decide)
  refine lv_if_eq (tgt := 142) hx hb d_Sf_findRivals_134 (by decide) (fun _ => ?_) (fun h => absurd (by decide) h)
  refine lv_iconst (v := 0) hx hb d_Sf_findRivals_142 (by decide) ?_
  refine va_iast hx hb hK.1 hP hD hS 5 0 rfl rfl (vp_in_iff.mpr (by decide)) d_Sf_findRivals_143 (fun H locs hP hD hS => ?_)
  have hP : va_P (dC, dI) classes [(oSf, .inr (6, xf)), (oSt, .inr (4, xs_)), (oP1, .inr (3, xp)), (xf_sources, .inl (cJ, 15, .inr (.inl (fun _ => 0)))), (xst_meeting, .inl (cI, 15, .inl (fun _ => 0))), (xf_rivals, .inl (cI, 15, .inl ((upd f143_9 (10 : Int32).toNatClampNeg 0))))] H := hP
  have hD : va_D A [(oSf, .inr (6, xf)), (oSt, .inr (4, xs_)), (oP1, .inr (3, xp)), (xf_sources, .inl (cJ, 15, .inr (.inl (fun _ => 0)))), (xst_meeting, .inl (cI, 15, .inl (fun _ => 0))), (xf_rivals, .inl (cI, 15, .inl ((upd f143_9 (10 : Int32).toNatClampNeg 0))))] := hD
  generalize hg_f143_10 : (upd f143_9 (10 : Int32).toNatClampNeg 0) = f143_10 at hP hD
  have hv_f143_10 : f143_10 (10 : Int32).toNatClampNeg = 0 := by rw [← hg_f143_10]; exact pk_us
  refine lv_iload_n hx hb d_Sf_findRivals_144 rfl (lv_at hl 2 rfl) ?_
  refine lv_if_ne (tgt := 157) hx hb d_Sf_findRivals_145 (by decide) (fun h => absurd rfl h) (fun _ => ?_)
  refine lv_aload_n hx hb d_Sf_findRivals_148 rfl (lv_at hl 4 rfl) ?_
  refine va_get (D := (dC, dI)) (ci := 6) (v := .ref xf_rivals) (C := R_Sf) (T := F_Sf) (N := 10) hx hb hts (fun w h => List.mem_cons_of_mem _ (in_Sf w h)) hown hK.1 hP 0 rfl rfl 3 (by decide) (hts _ (List.mem_cons_of_mem _ mw_285)) (fun _ h9 => h9) hsf_rivals d_Sf_findRivals_149 ?_
  refine lv_iload_n hx hb d_Sf_findRivals_152 rfl (lv_at hl 1 rfl) ?_
  refine va_iald hx hb hK.1 hP 5 0 rfl rfl (vp_in_iff.mpr (by decide)) d_Sf_findRivals_153 ?_
  refine lv_topi (fun x0 e0 => ?_)
  obtain rfl : x0 = 0 := e0.trans hv_f143_10
  refine lv_if_eq (tgt := 161) hx hb d_Sf_findRivals_154 (by decide) (fun _ => ?_) (fun h => absurd (by decide) h)
  refine lv_iconst (v := 0) hx hb d_Sf_findRivals_161 (by decide) ?_
  refine lv_istore_n hx hb d_Sf_findRivals_162 rfl hl (by decide) rfl (fun ls hl => ?_)
  have hl : lv_has ls 5 [(2, .int 0), (4, .int 0), (3, .int 10), (1, .int 0), (0, .ref oSf)] := hl
  refine lv_iinc (k := 2) (v := 11) hx hb d_Sf_findRivals_163 hl rfl (by first | rfl | decide | exact nI_1 i | exact pv_1 j hj) (by decide) rfl (fun ls hl => ?_)
  have hl : lv_has ls 5 [(3, .int 11), (2, .int 0), (4, .int 0), (1, .int 0), (0, .ref oSf)] := hl
  refine lv_goto (tgt := 94) hx hb d_Sf_findRivals_166 (by decide) ?_
  refine lv_iload_n hx hb d_Sf_findRivals_94 rfl (lv_at hl 0 rfl) ?_
  refine lv_bipush (v := 14) hx hb d_Sf_findRivals_95 (by decide) ?_
  refine lv_icmp_gt (tgt := 169) hx hb d_Sf_findRivals_97 (by decide) (fun h => absurd h (by decide)) (fun _ => ?_)
  refine lv_iload_n hx hb d_Sf_findRivals_100 rfl (lv_at hl 3 rfl) ?_
  refine lv_aload_n hx hb d_Sf_findRivals_101 rfl (lv_at hl 4 rfl) ?_
  refine va_get (D := (dC, dI)) (ci := 6) (v := .ref oSt) (C := R_Sf) (T := F_Sf) (N := 10) hx hb hts (fun w h => List.mem_cons_of_mem _ (in_Sf w h)) hown hK.1 hP 0 rfl rfl 0 (by decide) (hts _ (List.mem_cons_of_mem _ mw_282)) (fun _ h9 => h9) hsf_stock d_Sf_findRivals_102 ?_
  refine va_get (D := (dC, dI)) (ci := 4) (v := .ref xst_meeting) (C := R_St) (T := F_St) (N := 12) hx hb hts (fun w h => List.mem_cons_of_mem _ (in_St w h)) hown hK.1 hP 1 rfl rfl 9 (by decide) (hts _ (List.mem_cons_of_mem _ mw_177)) (fun _ h9 => h9) hst_meeting d_Sf_findRivals_105 ?_
  refine lv_iload_n hx hb d_Sf_findRivals_108 rfl (lv_at hl 0 rfl) ?_
  refine va_iald hx hb hK.1 hP 4 0 rfl rfl (vp_in_iff.mpr (by decide)) d_Sf_findRivals_109 ?_
  refine lv_iconst (v := (-1)) hx hb d_Sf_findRivals_110 (by decide) ?_
  refine lv_ixor hx hb d_Sf_findRivals_111 ?_
  refine lv_topi (fun x0 e0 => ?_)
  obtain rfl : x0 = (-1) := e0.trans (by decide)
  refine lv_iand hx hb d_Sf_findRivals_112 ?_
  refine lv_topi (fun x0 e0 => ?_)
  obtain rfl : x0 = 0 := e0.trans (by decide)
  refine lv_iconst (v := 1) hx hb d_Sf_findRivals_113 (by decide) ?_
  refine lv_iload_n hx hb d_Sf_findRivals_114 rfl (lv_at hl 0 rfl) ?_
  refine lv_ishl hx hb d_Sf_findRivals_115 ?_
  refine lv_topi (fun x0 e0 => ?_)
  obtain rfl : x0 = 2048 := e0.trans (by decide)
  refine lv_iconst (v := (-1)) hx hb d_Sf_findRivals_116 (by decide) ?_
  refine lv_ixor hx hb d_Sf_findRivals_117 ?_
  refine lv_topi (fun x0 e0 => ?_)
  obtain rfl : x0 = (-2049) := e0.trans (by decide)
  refine lv_iand hx hb d_Sf_findRivals_118 ?_
  refine lv_topi (fun x0 e0 => ?_)
  obtain rfl : x0 = 0 := e0.trans (by decide)
  refine lv_istore hx hb d_Sf_findRivals_119 hl (by decide) rfl (fun ls hl => ?_)
  have hl : lv_has ls 5 [(4, .int 0), (3, .int 11), (2, .int 0), (1, .int 0), (0, .ref oSf)] := hl
  refine lv_aload_n hx hb d_Sf_findRivals_121 rfl (lv_at hl 4 rfl) ?_
  refine va_get (D := (dC, dI)) (ci := 6) (v := .ref xf_rivals) (C := R_Sf) (T := F_Sf) (N := 10) hx hb hts (fun w h => List.mem_cons_of_mem _ (in_Sf w h)) hown hK.1 hP 0 rfl rfl 3 (by decide) (hts _ (List.mem_cons_of_mem _ mw_285)) (fun _ h9 => h9) hsf_rivals d_Sf_findRivals_122 ?_
  refine lv_iload_n hx hb d_Sf_findRivals_125 rfl (lv_at hl 1 rfl) ?_
  refine lv_aload_n hx hb d_Sf_findRivals_126 rfl (lv_at hl 4 rfl) ?_
  refine va_get (D := (dC, dI)) (ci := 6) (v := .ref xf_sources) (C := R_Sf) (T := F_Sf) (N := 10) hx hb hts (fun w h => List.mem_cons_of_mem _ (in_Sf w h)) hown hK.1 hP 0 rfl rfl 2 (by decide) (hts _ (List.mem_cons_of_mem _ mw_284)) (fun _ h9 => h9) hsf_sources d_Sf_findRivals_127 ?_
  refine lv_iload_n hx hb d_Sf_findRivals_130 rfl (lv_at hl 1 rfl) ?_
  refine va_lald hx hb hK.1 hP 3 3 rfl rfl (vp_in_iff.mpr (by decide)) d_Sf_findRivals_131 ?_
  refine lv_lconst (v := 0) hx hb d_Sf_findRivals_132 (by decide) ?_
  refine W.lcmp hx hb d_Sf_findRivals_133 ?_
  refine lv_topi (fun x0 e0 => ?_)
  obtain rfl : x0 = 0 := e0.trans (by decide)
  refine lv_if_eq (tgt := 142) hx hb d_Sf_findRivals_134 (by decide) (fun _ => ?_) (fun h => absurd (by decide) h)
  refine lv_iconst (v := 0) hx hb d_Sf_findRivals_142 (by decide) ?_
  refine va_iast hx hb hK.1 hP hD hS 5 0 rfl rfl (vp_in_iff.mpr (by decide)) d_Sf_findRivals_143 (fun H locs hP hD hS => ?_)
  have hP : va_P (dC, dI) classes [(oSf, .inr (6, xf)), (oSt, .inr (4, xs_)), (oP1, .inr (3, xp)), (xf_sources, .inl (cJ, 15, .inr (.inl (fun _ => 0)))), (xst_meeting, .inl (cI, 15, .inl (fun _ => 0))), (xf_rivals, .inl (cI, 15, .inl ((upd f143_10 (11 : Int32).toNatClampNeg 0))))] H := hP
  have hD : va_D A [(oSf, .inr (6, xf)), (oSt, .inr (4, xs_)), (oP1, .inr (3, xp)), (xf_sources, .inl (cJ, 15, .inr (.inl (fun _ => 0)))), (xst_meeting, .inl (cI, 15, .inl (fun _ => 0))), (xf_rivals, .inl (cI, 15, .inl ((upd f143_10 (11 : Int32).toNatClampNeg 0))))] := hD
  generalize hg_f143_11 : (upd f143_10 (11 : Int32).toNatClampNeg 0) = f143_11 at hP hD
  have hv_f143_11 : f143_11 (11 : Int32).toNatClampNeg = 0 := by rw [← hg_f143_11]; exact pk_us
  refine lv_iload_n hx hb d_Sf_findRivals_144 rfl (lv_at hl 2 rfl) ?_
  refine lv_if_ne (tgt := 157) hx hb d_Sf_findRivals_145 (by decide) (fun h => absurd rfl h) (fun _ => ?_)
  refine lv_aload_n hx hb d_Sf_findRivals_148 rfl (lv_at hl 4 rfl) ?_
  refine va_get (D := (dC, dI)) (ci := 6) (v := .ref xf_rivals) (C := R_Sf) (T := F_Sf) (N := 10) hx hb hts (fun w h => List.mem_cons_of_mem _ (in_Sf w h)) hown hK.1 hP 0 rfl rfl 3 (by decide) (hts _ (List.mem_cons_of_mem _ mw_285)) (fun _ h9 => h9) hsf_rivals d_Sf_findRivals_149 ?_
  refine lv_iload_n hx hb d_Sf_findRivals_152 rfl (lv_at hl 1 rfl) ?_
  refine va_iald hx hb hK.1 hP 5 0 rfl rfl (vp_in_iff.mpr (by decide)) d_Sf_findRivals_153 ?_
  refine lv_topi (fun x0 e0 => ?_)
  obtain rfl : x0 = 0 := e0.trans hv_f143_11
  refine lv_if_eq (tgt := 161) hx hb d_Sf_findRivals_154 (by decide) (fun _ => ?_) (fun h => absurd (by decide) h)
  refine lv_iconst (v := 0) hx hb d_Sf_findRivals_161 (by decide) ?_
  refine lv_istore_n hx hb d_Sf_findRivals_162 rfl hl (by decide) rfl (fun ls hl => ?_)
  have hl : lv_has ls 5 [(2, .int 0), (4, .int 0), (3, .int 11), (1, .int 0), (0, .ref oSf)] := hl
  refine lv_iinc (k := 2) (v := 12) hx hb d_Sf_findRivals_163 hl rfl (by first | rfl | decide | exact nI_1 i | exact pv_1 j hj) (by decide) rfl (fun ls hl => ?_)
  have hl : lv_has ls 5 [(3, .int 12), (2, .int 0), (4, .int 0), (1, .int 0), (0, .ref oSf)] := hl
  refine lv_goto (tgt := 94) hx hb d_Sf_findRivals_166 (by decide) ?_
  refine lv_iload_n hx hb d_Sf_findRivals_94 rfl (lv_at hl 0 rfl) ?_
  refine lv_bipush (v := 14) hx hb d_Sf_findRivals_95 (by decide) ?_
  refine lv_icmp_gt (tgt := 169) hx hb d_Sf_findRivals_97 (by decide) (fun h => absurd h (by decide)) (fun _ => ?_)
  refine lv_iload_n hx hb d_Sf_findRivals_100 rfl (lv_at hl 3 rfl) ?_
  refine lv_aload_n hx hb d_Sf_findRivals_101 rfl (lv_at hl 4 rfl) ?_
  refine va_get (D := (dC, dI)) (ci := 6) (v := .ref oSt) (C := R_Sf) (T := F_Sf) (N := 10) hx hb hts (fun w h => List.mem_cons_of_mem _ (in_Sf w h)) hown hK.1 hP 0 rfl rfl 0 (by decide) (hts _ (List.mem_cons_of_mem _ mw_282)) (fun _ h9 => h9) hsf_stock d_Sf_findRivals_102 ?_
  refine va_get (D := (dC, dI)) (ci := 4) (v := .ref xst_meeting) (C := R_St) (T := F_St) (N := 12) hx hb hts (fun w h => List.mem_cons_of_mem _ (in_St w h)) hown hK.1 hP 1 rfl rfl 9 (by decide) (hts _ (List.mem_cons_of_mem _ mw_177)) (fun _ h9 => h9) hst_meeting d_Sf_findRivals_105 ?_
  refine lv_iload_n hx hb d_Sf_findRivals_108 rfl (lv_at hl 0 rfl) ?_
  refine va_iald hx hb hK.1 hP 4 0 rfl rfl (vp_in_iff.mpr (by decide)) d_Sf_findRivals_109 ?_
  refine lv_iconst (v := (-1)) hx hb d_Sf_findRivals_110 (by decide) ?_
  refine lv_ixor hx hb d_Sf_findRivals_111 ?_
  refine lv_topi (fun x0 e0 => ?_)
  obtain rfl : x0 = (-1) := e0.trans (by decide)
  refine lv_iand hx hb d_Sf_findRivals_112 ?_
  refine lv_topi (fun x0 e0 => ?_)
  obtain rfl : x0 = 0 := e0.trans (by decide)
  refine lv_iconst (v := 1) hx hb d_Sf_findRivals_113 (by decide) ?_
  refine lv_iload_n hx hb d_Sf_findRivals_114 rfl (lv_at hl 0 rfl) ?_
  refine lv_ishl hx hb d_Sf_findRivals_115 ?_
  refine lv_topi (fun x0 e0 => ?_)
  obtain rfl : x0 = 4096 := e0.trans (by decide)
  refine lv_iconst (v := (-1)) hx hb d_Sf_findRivals_116 (by decide) ?_
  refine lv_ixor hx hb d_Sf_findRivals_117 ?_
  refine lv_topi (fun x0 e0 => ?_)
  obtain rfl : x0 = (-4097) := e0.trans (by decide)
  refine lv_iand hx hb d_Sf_findRivals_118 ?_
  refine lv_topi (fun x0 e0 => ?_)
  obtain rfl : x0 = 0 := e0.trans (by decide)
  refine lv_istore hx hb d_Sf_findRivals_119 hl (by decide) rfl (fun ls hl => ?_)
  have hl : lv_has ls 5 [(4, .int 0), (3, .int 12), (2, .int 0), (1, .int 0), (0, .ref oSf)] := hl
  refine lv_aload_n hx hb d_Sf_findRivals_121 rfl (lv_at hl 4 rfl) ?_
  refine va_get (D := (dC, dI)) (ci := 6) (v := .ref xf_rivals) (C := R_Sf) (T := F_Sf) (N := 10) hx hb hts (fun w h => List.mem_cons_of_mem _ (in_Sf w h)) hown hK.1 hP 0 rfl rfl 3 (by decide) (hts _ (List.mem_cons_of_mem _ mw_285)) (fun _ h9 => h9) hsf_rivals d_Sf_findRivals_122 ?_
  refine lv_iload_n hx hb d_Sf_findRivals_125 rfl (lv_at hl 1 rfl) ?_
  refine lv_aload_n hx hb d_Sf_findRivals_126 rfl (lv_at hl 4 rfl) ?_
  refine va_get (D := (dC, dI)) (ci := 6) (v := .ref xf_sources) (C := R_Sf) (T := F_Sf) (N := 10) hx hb hts (fun w h => List.mem_cons_of_mem _ (in_Sf w h)) hown hK.1 hP 0 rfl rfl 2 (by decide) (hts _ (List.mem_cons_of_mem _ mw_284)) (fun _ h9 => h9) hsf_sources d_Sf_findRivals_127 ?_
  refine lv_iload_n hx hb d_Sf_findRivals_130 rfl (lv_at hl 1 rfl) ?_
  refine va_lald hx hb hK.1 hP 3 3 rfl rfl (vp_in_iff.mpr (by decide)) d_Sf_findRivals_131 ?_
  refine lv_lconst (v := 0) hx hb d_Sf_findRivals_132 (by decide) ?_
  refine W.lcmp hx hb d_Sf_findRivals_133 ?_
  refine lv_topi (fun x0 e0 => ?_)
  obtain rfl : x0 = 0 := e0.trans (by decide)
  refine lv_if_eq (tgt := 142) hx hb d_Sf_findRivals_134 (by decide) (fun _ => ?_) (fun h => absurd (by decide) h)
  refine lv_iconst (v := 0) hx hb d_Sf_findRivals_142 (by decide) ?_
  refine va_iast hx hb hK.1 hP hD hS 5 0 rfl rfl (vp_in_iff.mpr (by decide)) d_Sf_findRivals_143 (fun H locs hP hD hS => ?_)
  have hP : va_P (dC, dI) classes [(oSf, .inr (6, xf)), (oSt, .inr (4, xs_)), (oP1, .inr (3, xp)), (xf_sources, .inl (cJ, 15, .inr (.inl (fun _ => 0)))), (xst_meeting, .inl (cI, 15, .inl (fun _ => 0))), (xf_rivals, .inl (cI, 15, .inl ((upd f143_11 (12 : Int32).toNatClampNeg 0))))] H := hP
  have hD : va_D A [(oSf, .inr (6, xf)), (oSt, .inr (4, xs_)), (oP1, .inr (3, xp)), (xf_sources, .inl (cJ, 15, .inr (.inl (fun _ => 0)))), (xst_meeting, .inl (cI, 15, .inl (fun _ => 0))), (xf_rivals, .inl (cI, 15, .inl ((upd f143_11 (12 : Int32).toNatClampNeg 0))))] := hD
  generalize hg_f143_12 : (upd f143_11 (12 : Int32).toNatClampNeg 0) = f143_12 at hP hD
  have hv_f143_12 : f143_12 (12 : Int32).toNatClampNeg = 0 := by rw [← hg_f143_12]; exact pk_us
  refine lv_iload_n hx hb d_Sf_findRivals_144 rfl (lv_at hl 2 rfl) ?_
  refine lv_if_ne (tgt := 157) hx hb d_Sf_findRivals_145 (by decide) (fun h => absurd rfl h) (fun _ => ?_)
  refine lv_aload_n hx hb d_Sf_findRivals_148 rfl (lv_at hl 4 rfl) ?_
  refine va_get (D := (dC, dI)) (ci := 6) (v := .ref xf_rivals) (C := R_Sf) (T := F_Sf) (N := 10) hx hb hts (fun w h => List.mem_cons_of_mem _ (in_Sf w h)) hown hK.1 hP 0 rfl rfl 3 (by decide) (hts _ (List.mem_cons_of_mem _ mw_285)) (fun _ h9 => h9) hsf_rivals d_Sf_findRivals_149 ?_
  refine lv_iload_n hx hb d_Sf_findRivals_152 rfl (lv_at hl 1 rfl) ?_
  refine va_iald hx hb hK.1 hP 5 0 rfl rfl (vp_in_iff.mpr (by decide)) d_Sf_findRivals_153 ?_
  refine lv_topi (fun x0 e0 => ?_)
  obtain rfl : x0 = 0 := e0.trans hv_f143_12
  refine lv_if_eq (tgt := 161) hx hb d_Sf_findRivals_154 (by decide) (fun _ => ?_) (fun h => absurd (by decide) h)
  refine lv_iconst (v := 0) hx hb d_Sf_findRivals_161 (by decide) ?_
  refine lv_istore_n hx hb d_Sf_findRivals_162 rfl hl (by decide) rfl (fun ls hl => ?_)
  have hl : lv_has ls 5 [(2, .int 0), (4, .int 0), (3, .int 12), (1, .int 0), (0, .ref oSf)] := hl
  refine lv_iinc (k := 2) (v := 13) hx hb d_Sf_findRivals_163 hl rfl (by first | rfl | decide | exact nI_1 i | exact pv_1 j hj) (by decide) rfl (fun ls hl => ?_)
  have hl : lv_has ls 5 [(3, .int 13), (2, .int 0), (4, .int 0), (1, .int 0), (0, .ref oSf)] := hl
  refine lv_goto (tgt := 94) hx hb d_Sf_findRivals_166 (by decide) ?_
  refine lv_iload_n hx hb d_Sf_findRivals_94 rfl (lv_at hl 0 rfl) ?_
  refine lv_bipush (v := 14) hx hb d_Sf_findRivals_95 (by decide) ?_
  refine lv_icmp_gt (tgt := 169) hx hb d_Sf_findRivals_97 (by decide) (fun h => absurd h (by decide)) (fun _ => ?_)
  refine lv_iload_n hx hb d_Sf_findRivals_100 rfl (lv_at hl 3 rfl) ?_
  refine lv_aload_n hx hb d_Sf_findRivals_101 rfl (lv_at hl 4 rfl) ?_
  refine va_get (D := (dC, dI)) (ci := 6) (v := .ref oSt) (C := R_Sf) (T := F_Sf) (N := 10) hx hb hts (fun w h => List.mem_cons_of_mem _ (in_Sf w h)) hown hK.1 hP 0 rfl rfl 0 (by decide) (hts _ (List.mem_cons_of_mem _ mw_282)) (fun _ h9 => h9) hsf_stock d_Sf_findRivals_102 ?_
  refine va_get (D := (dC, dI)) (ci := 4) (v := .ref xst_meeting) (C := R_St) (T := F_St) (N := 12) hx hb hts (fun w h => List.mem_cons_of_mem _ (in_St w h)) hown hK.1 hP 1 rfl rfl 9 (by decide) (hts _ (List.mem_cons_of_mem _ mw_177)) (fun _ h9 => h9) hst_meeting d_Sf_findRivals_105 ?_
  refine lv_iload_n hx hb d_Sf_findRivals_108 rfl (lv_at hl 0 rfl) ?_
  refine va_iald hx hb hK.1 hP 4 0 rfl rfl (vp_in_iff.mpr (by decide)) d_Sf_findRivals_109 ?_
  refine lv_iconst (v := (-1)) hx hb d_Sf_findRivals_110 (by decide) ?_
  refine lv_ixor hx hb d_Sf_findRivals_111 ?_
  refine lv_topi (fun x0 e0 => ?_)
  obtain rfl : x0 = (-1) := e0.trans (by decide)
  refine lv_iand hx hb d_Sf_findRivals_112 ?_
  refine lv_topi (fun x0 e0 => ?_)
  obtain rfl : x0 = 0 := e0.trans (by decide)
  refine lv_iconst (v := 1) hx hb d_Sf_findRivals_113 (by decide) ?_
  refine lv_iload_n hx hb d_Sf_findRivals_114 rfl (lv_at hl 0 rfl) ?_
  refine lv_ishl hx hb d_Sf_findRivals_115 ?_
  refine lv_topi (fun x0 e0 => ?_)
  obtain rfl : x0 = 8192 := e0.trans (by decide)
  refine lv_iconst (v := (-1)) hx hb d_Sf_findRivals_116 (by decide) ?_
  refine lv_ixor hx hb d_Sf_findRivals_117 ?_
  refine lv_topi (fun x0 e0 => ?_)
  obtain rfl : x0 = (-8193) := e0.trans (by decide)
  refine lv_iand hx hb d_Sf_findRivals_118 ?_
  refine lv_topi (fun x0 e0 => ?_)
  obtain rfl : x0 = 0 := e0.trans (by decide)
  refine lv_istore hx hb d_Sf_findRivals_119 hl (by decide) rfl (fun ls hl => ?_)
  have hl : lv_has ls 5 [(4, .int 0), (3, .int 13), (2, .int 0), (1, .int 0), (0, .ref oSf)] := hl
  refine lv_aload_n hx hb d_Sf_findRivals_121 rfl (lv_at hl 4 rfl) ?_
  refine va_get (D := (dC, dI)) (ci := 6) (v := .ref xf_rivals) (C := R_Sf) (T := F_Sf) (N := 10) hx hb hts (fun w h => List.mem_cons_of_mem _ (in_Sf w h)) hown hK.1 hP 0 rfl rfl 3 (by decide) (hts _ (List.mem_cons_of_mem _ mw_285)) (fun _ h9 => h9) hsf_rivals d_Sf_findRivals_122 ?_
  refine lv_iload_n hx hb d_Sf_findRivals_125 rfl (lv_at hl 1 rfl) ?_
  refine lv_aload_n hx hb d_Sf_findRivals_126 rfl (lv_at hl 4 rfl) ?_
  refine va_get (D := (dC, dI)) (ci := 6) (v := .ref xf_sources) (C := R_Sf) (T := F_Sf) (N := 10) hx hb hts (fun w h => List.mem_cons_of_mem _ (in_Sf w h)) hown hK.1 hP 0 rfl rfl 2 (by decide) (hts _ (List.mem_cons_of_mem _ mw_284)) (fun _ h9 => h9) hsf_sources d_Sf_findRivals_127 ?_
  refine lv_iload_n hx hb d_Sf_findRivals_130 rfl (lv_at hl 1 rfl) ?_
  refine va_lald hx hb hK.1 hP 3 3 rfl rfl (vp_in_iff.mpr (by decide)) d_Sf_findRivals_131 ?_
  refine lv_lconst (v := 0) hx hb d_Sf_findRivals_132 (by decide) ?_
  refine W.lcmp hx hb d_Sf_findRivals_133 ?_
  refine lv_topi (fun x0 e0 => ?_)
  obtain rfl : x0 = 0 := e0.trans (by decide)
  refine lv_if_eq (tgt := 142) hx hb d_Sf_findRivals_134 (by decide) (fun _ => ?_) (fun h => absurd (by decide) h)
  refine lv_iconst (v := 0) hx hb d_Sf_findRivals_142 (by decide) ?_
  refine va_iast hx hb hK.1 hP hD hS 5 0 rfl rfl (vp_in_iff.mpr (by decide)) d_Sf_findRivals_143 (fun H locs hP hD hS => ?_)
  have hP : va_P (dC, dI) classes [(oSf, .inr (6, xf)), (oSt, .inr (4, xs_)), (oP1, .inr (3, xp)), (xf_sources, .inl (cJ, 15, .inr (.inl (fun _ => 0)))), (xst_meeting, .inl (cI, 15, .inl (fun _ => 0))), (xf_rivals, .inl (cI, 15, .inl ((upd f143_12 (13 : Int32).toNatClampNeg 0))))] H := hP
  have hD : va_D A [(oSf, .inr (6, xf)), (oSt, .inr (4, xs_)), (oP1, .inr (3, xp)), (xf_sources, .inl (cJ, 15, .inr (.inl (fun _ => 0)))), (xst_meeting, .inl (cI, 15, .inl (fun _ => 0))), (xf_rivals, .inl (cI, 15, .inl ((upd f143_12 (13 : Int32).toNatClampNeg 0))))] := hD
  generalize hg_f143_13 : (upd f143_12 (13 : Int32).toNatClampNeg 0) = f143_13 at hP hD
  have hv_f143_13 : f143_13 (13 : Int32).toNatClampNeg = 0 := by rw [← hg_f143_13]; exact pk_us
  refine lv_iload_n hx hb d_Sf_findRivals_144 rfl (lv_at hl 2 rfl) ?_
  refine lv_if_ne (tgt := 157) hx hb d_Sf_findRivals_145 (by decide) (fun h => absurd rfl h) (fun _ => ?_)
  refine lv_aload_n hx hb d_Sf_findRivals_148 rfl (lv_at hl 4 rfl) ?_
  refine va_get (D := (dC, dI)) (ci := 6) (v := .ref xf_rivals) (C := R_Sf) (T := F_Sf) (N := 10) hx hb hts (fun w h => List.mem_cons_of_mem _ (in_Sf w h)) hown hK.1 hP 0 rfl rfl 3 (by decide) (hts _ (List.mem_cons_of_mem _ mw_285)) (fun _ h9 => h9) hsf_rivals d_Sf_findRivals_149 ?_
  refine lv_iload_n hx hb d_Sf_findRivals_152 rfl (lv_at hl 1 rfl) ?_
  refine va_iald hx hb hK.1 hP 5 0 rfl rfl (vp_in_iff.mpr (by decide)) d_Sf_findRivals_153 ?_
  refine lv_topi (fun x0 e0 => ?_)
  obtain rfl : x0 = 0 := e0.trans hv_f143_13
  refine lv_if_eq (tgt := 161) hx hb d_Sf_findRivals_154 (by decide) (fun _ => ?_) (fun h => absurd (by decide) h)
  refine lv_iconst (v := 0) hx hb d_Sf_findRivals_161 (by decide) ?_
  refine lv_istore_n hx hb d_Sf_findRivals_162 rfl hl (by decide) rfl (fun ls hl => ?_)
  have hl : lv_has ls 5 [(2, .int 0), (4, .int 0), (3, .int 13), (1, .int 0), (0, .ref oSf)] := hl
  refine lv_iinc (k := 2) (v := 14) hx hb d_Sf_findRivals_163 hl rfl (by first | rfl | decide | exact nI_1 i | exact pv_1 j hj) (by decide) rfl (fun ls hl => ?_)
  have hl : lv_has ls 5 [(3, .int 14), (2, .int 0), (4, .int 0), (1, .int 0), (0, .ref oSf)] := hl
  refine lv_goto (tgt := 94) hx hb d_Sf_findRivals_166 (by decide) ?_
  refine lv_iload_n hx hb d_Sf_findRivals_94 rfl (lv_at hl 0 rfl) ?_
  refine lv_bipush (v := 14) hx hb d_Sf_findRivals_95 (by decide) ?_
  refine lv_icmp_gt (tgt := 169) hx hb d_Sf_findRivals_97 (by decide) (fun h => absurd h (by decide)) (fun _ => ?_)
  refine lv_iload_n hx hb d_Sf_findRivals_100 rfl (lv_at hl 3 rfl) ?_
  refine lv_aload_n hx hb d_Sf_findRivals_101 rfl (lv_at hl 4 rfl) ?_
  refine va_get (D := (dC, dI)) (ci := 6) (v := .ref oSt) (C := R_Sf) (T := F_Sf) (N := 10) hx hb hts (fun w h => List.mem_cons_of_mem _ (in_Sf w h)) hown hK.1 hP 0 rfl rfl 0 (by decide) (hts _ (List.mem_cons_of_mem _ mw_282)) (fun _ h9 => h9) hsf_stock d_Sf_findRivals_102 ?_
  refine va_get (D := (dC, dI)) (ci := 4) (v := .ref xst_meeting) (C := R_St) (T := F_St) (N := 12) hx hb hts (fun w h => List.mem_cons_of_mem _ (in_St w h)) hown hK.1 hP 1 rfl rfl 9 (by decide) (hts _ (List.mem_cons_of_mem _ mw_177)) (fun _ h9 => h9) hst_meeting d_Sf_findRivals_105 ?_
  refine lv_iload_n hx hb d_Sf_findRivals_108 rfl (lv_at hl 0 rfl) ?_
  refine va_iald hx hb hK.1 hP 4 0 rfl rfl (vp_in_iff.mpr (by decide)) d_Sf_findRivals_109 ?_
  refine lv_iconst (v := (-1)) hx hb d_Sf_findRivals_110 (by decide) ?_
  refine lv_ixor hx hb d_Sf_findRivals_111 ?_
  refine lv_topi (fun x0 e0 => ?_)
  obtain rfl : x0 = (-1) := e0.trans (by decide)
  refine lv_iand hx hb d_Sf_findRivals_112 ?_
  refine lv_topi (fun x0 e0 => ?_)
  obtain rfl : x0 = 0 := e0.trans (by decide)
  refine lv_iconst (v := 1) hx hb d_Sf_findRivals_113 (by decide) ?_
  refine lv_iload_n hx hb d_Sf_findRivals_114 rfl (lv_at hl 0 rfl) ?_
  refine lv_ishl hx hb d_Sf_findRivals_115 ?_
  refine lv_topi (fun x0 e0 => ?_)
  obtain rfl : x0 = 16384 := e0.trans (by decide)
  refine lv_iconst (v := (-1)) hx hb d_Sf_findRivals_116 (by decide) ?_
  refine lv_ixor hx hb d_Sf_findRivals_117 ?_
  refine lv_topi (fun x0 e0 => ?_)
  obtain rfl : x0 = (-16385) := e0.trans (by decide)
  refine lv_iand hx hb d_Sf_findRivals_118 ?_
  refine lv_topi (fun x0 e0 => ?_)
  obtain rfl : x0 = 0 := e0.trans (by decide)
  refine lv_istore hx hb d_Sf_findRivals_119 hl (by decide) rfl (fun ls hl => ?_)
  have hl : lv_has ls 5 [(4, .int 0), (3, .int 14), (2, .int 0), (1, .int 0), (0, .ref oSf)] := hl
  refine lv_aload_n hx hb d_Sf_findRivals_121 rfl (lv_at hl 4 rfl) ?_
  refine va_get (D := (dC, dI)) (ci := 6) (v := .ref xf_rivals) (C := R_Sf) (T := F_Sf) (N := 10) hx hb hts (fun w h => List.mem_cons_of_mem _ (in_Sf w h)) hown hK.1 hP 0 rfl rfl 3 (by decide) (hts _ (List.mem_cons_of_mem _ mw_285)) (fun _ h9 => h9) hsf_rivals d_Sf_findRivals_122 ?_
  refine lv_iload_n hx hb d_Sf_findRivals_125 rfl (lv_at hl 1 rfl) ?_
  refine lv_aload_n hx hb d_Sf_findRivals_126 rfl (lv_at hl 4 rfl) ?_
  refine va_get (D := (dC, dI)) (ci := 6) (v := .ref xf_sources) (C := R_Sf) (T := F_Sf) (N := 10) hx hb hts (fun w h => List.mem_cons_of_mem _ (in_Sf w h)) hown hK.1 hP 0 rfl rfl 2 (by decide) (hts _ (List.mem_cons_of_mem _ mw_284)) (fun _ h9 => h9) hsf_sources d_Sf_findRivals_127 ?_
  refine lv_iload_n hx hb d_Sf_findRivals_130 rfl (lv_at hl 1 rfl) ?_
  refine va_lald hx hb hK.1 hP 3 3 rfl rfl (vp_in_iff.mpr (by decide)) d_Sf_findRivals_131 ?_
  refine lv_lconst (v := 0) hx hb d_Sf_findRivals_132 (by decide) ?_
  refine W.lcmp hx hb d_Sf_findRivals_133 ?_
  refine lv_topi (fun x0 e0 => ?_)
  obtain rfl : x0 = 0 := e0.trans (by decide)
  refine lv_if_eq (tgt := 142) hx hb d_Sf_findRivals_134 (by decide) (fun _ => ?_) (fun h => absurd (by decide) h)
  refine lv_iconst (v := 0) hx hb d_Sf_findRivals_142 (by decide) ?_
  refine va_iast hx hb hK.1 hP hD hS 5 0 rfl rfl (vp_in_iff.mpr (by decide)) d_Sf_findRivals_143 (fun H locs hP hD hS => ?_)
  have hP : va_P (dC, dI) classes [(oSf, .inr (6, xf)), (oSt, .inr (4, xs_)), (oP1, .inr (3, xp)), (xf_sources, .inl (cJ, 15, .inr (.inl (fun _ => 0)))), (xst_meeting, .inl (cI, 15, .inl (fun _ => 0))), (xf_rivals, .inl (cI, 15, .inl ((upd f143_13 (14 : Int32).toNatClampNeg 0))))] H := hP
  have hD : va_D A [(oSf, .inr (6, xf)), (oSt, .inr (4, xs_)), (oP1, .inr (3, xp)), (xf_sources, .inl (cJ, 15, .inr (.inl (fun _ => 0)))), (xst_meeting, .inl (cI, 15, .inl (fun _ => 0))), (xf_rivals, .inl (cI, 15, .inl ((upd f143_13 (14 : Int32).toNatClampNeg 0))))] := hD
  generalize hg_f143_14 : (upd f143_13 (14 : Int32).toNatClampNeg 0) = f143_14 at hP hD
  have hv_f143_14 : f143_14 (14 : Int32).toNatClampNeg = 0 := by rw [← hg_f143_14]; exact pk_us
  refine lv_iload_n hx hb d_Sf_findRivals_144 rfl (lv_at hl 2 rfl) ?_
  refine lv_if_ne (tgt := 157) hx hb d_Sf_findRivals_145 (by decide) (fun h => absurd rfl h) (fun _ => ?_)
  refine lv_aload_n hx hb d_Sf_findRivals_148 rfl (lv_at hl 4 rfl) ?_
  refine va_get (D := (dC, dI)) (ci := 6) (v := .ref xf_rivals) (C := R_Sf) (T := F_Sf) (N := 10) hx hb hts (fun w h => List.mem_cons_of_mem _ (in_Sf w h)) hown hK.1 hP 0 rfl rfl 3 (by decide) (hts _ (List.mem_cons_of_mem _ mw_285)) (fun _ h9 => h9) hsf_rivals d_Sf_findRivals_149 ?_
  refine lv_iload_n hx hb d_Sf_findRivals_152 rfl (lv_at hl 1 rfl) ?_
  refine va_iald hx hb hK.1 hP 5 0 rfl rfl (vp_in_iff.mpr (by decide)) d_Sf_findRivals_153 ?_
  refine lv_topi (fun x0 e0 => ?_)
  obtain rfl : x0 = 0 := e0.trans hv_f143_14
  refine lv_if_eq (tgt := 161) hx hb d_Sf_findRivals_154 (by decide) (fun _ => ?_) (fun h => absurd (by decide) h)
  refine lv_iconst (v := 0) hx hb d_Sf_findRivals_161 (by decide) ?_
  refine lv_istore_n hx hb d_Sf_findRivals_162 rfl hl (by decide) rfl (fun ls hl => ?_)
  have hl : lv_has ls 5 [(2, .int 0), (4, .int 0), (3, .int 14), (1, .int 0), (0, .ref oSf)] := hl
  refine lv_iinc (k := 2) (v := 15) hx hb d_Sf_findRivals_163 hl rfl (by first | rfl | decide | exact nI_1 i | exact pv_1 j hj) (by decide) rfl (fun ls hl => ?_)
  have hl : lv_has ls 5 [(3, .int 15), (2, .int 0), (4, .int 0), (1, .int 0), (0, .ref oSf)] := hl
  refine lv_goto (tgt := 94) hx hb d_Sf_findRivals_166 (by decide) ?_
  refine lv_iload_n hx hb d_Sf_findRivals_94 rfl (lv_at hl 0 rfl) ?_
  refine lv_bipush (v := 14) hx hb d_Sf_findRivals_95 (by decide) ?_
  refine lv_icmp_gt (tgt := 169) hx hb d_Sf_findRivals_97 (by decide) (fun _ => ?_) (fun h => absurd (by decide) h)
  refine lv_iload_n hx hb d_Sf_findRivals_169 rfl (lv_at hl 1 rfl) ?_
  exact W.zret (v := 0) (ty := .boolean) hx hb hr (by decide) (fun t ht hW => ⟨⟨_, (), rfl, (rfl), ⟨f143_14, hsf_stock, hsf_sources, hsf_rivals, hst_plant, hst_meeting, hxp_things, hxp_pipes, by rw [ht]; exact hP, hD⟩⟩, hS.F ht⟩) hS.2.2 d_Sf_findRivals_170
abbrev t_Sf_isSafe_137 : List UInt8 := 172 :: []
abbrev t_Sf_isSafe_136 : List UInt8 := 4 :: t_Sf_isSafe_137
abbrev t_Sf_isSafe_133 : List UInt8 := 167 :: 255 :: 180 :: t_Sf_isSafe_136
abbrev t_Sf_isSafe_130 : List UInt8 := 132 :: 2 :: 1 :: t_Sf_isSafe_133
abbrev t_Sf_isSafe_129 : List UInt8 := 60 :: t_Sf_isSafe_130
abbrev t_Sf_isSafe_128 : List UInt8 := 29 :: t_Sf_isSafe_129
abbrev t_Sf_isSafe_127 : List UInt8 := 172 :: t_Sf_isSafe_128
abbrev t_Sf_isSafe_126 : List UInt8 := 3 :: t_Sf_isSafe_127
abbrev t_Sf_isSafe_123 : List UInt8 := 181 :: 0 :: 33 :: t_Sf_isSafe_126
abbrev t_Sf_isSafe_122 : List UInt8 := 96 :: t_Sf_isSafe_123
abbrev t_Sf_isSafe_121 : List UInt8 := 28 :: t_Sf_isSafe_122
abbrev t_Sf_isSafe_120 : List UInt8 := 5 :: t_Sf_isSafe_121
abbrev t_Sf_isSafe_119 : List UInt8 := 42 :: t_Sf_isSafe_120
abbrev t_Sf_isSafe_116 : List UInt8 := 153 :: 0 :: 12 :: t_Sf_isSafe_119
abbrev t_Sf_isSafe_113 : List UInt8 := 182 :: 0 :: 57 :: t_Sf_isSafe_116
abbrev t_Sf_isSafe_112 : List UInt8 := 42 :: t_Sf_isSafe_113
abbrev t_Sf_isSafe_109 : List UInt8 := 182 :: 0 :: 53 :: t_Sf_isSafe_112
abbrev t_Sf_isSafe_108 : List UInt8 := 29 :: t_Sf_isSafe_109
abbrev t_Sf_isSafe_107 : List UInt8 := 108 :: t_Sf_isSafe_108
abbrev t_Sf_isSafe_105 : List UInt8 := 16 :: 10 :: t_Sf_isSafe_107
abbrev t_Sf_isSafe_104 : List UInt8 := 28 :: t_Sf_isSafe_105
abbrev t_Sf_isSafe_103 : List UInt8 := 42 :: t_Sf_isSafe_104
abbrev t_Sf_isSafe_100 : List UInt8 := 154 :: 0 :: 28 :: t_Sf_isSafe_103
abbrev t_Sf_isSafe_99 : List UInt8 := 112 :: t_Sf_isSafe_100
abbrev t_Sf_isSafe_97 : List UInt8 := 16 :: 10 :: t_Sf_isSafe_99
abbrev t_Sf_isSafe_96 : List UInt8 := 28 :: t_Sf_isSafe_97
abbrev t_Sf_isSafe_93 : List UInt8 := 160 :: 0 :: 10 :: t_Sf_isSafe_96
abbrev t_Sf_isSafe_92 : List UInt8 := 27 :: t_Sf_isSafe_93
abbrev t_Sf_isSafe_91 : List UInt8 := 29 :: t_Sf_isSafe_92
abbrev t_Sf_isSafe_88 : List UInt8 := 153 :: 0 :: 40 :: t_Sf_isSafe_91
abbrev t_Sf_isSafe_87 : List UInt8 := 29 :: t_Sf_isSafe_88
abbrev t_Sf_isSafe_86 : List UInt8 := 62 :: t_Sf_isSafe_87
abbrev t_Sf_isSafe_83 : List UInt8 := 182 :: 0 :: 71 :: t_Sf_isSafe_86
abbrev t_Sf_isSafe_82 : List UInt8 := 112 :: t_Sf_isSafe_83
abbrev t_Sf_isSafe_80 : List UInt8 := 16 :: 10 :: t_Sf_isSafe_82
abbrev t_Sf_isSafe_79 : List UInt8 := 28 :: t_Sf_isSafe_80
abbrev t_Sf_isSafe_78 : List UInt8 := 108 :: t_Sf_isSafe_79
abbrev t_Sf_isSafe_76 : List UInt8 := 16 :: 10 :: t_Sf_isSafe_78
abbrev t_Sf_isSafe_75 : List UInt8 := 28 :: t_Sf_isSafe_76
abbrev t_Sf_isSafe_74 : List UInt8 := 42 :: t_Sf_isSafe_75
abbrev t_Sf_isSafe_71 : List UInt8 := 162 :: 0 :: 65 :: t_Sf_isSafe_74
abbrev t_Sf_isSafe_70 : List UInt8 := 104 :: t_Sf_isSafe_71
abbrev t_Sf_isSafe_67 : List UInt8 := 180 :: 0 :: 66 :: t_Sf_isSafe_70
abbrev t_Sf_isSafe_64 : List UInt8 := 180 :: 0 :: 60 :: t_Sf_isSafe_67
abbrev t_Sf_isSafe_61 : List UInt8 := 180 :: 0 :: 25 :: t_Sf_isSafe_64
abbrev t_Sf_isSafe_60 : List UInt8 := 42 :: t_Sf_isSafe_61
abbrev t_Sf_isSafe_58 : List UInt8 := 16 :: 10 :: t_Sf_isSafe_60
abbrev t_Sf_isSafe_57 : List UInt8 := 28 :: t_Sf_isSafe_58
abbrev t_Sf_isSafe_56 : List UInt8 := 61 :: t_Sf_isSafe_57
abbrev t_Sf_isSafe_55 : List UInt8 := 3 :: t_Sf_isSafe_56
abbrev t_Sf_isSafe_54 : List UInt8 := 60 :: t_Sf_isSafe_55
abbrev t_Sf_isSafe_53 : List UInt8 := 3 :: t_Sf_isSafe_54
abbrev t_Sf_isSafe_52 : List UInt8 := 172 :: t_Sf_isSafe_53
abbrev t_Sf_isSafe_51 : List UInt8 := 3 :: t_Sf_isSafe_52
abbrev t_Sf_isSafe_48 : List UInt8 := 181 :: 0 :: 33 :: t_Sf_isSafe_51
abbrev t_Sf_isSafe_47 : List UInt8 := 4 :: t_Sf_isSafe_48
abbrev t_Sf_isSafe_46 : List UInt8 := 42 :: t_Sf_isSafe_47
abbrev t_Sf_isSafe_43 : List UInt8 := 153 :: 0 :: 10 :: t_Sf_isSafe_46
abbrev t_Sf_isSafe_40 : List UInt8 := 182 :: 0 :: 57 :: t_Sf_isSafe_43
abbrev t_Sf_isSafe_39 : List UInt8 := 42 :: t_Sf_isSafe_40
abbrev t_Sf_isSafe_36 : List UInt8 := 182 :: 0 :: 53 :: t_Sf_isSafe_39
abbrev t_Sf_isSafe_35 : List UInt8 := 3 :: t_Sf_isSafe_36
abbrev t_Sf_isSafe_34 : List UInt8 := 2 :: t_Sf_isSafe_35
abbrev t_Sf_isSafe_33 : List UInt8 := 42 :: t_Sf_isSafe_34
abbrev t_Sf_isSafe_32 : List UInt8 := 172 :: t_Sf_isSafe_33
abbrev t_Sf_isSafe_31 : List UInt8 := 4 :: t_Sf_isSafe_32
abbrev t_Sf_isSafe_28 : List UInt8 := 154 :: 0 :: 5 :: t_Sf_isSafe_31
abbrev t_Sf_isSafe_25 : List UInt8 := 182 :: 0 :: 49 :: t_Sf_isSafe_28
abbrev t_Sf_isSafe_24 : List UInt8 := 42 :: t_Sf_isSafe_25
abbrev t_Sf_isSafe_21 : List UInt8 := 182 :: 0 :: 43 :: t_Sf_isSafe_24
abbrev t_Sf_isSafe_18 : List UInt8 := 180 :: 0 :: 9 :: t_Sf_isSafe_21
abbrev t_Sf_isSafe_17 : List UInt8 := 42 :: t_Sf_isSafe_18
abbrev t_Sf_isSafe_14 : List UInt8 := 180 :: 0 :: 29 :: t_Sf_isSafe_17
abbrev t_Sf_isSafe_13 : List UInt8 := 42 :: t_Sf_isSafe_14
abbrev t_Sf_isSafe_10 : List UInt8 := 184 :: 0 :: 37 :: t_Sf_isSafe_13
abbrev t_Sf_isSafe_9 : List UInt8 := 9 :: t_Sf_isSafe_10
abbrev t_Sf_isSafe_6 : List UInt8 := 180 :: 0 :: 9 :: t_Sf_isSafe_9
abbrev t_Sf_isSafe_5 : List UInt8 := 42 :: t_Sf_isSafe_6
abbrev t_Sf_isSafe_2 : List UInt8 := 181 :: 0 :: 33 :: t_Sf_isSafe_5
abbrev t_Sf_isSafe_1 : List UInt8 := 3 :: t_Sf_isSafe_2
abbrev t_Sf_isSafe_0 : List UInt8 := 42 :: t_Sf_isSafe_1
theorem a_Sf_isSafe_0 : dk_at b_Sf_isSafe 0 t_Sf_isSafe_0 := dk_start (by decide +kernel)
theorem a_Sf_isSafe_1 : dk_at b_Sf_isSafe 1 t_Sf_isSafe_1 := dk_go 1 a_Sf_isSafe_0 rfl
theorem a_Sf_isSafe_2 : dk_at b_Sf_isSafe 2 t_Sf_isSafe_2 := dk_go 1 a_Sf_isSafe_1 rfl
theorem a_Sf_isSafe_5 : dk_at b_Sf_isSafe 5 t_Sf_isSafe_5 := dk_go 3 a_Sf_isSafe_2 rfl
theorem a_Sf_isSafe_6 : dk_at b_Sf_isSafe 6 t_Sf_isSafe_6 := dk_go 1 a_Sf_isSafe_5 rfl
theorem a_Sf_isSafe_9 : dk_at b_Sf_isSafe 9 t_Sf_isSafe_9 := dk_go 3 a_Sf_isSafe_6 rfl
theorem a_Sf_isSafe_10 : dk_at b_Sf_isSafe 10 t_Sf_isSafe_10 := dk_go 1 a_Sf_isSafe_9 rfl
theorem a_Sf_isSafe_13 : dk_at b_Sf_isSafe 13 t_Sf_isSafe_13 := dk_go 3 a_Sf_isSafe_10 rfl
theorem a_Sf_isSafe_14 : dk_at b_Sf_isSafe 14 t_Sf_isSafe_14 := dk_go 1 a_Sf_isSafe_13 rfl
theorem a_Sf_isSafe_17 : dk_at b_Sf_isSafe 17 t_Sf_isSafe_17 := dk_go 3 a_Sf_isSafe_14 rfl
theorem a_Sf_isSafe_18 : dk_at b_Sf_isSafe 18 t_Sf_isSafe_18 := dk_go 1 a_Sf_isSafe_17 rfl
theorem a_Sf_isSafe_21 : dk_at b_Sf_isSafe 21 t_Sf_isSafe_21 := dk_go 3 a_Sf_isSafe_18 rfl
theorem a_Sf_isSafe_24 : dk_at b_Sf_isSafe 24 t_Sf_isSafe_24 := dk_go 3 a_Sf_isSafe_21 rfl
theorem a_Sf_isSafe_25 : dk_at b_Sf_isSafe 25 t_Sf_isSafe_25 := dk_go 1 a_Sf_isSafe_24 rfl
theorem a_Sf_isSafe_28 : dk_at b_Sf_isSafe 28 t_Sf_isSafe_28 := dk_go 3 a_Sf_isSafe_25 rfl
theorem a_Sf_isSafe_31 : dk_at b_Sf_isSafe 31 t_Sf_isSafe_31 := dk_go 3 a_Sf_isSafe_28 rfl
theorem a_Sf_isSafe_32 : dk_at b_Sf_isSafe 32 t_Sf_isSafe_32 := dk_go 1 a_Sf_isSafe_31 rfl
theorem a_Sf_isSafe_33 : dk_at b_Sf_isSafe 33 t_Sf_isSafe_33 := dk_go 1 a_Sf_isSafe_32 rfl
theorem a_Sf_isSafe_34 : dk_at b_Sf_isSafe 34 t_Sf_isSafe_34 := dk_go 1 a_Sf_isSafe_33 rfl
theorem a_Sf_isSafe_35 : dk_at b_Sf_isSafe 35 t_Sf_isSafe_35 := dk_go 1 a_Sf_isSafe_34 rfl
theorem a_Sf_isSafe_36 : dk_at b_Sf_isSafe 36 t_Sf_isSafe_36 := dk_go 1 a_Sf_isSafe_35 rfl
theorem a_Sf_isSafe_39 : dk_at b_Sf_isSafe 39 t_Sf_isSafe_39 := dk_go 3 a_Sf_isSafe_36 rfl
theorem a_Sf_isSafe_40 : dk_at b_Sf_isSafe 40 t_Sf_isSafe_40 := dk_go 1 a_Sf_isSafe_39 rfl
theorem a_Sf_isSafe_43 : dk_at b_Sf_isSafe 43 t_Sf_isSafe_43 := dk_go 3 a_Sf_isSafe_40 rfl
theorem a_Sf_isSafe_46 : dk_at b_Sf_isSafe 46 t_Sf_isSafe_46 := dk_go 3 a_Sf_isSafe_43 rfl
theorem a_Sf_isSafe_47 : dk_at b_Sf_isSafe 47 t_Sf_isSafe_47 := dk_go 1 a_Sf_isSafe_46 rfl
theorem a_Sf_isSafe_48 : dk_at b_Sf_isSafe 48 t_Sf_isSafe_48 := dk_go 1 a_Sf_isSafe_47 rfl
theorem a_Sf_isSafe_51 : dk_at b_Sf_isSafe 51 t_Sf_isSafe_51 := dk_go 3 a_Sf_isSafe_48 rfl
theorem a_Sf_isSafe_52 : dk_at b_Sf_isSafe 52 t_Sf_isSafe_52 := dk_go 1 a_Sf_isSafe_51 rfl
theorem a_Sf_isSafe_53 : dk_at b_Sf_isSafe 53 t_Sf_isSafe_53 := dk_go 1 a_Sf_isSafe_52 rfl
theorem a_Sf_isSafe_54 : dk_at b_Sf_isSafe 54 t_Sf_isSafe_54 := dk_go 1 a_Sf_isSafe_53 rfl
theorem a_Sf_isSafe_55 : dk_at b_Sf_isSafe 55 t_Sf_isSafe_55 := dk_go 1 a_Sf_isSafe_54 rfl
theorem a_Sf_isSafe_56 : dk_at b_Sf_isSafe 56 t_Sf_isSafe_56 := dk_go 1 a_Sf_isSafe_55 rfl
theorem a_Sf_isSafe_57 : dk_at b_Sf_isSafe 57 t_Sf_isSafe_57 := dk_go 1 a_Sf_isSafe_56 rfl
theorem a_Sf_isSafe_58 : dk_at b_Sf_isSafe 58 t_Sf_isSafe_58 := dk_go 1 a_Sf_isSafe_57 rfl
theorem a_Sf_isSafe_60 : dk_at b_Sf_isSafe 60 t_Sf_isSafe_60 := dk_go 2 a_Sf_isSafe_58 rfl
theorem a_Sf_isSafe_61 : dk_at b_Sf_isSafe 61 t_Sf_isSafe_61 := dk_go 1 a_Sf_isSafe_60 rfl
theorem a_Sf_isSafe_64 : dk_at b_Sf_isSafe 64 t_Sf_isSafe_64 := dk_go 3 a_Sf_isSafe_61 rfl
theorem a_Sf_isSafe_67 : dk_at b_Sf_isSafe 67 t_Sf_isSafe_67 := dk_go 3 a_Sf_isSafe_64 rfl
theorem a_Sf_isSafe_70 : dk_at b_Sf_isSafe 70 t_Sf_isSafe_70 := dk_go 3 a_Sf_isSafe_67 rfl
theorem a_Sf_isSafe_71 : dk_at b_Sf_isSafe 71 t_Sf_isSafe_71 := dk_go 1 a_Sf_isSafe_70 rfl
theorem a_Sf_isSafe_74 : dk_at b_Sf_isSafe 74 t_Sf_isSafe_74 := dk_go 3 a_Sf_isSafe_71 rfl
theorem a_Sf_isSafe_75 : dk_at b_Sf_isSafe 75 t_Sf_isSafe_75 := dk_go 1 a_Sf_isSafe_74 rfl
theorem a_Sf_isSafe_76 : dk_at b_Sf_isSafe 76 t_Sf_isSafe_76 := dk_go 1 a_Sf_isSafe_75 rfl
theorem a_Sf_isSafe_78 : dk_at b_Sf_isSafe 78 t_Sf_isSafe_78 := dk_go 2 a_Sf_isSafe_76 rfl
theorem a_Sf_isSafe_79 : dk_at b_Sf_isSafe 79 t_Sf_isSafe_79 := dk_go 1 a_Sf_isSafe_78 rfl
theorem a_Sf_isSafe_80 : dk_at b_Sf_isSafe 80 t_Sf_isSafe_80 := dk_go 1 a_Sf_isSafe_79 rfl
theorem a_Sf_isSafe_82 : dk_at b_Sf_isSafe 82 t_Sf_isSafe_82 := dk_go 2 a_Sf_isSafe_80 rfl
theorem a_Sf_isSafe_83 : dk_at b_Sf_isSafe 83 t_Sf_isSafe_83 := dk_go 1 a_Sf_isSafe_82 rfl
theorem a_Sf_isSafe_86 : dk_at b_Sf_isSafe 86 t_Sf_isSafe_86 := dk_go 3 a_Sf_isSafe_83 rfl
theorem a_Sf_isSafe_87 : dk_at b_Sf_isSafe 87 t_Sf_isSafe_87 := dk_go 1 a_Sf_isSafe_86 rfl
theorem a_Sf_isSafe_88 : dk_at b_Sf_isSafe 88 t_Sf_isSafe_88 := dk_go 1 a_Sf_isSafe_87 rfl
theorem a_Sf_isSafe_91 : dk_at b_Sf_isSafe 91 t_Sf_isSafe_91 := dk_go 3 a_Sf_isSafe_88 rfl
theorem a_Sf_isSafe_92 : dk_at b_Sf_isSafe 92 t_Sf_isSafe_92 := dk_go 1 a_Sf_isSafe_91 rfl
theorem a_Sf_isSafe_93 : dk_at b_Sf_isSafe 93 t_Sf_isSafe_93 := dk_go 1 a_Sf_isSafe_92 rfl
theorem a_Sf_isSafe_96 : dk_at b_Sf_isSafe 96 t_Sf_isSafe_96 := dk_go 3 a_Sf_isSafe_93 rfl
theorem a_Sf_isSafe_97 : dk_at b_Sf_isSafe 97 t_Sf_isSafe_97 := dk_go 1 a_Sf_isSafe_96 rfl
theorem a_Sf_isSafe_99 : dk_at b_Sf_isSafe 99 t_Sf_isSafe_99 := dk_go 2 a_Sf_isSafe_97 rfl
theorem a_Sf_isSafe_100 : dk_at b_Sf_isSafe 100 t_Sf_isSafe_100 := dk_go 1 a_Sf_isSafe_99 rfl
theorem a_Sf_isSafe_103 : dk_at b_Sf_isSafe 103 t_Sf_isSafe_103 := dk_go 3 a_Sf_isSafe_100 rfl
theorem a_Sf_isSafe_104 : dk_at b_Sf_isSafe 104 t_Sf_isSafe_104 := dk_go 1 a_Sf_isSafe_103 rfl
theorem a_Sf_isSafe_105 : dk_at b_Sf_isSafe 105 t_Sf_isSafe_105 := dk_go 1 a_Sf_isSafe_104 rfl
theorem a_Sf_isSafe_107 : dk_at b_Sf_isSafe 107 t_Sf_isSafe_107 := dk_go 2 a_Sf_isSafe_105 rfl
theorem a_Sf_isSafe_108 : dk_at b_Sf_isSafe 108 t_Sf_isSafe_108 := dk_go 1 a_Sf_isSafe_107 rfl
theorem a_Sf_isSafe_109 : dk_at b_Sf_isSafe 109 t_Sf_isSafe_109 := dk_go 1 a_Sf_isSafe_108 rfl
theorem a_Sf_isSafe_112 : dk_at b_Sf_isSafe 112 t_Sf_isSafe_112 := dk_go 3 a_Sf_isSafe_109 rfl
theorem a_Sf_isSafe_113 : dk_at b_Sf_isSafe 113 t_Sf_isSafe_113 := dk_go 1 a_Sf_isSafe_112 rfl
theorem a_Sf_isSafe_116 : dk_at b_Sf_isSafe 116 t_Sf_isSafe_116 := dk_go 3 a_Sf_isSafe_113 rfl
theorem a_Sf_isSafe_119 : dk_at b_Sf_isSafe 119 t_Sf_isSafe_119 := dk_go 3 a_Sf_isSafe_116 rfl
theorem a_Sf_isSafe_120 : dk_at b_Sf_isSafe 120 t_Sf_isSafe_120 := dk_go 1 a_Sf_isSafe_119 rfl
theorem a_Sf_isSafe_121 : dk_at b_Sf_isSafe 121 t_Sf_isSafe_121 := dk_go 1 a_Sf_isSafe_120 rfl
theorem a_Sf_isSafe_122 : dk_at b_Sf_isSafe 122 t_Sf_isSafe_122 := dk_go 1 a_Sf_isSafe_121 rfl
theorem a_Sf_isSafe_123 : dk_at b_Sf_isSafe 123 t_Sf_isSafe_123 := dk_go 1 a_Sf_isSafe_122 rfl
theorem a_Sf_isSafe_126 : dk_at b_Sf_isSafe 126 t_Sf_isSafe_126 := dk_go 3 a_Sf_isSafe_123 rfl
theorem a_Sf_isSafe_127 : dk_at b_Sf_isSafe 127 t_Sf_isSafe_127 := dk_go 1 a_Sf_isSafe_126 rfl
theorem a_Sf_isSafe_128 : dk_at b_Sf_isSafe 128 t_Sf_isSafe_128 := dk_go 1 a_Sf_isSafe_127 rfl
theorem a_Sf_isSafe_129 : dk_at b_Sf_isSafe 129 t_Sf_isSafe_129 := dk_go 1 a_Sf_isSafe_128 rfl
theorem a_Sf_isSafe_130 : dk_at b_Sf_isSafe 130 t_Sf_isSafe_130 := dk_go 1 a_Sf_isSafe_129 rfl
theorem a_Sf_isSafe_133 : dk_at b_Sf_isSafe 133 t_Sf_isSafe_133 := dk_go 3 a_Sf_isSafe_130 rfl
theorem a_Sf_isSafe_136 : dk_at b_Sf_isSafe 136 t_Sf_isSafe_136 := dk_go 3 a_Sf_isSafe_133 rfl
theorem a_Sf_isSafe_137 : dk_at b_Sf_isSafe 137 t_Sf_isSafe_137 := dk_go 1 a_Sf_isSafe_136 rfl
theorem d_Sf_isSafe_0 : decode b_Sf_isSafe 0 = .ok (.aload_n 0, 1) := dk_0 a_Sf_isSafe_0 (dko_42 _)
theorem d_Sf_isSafe_1 : decode b_Sf_isSafe 1 = .ok (.iconst 0, 1) := dk_0 a_Sf_isSafe_1 (dko_3 _)
theorem d_Sf_isSafe_2 : decode b_Sf_isSafe 2 = .ok (.putfield 33, 3) := dk_U2 a_Sf_isSafe_2 (dko_181 _) rfl
theorem d_Sf_isSafe_5 : decode b_Sf_isSafe 5 = .ok (.aload_n 0, 1) := dk_0 a_Sf_isSafe_5 (dko_42 _)
theorem d_Sf_isSafe_6 : decode b_Sf_isSafe 6 = .ok (.getfield 9, 3) := dk_U2 a_Sf_isSafe_6 (dko_180 _) rfl
theorem d_Sf_isSafe_9 : decode b_Sf_isSafe 9 = .ok (.lconst 0, 1) := dk_0 a_Sf_isSafe_9 (dko_9 _)
theorem d_Sf_isSafe_10 : decode b_Sf_isSafe 10 = .ok (.invokestatic 37, 3) := dk_U2 a_Sf_isSafe_10 (dko_184 _) rfl
theorem d_Sf_isSafe_13 : decode b_Sf_isSafe 13 = .ok (.aload_n 0, 1) := dk_0 a_Sf_isSafe_13 (dko_42 _)
theorem d_Sf_isSafe_14 : decode b_Sf_isSafe 14 = .ok (.getfield 29, 3) := dk_U2 a_Sf_isSafe_14 (dko_180 _) rfl
theorem d_Sf_isSafe_17 : decode b_Sf_isSafe 17 = .ok (.aload_n 0, 1) := dk_0 a_Sf_isSafe_17 (dko_42 _)
theorem d_Sf_isSafe_18 : decode b_Sf_isSafe 18 = .ok (.getfield 9, 3) := dk_U2 a_Sf_isSafe_18 (dko_180 _) rfl
theorem d_Sf_isSafe_21 : decode b_Sf_isSafe 21 = .ok (.invokevirtual 43, 3) := dk_U2 a_Sf_isSafe_21 (dko_182 _) rfl
theorem d_Sf_isSafe_24 : decode b_Sf_isSafe 24 = .ok (.aload_n 0, 1) := dk_0 a_Sf_isSafe_24 (dko_42 _)
theorem d_Sf_isSafe_25 : decode b_Sf_isSafe 25 = .ok (.invokevirtual 49, 3) := dk_U2 a_Sf_isSafe_25 (dko_182 _) rfl
theorem d_Sf_isSafe_28 : decode b_Sf_isSafe 28 = .ok (.ifCond .ne 5, 3) := dk_S2 a_Sf_isSafe_28 (dko_154 _) (by decide +kernel)
theorem d_Sf_isSafe_31 : decode b_Sf_isSafe 31 = .ok (.iconst 1, 1) := dk_0 a_Sf_isSafe_31 (dko_4 _)
theorem d_Sf_isSafe_32 : decode b_Sf_isSafe 32 = .ok (.ireturn, 1) := dk_0 a_Sf_isSafe_32 (dko_172 _)
set_option maxHeartbeats 4000000 in
set_option maxRecDepth 100000 in
theorem c_Sf_isSafe (l : Launch) (dC : Nat → ClassId) (dI : Nat → Nat → Nat) (cI cB cZ cJ : ClassId) (oSf : Nat) (xf_sources : Nat) (oWa : Nat) (oSt : Nat) (oP1 : Nat) (xst_meeting : Nat) (xf_rivals : Nat) (xf : List Value) (hsf_stock : fx xf 0 (.ref oSt)) (hsf_ways : fx xf 1 (.ref oWa)) (hsf_sources : fx xf 2 (.ref xf_sources)) (hsf_rivals : fx xf 3 (.ref xf_rivals)) (hsf_failure : fx xf 6 (.int 0)) (xw : List Value) (hwa_stock : fx xw 0 (.ref oSt)) (hwa_count : fx xw 1 (.int 0)) (xs_ : List Value) (hst_plant : fx xs_ 0 (.ref oP1)) (hst_meeting : fx xs_ 9 (.ref xst_meeting)) (xp : List Value) (hxp_things : fx xp 0 (.int 0)) (hxp_pipes : fx xp 1 (.int 0)) (sz : Nat) : Met l y_Sf_isSafe w_Sf_isSafe ({ frames := 1, cells := 0, slots := 0, locals := 27 }) (va_Pc [.ref oSf] (PW dC dI cI cB cZ cJ [(oSf, .inr (6, xf)), (xf_sources, .inl (cJ, 15, .inr (.inl (fun _ => 0)))), (oWa, .inr (5, xw)), (oSt, .inr (4, xs_)), (oP1, .inr (3, xp)), (xst_meeting, .inl (cI, 15, .inl (fun _ => 0))), (xf_rivals, .inl (cI, 15, .inl (fun _ => 0)))] sz)) (va_Qi (fun (r : Int32) (_ : Unit) => r = 1) (fun (_ : Unit) (t : State) => ∃ (n_xf : List Value) (n_xf_rivals : Nat → Int32), fx n_xf 0 (.ref oSt) ∧ fx n_xf 1 (.ref oWa) ∧ fx n_xf 2 (.ref xf_sources) ∧ fx n_xf 3 (.ref xf_rivals) ∧ fx n_xf 6 (.int 0) ∧ fx xw 0 (.ref oSt) ∧ fx xw 1 (.int 0) ∧ fx xs_ 0 (.ref oP1) ∧ fx xs_ 9 (.ref xst_meeting) ∧ fx xp 0 (.int 0) ∧ fx xp 1 (.int 0) ∧ va_P (dC, dI) classes [(oSf, .inr (6, n_xf)), (xf_sources, .inl (cJ, 15, .inr (.inl (fun _ => 0)))), (oWa, .inr (5, xw)), (oSt, .inr (4, xs_)), (oP1, .inr (3, xp)), (xst_meeting, .inl (cI, 15, .inl (fun _ => 0))), (xf_rivals, .inl (cI, 15, .inl n_xf_rivals))] t.heap ∧ va_D (va_A [(oSf, .inr (6, xf)), (xf_sources, .inl (cJ, 15, .inr (.inl (fun _ => 0)))), (oWa, .inr (5, xw)), (oSt, .inr (4, xs_)), (oP1, .inr (3, xp)), (xst_meeting, .inl (cI, 15, .inl (fun _ => 0))), (xf_rivals, .inl (cI, 15, .inl (fun _ => 0)))] sz) [(oSf, .inr (6, n_xf)), (xf_sources, .inl (cJ, 15, .inr (.inl (fun _ => 0)))), (oWa, .inr (5, xw)), (oSt, .inr (4, xs_)), (oP1, .inr (3, xp)), (xst_meeting, .inl (cI, 15, .inl (fun _ => 0))), (xf_rivals, .inl (cI, 15, .inl n_xf_rivals))]) (va_A [(oSf, .inr (6, xf)), (xf_sources, .inl (cJ, 15, .inr (.inl (fun _ => 0)))), (oWa, .inr (5, xw)), (oSt, .inr (4, xs_)), (oP1, .inr (3, xp)), (xst_meeting, .inl (cI, 15, .inl (fun _ => 0))), (xf_rivals, .inl (cI, 15, .inl (fun _ => 0)))] sz)) 0 0 (va_A [(oSf, .inr (6, xf)), (xf_sources, .inl (cJ, 15, .inr (.inl (fun _ => 0)))), (oWa, .inr (5, xw)), (oSt, .inr (4, xs_)), (oP1, .inr (3, xp)), (xst_meeting, .inl (cI, 15, .inl (fun _ => 0))), (xf_rivals, .inl (cI, 15, .inl (fun _ => 0)))] sz) := by
  refine Met.ofW (cc := b_Sf_isSafe) (maxL := 4) (ret := (some .boolean)) (by decide) rfl ?_
  intro p e s m args below meth c s₁ B hml hv
  obtain ⟨rfl, hsz, hP, hK, hD⟩ := hv
  have hx := B.exec
  have hb := B.bytes
  have hr := B.returns
  have hts := atoms_spec (ws := w_Sf_isSafe) B.pre
  have hown : s.vm.findClass R_Sf = some m.cls := findClass_of_methodNamed B.named
  have hlocks := B.notSynchronized
  subst hsz
  have hD := hD.self (sz := s.heap.size)
  generalize hAe : va_A [(oSf, .inr (6, xf)), (xf_sources, .inl (cJ, 15, .inr (.inl (fun _ => 0)))), (oWa, .inr (5, xw)), (oSt, .inr (4, xs_)), (oP1, .inr (3, xp)), (xst_meeting, .inl (cI, 15, .inl (fun _ => 0))), (xf_rivals, .inl (cI, 15, .inl (fun _ => 0)))] s.heap.size = A at hD ⊢
  have hA : ∀ q : Nat, s.heap.size ≤ q → A q := fun q h => by rw [← hAe]; exact Or.inr h
  have hS : va_S A s.heap s.heap [] := va_S.rf
  have hP : va_P (dC, dI) classes [(oSf, .inr (6, xf)), (xf_sources, .inl (cJ, 15, .inr (.inl (fun _ => 0)))), (oWa, .inr (5, xw)), (oSt, .inr (4, xs_)), (oP1, .inr (3, xp)), (xst_meeting, .inl (cI, 15, .inl (fun _ => 0))), (xf_rivals, .inl (cI, 15, .inl (fun _ => 0)))] s.heap := hP
  have hl := lv_entry ([.ref oSf]) (n := 4) (Nat.le_of_ble_eq_true rfl)
  rw [lg_entry_eq]
  generalize (lg_sl ([.ref oSf]) ++ List.replicate (4 - (lg_sl ([.ref oSf])).length) Slot.unset).toArray = ls at hl ⊢
  have hl : lv_has ls 4 [(0, .ref oSf)] := hl
  refine lv_aload_n hx hb d_Sf_isSafe_0 rfl (lv_at hl 0 rfl) ?_
  refine lv_iconst (v := 0) hx hb d_Sf_isSafe_1 (by decide) ?_
  refine va_put (D := (dC, dI)) (ci := 6) (v := .int 0) (ty := .int) (C := R_Sf) (T := F_Sf) (N := 10) hx hb hts (fun w h => List.mem_cons_of_mem _ (in_Sf w h)) t_Sf t_Sf_ok n_Sf hown hK.1 hP hD hS 0 rfl rfl 6 (by decide) (hts _ (List.mem_cons_of_mem _ mw_288)) (fun _ h9 => h9) rfl (by decide +kernel) rfl rfl (st_lt hsf_failure) d_Sf_isSafe_2 (fun H locs hP hD hS => ?_)
  have g2_6 : fx (xf.set 6 (.int 0)) 6 (.int 0) := (st_eq hsf_failure)
  have g2_3 : fx (xf.set 6 (.int 0)) 3 (.ref xf_rivals) := (st_ne hsf_rivals (by decide))
  have g2_2 : fx (xf.set 6 (.int 0)) 2 (.ref xf_sources) := (st_ne hsf_sources (by decide))
  have g2_0 : fx (xf.set 6 (.int 0)) 0 (.ref oSt) := (st_ne hsf_stock (by decide))
  have g2_1 : fx (xf.set 6 (.int 0)) 1 (.ref oWa) := (st_ne hsf_ways (by decide))
  have hP : va_P (dC, dI) classes [(oSf, .inr (6, (xf.set 6 (.int 0)))), (xf_sources, .inl (cJ, 15, .inr (.inl (fun _ => 0)))), (oWa, .inr (5, xw)), (oSt, .inr (4, xs_)), (oP1, .inr (3, xp)), (xst_meeting, .inl (cI, 15, .inl (fun _ => 0))), (xf_rivals, .inl (cI, 15, .inl (fun _ => 0)))] H := hP
  have hD : va_D A [(oSf, .inr (6, (xf.set 6 (.int 0)))), (xf_sources, .inl (cJ, 15, .inr (.inl (fun _ => 0)))), (oWa, .inr (5, xw)), (oSt, .inr (4, xs_)), (oP1, .inr (3, xp)), (xst_meeting, .inl (cI, 15, .inl (fun _ => 0))), (xf_rivals, .inl (cI, 15, .inl (fun _ => 0)))] := hD
  refine lv_aload_n hx hb d_Sf_isSafe_5 rfl (lv_at hl 0 rfl) ?_
  refine va_get (D := (dC, dI)) (ci := 6) (v := .ref xf_sources) (C := R_Sf) (T := F_Sf) (N := 10) hx hb hts (fun w h => List.mem_cons_of_mem _ (in_Sf w h)) hown hK.1 hP 0 rfl rfl 2 (by decide) (hts _ (List.mem_cons_of_mem _ mw_284)) (fun _ h9 => h9) g2_2 d_Sf_isSafe_6 ?_
  refine lv_lconst (v := 0) hx hb d_Sf_isSafe_9 (by decide) ?_
  have hPc := hP.sub (ws' := [(xf_sources, .inl (cJ, 15, .inr (.inl (fun _ => 0))))]) [1] rfl
  have hDc := hD.sub (ws' := [(xf_sources, .inl (cJ, 15, .inr (.inl (fun _ => 0))))]) [1] (by decide) rfl
  have hFc := va_free (wc := [(xf_sources, .inl (cJ, 15, .inr (.inl (fun _ => 0))))]) hD hS hA [1] rfl
  refine va_callv (va_runS (As := [.ref xf_sources, .long 0]) (rest := []) ⟨hx, hb, hml, hown, hts⟩ (c_Ar_fillJ l dC dI cI cB cZ cJ 0 xf_sources 15 (fun _ => 0) (by decide) H.size) (va_cwS 2 hts (tb_S2 mw_1096 mw_1021 mw_6 mw_1022) rfl rfl rfl ⟨by decide +kernel, by decide +kernel, by decide +kernel⟩ ⟨(Nat.le_of_ble_eq_true rfl), (Nat.le_of_ble_eq_true rfl)⟩) ⟨pw_blind, pw_pre hPc hK hDc⟩ rfl rfl hl.1 rfl (lv_room (Nat.le_of_ble_eq_true rfl)) d_Sf_isSafe_10 ⟨(Nat.le_of_ble_eq_true rfl), (Nat.le_of_ble_eq_true rfl)⟩) hS (fun q _ h => hFc q h) hFc (fun u t H locs ht hvm hw hB hz1 hk1 hS => ?_)
  obtain ⟨hP1, hD1⟩ := hB
  rw [ht] at hP1
  obtain ⟨hP, hD⟩ := va_join (wr := [(oSf, .inr (6, (xf.set 6 (.int 0)))), (oWa, .inr (5, xw)), (oSt, .inr (4, xs_)), (oP1, .inr (3, xp)), (xst_meeting, .inl (cI, 15, .inl (fun _ => 0))), (xf_rivals, .inl (cI, 15, .inl (fun _ => 0)))]) (w1 := [(xf_sources, .inl (cJ, 15, .inr (.inl (fun _ => 0))))]) hP hD [1] [0, 2, 3, 4, 5, 6] rfl rfl (by decide) (by decide) hk1 hFc hP1 hD1
  have hP : va_P (dC, dI) classes [(oSf, .inr (6, (xf.set 6 (.int 0)))), (oWa, .inr (5, xw)), (oSt, .inr (4, xs_)), (oP1, .inr (3, xp)), (xst_meeting, .inl (cI, 15, .inl (fun _ => 0))), (xf_rivals, .inl (cI, 15, .inl (fun _ => 0))), (xf_sources, .inl (cJ, 15, .inr (.inl (fun _ => 0))))] H := hP
  have hD : va_D A [(oSf, .inr (6, (xf.set 6 (.int 0)))), (oWa, .inr (5, xw)), (oSt, .inr (4, xs_)), (oP1, .inr (3, xp)), (xst_meeting, .inl (cI, 15, .inl (fun _ => 0))), (xf_rivals, .inl (cI, 15, .inl (fun _ => 0))), (xf_sources, .inl (cJ, 15, .inr (.inl (fun _ => 0))))] := hD
  refine lv_aload_n hx hb d_Sf_isSafe_13 rfl (lv_at hl 0 rfl) ?_
  refine va_get (D := (dC, dI)) (ci := 6) (v := .ref oWa) (C := R_Sf) (T := F_Sf) (N := 10) hx hb hts (fun w h => List.mem_cons_of_mem _ (in_Sf w h)) hown hK.1 hP 0 rfl rfl 1 (by decide) (hts _ (List.mem_cons_of_mem _ mw_283)) (fun _ h9 => h9) g2_1 d_Sf_isSafe_14 ?_
  refine lv_aload_n hx hb d_Sf_isSafe_17 rfl (lv_at hl 0 rfl) ?_
  refine va_get (D := (dC, dI)) (ci := 6) (v := .ref xf_sources) (C := R_Sf) (T := F_Sf) (N := 10) hx hb hts (fun w h => List.mem_cons_of_mem _ (in_Sf w h)) hown hK.1 hP 0 rfl rfl 2 (by decide) (hts _ (List.mem_cons_of_mem _ mw_284)) (fun _ h9 => h9) g2_2 d_Sf_isSafe_18 ?_
  have hPc := hP.sub (ws' := [(oWa, .inr (5, xw)), (oSt, .inr (4, xs_)), (oP1, .inr (3, xp))]) [1, 2, 3] rfl
  have hDc := hD.sub (ws' := [(oWa, .inr (5, xw)), (oSt, .inr (4, xs_)), (oP1, .inr (3, xp))]) [1, 2, 3] (by decide) rfl
  have hFc := pu_free hS hA
  refine va_callv (va_runV (C := R_Wa) (As := [.ref xf_sources]) (rest := []) ⟨hx, hb, hml, hown, hts⟩ (c_Wa_addSources l dC dI cI cB cZ cJ oWa oSt oP1 xf_sources xw hwa_stock hwa_count xs_ hst_plant xp hxp_things H.size) (cwV 1 hts (tb_V mw_1097 mw_1098 mw_1099 mw_7 mw_1100) rfl rfl rfl ⟨rfl, by decide +kernel, by decide +kernel, by decide +kernel⟩ ⟨(Nat.le_of_ble_eq_true rfl), (Nat.le_of_ble_eq_true rfl)⟩) ⟨pw_blind, va_recv (q := (R_Wa, F_Wa, 18)) hK.1 hP (ci := 5) (q0 := 1) rfl rfl, pw_pre hPc hK hDc⟩ rfl rfl hl.1 rfl (lv_room (Nat.le_of_ble_eq_true rfl)) d_Sf_isSafe_21 ⟨(Nat.le_of_ble_eq_true rfl), (Nat.le_of_ble_eq_true rfl)⟩) hS (fun q _ h => hFc q h) hFc (fun u t H locs ht hvm hw hB hz1 hk1 hS => ?_)
  have hP := pu_kept hP hk1
  refine lv_aload_n hx hb d_Sf_isSafe_24 rfl (lv_at hl 0 rfl) ?_
  have hPc := hP.sub (ws' := [(oSf, .inr (6, (xf.set 6 (.int 0)))), (oSt, .inr (4, xs_)), (oP1, .inr (3, xp)), (xf_sources, .inl (cJ, 15, .inr (.inl (fun _ => 0)))), (xst_meeting, .inl (cI, 15, .inl (fun _ => 0))), (xf_rivals, .inl (cI, 15, .inl (fun _ => 0)))]) [0, 2, 3, 6, 4, 5] rfl
  have hDc := hD.sub (ws' := [(oSf, .inr (6, (xf.set 6 (.int 0)))), (oSt, .inr (4, xs_)), (oP1, .inr (3, xp)), (xf_sources, .inl (cJ, 15, .inr (.inl (fun _ => 0)))), (xst_meeting, .inl (cI, 15, .inl (fun _ => 0))), (xf_rivals, .inl (cI, 15, .inl (fun _ => 0)))]) [0, 2, 3, 6, 4, 5] (by decide) rfl
  have hFc := va_free (wc := [(oSf, .inr (6, (xf.set 6 (.int 0)))), (oSt, .inr (4, xs_)), (oP1, .inr (3, xp)), (xf_sources, .inl (cJ, 15, .inr (.inl (fun _ => 0)))), (xst_meeting, .inl (cI, 15, .inl (fun _ => 0))), (xf_rivals, .inl (cI, 15, .inl (fun _ => 0)))]) hD hS hA [0, 2, 3, 6, 4, 5] rfl
  refine va_calli (va_runV (C := R_Sf) (As := []) (rest := []) ⟨hx, hb, hml, hown, hts⟩ (c_Sf_findRivals l dC dI cI cB cZ cJ oSf oSt oP1 xf_sources xst_meeting xf_rivals ((xf.set 6 (.int 0))) g2_0 g2_2 g2_3 xs_ hst_plant hst_meeting xp hxp_things hxp_pipes H.size) (cwV 0 hts (tb_V mw_1101 mw_1103 sl_48 mw_8 mw_1104) rfl rfl rfl ⟨rfl, by decide +kernel, by decide +kernel, by decide +kernel⟩ ⟨(Nat.le_of_ble_eq_true rfl), (Nat.le_of_ble_eq_true rfl)⟩) ⟨pw_blind, va_recv (q := (R_Sf, F_Sf, 10)) hK.1 hP (ci := 6) (q0 := 0) rfl rfl, pw_pre hPc hK hDc⟩ rfl rfl hl.1 rfl (lv_room (Nat.le_of_ble_eq_true rfl)) d_Sf_isSafe_25 ⟨(Nat.le_of_ble_eq_true rfl), (Nat.le_of_ble_eq_true rfl)⟩) hS (fun q _ h => hFc q h) hFc (fun r u t H locs ht hvm hw hB hz1 hk1 hS => ?_)
  obtain ⟨f25_3_xf_rivals, k25_3_oSf_0, k25_3_oSf_2, k25_3_oSf_3, k25_3_oSt_0, k25_3_oSt_9, k25_3_oP1_0, k25_3_oP1_1, hP1, hD1⟩ := hB
  rw [ht] at hP1
  obtain ⟨hP, hD⟩ := va_join (wr := [(oWa, .inr (5, xw))]) (w1 := [(oSf, .inr (6, (xf.set 6 (.int 0)))), (oSt, .inr (4, xs_)), (oP1, .inr (3, xp)), (xf_sources, .inl (cJ, 15, .inr (.inl (fun _ => 0)))), (xst_meeting, .inl (cI, 15, .inl (fun _ => 0))), (xf_rivals, .inl (cI, 15, .inl f25_3_xf_rivals))]) hP hD [0, 2, 3, 6, 4, 5] [1] rfl rfl (by decide) (by decide) hk1 hFc hP1 hD1
  have hP : va_P (dC, dI) classes [(oWa, .inr (5, xw)), (oSf, .inr (6, (xf.set 6 (.int 0)))), (oSt, .inr (4, xs_)), (oP1, .inr (3, xp)), (xf_sources, .inl (cJ, 15, .inr (.inl (fun _ => 0)))), (xst_meeting, .inl (cI, 15, .inl (fun _ => 0))), (xf_rivals, .inl (cI, 15, .inl f25_3_xf_rivals))] H := hP
  have hD : va_D A [(oWa, .inr (5, xw)), (oSf, .inr (6, (xf.set 6 (.int 0)))), (oSt, .inr (4, xs_)), (oP1, .inr (3, xp)), (xf_sources, .inl (cJ, 15, .inr (.inl (fun _ => 0)))), (xst_meeting, .inl (cI, 15, .inl (fun _ => 0))), (xf_rivals, .inl (cI, 15, .inl f25_3_xf_rivals))] := hD
  obtain rfl : r = 0 := hw
  refine lv_if_ne (tgt := 33) hx hb d_Sf_isSafe_28 (by decide) (fun h => absurd rfl h) (fun _ => ?_)
  refine lv_iconst (v := 1) hx hb d_Sf_isSafe_31 (by decide) ?_
  have hP := hP.sub (ws' := [(oSf, .inr (6, (xf.set 6 (.int 0)))), (xf_sources, .inl (cJ, 15, .inr (.inl (fun _ => 0)))), (oWa, .inr (5, xw)), (oSt, .inr (4, xs_)), (oP1, .inr (3, xp)), (xst_meeting, .inl (cI, 15, .inl (fun _ => 0))), (xf_rivals, .inl (cI, 15, .inl f25_3_xf_rivals))]) [1, 4, 0, 2, 3, 5, 6] rfl
  have hD := hD.sub (ws' := [(oSf, .inr (6, (xf.set 6 (.int 0)))), (xf_sources, .inl (cJ, 15, .inr (.inl (fun _ => 0)))), (oWa, .inr (5, xw)), (oSt, .inr (4, xs_)), (oP1, .inr (3, xp)), (xst_meeting, .inl (cI, 15, .inl (fun _ => 0))), (xf_rivals, .inl (cI, 15, .inl f25_3_xf_rivals))]) [1, 4, 0, 2, 3, 5, 6] (by decide) rfl
  exact W.zret (v := 1) (ty := .boolean) hx hb hr (by decide) (fun t ht hW => ⟨⟨_, (), rfl, (rfl), ⟨(xf.set 6 (.int 0)), f25_3_xf_rivals, g2_0, g2_1, g2_2, g2_3, g2_6, hwa_stock, hwa_count, hst_plant, hst_meeting, hxp_things, hxp_pipes, by rw [ht]; exact hP, hD⟩⟩, hS.F ht⟩) hS.2.2 d_Sf_isSafe_32
abbrev t_Bh_danger_77 : List UInt8 := 172 :: []
abbrev t_Bh_danger_76 : List UInt8 := 2 :: t_Bh_danger_77
abbrev t_Bh_danger_75 : List UInt8 := 172 :: t_Bh_danger_76
abbrev t_Bh_danger_72 : List UInt8 := 180 :: 1 :: 112 :: t_Bh_danger_75
abbrev t_Bh_danger_69 : List UInt8 := 180 :: 0 :: 44 :: t_Bh_danger_72
abbrev t_Bh_danger_68 : List UInt8 := 42 :: t_Bh_danger_69
abbrev t_Bh_danger_67 : List UInt8 := 172 :: t_Bh_danger_68
abbrev t_Bh_danger_64 : List UInt8 := 180 :: 1 :: 109 :: t_Bh_danger_67
abbrev t_Bh_danger_61 : List UInt8 := 180 :: 0 :: 44 :: t_Bh_danger_64
abbrev t_Bh_danger_60 : List UInt8 := 42 :: t_Bh_danger_61
abbrev t_Bh_danger_59 : List UInt8 := 172 :: t_Bh_danger_60
abbrev t_Bh_danger_56 : List UInt8 := 180 :: 1 :: 106 :: t_Bh_danger_59
abbrev t_Bh_danger_53 : List UInt8 := 180 :: 0 :: 44 :: t_Bh_danger_56
abbrev t_Bh_danger_52 : List UInt8 := 42 :: t_Bh_danger_53
abbrev t_Bh_danger_27 : List UInt8 := 170 :: 0 :: 0 :: 0 :: 49 :: 0 :: 0 :: 0 :: 1 :: 0 :: 0 :: 0 :: 3 :: 0 :: 0 :: 0 :: 25 :: 0 :: 0 :: 0 :: 33 :: 0 :: 0 :: 0 :: 41 :: t_Bh_danger_52
abbrev t_Bh_danger_26 : List UInt8 := 27 :: t_Bh_danger_27
abbrev t_Bh_danger_25 : List UInt8 := 172 :: t_Bh_danger_26
abbrev t_Bh_danger_24 : List UInt8 := 2 :: t_Bh_danger_25
abbrev t_Bh_danger_21 : List UInt8 := 153 :: 0 :: 5 :: t_Bh_danger_24
abbrev t_Bh_danger_20 : List UInt8 := 28 :: t_Bh_danger_21
abbrev t_Bh_danger_19 : List UInt8 := 172 :: t_Bh_danger_20
abbrev t_Bh_danger_16 : List UInt8 := 180 :: 1 :: 103 :: t_Bh_danger_19
abbrev t_Bh_danger_13 : List UInt8 := 180 :: 0 :: 44 :: t_Bh_danger_16
abbrev t_Bh_danger_12 : List UInt8 := 42 :: t_Bh_danger_13
abbrev t_Bh_danger_9 : List UInt8 := 154 :: 0 :: 11 :: t_Bh_danger_12
abbrev t_Bh_danger_8 : List UInt8 := 27 :: t_Bh_danger_9
abbrev t_Bh_danger_7 : List UInt8 := 61 :: t_Bh_danger_8
abbrev t_Bh_danger_4 : List UInt8 := 182 :: 0 :: 218 :: t_Bh_danger_7
abbrev t_Bh_danger_1 : List UInt8 := 180 :: 0 :: 44 :: t_Bh_danger_4
abbrev t_Bh_danger_0 : List UInt8 := 42 :: t_Bh_danger_1
theorem a_Bh_danger_0 : dk_at b_Bh_danger 0 t_Bh_danger_0 := dk_start (by decide +kernel)
theorem a_Bh_danger_1 : dk_at b_Bh_danger 1 t_Bh_danger_1 := dk_go 1 a_Bh_danger_0 rfl
theorem a_Bh_danger_4 : dk_at b_Bh_danger 4 t_Bh_danger_4 := dk_go 3 a_Bh_danger_1 rfl
theorem a_Bh_danger_7 : dk_at b_Bh_danger 7 t_Bh_danger_7 := dk_go 3 a_Bh_danger_4 rfl
theorem a_Bh_danger_8 : dk_at b_Bh_danger 8 t_Bh_danger_8 := dk_go 1 a_Bh_danger_7 rfl
theorem a_Bh_danger_9 : dk_at b_Bh_danger 9 t_Bh_danger_9 := dk_go 1 a_Bh_danger_8 rfl
theorem a_Bh_danger_12 : dk_at b_Bh_danger 12 t_Bh_danger_12 := dk_go 3 a_Bh_danger_9 rfl
theorem a_Bh_danger_13 : dk_at b_Bh_danger 13 t_Bh_danger_13 := dk_go 1 a_Bh_danger_12 rfl
theorem a_Bh_danger_16 : dk_at b_Bh_danger 16 t_Bh_danger_16 := dk_go 3 a_Bh_danger_13 rfl
theorem a_Bh_danger_19 : dk_at b_Bh_danger 19 t_Bh_danger_19 := dk_go 3 a_Bh_danger_16 rfl
theorem a_Bh_danger_20 : dk_at b_Bh_danger 20 t_Bh_danger_20 := dk_go 1 a_Bh_danger_19 rfl
theorem a_Bh_danger_21 : dk_at b_Bh_danger 21 t_Bh_danger_21 := dk_go 1 a_Bh_danger_20 rfl
theorem a_Bh_danger_24 : dk_at b_Bh_danger 24 t_Bh_danger_24 := dk_go 3 a_Bh_danger_21 rfl
theorem a_Bh_danger_25 : dk_at b_Bh_danger 25 t_Bh_danger_25 := dk_go 1 a_Bh_danger_24 rfl
theorem a_Bh_danger_26 : dk_at b_Bh_danger 26 t_Bh_danger_26 := dk_go 1 a_Bh_danger_25 rfl
theorem a_Bh_danger_27 : dk_at b_Bh_danger 27 t_Bh_danger_27 := dk_go 1 a_Bh_danger_26 rfl
theorem a_Bh_danger_52 : dk_at b_Bh_danger 52 t_Bh_danger_52 := dk_go 25 a_Bh_danger_27 rfl
theorem a_Bh_danger_53 : dk_at b_Bh_danger 53 t_Bh_danger_53 := dk_go 1 a_Bh_danger_52 rfl
theorem a_Bh_danger_56 : dk_at b_Bh_danger 56 t_Bh_danger_56 := dk_go 3 a_Bh_danger_53 rfl
theorem a_Bh_danger_59 : dk_at b_Bh_danger 59 t_Bh_danger_59 := dk_go 3 a_Bh_danger_56 rfl
theorem a_Bh_danger_60 : dk_at b_Bh_danger 60 t_Bh_danger_60 := dk_go 1 a_Bh_danger_59 rfl
theorem a_Bh_danger_61 : dk_at b_Bh_danger 61 t_Bh_danger_61 := dk_go 1 a_Bh_danger_60 rfl
theorem a_Bh_danger_64 : dk_at b_Bh_danger 64 t_Bh_danger_64 := dk_go 3 a_Bh_danger_61 rfl
theorem a_Bh_danger_67 : dk_at b_Bh_danger 67 t_Bh_danger_67 := dk_go 3 a_Bh_danger_64 rfl
theorem a_Bh_danger_68 : dk_at b_Bh_danger 68 t_Bh_danger_68 := dk_go 1 a_Bh_danger_67 rfl
theorem a_Bh_danger_69 : dk_at b_Bh_danger 69 t_Bh_danger_69 := dk_go 1 a_Bh_danger_68 rfl
theorem a_Bh_danger_72 : dk_at b_Bh_danger 72 t_Bh_danger_72 := dk_go 3 a_Bh_danger_69 rfl
theorem a_Bh_danger_75 : dk_at b_Bh_danger 75 t_Bh_danger_75 := dk_go 3 a_Bh_danger_72 rfl
theorem a_Bh_danger_76 : dk_at b_Bh_danger 76 t_Bh_danger_76 := dk_go 1 a_Bh_danger_75 rfl
theorem a_Bh_danger_77 : dk_at b_Bh_danger 77 t_Bh_danger_77 := dk_go 1 a_Bh_danger_76 rfl
theorem d_Bh_danger_0 : decode b_Bh_danger 0 = .ok (.aload_n 0, 1) := dk_0 a_Bh_danger_0 (dko_42 _)
theorem d_Bh_danger_1 : decode b_Bh_danger 1 = .ok (.getfield 44, 3) := dk_U2 a_Bh_danger_1 (dko_180 _) rfl
theorem d_Bh_danger_4 : decode b_Bh_danger 4 = .ok (.invokevirtual 218, 3) := dk_U2 a_Bh_danger_4 (dko_182 _) rfl
theorem d_Bh_danger_7 : decode b_Bh_danger 7 = .ok (.istore_n 2, 1) := dk_0 a_Bh_danger_7 (dko_61 _)
theorem d_Bh_danger_8 : decode b_Bh_danger 8 = .ok (.iload_n 1, 1) := dk_0 a_Bh_danger_8 (dko_27 _)
theorem d_Bh_danger_9 : decode b_Bh_danger 9 = .ok (.ifCond .ne 11, 3) := dk_S2 a_Bh_danger_9 (dko_154 _) (by decide +kernel)
theorem d_Bh_danger_12 : decode b_Bh_danger 12 = .ok (.aload_n 0, 1) := dk_0 a_Bh_danger_12 (dko_42 _)
theorem d_Bh_danger_13 : decode b_Bh_danger 13 = .ok (.getfield 44, 3) := dk_U2 a_Bh_danger_13 (dko_180 _) rfl
theorem d_Bh_danger_16 : decode b_Bh_danger 16 = .ok (.getfield 359, 3) := dk_U2 a_Bh_danger_16 (dko_180 _) rfl
theorem d_Bh_danger_19 : decode b_Bh_danger 19 = .ok (.ireturn, 1) := dk_0 a_Bh_danger_19 (dko_172 _)
theorem d_Bh_danger_20 : decode b_Bh_danger 20 = .ok (.iload_n 2, 1) := dk_0 a_Bh_danger_20 (dko_28 _)
theorem d_Bh_danger_21 : decode b_Bh_danger 21 = .ok (.ifCond .eq 5, 3) := dk_S2 a_Bh_danger_21 (dko_153 _) (by decide +kernel)
theorem d_Bh_danger_24 : decode b_Bh_danger 24 = .ok (.iconst (-1), 1) := dk_0 a_Bh_danger_24 (dko_2 _)
theorem d_Bh_danger_25 : decode b_Bh_danger 25 = .ok (.ireturn, 1) := dk_0 a_Bh_danger_25 (dko_172 _)
def fn_Bh_danger (wh : Int32) : Int32 := (if wh = 0 then 0 else (-1))
set_option maxHeartbeats 4000000 in
set_option maxRecDepth 100000 in
theorem c_Bh_danger (l : Launch) (dC : Nat → ClassId) (dI : Nat → Nat → Nat) (cI cB cZ cJ : ClassId) (wh : Int32) (oB : Nat) (oSf : Nat) (xf_sources : Nat) (oWa : Nat) (oSt : Nat) (oP1 : Nat) (xst_meeting : Nat) (xf_rivals : Nat) (xb : List Value) (hb_safety : fx xb 4 (.ref oSf)) (xf : List Value) (hsf_stock : fx xf 0 (.ref oSt)) (hsf_ways : fx xf 1 (.ref oWa)) (hsf_sources : fx xf 2 (.ref xf_sources)) (hsf_rivals : fx xf 3 (.ref xf_rivals)) (hsf_failure : fx xf 6 (.int 0)) (xw : List Value) (hwa_stock : fx xw 0 (.ref oSt)) (hwa_count : fx xw 1 (.int 0)) (xs_ : List Value) (hst_plant : fx xs_ 0 (.ref oP1)) (hst_meeting : fx xs_ 9 (.ref xst_meeting)) (xp : List Value) (hxp_things : fx xp 0 (.int 0)) (hxp_pipes : fx xp 1 (.int 0)) (sz : Nat) : Met l y_Bh_danger w_Bh_danger ({ frames := 2, cells := 0, slots := 0, locals := 50 }) (va_Pc [.ref oB, .int wh] (PW dC dI cI cB cZ cJ [(oB, .inr (0, xb)), (oSf, .inr (6, xf)), (xf_sources, .inl (cJ, 15, .inr (.inl (fun _ => 0)))), (oWa, .inr (5, xw)), (oSt, .inr (4, xs_)), (oP1, .inr (3, xp)), (xst_meeting, .inl (cI, 15, .inl (fun _ => 0))), (xf_rivals, .inl (cI, 15, .inl (fun _ => 0)))] sz)) (va_Qi (fun (r : Int32) (_ : Unit) => r = fn_Bh_danger wh) (fun _ _ => True) (va_A [(oB, .inr (0, xb)), (oSf, .inr (6, xf)), (xf_sources, .inl (cJ, 15, .inr (.inl (fun _ => 0)))), (oWa, .inr (5, xw)), (oSt, .inr (4, xs_)), (oP1, .inr (3, xp)), (xst_meeting, .inl (cI, 15, .inl (fun _ => 0))), (xf_rivals, .inl (cI, 15, .inl (fun _ => 0)))] sz)) 0 0 (va_A [(oB, .inr (0, xb)), (oSf, .inr (6, xf)), (xf_sources, .inl (cJ, 15, .inr (.inl (fun _ => 0)))), (oWa, .inr (5, xw)), (oSt, .inr (4, xs_)), (oP1, .inr (3, xp)), (xst_meeting, .inl (cI, 15, .inl (fun _ => 0))), (xf_rivals, .inl (cI, 15, .inl (fun _ => 0)))] sz) := by
  refine Met.ofW (cc := b_Bh_danger) (maxL := 3) (ret := (some .int)) (by decide) rfl ?_
  intro p e s m args below meth c s₁ B hml hv
  obtain ⟨rfl, hsz, hP, hK, hD⟩ := hv
  have hx := B.exec
  have hb := B.bytes
  have hr := B.returns
  have hts := atoms_spec (ws := w_Bh_danger) B.pre
  have hown : s.vm.findClass R_Bh = some m.cls := findClass_of_methodNamed B.named
  have hlocks := B.notSynchronized
  subst hsz
  have hD := hD.self (sz := s.heap.size)
  generalize hAe : va_A [(oB, .inr (0, xb)), (oSf, .inr (6, xf)), (xf_sources, .inl (cJ, 15, .inr (.inl (fun _ => 0)))), (oWa, .inr (5, xw)), (oSt, .inr (4, xs_)), (oP1, .inr (3, xp)), (xst_meeting, .inl (cI, 15, .inl (fun _ => 0))), (xf_rivals, .inl (cI, 15, .inl (fun _ => 0)))] s.heap.size = A at hD ⊢
  have hA : ∀ q : Nat, s.heap.size ≤ q → A q := fun q h => by rw [← hAe]; exact Or.inr h
  have hS : va_S A s.heap s.heap [] := va_S.rf
  have hP : va_P (dC, dI) classes [(oB, .inr (0, xb)), (oSf, .inr (6, xf)), (xf_sources, .inl (cJ, 15, .inr (.inl (fun _ => 0)))), (oWa, .inr (5, xw)), (oSt, .inr (4, xs_)), (oP1, .inr (3, xp)), (xst_meeting, .inl (cI, 15, .inl (fun _ => 0))), (xf_rivals, .inl (cI, 15, .inl (fun _ => 0)))] s.heap := hP
  have hl := lv_entry ([.ref oB, .int wh]) (n := 3) (Nat.le_of_ble_eq_true rfl)
  rw [lg_entry_eq]
  generalize (lg_sl ([.ref oB, .int wh]) ++ List.replicate (3 - (lg_sl ([.ref oB, .int wh])).length) Slot.unset).toArray = ls at hl ⊢
  have hl : lv_has ls 3 [(0, .ref oB), (1, .int wh)] := hl
  refine lv_aload_n hx hb d_Bh_danger_0 rfl (lv_at hl 0 rfl) ?_
  refine va_get (D := (dC, dI)) (ci := 0) (v := .ref oSf) (C := R_Bh) (T := F_Bh) (N := 16) hx hb hts (fun w h => List.mem_cons_of_mem _ (in_Bh w h)) hown hK.1 hP 0 rfl rfl 4 (by decide) (hts _ (List.mem_cons_of_mem _ mw_688)) (fun _ h9 => h9) hb_safety d_Bh_danger_1 ?_
  have hPc := hP.sub (ws' := [(oSf, .inr (6, xf)), (xf_sources, .inl (cJ, 15, .inr (.inl (fun _ => 0)))), (oWa, .inr (5, xw)), (oSt, .inr (4, xs_)), (oP1, .inr (3, xp)), (xst_meeting, .inl (cI, 15, .inl (fun _ => 0))), (xf_rivals, .inl (cI, 15, .inl (fun _ => 0)))]) [1, 2, 3, 4, 5, 6, 7] rfl
  have hDc := hD.sub (ws' := [(oSf, .inr (6, xf)), (xf_sources, .inl (cJ, 15, .inr (.inl (fun _ => 0)))), (oWa, .inr (5, xw)), (oSt, .inr (4, xs_)), (oP1, .inr (3, xp)), (xst_meeting, .inl (cI, 15, .inl (fun _ => 0))), (xf_rivals, .inl (cI, 15, .inl (fun _ => 0)))]) [1, 2, 3, 4, 5, 6, 7] (by decide) rfl
  have hFc := va_free (wc := [(oSf, .inr (6, xf)), (xf_sources, .inl (cJ, 15, .inr (.inl (fun _ => 0)))), (oWa, .inr (5, xw)), (oSt, .inr (4, xs_)), (oP1, .inr (3, xp)), (xst_meeting, .inl (cI, 15, .inl (fun _ => 0))), (xf_rivals, .inl (cI, 15, .inl (fun _ => 0)))]) hD hS hA [1, 2, 3, 4, 5, 6, 7] rfl
  refine va_calli (va_runV (C := R_Sf) (As := []) (rest := []) ⟨hx, hb, hml, hown, hts⟩ (c_Sf_isSafe l dC dI cI cB cZ cJ oSf xf_sources oWa oSt oP1 xst_meeting xf_rivals xf hsf_stock hsf_ways hsf_sources hsf_rivals hsf_failure xw hwa_stock hwa_count xs_ hst_plant hst_meeting xp hxp_things hxp_pipes s.heap.size) (cwV 0 hts (tb_V mw_1092 mw_1093 mw_1094 mw_8 mw_1095) rfl rfl rfl ⟨rfl, by decide +kernel, by decide +kernel, by decide +kernel⟩ ⟨(Nat.le_of_ble_eq_true rfl), (Nat.le_of_ble_eq_true rfl)⟩) ⟨pw_blind, va_recv (q := (R_Sf, F_Sf, 10)) hK.1 hP (ci := 6) (q0 := 1) rfl rfl, pw_pre hPc hK hDc⟩ rfl rfl hl.1 rfl (lv_room (Nat.le_of_ble_eq_true rfl)) d_Bh_danger_4 ⟨(Nat.le_of_ble_eq_true rfl), (Nat.le_of_ble_eq_true rfl)⟩) hS (fun q _ h => hFc q h) hFc (fun r u t H locs ht hvm hw hB hz1 hk1 hS => ?_)
  obtain ⟨s4_1_oSf, f4_1_xf_rivals, k4_1_oSf_0, k4_1_oSf_1, k4_1_oSf_2, k4_1_oSf_3, k4_1_oSf_6, k4_1_oWa_0, k4_1_oWa_1, k4_1_oSt_0, k4_1_oSt_9, k4_1_oP1_0, k4_1_oP1_1, hP1, hD1⟩ := hB
  rw [ht] at hP1
  obtain ⟨hP, hD⟩ := va_join (wr := [(oB, .inr (0, xb))]) (w1 := [(oSf, .inr (6, s4_1_oSf)), (xf_sources, .inl (cJ, 15, .inr (.inl (fun _ => 0)))), (oWa, .inr (5, xw)), (oSt, .inr (4, xs_)), (oP1, .inr (3, xp)), (xst_meeting, .inl (cI, 15, .inl (fun _ => 0))), (xf_rivals, .inl (cI, 15, .inl f4_1_xf_rivals))]) hP hD [1, 2, 3, 4, 5, 6, 7] [0] rfl rfl (by decide) (by decide) hk1 hFc hP1 hD1
  have hP : va_P (dC, dI) classes [(oB, .inr (0, xb)), (oSf, .inr (6, s4_1_oSf)), (xf_sources, .inl (cJ, 15, .inr (.inl (fun _ => 0)))), (oWa, .inr (5, xw)), (oSt, .inr (4, xs_)), (oP1, .inr (3, xp)), (xst_meeting, .inl (cI, 15, .inl (fun _ => 0))), (xf_rivals, .inl (cI, 15, .inl f4_1_xf_rivals))] H := hP
  have hD : va_D A [(oB, .inr (0, xb)), (oSf, .inr (6, s4_1_oSf)), (xf_sources, .inl (cJ, 15, .inr (.inl (fun _ => 0)))), (oWa, .inr (5, xw)), (oSt, .inr (4, xs_)), (oP1, .inr (3, xp)), (xst_meeting, .inl (cI, 15, .inl (fun _ => 0))), (xf_rivals, .inl (cI, 15, .inl f4_1_xf_rivals))] := hD
  obtain rfl : r = 1 := hw
  refine lv_istore_n hx hb d_Bh_danger_7 rfl hl (by decide) rfl (fun ls hl => ?_)
  have hl : lv_has ls 3 [(2, .int 1), (0, .ref oB), (1, .int wh)] := hl
  refine lv_iload_n hx hb d_Bh_danger_8 rfl (lv_at hl 2 rfl) ?_
  refine lv_if_ne (tgt := 20) hx hb d_Bh_danger_9 (by decide) (fun h9 => ?_) (fun h9 => ?_)
  · refine lv_iload_n hx hb d_Bh_danger_20 rfl (lv_at hl 0 rfl) ?_
    refine lv_if_eq (tgt := 26) hx hb d_Bh_danger_21 (by decide) (fun h => absurd h (by decide)) (fun _ => ?_)
    refine lv_iconst (v := (-1)) hx hb d_Bh_danger_24 (by decide) ?_
    exact W.iret (v := (-1)) hx hb hr (fun t ht hW => ⟨⟨_, (), rfl, (by unfold fn_Bh_danger; rw [if_neg h9]), trivial⟩, hS.F ht⟩) hS.2.2 d_Bh_danger_25
  · refine lv_aload_n hx hb d_Bh_danger_12 rfl (lv_at hl 1 rfl) ?_
    refine va_get (D := (dC, dI)) (ci := 0) (v := .ref oSf) (C := R_Bh) (T := F_Bh) (N := 16) hx hb hts (fun w h => List.mem_cons_of_mem _ (in_Bh w h)) hown hK.1 hP 0 rfl rfl 4 (by decide) (hts _ (List.mem_cons_of_mem _ mw_688)) (fun _ h9 => h9) hb_safety d_Bh_danger_13 ?_
    refine va_get (D := (dC, dI)) (ci := 6) (v := .int 0) (C := R_Sf) (T := F_Sf) (N := 10) hx hb hts (fun w h => List.mem_cons_of_mem _ (in_Sf w h)) hown hK.1 hP 1 rfl rfl 6 (by decide) (hts _ (List.mem_cons_of_mem _ mw_289)) (fun _ h9 => h9) k4_1_oSf_6 d_Bh_danger_16 ?_
    exact W.iret (v := 0) hx hb hr (fun t ht hW => ⟨⟨_, (), rfl, (by unfold fn_Bh_danger; rw [if_pos h9]), trivial⟩, hS.F ht⟩) hS.2.2 d_Bh_danger_19
