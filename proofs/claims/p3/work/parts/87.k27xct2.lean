abbrev b_St_init : ByteArray := prog_10_method_1_code
def y_St_init : MethodName := ⟨R_St, "<init>", "()V"⟩
abbrev w_St_init : List Cond := .code y_St_init b_St_init 1 none :: lw_gd
abbrev b_Sf_init : ByteArray := prog_9_method_1_code
def y_Sf_init : MethodName := ⟨R_Sf, "<init>", "(LBreweryHouse$Stock;LBreweryHouse$Ways;)V"⟩
abbrev w_Sf_init : List Cond := .code y_Sf_init b_Sf_init 3 none :: lw_gd
abbrev b_Ac_init : ByteArray := prog_2_method_1_code
def y_Ac_init : MethodName := ⟨R_Ac, "<init>", "(LBreweryHouse$Stock;LBreweryHouse$Ways;LBreweryHouse$Safety;)V"⟩
abbrev w_Ac_init : List Cond := .code y_Ac_init b_Ac_init 4 none :: lw_gd
abbrev b_Ru_init : ByteArray := prog_8_method_1_code
def y_Ru_init : MethodName := ⟨R_Ru, "<init>", "(LBreweryHouse$Acts;LBreweryHouse$Alarms;LBreweryHouse$Stock;)V"⟩
abbrev w_Ru_init : List Cond := .code y_Ru_init b_Ru_init 4 none :: lw_gd
theorem mw_79 : (.methodLink R_St 3 objectInit : Cond) ∈ lw_gd := tb_mem (i := 79) (by decide +kernel) (by decide +kernel)
theorem mw_80 : (.classLink "BreweryHouse$Stock" 9 "BreweryHouse$Plant" : Cond) ∈ lw_gd := tb_mem (i := 80) (by decide +kernel) (by decide +kernel)
theorem mw_81 : (.instantiable "BreweryHouse$Plant" 12 : Cond) ∈ lw_gd := tb_mem (i := 81) (by decide +kernel) (by decide +kernel)
theorem mw_83 : (.instanceMethod y_Pl_init : Cond) ∈ lw_gd := tb_mem (i := 83) (by decide +kernel) (by decide +kernel)
theorem mw_84 : (.code y_Pl_init b_Pl_init 1 none : Cond) ∈ lw_gd := tb_mem (i := 84) (by decide +kernel) (by decide +kernel)
theorem mw_148 : (.constant "BreweryHouse$Stock" 56 86400 : Cond) ∈ lw_gd := tb_mem (i := 148) (by decide +kernel) (by decide +kernel)
theorem mw_281 : (.methodLink R_Sf 3 objectInit : Cond) ∈ lw_gd := tb_mem (i := 281) (by decide +kernel) (by decide +kernel)
theorem mw_322 : (.methodLink R_Ac 3 objectInit : Cond) ∈ lw_gd := tb_mem (i := 322) (by decide +kernel) (by decide +kernel)
theorem mw_323 : (.classLink "BreweryHouse$Acts" 9 "BreweryHouse$Rows" : Cond) ∈ lw_gd := tb_mem (i := 323) (by decide +kernel) (by decide +kernel)
theorem mw_324 : (.instantiable "BreweryHouse$Rows" 18 : Cond) ∈ lw_gd := tb_mem (i := 324) (by decide +kernel) (by decide +kernel)
theorem mw_326 : (.instanceMethod y_Ro_init : Cond) ∈ lw_gd := tb_mem (i := 326) (by decide +kernel) (by decide +kernel)
theorem mw_327 : (.code y_Ro_init b_Ro_init 1 none : Cond) ∈ lw_gd := tb_mem (i := 327) (by decide +kernel) (by decide +kernel)
theorem mw_389 : (.methodLink "BreweryHouse$Acts" 43 y_Ar_fillI : Cond) ∈ lw_gd := tb_mem (i := 389) (by decide +kernel) (by decide +kernel)
theorem mw_421 : (.methodLink R_Ru 3 objectInit : Cond) ∈ lw_gd := tb_mem (i := 421) (by decide +kernel) (by decide +kernel)
theorem mw_422 : (.classLink "BreweryHouse$Run" 9 "BreweryHouse$Program" : Cond) ∈ lw_gd := tb_mem (i := 422) (by decide +kernel) (by decide +kernel)
theorem mw_423 : (.instantiable "BreweryHouse$Program" 18 : Cond) ∈ lw_gd := tb_mem (i := 423) (by decide +kernel) (by decide +kernel)
theorem mw_425 : (.instanceMethod y_Pr_init : Cond) ∈ lw_gd := tb_mem (i := 425) (by decide +kernel) (by decide +kernel)
theorem mw_426 : (.code y_Pr_init b_Pr_init 1 none : Cond) ∈ lw_gd := tb_mem (i := 426) (by decide +kernel) (by decide +kernel)
theorem df_Pl : ∀ j, j < 12 → defaultValue (t_Pl j) = vp_V [.int 0, .int 0, .null, .null, .null, .null, .null, .null, .null, .null, .int 0, .int 0] j := by decide +kernel
theorem df_Pr : ∀ j, j < 18 → defaultValue (t_Pr j) = vp_V [.int 0, .int 0, .int 0, .null, .null, .null, .null, .null, .null, .null, .int 0, .null, .null, .null, .null, .null, .null, .null] j := by decide +kernel
theorem df_Ro : ∀ j, j < 18 → defaultValue (t_Ro j) = vp_V [.int 0, .int 0, .null, .null, .null, .null, .null, .null, .null, .null, .int 0, .null, .int 0, .int 0, .int 0, .int 0, .int 0, .int 0] j := by decide +kernel
theorem nw_325 : (.methodLinkNest "BreweryHouse$Acts" 11 y_Ro_init "BreweryHouse" : Cond) ∈ lw_nest := nw_mem (i := 325) (by decide +kernel) rfl
theorem nw_424 : (.methodLinkNest "BreweryHouse$Run" 11 y_Pr_init "BreweryHouse" : Cond) ∈ lw_nest := nw_mem (i := 424) (by decide +kernel) rfl
theorem nw_82 : (.methodLinkNest "BreweryHouse$Stock" 11 y_Pl_init "BreweryHouse" : Cond) ∈ lw_nest := nw_mem (i := 82) (by decide +kernel) rfl
abbrev t_St_init_122 : List UInt8 := 177 :: []
abbrev t_St_init_119 : List UInt8 := 184 :: 0 :: 50 :: t_St_init_122
abbrev t_St_init_117 : List UInt8 := 18 :: 56 :: t_St_init_119
abbrev t_St_init_114 : List UInt8 := 180 :: 0 :: 47 :: t_St_init_117
abbrev t_St_init_113 : List UInt8 := 42 :: t_St_init_114
abbrev t_St_init_110 : List UInt8 := 184 :: 0 :: 50 :: t_St_init_113
abbrev t_St_init_109 : List UInt8 := 8 :: t_St_init_110
abbrev t_St_init_106 : List UInt8 := 180 :: 0 :: 44 :: t_St_init_109
abbrev t_St_init_105 : List UInt8 := 42 :: t_St_init_106
abbrev t_St_init_102 : List UInt8 := 184 :: 0 :: 50 :: t_St_init_105
abbrev t_St_init_101 : List UInt8 := 2 :: t_St_init_102
abbrev t_St_init_98 : List UInt8 := 180 :: 0 :: 31 :: t_St_init_101
abbrev t_St_init_97 : List UInt8 := 42 :: t_St_init_98
abbrev t_St_init_94 : List UInt8 := 181 :: 0 :: 47 :: t_St_init_97
abbrev t_St_init_92 : List UInt8 := 188 :: 10 :: t_St_init_94
abbrev t_St_init_90 : List UInt8 := 16 :: 6 :: t_St_init_92
abbrev t_St_init_89 : List UInt8 := 42 :: t_St_init_90
abbrev t_St_init_86 : List UInt8 := 181 :: 0 :: 44 :: t_St_init_89
abbrev t_St_init_84 : List UInt8 := 188 :: 10 :: t_St_init_86
abbrev t_St_init_81 : List UInt8 := 17 :: 0 :: 225 :: t_St_init_84
abbrev t_St_init_80 : List UInt8 := 42 :: t_St_init_81
abbrev t_St_init_77 : List UInt8 := 181 :: 0 :: 41 :: t_St_init_80
abbrev t_St_init_75 : List UInt8 := 188 :: 10 :: t_St_init_77
abbrev t_St_init_73 : List UInt8 := 16 :: 15 :: t_St_init_75
abbrev t_St_init_72 : List UInt8 := 42 :: t_St_init_73
abbrev t_St_init_69 : List UInt8 := 181 :: 0 :: 38 :: t_St_init_72
abbrev t_St_init_67 : List UInt8 := 188 :: 10 :: t_St_init_69
abbrev t_St_init_65 : List UInt8 := 16 :: 24 :: t_St_init_67
abbrev t_St_init_64 : List UInt8 := 42 :: t_St_init_65
abbrev t_St_init_61 : List UInt8 := 181 :: 0 :: 34 :: t_St_init_64
abbrev t_St_init_59 : List UInt8 := 188 :: 11 :: t_St_init_61
abbrev t_St_init_57 : List UInt8 := 16 :: 96 :: t_St_init_59
abbrev t_St_init_56 : List UInt8 := 42 :: t_St_init_57
abbrev t_St_init_53 : List UInt8 := 181 :: 0 :: 31 :: t_St_init_56
abbrev t_St_init_51 : List UInt8 := 188 :: 10 :: t_St_init_53
abbrev t_St_init_48 : List UInt8 := 17 :: 1 :: 8 :: t_St_init_51
abbrev t_St_init_47 : List UInt8 := 42 :: t_St_init_48
abbrev t_St_init_44 : List UInt8 := 181 :: 0 :: 28 :: t_St_init_47
abbrev t_St_init_42 : List UInt8 := 188 :: 10 :: t_St_init_44
abbrev t_St_init_40 : List UInt8 := 16 :: 44 :: t_St_init_42
abbrev t_St_init_39 : List UInt8 := 42 :: t_St_init_40
abbrev t_St_init_36 : List UInt8 := 181 :: 0 :: 25 :: t_St_init_39
abbrev t_St_init_34 : List UInt8 := 188 :: 10 :: t_St_init_36
abbrev t_St_init_32 : List UInt8 := 16 :: 44 :: t_St_init_34
abbrev t_St_init_31 : List UInt8 := 42 :: t_St_init_32
abbrev t_St_init_28 : List UInt8 := 181 :: 0 :: 22 :: t_St_init_31
abbrev t_St_init_26 : List UInt8 := 188 :: 10 :: t_St_init_28
abbrev t_St_init_24 : List UInt8 := 16 :: 44 :: t_St_init_26
abbrev t_St_init_23 : List UInt8 := 42 :: t_St_init_24
abbrev t_St_init_20 : List UInt8 := 181 :: 0 :: 18 :: t_St_init_23
abbrev t_St_init_18 : List UInt8 := 188 :: 10 :: t_St_init_20
abbrev t_St_init_16 : List UInt8 := 16 :: 20 :: t_St_init_18
abbrev t_St_init_15 : List UInt8 := 42 :: t_St_init_16
abbrev t_St_init_12 : List UInt8 := 181 :: 0 :: 12 :: t_St_init_15
abbrev t_St_init_9 : List UInt8 := 183 :: 0 :: 11 :: t_St_init_12
abbrev t_St_init_8 : List UInt8 := 89 :: t_St_init_9
abbrev t_St_init_5 : List UInt8 := 187 :: 0 :: 9 :: t_St_init_8
abbrev t_St_init_4 : List UInt8 := 42 :: t_St_init_5
abbrev t_St_init_1 : List UInt8 := 183 :: 0 :: 3 :: t_St_init_4
abbrev t_St_init_0 : List UInt8 := 42 :: t_St_init_1
theorem a_St_init_0 : dk_at b_St_init 0 t_St_init_0 := dk_start (by decide +kernel)
theorem a_St_init_1 : dk_at b_St_init 1 t_St_init_1 := dk_go 1 a_St_init_0 rfl
theorem a_St_init_4 : dk_at b_St_init 4 t_St_init_4 := dk_go 3 a_St_init_1 rfl
theorem a_St_init_5 : dk_at b_St_init 5 t_St_init_5 := dk_go 1 a_St_init_4 rfl
theorem a_St_init_8 : dk_at b_St_init 8 t_St_init_8 := dk_go 3 a_St_init_5 rfl
theorem a_St_init_9 : dk_at b_St_init 9 t_St_init_9 := dk_go 1 a_St_init_8 rfl
theorem a_St_init_12 : dk_at b_St_init 12 t_St_init_12 := dk_go 3 a_St_init_9 rfl
theorem a_St_init_15 : dk_at b_St_init 15 t_St_init_15 := dk_go 3 a_St_init_12 rfl
theorem a_St_init_16 : dk_at b_St_init 16 t_St_init_16 := dk_go 1 a_St_init_15 rfl
theorem a_St_init_18 : dk_at b_St_init 18 t_St_init_18 := dk_go 2 a_St_init_16 rfl
theorem a_St_init_20 : dk_at b_St_init 20 t_St_init_20 := dk_go 2 a_St_init_18 rfl
theorem a_St_init_23 : dk_at b_St_init 23 t_St_init_23 := dk_go 3 a_St_init_20 rfl
theorem a_St_init_24 : dk_at b_St_init 24 t_St_init_24 := dk_go 1 a_St_init_23 rfl
theorem a_St_init_26 : dk_at b_St_init 26 t_St_init_26 := dk_go 2 a_St_init_24 rfl
theorem a_St_init_28 : dk_at b_St_init 28 t_St_init_28 := dk_go 2 a_St_init_26 rfl
theorem a_St_init_31 : dk_at b_St_init 31 t_St_init_31 := dk_go 3 a_St_init_28 rfl
theorem a_St_init_32 : dk_at b_St_init 32 t_St_init_32 := dk_go 1 a_St_init_31 rfl
theorem a_St_init_34 : dk_at b_St_init 34 t_St_init_34 := dk_go 2 a_St_init_32 rfl
theorem a_St_init_36 : dk_at b_St_init 36 t_St_init_36 := dk_go 2 a_St_init_34 rfl
theorem a_St_init_39 : dk_at b_St_init 39 t_St_init_39 := dk_go 3 a_St_init_36 rfl
theorem a_St_init_40 : dk_at b_St_init 40 t_St_init_40 := dk_go 1 a_St_init_39 rfl
theorem a_St_init_42 : dk_at b_St_init 42 t_St_init_42 := dk_go 2 a_St_init_40 rfl
theorem a_St_init_44 : dk_at b_St_init 44 t_St_init_44 := dk_go 2 a_St_init_42 rfl
theorem a_St_init_47 : dk_at b_St_init 47 t_St_init_47 := dk_go 3 a_St_init_44 rfl
theorem a_St_init_48 : dk_at b_St_init 48 t_St_init_48 := dk_go 1 a_St_init_47 rfl
theorem a_St_init_51 : dk_at b_St_init 51 t_St_init_51 := dk_go 3 a_St_init_48 rfl
theorem a_St_init_53 : dk_at b_St_init 53 t_St_init_53 := dk_go 2 a_St_init_51 rfl
theorem a_St_init_56 : dk_at b_St_init 56 t_St_init_56 := dk_go 3 a_St_init_53 rfl
theorem a_St_init_57 : dk_at b_St_init 57 t_St_init_57 := dk_go 1 a_St_init_56 rfl
theorem a_St_init_59 : dk_at b_St_init 59 t_St_init_59 := dk_go 2 a_St_init_57 rfl
theorem a_St_init_61 : dk_at b_St_init 61 t_St_init_61 := dk_go 2 a_St_init_59 rfl
theorem a_St_init_64 : dk_at b_St_init 64 t_St_init_64 := dk_go 3 a_St_init_61 rfl
theorem a_St_init_65 : dk_at b_St_init 65 t_St_init_65 := dk_go 1 a_St_init_64 rfl
theorem a_St_init_67 : dk_at b_St_init 67 t_St_init_67 := dk_go 2 a_St_init_65 rfl
theorem a_St_init_69 : dk_at b_St_init 69 t_St_init_69 := dk_go 2 a_St_init_67 rfl
theorem a_St_init_72 : dk_at b_St_init 72 t_St_init_72 := dk_go 3 a_St_init_69 rfl
theorem a_St_init_73 : dk_at b_St_init 73 t_St_init_73 := dk_go 1 a_St_init_72 rfl
theorem a_St_init_75 : dk_at b_St_init 75 t_St_init_75 := dk_go 2 a_St_init_73 rfl
theorem a_St_init_77 : dk_at b_St_init 77 t_St_init_77 := dk_go 2 a_St_init_75 rfl
theorem a_St_init_80 : dk_at b_St_init 80 t_St_init_80 := dk_go 3 a_St_init_77 rfl
theorem a_St_init_81 : dk_at b_St_init 81 t_St_init_81 := dk_go 1 a_St_init_80 rfl
theorem a_St_init_84 : dk_at b_St_init 84 t_St_init_84 := dk_go 3 a_St_init_81 rfl
theorem a_St_init_86 : dk_at b_St_init 86 t_St_init_86 := dk_go 2 a_St_init_84 rfl
theorem a_St_init_89 : dk_at b_St_init 89 t_St_init_89 := dk_go 3 a_St_init_86 rfl
theorem a_St_init_90 : dk_at b_St_init 90 t_St_init_90 := dk_go 1 a_St_init_89 rfl
theorem a_St_init_92 : dk_at b_St_init 92 t_St_init_92 := dk_go 2 a_St_init_90 rfl
theorem a_St_init_94 : dk_at b_St_init 94 t_St_init_94 := dk_go 2 a_St_init_92 rfl
theorem a_St_init_97 : dk_at b_St_init 97 t_St_init_97 := dk_go 3 a_St_init_94 rfl
theorem a_St_init_98 : dk_at b_St_init 98 t_St_init_98 := dk_go 1 a_St_init_97 rfl
theorem a_St_init_101 : dk_at b_St_init 101 t_St_init_101 := dk_go 3 a_St_init_98 rfl
theorem a_St_init_102 : dk_at b_St_init 102 t_St_init_102 := dk_go 1 a_St_init_101 rfl
theorem a_St_init_105 : dk_at b_St_init 105 t_St_init_105 := dk_go 3 a_St_init_102 rfl
theorem a_St_init_106 : dk_at b_St_init 106 t_St_init_106 := dk_go 1 a_St_init_105 rfl
theorem a_St_init_109 : dk_at b_St_init 109 t_St_init_109 := dk_go 3 a_St_init_106 rfl
theorem a_St_init_110 : dk_at b_St_init 110 t_St_init_110 := dk_go 1 a_St_init_109 rfl
theorem a_St_init_113 : dk_at b_St_init 113 t_St_init_113 := dk_go 3 a_St_init_110 rfl
theorem a_St_init_114 : dk_at b_St_init 114 t_St_init_114 := dk_go 1 a_St_init_113 rfl
theorem a_St_init_117 : dk_at b_St_init 117 t_St_init_117 := dk_go 3 a_St_init_114 rfl
theorem a_St_init_119 : dk_at b_St_init 119 t_St_init_119 := dk_go 2 a_St_init_117 rfl
theorem a_St_init_122 : dk_at b_St_init 122 t_St_init_122 := dk_go 3 a_St_init_119 rfl
theorem d_St_init_0 : decode b_St_init 0 = .ok (.aload_n 0, 1) := dk_0 a_St_init_0 (dko_42 _)
theorem d_St_init_1 : decode b_St_init 1 = .ok (.invokespecial 3, 3) := dk_U2 a_St_init_1 (dko_183 _) rfl
theorem d_St_init_4 : decode b_St_init 4 = .ok (.aload_n 0, 1) := dk_0 a_St_init_4 (dko_42 _)
theorem d_St_init_5 : decode b_St_init 5 = .ok (.new 9, 3) := dk_U2 a_St_init_5 (dko_187 _) rfl
theorem d_St_init_8 : decode b_St_init 8 = .ok (.dup, 1) := dk_0 a_St_init_8 (dko_89 _)
theorem d_St_init_9 : decode b_St_init 9 = .ok (.invokespecial 11, 3) := dk_U2 a_St_init_9 (dko_183 _) rfl
theorem d_St_init_12 : decode b_St_init 12 = .ok (.putfield 12, 3) := dk_U2 a_St_init_12 (dko_181 _) rfl
theorem d_St_init_15 : decode b_St_init 15 = .ok (.aload_n 0, 1) := dk_0 a_St_init_15 (dko_42 _)
theorem d_St_init_16 : decode b_St_init 16 = .ok (.bipush 20, 2) := dk_S1 a_St_init_16 (dko_16 _) (by decide +kernel)
theorem d_St_init_18 : decode b_St_init 18 = .ok (.newarray .int, 2) := dk_N a_St_init_18 (dko_188 _) rfl
theorem d_St_init_20 : decode b_St_init 20 = .ok (.putfield 18, 3) := dk_U2 a_St_init_20 (dko_181 _) rfl
theorem d_St_init_23 : decode b_St_init 23 = .ok (.aload_n 0, 1) := dk_0 a_St_init_23 (dko_42 _)
theorem d_St_init_24 : decode b_St_init 24 = .ok (.bipush 44, 2) := dk_S1 a_St_init_24 (dko_16 _) (by decide +kernel)
theorem d_St_init_26 : decode b_St_init 26 = .ok (.newarray .int, 2) := dk_N a_St_init_26 (dko_188 _) rfl
theorem d_St_init_28 : decode b_St_init 28 = .ok (.putfield 22, 3) := dk_U2 a_St_init_28 (dko_181 _) rfl
theorem d_St_init_31 : decode b_St_init 31 = .ok (.aload_n 0, 1) := dk_0 a_St_init_31 (dko_42 _)
theorem d_St_init_32 : decode b_St_init 32 = .ok (.bipush 44, 2) := dk_S1 a_St_init_32 (dko_16 _) (by decide +kernel)
theorem d_St_init_34 : decode b_St_init 34 = .ok (.newarray .int, 2) := dk_N a_St_init_34 (dko_188 _) rfl
theorem d_St_init_36 : decode b_St_init 36 = .ok (.putfield 25, 3) := dk_U2 a_St_init_36 (dko_181 _) rfl
theorem d_St_init_39 : decode b_St_init 39 = .ok (.aload_n 0, 1) := dk_0 a_St_init_39 (dko_42 _)
theorem d_St_init_40 : decode b_St_init 40 = .ok (.bipush 44, 2) := dk_S1 a_St_init_40 (dko_16 _) (by decide +kernel)
theorem d_St_init_42 : decode b_St_init 42 = .ok (.newarray .int, 2) := dk_N a_St_init_42 (dko_188 _) rfl
theorem d_St_init_44 : decode b_St_init 44 = .ok (.putfield 28, 3) := dk_U2 a_St_init_44 (dko_181 _) rfl
theorem d_St_init_47 : decode b_St_init 47 = .ok (.aload_n 0, 1) := dk_0 a_St_init_47 (dko_42 _)
theorem d_St_init_48 : decode b_St_init 48 = .ok (.sipush 264, 3) := dk_S2 a_St_init_48 (dko_17 _) (by decide +kernel)
theorem d_St_init_51 : decode b_St_init 51 = .ok (.newarray .int, 2) := dk_N a_St_init_51 (dko_188 _) rfl
theorem d_St_init_53 : decode b_St_init 53 = .ok (.putfield 31, 3) := dk_U2 a_St_init_53 (dko_181 _) rfl
theorem d_St_init_56 : decode b_St_init 56 = .ok (.aload_n 0, 1) := dk_0 a_St_init_56 (dko_42 _)
theorem d_St_init_57 : decode b_St_init 57 = .ok (.bipush 96, 2) := dk_S1 a_St_init_57 (dko_16 _) (by decide +kernel)
theorem d_St_init_59 : decode b_St_init 59 = .ok (.newarray .long, 2) := dk_N a_St_init_59 (dko_188 _) rfl
theorem d_St_init_61 : decode b_St_init 61 = .ok (.putfield 34, 3) := dk_U2 a_St_init_61 (dko_181 _) rfl
theorem d_St_init_64 : decode b_St_init 64 = .ok (.aload_n 0, 1) := dk_0 a_St_init_64 (dko_42 _)
theorem d_St_init_65 : decode b_St_init 65 = .ok (.bipush 24, 2) := dk_S1 a_St_init_65 (dko_16 _) (by decide +kernel)
theorem d_St_init_67 : decode b_St_init 67 = .ok (.newarray .int, 2) := dk_N a_St_init_67 (dko_188 _) rfl
theorem d_St_init_69 : decode b_St_init 69 = .ok (.putfield 38, 3) := dk_U2 a_St_init_69 (dko_181 _) rfl
theorem d_St_init_72 : decode b_St_init 72 = .ok (.aload_n 0, 1) := dk_0 a_St_init_72 (dko_42 _)
theorem d_St_init_73 : decode b_St_init 73 = .ok (.bipush 15, 2) := dk_S1 a_St_init_73 (dko_16 _) (by decide +kernel)
theorem d_St_init_75 : decode b_St_init 75 = .ok (.newarray .int, 2) := dk_N a_St_init_75 (dko_188 _) rfl
theorem d_St_init_77 : decode b_St_init 77 = .ok (.putfield 41, 3) := dk_U2 a_St_init_77 (dko_181 _) rfl
theorem d_St_init_80 : decode b_St_init 80 = .ok (.aload_n 0, 1) := dk_0 a_St_init_80 (dko_42 _)
theorem d_St_init_81 : decode b_St_init 81 = .ok (.sipush 225, 3) := dk_S2 a_St_init_81 (dko_17 _) (by decide +kernel)
theorem d_St_init_84 : decode b_St_init 84 = .ok (.newarray .int, 2) := dk_N a_St_init_84 (dko_188 _) rfl
theorem d_St_init_86 : decode b_St_init 86 = .ok (.putfield 44, 3) := dk_U2 a_St_init_86 (dko_181 _) rfl
theorem d_St_init_89 : decode b_St_init 89 = .ok (.aload_n 0, 1) := dk_0 a_St_init_89 (dko_42 _)
theorem d_St_init_90 : decode b_St_init 90 = .ok (.bipush 6, 2) := dk_S1 a_St_init_90 (dko_16 _) (by decide +kernel)
theorem d_St_init_92 : decode b_St_init 92 = .ok (.newarray .int, 2) := dk_N a_St_init_92 (dko_188 _) rfl
theorem d_St_init_94 : decode b_St_init 94 = .ok (.putfield 47, 3) := dk_U2 a_St_init_94 (dko_181 _) rfl
theorem d_St_init_97 : decode b_St_init 97 = .ok (.aload_n 0, 1) := dk_0 a_St_init_97 (dko_42 _)
theorem d_St_init_98 : decode b_St_init 98 = .ok (.getfield 31, 3) := dk_U2 a_St_init_98 (dko_180 _) rfl
theorem d_St_init_101 : decode b_St_init 101 = .ok (.iconst (-1), 1) := dk_0 a_St_init_101 (dko_2 _)
theorem d_St_init_102 : decode b_St_init 102 = .ok (.invokestatic 50, 3) := dk_U2 a_St_init_102 (dko_184 _) rfl
theorem d_St_init_105 : decode b_St_init 105 = .ok (.aload_n 0, 1) := dk_0 a_St_init_105 (dko_42 _)
theorem d_St_init_106 : decode b_St_init 106 = .ok (.getfield 44, 3) := dk_U2 a_St_init_106 (dko_180 _) rfl
theorem d_St_init_109 : decode b_St_init 109 = .ok (.iconst 5, 1) := dk_0 a_St_init_109 (dko_8 _)
theorem d_St_init_110 : decode b_St_init 110 = .ok (.invokestatic 50, 3) := dk_U2 a_St_init_110 (dko_184 _) rfl
theorem d_St_init_113 : decode b_St_init 113 = .ok (.aload_n 0, 1) := dk_0 a_St_init_113 (dko_42 _)
theorem d_St_init_114 : decode b_St_init 114 = .ok (.getfield 47, 3) := dk_U2 a_St_init_114 (dko_180 _) rfl
theorem d_St_init_117 : decode b_St_init 117 = .ok (.ldc 56, 2) := dk_U1 a_St_init_117 (dko_18 _) rfl
theorem d_St_init_119 : decode b_St_init 119 = .ok (.invokestatic 50, 3) := dk_U2 a_St_init_119 (dko_184 _) rfl
theorem d_St_init_122 : decode b_St_init 122 = .ok (.return_, 1) := dk_0 a_St_init_122 (dko_177 _)
set_option maxHeartbeats 4000000 in
set_option maxRecDepth 100000 in
theorem c_St_init (l : Launch) (dC : Nat → ClassId) (dI : Nat → Nat → Nat) (cI cB cZ cJ : ClassId) (h0 : Nat) (sz : Nat) : Met l y_St_init w_St_init ({ frames := 2, cells := 18, slots := 1054, locals := 40 }) (va_Pc [.ref h0] (PW dC dI cI cB cZ cJ [(h0, .inr (4, [.null, .int 0, .null, .null, .null, .null, .null, .null, .null, .null, .null, .null]))] sz)) (va_Qv (fun _ : Unit => True) (fun (_ : Unit) (t : State) => ∃ q5 q7_9 q15_9 q23_9 q31_9 q39_9 q47_9 q55_9 q18 q26 q34 q42 q59 q67 q75 q51 q84 q92 : Nat, va_P (dC, dI) classes [(h0, .inr (4, [.ref q5, .int 0, .ref q18, .ref q26, .ref q34, .ref q42, .ref q51, .ref q59, .ref q67, .ref q75, .ref q84, .ref q92])), (q5, .inr (3, [.int 0, .int 0, .ref q7_9, .ref q15_9, .ref q23_9, .ref q31_9, .ref q39_9, .ref q47_9, .ref q55_9, .null, .int 0, .int 0])), (q7_9, .inl (cI, 20, .inl (fun _ => 0))), (q15_9, .inl (cI, 20, .inl (fun _ => 0))), (q23_9, .inl (cI, 20, .inl (fun _ => 0))), (q31_9, .inl (cI, 24, .inl (fun _ => 0))), (q39_9, .inl (cI, 48, .inl (fun _ => 0))), (q47_9, .inl (cI, 48, .inl (fun _ => 0))), (q55_9, .inl (cI, 80, .inl (fun _ => 0))), (q18, .inl (cI, 20, .inl (fun _ => 0))), (q26, .inl (cI, 44, .inl (fun _ => 0))), (q34, .inl (cI, 44, .inl (fun _ => 0))), (q42, .inl (cI, 44, .inl (fun _ => 0))), (q59, .inl (cJ, 96, .inr (.inl (fun _ => 0)))), (q67, .inl (cI, 24, .inl (fun _ => 0))), (q75, .inl (cI, 15, .inl (fun _ => 0))), (q51, .inl (cI, 264, .inl ((fun _ => (-1))))), (q84, .inl (cI, 225, .inl (fun _ => 5))), (q92, .inl (cI, 6, .inl (fun _ => 86400)))] t.heap ∧ va_D (va_A [(h0, .inr (4, [.null, .int 0, .null, .null, .null, .null, .null, .null, .null, .null, .null, .null]))] sz) [(h0, .inr (4, [.ref q5, .int 0, .ref q18, .ref q26, .ref q34, .ref q42, .ref q51, .ref q59, .ref q67, .ref q75, .ref q84, .ref q92])), (q5, .inr (3, [.int 0, .int 0, .ref q7_9, .ref q15_9, .ref q23_9, .ref q31_9, .ref q39_9, .ref q47_9, .ref q55_9, .null, .int 0, .int 0])), (q7_9, .inl (cI, 20, .inl (fun _ => 0))), (q15_9, .inl (cI, 20, .inl (fun _ => 0))), (q23_9, .inl (cI, 20, .inl (fun _ => 0))), (q31_9, .inl (cI, 24, .inl (fun _ => 0))), (q39_9, .inl (cI, 48, .inl (fun _ => 0))), (q47_9, .inl (cI, 48, .inl (fun _ => 0))), (q55_9, .inl (cI, 80, .inl (fun _ => 0))), (q18, .inl (cI, 20, .inl (fun _ => 0))), (q26, .inl (cI, 44, .inl (fun _ => 0))), (q34, .inl (cI, 44, .inl (fun _ => 0))), (q42, .inl (cI, 44, .inl (fun _ => 0))), (q59, .inl (cJ, 96, .inr (.inl (fun _ => 0)))), (q67, .inl (cI, 24, .inl (fun _ => 0))), (q75, .inl (cI, 15, .inl (fun _ => 0))), (q51, .inl (cI, 264, .inl ((fun _ => (-1))))), (q84, .inl (cI, 225, .inl (fun _ => 5))), (q92, .inl (cI, 6, .inl (fun _ => 86400)))]) (va_A [(h0, .inr (4, [.null, .int 0, .null, .null, .null, .null, .null, .null, .null, .null, .null, .null]))] sz)) 18 1054 (va_A [(h0, .inr (4, [.null, .int 0, .null, .null, .null, .null, .null, .null, .null, .null, .null, .null]))] sz) := by
  refine Met.ofW (cc := b_St_init) (maxL := 1) (ret := none) (by decide) rfl ?_
  intro p e s m args below meth c s₁ B hml hv
  obtain ⟨rfl, hsz, hP, hK, hD⟩ := hv
  have hx := B.exec
  have hb := B.bytes
  have hr := B.returns
  have hts := atoms_spec (ws := w_St_init) B.pre
  have hown : s.vm.findClass R_St = some m.cls := findClass_of_methodNamed B.named
  have hlocks := B.notSynchronized
  have hin : meth.name = "<init>" := (name_of_methodNamed B.named B.method).1
  subst hsz
  have hD := hD.self (sz := s.heap.size)
  generalize hAe : va_A [(h0, .inr (4, [.null, .int 0, .null, .null, .null, .null, .null, .null, .null, .null, .null, .null]))] s.heap.size = A at hD ⊢
  have hA : ∀ q : Nat, s.heap.size ≤ q → A q := fun q h => by rw [← hAe]; exact Or.inr h
  have hS : va_S A s.heap s.heap [] := va_S.rf
  have hP : va_P (dC, dI) classes [(h0, .inr (4, [.null, .int 0, .null, .null, .null, .null, .null, .null, .null, .null, .null, .null]))] s.heap := hP
  have hl := lv_entry ([.ref h0]) (n := 1) (Nat.le_of_ble_eq_true rfl)
  rw [lg_entry_eq]
  generalize (lg_sl ([.ref h0]) ++ List.replicate (1 - (lg_sl ([.ref h0])).length) Slot.unset).toArray = ls at hl ⊢
  have hl : lv_has ls 1 [(0, .ref h0)] := hl
  refine lv_aload_n hx hb d_St_init_0 rfl (lv_at hl 0 rfl) ?_
  refine W.objInit hx hb hown (hts _ (List.mem_cons_of_mem _ mw_79)) (hts _ (List.mem_cons_of_mem _ mw_30)) (hts _ (List.mem_cons_of_mem _ mw_31)) rfl (by rw [hml]; exact hl.1) rfl d_St_init_1 (Nat.le_of_ble_eq_true rfl) (Nat.le_of_ble_eq_true rfl) ?_
  refine W.eq (g2 := F0 m 4 ls []) rfl ?_
  refine lv_aload_n hx hb d_St_init_4 rfl (lv_at hl 0 rfl) ?_
  refine va_new (ci := 3) (fs := [.int 0, .int 0, .null, .null, .null, .null, .null, .null, .null, .null, .int 0, .int 0]) (C := R_Pl) (T := F_Pl) (N := 12) hx hb hts (fun w h => List.mem_cons_of_mem _ (in_Pl w h)) t_Pl t_Pl_ok hown (hts _ (List.mem_cons_of_mem _ mw_80)) (hts _ (List.mem_cons_of_mem _ mw_81)) (hts _ (List.mem_cons_of_mem _ mw_5)) hK.1 hP hD hS hA rfl df_Pl (Nat.le_of_ble_eq_true rfl) (Nat.le_of_ble_eq_true rfl) d_St_init_5 (fun q5 H hP hD hS => ?_)
  refine W.widen (k := 1) (n := 12) (Nat.le_refl _) (Nat.le_refl _) ?_
  have hP : va_P (dC, dI) classes [(h0, .inr (4, [.null, .int 0, .null, .null, .null, .null, .null, .null, .null, .null, .null, .null])), (q5, .inr (3, [.int 0, .int 0, .null, .null, .null, .null, .null, .null, .null, .null, .int 0, .int 0]))] H := hP
  have hD : va_D A [(h0, .inr (4, [.null, .int 0, .null, .null, .null, .null, .null, .null, .null, .null, .null, .null])), (q5, .inr (3, [.int 0, .int 0, .null, .null, .null, .null, .null, .null, .null, .null, .int 0, .int 0]))] := hD
  refine lv_dup hx hb d_St_init_8 rfl ?_
  have hPc := hP.sub (ws' := [(q5, .inr (3, [.int 0, .int 0, .null, .null, .null, .null, .null, .null, .null, .null, .int 0, .int 0]))]) [1] rfl
  have hDc := hD.sub (ws' := [(q5, .inr (3, [.int 0, .int 0, .null, .null, .null, .null, .null, .null, .null, .null, .int 0, .int 0]))]) [1] (by decide) rfl
  have hFc := va_free (wc := [(q5, .inr (3, [.int 0, .int 0, .null, .null, .null, .null, .null, .null, .null, .null, .int 0, .int 0]))]) hD hS hA [1] rfl
  refine va_callv (va_runIN (As := []) (rest := [.ref q5, .ref h0]) ⟨hx, hb, hml, hown, hts⟩ (c_Pl_init l dC dI cI cB cZ cJ q5 H.size) ⟨va_cnB 0 hts (tb_in mw_84) rfl rfl rfl (hK.2 _ nw_82) (hts _ (List.mem_cons_of_mem _ mw_5)) ⟨by decide +kernel, by decide +kernel, by decide +kernel⟩ ⟨(Nat.le_of_ble_eq_true rfl), (Nat.le_of_ble_eq_true rfl)⟩, rfl, (hts _ (List.mem_cons_of_mem _ mw_83))⟩ ⟨pw_blind, pw_pre hPc hK hDc⟩ rfl rfl hl.1 rfl (lv_room (Nat.le_of_ble_eq_true rfl)) d_St_init_9 ⟨(Nat.le_of_ble_eq_true rfl), (Nat.le_of_ble_eq_true rfl)⟩) hS (fun q _ h => hFc q h) hFc (fun u t H locs ht hvm hw hB hz1 hk1 hS => ?_)
  obtain ⟨q7_9, q15_9, q23_9, q31_9, q39_9, q47_9, q55_9, hP1, hD1⟩ := hB
  rw [ht] at hP1
  obtain ⟨hP, hD⟩ := va_join (wr := [(h0, .inr (4, [.null, .int 0, .null, .null, .null, .null, .null, .null, .null, .null, .null, .null]))]) (w1 := [(q5, .inr (3, [.int 0, .int 0, .ref q7_9, .ref q15_9, .ref q23_9, .ref q31_9, .ref q39_9, .ref q47_9, .ref q55_9, .null, .int 0, .int 0])), (q7_9, .inl (cI, 20, .inl (fun _ => 0))), (q15_9, .inl (cI, 20, .inl (fun _ => 0))), (q23_9, .inl (cI, 20, .inl (fun _ => 0))), (q31_9, .inl (cI, 24, .inl (fun _ => 0))), (q39_9, .inl (cI, 48, .inl (fun _ => 0))), (q47_9, .inl (cI, 48, .inl (fun _ => 0))), (q55_9, .inl (cI, 80, .inl (fun _ => 0)))]) hP hD [1] [0] rfl rfl (by decide) (by decide) hk1 hFc hP1 hD1
  refine W.widen (k := 8) (n := 272) (Nat.le_refl _) (Nat.le_refl _) ?_
  have hP : va_P (dC, dI) classes [(h0, .inr (4, [.null, .int 0, .null, .null, .null, .null, .null, .null, .null, .null, .null, .null])), (q5, .inr (3, [.int 0, .int 0, .ref q7_9, .ref q15_9, .ref q23_9, .ref q31_9, .ref q39_9, .ref q47_9, .ref q55_9, .null, .int 0, .int 0])), (q7_9, .inl (cI, 20, .inl (fun _ => 0))), (q15_9, .inl (cI, 20, .inl (fun _ => 0))), (q23_9, .inl (cI, 20, .inl (fun _ => 0))), (q31_9, .inl (cI, 24, .inl (fun _ => 0))), (q39_9, .inl (cI, 48, .inl (fun _ => 0))), (q47_9, .inl (cI, 48, .inl (fun _ => 0))), (q55_9, .inl (cI, 80, .inl (fun _ => 0)))] H := hP
  have hD : va_D A [(h0, .inr (4, [.null, .int 0, .null, .null, .null, .null, .null, .null, .null, .null, .null, .null])), (q5, .inr (3, [.int 0, .int 0, .ref q7_9, .ref q15_9, .ref q23_9, .ref q31_9, .ref q39_9, .ref q47_9, .ref q55_9, .null, .int 0, .int 0])), (q7_9, .inl (cI, 20, .inl (fun _ => 0))), (q15_9, .inl (cI, 20, .inl (fun _ => 0))), (q23_9, .inl (cI, 20, .inl (fun _ => 0))), (q31_9, .inl (cI, 24, .inl (fun _ => 0))), (q39_9, .inl (cI, 48, .inl (fun _ => 0))), (q47_9, .inl (cI, 48, .inl (fun _ => 0))), (q55_9, .inl (cI, 80, .inl (fun _ => 0)))] := hD
  refine va_put (D := (dC, dI)) (ci := 4) (v := .ref q5) (ty := (.object "BreweryHouse$Plant")) (C := R_St) (T := F_St) (N := 12) hx hb hts (fun w h => List.mem_cons_of_mem _ (in_St w h)) t_St t_St_ok n_St hown hK.1 hP hD hS 0 rfl rfl 0 (by decide) (hts _ (List.mem_cons_of_mem _ mw_149)) (fun _ h9 => h9) rfl (by decide +kernel) rfl rfl (Nat.le_of_ble_eq_true rfl) d_St_init_12 (fun H locs hP hD hS => ?_)
  have hP : va_P (dC, dI) classes [(h0, .inr (4, [.ref q5, .int 0, .null, .null, .null, .null, .null, .null, .null, .null, .null, .null])), (q5, .inr (3, [.int 0, .int 0, .ref q7_9, .ref q15_9, .ref q23_9, .ref q31_9, .ref q39_9, .ref q47_9, .ref q55_9, .null, .int 0, .int 0])), (q7_9, .inl (cI, 20, .inl (fun _ => 0))), (q15_9, .inl (cI, 20, .inl (fun _ => 0))), (q23_9, .inl (cI, 20, .inl (fun _ => 0))), (q31_9, .inl (cI, 24, .inl (fun _ => 0))), (q39_9, .inl (cI, 48, .inl (fun _ => 0))), (q47_9, .inl (cI, 48, .inl (fun _ => 0))), (q55_9, .inl (cI, 80, .inl (fun _ => 0)))] H := hP
  have hD : va_D A [(h0, .inr (4, [.ref q5, .int 0, .null, .null, .null, .null, .null, .null, .null, .null, .null, .null])), (q5, .inr (3, [.int 0, .int 0, .ref q7_9, .ref q15_9, .ref q23_9, .ref q31_9, .ref q39_9, .ref q47_9, .ref q55_9, .null, .int 0, .int 0])), (q7_9, .inl (cI, 20, .inl (fun _ => 0))), (q15_9, .inl (cI, 20, .inl (fun _ => 0))), (q23_9, .inl (cI, 20, .inl (fun _ => 0))), (q31_9, .inl (cI, 24, .inl (fun _ => 0))), (q39_9, .inl (cI, 48, .inl (fun _ => 0))), (q47_9, .inl (cI, 48, .inl (fun _ => 0))), (q55_9, .inl (cI, 80, .inl (fun _ => 0)))] := hD
  refine lv_aload_n hx hb d_St_init_15 rfl (lv_at hl 0 rfl) ?_
  refine lv_bipush (v := 20) hx hb d_St_init_16 (by decide) ?_
  refine ka_newa (atype := .int) (ty := .int) (N' := 20) (a0 := (20, .inl (fun _ => 0))) hx hb (hts _ (List.mem_cons_of_mem _ mw_53)) rfl hK.1 hP hD hS hA 0 rfl (fun _ => rfl) (by decide) (by decide) (by decide) (Nat.le_of_ble_eq_true rfl) (Nat.le_of_ble_eq_true rfl) d_St_init_18 (fun q18 H hP hD hS => ?_)
  refine W.widen (k := 9) (n := 292) (Nat.le_refl _) (Nat.le_refl _) ?_
  refine va_putF (D := (dC, dI)) (ci := 4) (v := .ref q18) (ty := (.array .int)) (C := R_St) (T := F_St) (N := 12) hx hb hts (fun w h => List.mem_cons_of_mem _ (in_St w h)) t_St t_St_ok n_St hown hK.1 hP hD hS 0 rfl rfl 2 (by decide) (hts _ (List.mem_cons_of_mem _ mw_157)) (fun _ h9 => h9) rfl hin rfl (by decide +kernel) rfl rfl (Nat.le_of_ble_eq_true rfl) d_St_init_20 (fun H locs hP hD hS => ?_)
  have hP : va_P (dC, dI) classes [(h0, .inr (4, [.ref q5, .int 0, .ref q18, .null, .null, .null, .null, .null, .null, .null, .null, .null])), (q5, .inr (3, [.int 0, .int 0, .ref q7_9, .ref q15_9, .ref q23_9, .ref q31_9, .ref q39_9, .ref q47_9, .ref q55_9, .null, .int 0, .int 0])), (q7_9, .inl (cI, 20, .inl (fun _ => 0))), (q15_9, .inl (cI, 20, .inl (fun _ => 0))), (q23_9, .inl (cI, 20, .inl (fun _ => 0))), (q31_9, .inl (cI, 24, .inl (fun _ => 0))), (q39_9, .inl (cI, 48, .inl (fun _ => 0))), (q47_9, .inl (cI, 48, .inl (fun _ => 0))), (q55_9, .inl (cI, 80, .inl (fun _ => 0))), (q18, .inl (cI, 20, .inl (fun _ => 0)))] H := hP
  have hD : va_D A [(h0, .inr (4, [.ref q5, .int 0, .ref q18, .null, .null, .null, .null, .null, .null, .null, .null, .null])), (q5, .inr (3, [.int 0, .int 0, .ref q7_9, .ref q15_9, .ref q23_9, .ref q31_9, .ref q39_9, .ref q47_9, .ref q55_9, .null, .int 0, .int 0])), (q7_9, .inl (cI, 20, .inl (fun _ => 0))), (q15_9, .inl (cI, 20, .inl (fun _ => 0))), (q23_9, .inl (cI, 20, .inl (fun _ => 0))), (q31_9, .inl (cI, 24, .inl (fun _ => 0))), (q39_9, .inl (cI, 48, .inl (fun _ => 0))), (q47_9, .inl (cI, 48, .inl (fun _ => 0))), (q55_9, .inl (cI, 80, .inl (fun _ => 0))), (q18, .inl (cI, 20, .inl (fun _ => 0)))] := hD
  refine lv_aload_n hx hb d_St_init_23 rfl (lv_at hl 0 rfl) ?_
  refine lv_bipush (v := 44) hx hb d_St_init_24 (by decide) ?_
  refine ka_newa (atype := .int) (ty := .int) (N' := 44) (a0 := (44, .inl (fun _ => 0))) hx hb (hts _ (List.mem_cons_of_mem _ mw_53)) rfl hK.1 hP hD hS hA 0 rfl (fun _ => rfl) (by decide) (by decide) (by decide) (Nat.le_of_ble_eq_true rfl) (Nat.le_of_ble_eq_true rfl) d_St_init_26 (fun q26 H hP hD hS => ?_)
  refine W.widen (k := 10) (n := 336) (Nat.le_refl _) (Nat.le_refl _) ?_
  refine va_putF (D := (dC, dI)) (ci := 4) (v := .ref q26) (ty := (.array .int)) (C := R_St) (T := F_St) (N := 12) hx hb hts (fun w h => List.mem_cons_of_mem _ (in_St w h)) t_St t_St_ok n_St hown hK.1 hP hD hS 0 rfl rfl 3 (by decide) (hts _ (List.mem_cons_of_mem _ mw_162)) (fun _ h9 => h9) rfl hin rfl (by decide +kernel) rfl rfl (Nat.le_of_ble_eq_true rfl) d_St_init_28 (fun H locs hP hD hS => ?_)
  have hP : va_P (dC, dI) classes [(h0, .inr (4, [.ref q5, .int 0, .ref q18, .ref q26, .null, .null, .null, .null, .null, .null, .null, .null])), (q5, .inr (3, [.int 0, .int 0, .ref q7_9, .ref q15_9, .ref q23_9, .ref q31_9, .ref q39_9, .ref q47_9, .ref q55_9, .null, .int 0, .int 0])), (q7_9, .inl (cI, 20, .inl (fun _ => 0))), (q15_9, .inl (cI, 20, .inl (fun _ => 0))), (q23_9, .inl (cI, 20, .inl (fun _ => 0))), (q31_9, .inl (cI, 24, .inl (fun _ => 0))), (q39_9, .inl (cI, 48, .inl (fun _ => 0))), (q47_9, .inl (cI, 48, .inl (fun _ => 0))), (q55_9, .inl (cI, 80, .inl (fun _ => 0))), (q18, .inl (cI, 20, .inl (fun _ => 0))), (q26, .inl (cI, 44, .inl (fun _ => 0)))] H := hP
  have hD : va_D A [(h0, .inr (4, [.ref q5, .int 0, .ref q18, .ref q26, .null, .null, .null, .null, .null, .null, .null, .null])), (q5, .inr (3, [.int 0, .int 0, .ref q7_9, .ref q15_9, .ref q23_9, .ref q31_9, .ref q39_9, .ref q47_9, .ref q55_9, .null, .int 0, .int 0])), (q7_9, .inl (cI, 20, .inl (fun _ => 0))), (q15_9, .inl (cI, 20, .inl (fun _ => 0))), (q23_9, .inl (cI, 20, .inl (fun _ => 0))), (q31_9, .inl (cI, 24, .inl (fun _ => 0))), (q39_9, .inl (cI, 48, .inl (fun _ => 0))), (q47_9, .inl (cI, 48, .inl (fun _ => 0))), (q55_9, .inl (cI, 80, .inl (fun _ => 0))), (q18, .inl (cI, 20, .inl (fun _ => 0))), (q26, .inl (cI, 44, .inl (fun _ => 0)))] := hD
  refine lv_aload_n hx hb d_St_init_31 rfl (lv_at hl 0 rfl) ?_
  refine lv_bipush (v := 44) hx hb d_St_init_32 (by decide) ?_
  refine ka_newa (atype := .int) (ty := .int) (N' := 44) (a0 := (44, .inl (fun _ => 0))) hx hb (hts _ (List.mem_cons_of_mem _ mw_53)) rfl hK.1 hP hD hS hA 0 rfl (fun _ => rfl) (by decide) (by decide) (by decide) (Nat.le_of_ble_eq_true rfl) (Nat.le_of_ble_eq_true rfl) d_St_init_34 (fun q34 H hP hD hS => ?_)
  refine W.widen (k := 11) (n := 380) (Nat.le_refl _) (Nat.le_refl _) ?_
  refine va_putF (D := (dC, dI)) (ci := 4) (v := .ref q34) (ty := (.array .int)) (C := R_St) (T := F_St) (N := 12) hx hb hts (fun w h => List.mem_cons_of_mem _ (in_St w h)) t_St t_St_ok n_St hown hK.1 hP hD hS 0 rfl rfl 4 (by decide) (hts _ (List.mem_cons_of_mem _ mw_167)) (fun _ h9 => h9) rfl hin rfl (by decide +kernel) rfl rfl (Nat.le_of_ble_eq_true rfl) d_St_init_36 (fun H locs hP hD hS => ?_)
  have hP : va_P (dC, dI) classes [(h0, .inr (4, [.ref q5, .int 0, .ref q18, .ref q26, .ref q34, .null, .null, .null, .null, .null, .null, .null])), (q5, .inr (3, [.int 0, .int 0, .ref q7_9, .ref q15_9, .ref q23_9, .ref q31_9, .ref q39_9, .ref q47_9, .ref q55_9, .null, .int 0, .int 0])), (q7_9, .inl (cI, 20, .inl (fun _ => 0))), (q15_9, .inl (cI, 20, .inl (fun _ => 0))), (q23_9, .inl (cI, 20, .inl (fun _ => 0))), (q31_9, .inl (cI, 24, .inl (fun _ => 0))), (q39_9, .inl (cI, 48, .inl (fun _ => 0))), (q47_9, .inl (cI, 48, .inl (fun _ => 0))), (q55_9, .inl (cI, 80, .inl (fun _ => 0))), (q18, .inl (cI, 20, .inl (fun _ => 0))), (q26, .inl (cI, 44, .inl (fun _ => 0))), (q34, .inl (cI, 44, .inl (fun _ => 0)))] H := hP
  have hD : va_D A [(h0, .inr (4, [.ref q5, .int 0, .ref q18, .ref q26, .ref q34, .null, .null, .null, .null, .null, .null, .null])), (q5, .inr (3, [.int 0, .int 0, .ref q7_9, .ref q15_9, .ref q23_9, .ref q31_9, .ref q39_9, .ref q47_9, .ref q55_9, .null, .int 0, .int 0])), (q7_9, .inl (cI, 20, .inl (fun _ => 0))), (q15_9, .inl (cI, 20, .inl (fun _ => 0))), (q23_9, .inl (cI, 20, .inl (fun _ => 0))), (q31_9, .inl (cI, 24, .inl (fun _ => 0))), (q39_9, .inl (cI, 48, .inl (fun _ => 0))), (q47_9, .inl (cI, 48, .inl (fun _ => 0))), (q55_9, .inl (cI, 80, .inl (fun _ => 0))), (q18, .inl (cI, 20, .inl (fun _ => 0))), (q26, .inl (cI, 44, .inl (fun _ => 0))), (q34, .inl (cI, 44, .inl (fun _ => 0)))] := hD
  refine lv_aload_n hx hb d_St_init_39 rfl (lv_at hl 0 rfl) ?_
  refine lv_bipush (v := 44) hx hb d_St_init_40 (by decide) ?_
  refine ka_newa (atype := .int) (ty := .int) (N' := 44) (a0 := (44, .inl (fun _ => 0))) hx hb (hts _ (List.mem_cons_of_mem _ mw_53)) rfl hK.1 hP hD hS hA 0 rfl (fun _ => rfl) (by decide) (by decide) (by decide) (Nat.le_of_ble_eq_true rfl) (Nat.le_of_ble_eq_true rfl) d_St_init_42 (fun q42 H hP hD hS => ?_)
  refine W.widen (k := 12) (n := 424) (Nat.le_refl _) (Nat.le_refl _) ?_
  refine va_putF (D := (dC, dI)) (ci := 4) (v := .ref q42) (ty := (.array .int)) (C := R_St) (T := F_St) (N := 12) hx hb hts (fun w h => List.mem_cons_of_mem _ (in_St w h)) t_St t_St_ok n_St hown hK.1 hP hD hS 0 rfl rfl 5 (by decide) (hts _ (List.mem_cons_of_mem _ mw_171)) (fun _ h9 => h9) rfl hin rfl (by decide +kernel) rfl rfl (Nat.le_of_ble_eq_true rfl) d_St_init_44 (fun H locs hP hD hS => ?_)
  have hP : va_P (dC, dI) classes [(h0, .inr (4, [.ref q5, .int 0, .ref q18, .ref q26, .ref q34, .ref q42, .null, .null, .null, .null, .null, .null])), (q5, .inr (3, [.int 0, .int 0, .ref q7_9, .ref q15_9, .ref q23_9, .ref q31_9, .ref q39_9, .ref q47_9, .ref q55_9, .null, .int 0, .int 0])), (q7_9, .inl (cI, 20, .inl (fun _ => 0))), (q15_9, .inl (cI, 20, .inl (fun _ => 0))), (q23_9, .inl (cI, 20, .inl (fun _ => 0))), (q31_9, .inl (cI, 24, .inl (fun _ => 0))), (q39_9, .inl (cI, 48, .inl (fun _ => 0))), (q47_9, .inl (cI, 48, .inl (fun _ => 0))), (q55_9, .inl (cI, 80, .inl (fun _ => 0))), (q18, .inl (cI, 20, .inl (fun _ => 0))), (q26, .inl (cI, 44, .inl (fun _ => 0))), (q34, .inl (cI, 44, .inl (fun _ => 0))), (q42, .inl (cI, 44, .inl (fun _ => 0)))] H := hP
  have hD : va_D A [(h0, .inr (4, [.ref q5, .int 0, .ref q18, .ref q26, .ref q34, .ref q42, .null, .null, .null, .null, .null, .null])), (q5, .inr (3, [.int 0, .int 0, .ref q7_9, .ref q15_9, .ref q23_9, .ref q31_9, .ref q39_9, .ref q47_9, .ref q55_9, .null, .int 0, .int 0])), (q7_9, .inl (cI, 20, .inl (fun _ => 0))), (q15_9, .inl (cI, 20, .inl (fun _ => 0))), (q23_9, .inl (cI, 20, .inl (fun _ => 0))), (q31_9, .inl (cI, 24, .inl (fun _ => 0))), (q39_9, .inl (cI, 48, .inl (fun _ => 0))), (q47_9, .inl (cI, 48, .inl (fun _ => 0))), (q55_9, .inl (cI, 80, .inl (fun _ => 0))), (q18, .inl (cI, 20, .inl (fun _ => 0))), (q26, .inl (cI, 44, .inl (fun _ => 0))), (q34, .inl (cI, 44, .inl (fun _ => 0))), (q42, .inl (cI, 44, .inl (fun _ => 0)))] := hD
  refine lv_aload_n hx hb d_St_init_47 rfl (lv_at hl 0 rfl) ?_
  refine lv_sipush (v := 264) hx hb d_St_init_48 (by decide) ?_
  refine ka_newa (atype := .int) (ty := .int) (N' := 264) (a0 := (264, .inl (fun _ => 0))) hx hb (hts _ (List.mem_cons_of_mem _ mw_53)) rfl hK.1 hP hD hS hA 0 rfl (fun _ => rfl) (by decide) (by decide) (by decide) (Nat.le_of_ble_eq_true rfl) (Nat.le_of_ble_eq_true rfl) d_St_init_51 (fun q51 H hP hD hS => ?_)
  refine W.widen (k := 13) (n := 688) (Nat.le_refl _) (Nat.le_refl _) ?_
  refine va_putF (D := (dC, dI)) (ci := 4) (v := .ref q51) (ty := (.array .int)) (C := R_St) (T := F_St) (N := 12) hx hb hts (fun w h => List.mem_cons_of_mem _ (in_St w h)) t_St t_St_ok n_St hown hK.1 hP hD hS 0 rfl rfl 6 (by decide) (hts _ (List.mem_cons_of_mem _ mw_173)) (fun _ h9 => h9) rfl hin rfl (by decide +kernel) rfl rfl (Nat.le_of_ble_eq_true rfl) d_St_init_53 (fun H locs hP hD hS => ?_)
  have hP : va_P (dC, dI) classes [(h0, .inr (4, [.ref q5, .int 0, .ref q18, .ref q26, .ref q34, .ref q42, .ref q51, .null, .null, .null, .null, .null])), (q5, .inr (3, [.int 0, .int 0, .ref q7_9, .ref q15_9, .ref q23_9, .ref q31_9, .ref q39_9, .ref q47_9, .ref q55_9, .null, .int 0, .int 0])), (q7_9, .inl (cI, 20, .inl (fun _ => 0))), (q15_9, .inl (cI, 20, .inl (fun _ => 0))), (q23_9, .inl (cI, 20, .inl (fun _ => 0))), (q31_9, .inl (cI, 24, .inl (fun _ => 0))), (q39_9, .inl (cI, 48, .inl (fun _ => 0))), (q47_9, .inl (cI, 48, .inl (fun _ => 0))), (q55_9, .inl (cI, 80, .inl (fun _ => 0))), (q18, .inl (cI, 20, .inl (fun _ => 0))), (q26, .inl (cI, 44, .inl (fun _ => 0))), (q34, .inl (cI, 44, .inl (fun _ => 0))), (q42, .inl (cI, 44, .inl (fun _ => 0))), (q51, .inl (cI, 264, .inl (fun _ => 0)))] H := hP
  have hD : va_D A [(h0, .inr (4, [.ref q5, .int 0, .ref q18, .ref q26, .ref q34, .ref q42, .ref q51, .null, .null, .null, .null, .null])), (q5, .inr (3, [.int 0, .int 0, .ref q7_9, .ref q15_9, .ref q23_9, .ref q31_9, .ref q39_9, .ref q47_9, .ref q55_9, .null, .int 0, .int 0])), (q7_9, .inl (cI, 20, .inl (fun _ => 0))), (q15_9, .inl (cI, 20, .inl (fun _ => 0))), (q23_9, .inl (cI, 20, .inl (fun _ => 0))), (q31_9, .inl (cI, 24, .inl (fun _ => 0))), (q39_9, .inl (cI, 48, .inl (fun _ => 0))), (q47_9, .inl (cI, 48, .inl (fun _ => 0))), (q55_9, .inl (cI, 80, .inl (fun _ => 0))), (q18, .inl (cI, 20, .inl (fun _ => 0))), (q26, .inl (cI, 44, .inl (fun _ => 0))), (q34, .inl (cI, 44, .inl (fun _ => 0))), (q42, .inl (cI, 44, .inl (fun _ => 0))), (q51, .inl (cI, 264, .inl (fun _ => 0)))] := hD
  refine lv_aload_n hx hb d_St_init_56 rfl (lv_at hl 0 rfl) ?_
  refine lv_bipush (v := 96) hx hb d_St_init_57 (by decide) ?_
  refine ka_newa (atype := .long) (ty := .long) (N' := 96) (a0 := (96, .inr (.inl (fun _ => 0)))) hx hb (hts _ (List.mem_cons_of_mem _ mw_208)) rfl hK.1 hP hD hS hA 3 rfl (fun _ => rfl) (by decide) (by decide) (by decide) (Nat.le_of_ble_eq_true rfl) (Nat.le_of_ble_eq_true rfl) d_St_init_59 (fun q59 H hP hD hS => ?_)
  refine W.widen (k := 14) (n := 784) (Nat.le_refl _) (Nat.le_refl _) ?_
  refine va_putF (D := (dC, dI)) (ci := 4) (v := .ref q59) (ty := (.array .long)) (C := R_St) (T := F_St) (N := 12) hx hb hts (fun w h => List.mem_cons_of_mem _ (in_St w h)) t_St t_St_ok n_St hown hK.1 hP hD hS 0 rfl rfl 7 (by decide) (hts _ (List.mem_cons_of_mem _ mw_174)) (fun _ h9 => h9) rfl hin rfl (by decide +kernel) rfl rfl (Nat.le_of_ble_eq_true rfl) d_St_init_61 (fun H locs hP hD hS => ?_)
  have hP : va_P (dC, dI) classes [(h0, .inr (4, [.ref q5, .int 0, .ref q18, .ref q26, .ref q34, .ref q42, .ref q51, .ref q59, .null, .null, .null, .null])), (q5, .inr (3, [.int 0, .int 0, .ref q7_9, .ref q15_9, .ref q23_9, .ref q31_9, .ref q39_9, .ref q47_9, .ref q55_9, .null, .int 0, .int 0])), (q7_9, .inl (cI, 20, .inl (fun _ => 0))), (q15_9, .inl (cI, 20, .inl (fun _ => 0))), (q23_9, .inl (cI, 20, .inl (fun _ => 0))), (q31_9, .inl (cI, 24, .inl (fun _ => 0))), (q39_9, .inl (cI, 48, .inl (fun _ => 0))), (q47_9, .inl (cI, 48, .inl (fun _ => 0))), (q55_9, .inl (cI, 80, .inl (fun _ => 0))), (q18, .inl (cI, 20, .inl (fun _ => 0))), (q26, .inl (cI, 44, .inl (fun _ => 0))), (q34, .inl (cI, 44, .inl (fun _ => 0))), (q42, .inl (cI, 44, .inl (fun _ => 0))), (q51, .inl (cI, 264, .inl (fun _ => 0))), (q59, .inl (cJ, 96, .inr (.inl (fun _ => 0))))] H := hP
  have hD : va_D A [(h0, .inr (4, [.ref q5, .int 0, .ref q18, .ref q26, .ref q34, .ref q42, .ref q51, .ref q59, .null, .null, .null, .null])), (q5, .inr (3, [.int 0, .int 0, .ref q7_9, .ref q15_9, .ref q23_9, .ref q31_9, .ref q39_9, .ref q47_9, .ref q55_9, .null, .int 0, .int 0])), (q7_9, .inl (cI, 20, .inl (fun _ => 0))), (q15_9, .inl (cI, 20, .inl (fun _ => 0))), (q23_9, .inl (cI, 20, .inl (fun _ => 0))), (q31_9, .inl (cI, 24, .inl (fun _ => 0))), (q39_9, .inl (cI, 48, .inl (fun _ => 0))), (q47_9, .inl (cI, 48, .inl (fun _ => 0))), (q55_9, .inl (cI, 80, .inl (fun _ => 0))), (q18, .inl (cI, 20, .inl (fun _ => 0))), (q26, .inl (cI, 44, .inl (fun _ => 0))), (q34, .inl (cI, 44, .inl (fun _ => 0))), (q42, .inl (cI, 44, .inl (fun _ => 0))), (q51, .inl (cI, 264, .inl (fun _ => 0))), (q59, .inl (cJ, 96, .inr (.inl (fun _ => 0))))] := hD
  refine lv_aload_n hx hb d_St_init_64 rfl (lv_at hl 0 rfl) ?_
  refine lv_bipush (v := 24) hx hb d_St_init_65 (by decide) ?_
  refine ka_newa (atype := .int) (ty := .int) (N' := 24) (a0 := (24, .inl (fun _ => 0))) hx hb (hts _ (List.mem_cons_of_mem _ mw_53)) rfl hK.1 hP hD hS hA 0 rfl (fun _ => rfl) (by decide) (by decide) (by decide) (Nat.le_of_ble_eq_true rfl) (Nat.le_of_ble_eq_true rfl) d_St_init_67 (fun q67 H hP hD hS => ?_)
  refine W.widen (k := 15) (n := 808) (Nat.le_refl _) (Nat.le_refl _) ?_
  refine va_putF (D := (dC, dI)) (ci := 4) (v := .ref q67) (ty := (.array .int)) (C := R_St) (T := F_St) (N := 12) hx hb hts (fun w h => List.mem_cons_of_mem _ (in_St w h)) t_St t_St_ok n_St hown hK.1 hP hD hS 0 rfl rfl 8 (by decide) (hts _ (List.mem_cons_of_mem _ mw_175)) (fun _ h9 => h9) rfl hin rfl (by decide +kernel) rfl rfl (Nat.le_of_ble_eq_true rfl) d_St_init_69 (fun H locs hP hD hS => ?_)
  have hP : va_P (dC, dI) classes [(h0, .inr (4, [.ref q5, .int 0, .ref q18, .ref q26, .ref q34, .ref q42, .ref q51, .ref q59, .ref q67, .null, .null, .null])), (q5, .inr (3, [.int 0, .int 0, .ref q7_9, .ref q15_9, .ref q23_9, .ref q31_9, .ref q39_9, .ref q47_9, .ref q55_9, .null, .int 0, .int 0])), (q7_9, .inl (cI, 20, .inl (fun _ => 0))), (q15_9, .inl (cI, 20, .inl (fun _ => 0))), (q23_9, .inl (cI, 20, .inl (fun _ => 0))), (q31_9, .inl (cI, 24, .inl (fun _ => 0))), (q39_9, .inl (cI, 48, .inl (fun _ => 0))), (q47_9, .inl (cI, 48, .inl (fun _ => 0))), (q55_9, .inl (cI, 80, .inl (fun _ => 0))), (q18, .inl (cI, 20, .inl (fun _ => 0))), (q26, .inl (cI, 44, .inl (fun _ => 0))), (q34, .inl (cI, 44, .inl (fun _ => 0))), (q42, .inl (cI, 44, .inl (fun _ => 0))), (q51, .inl (cI, 264, .inl (fun _ => 0))), (q59, .inl (cJ, 96, .inr (.inl (fun _ => 0)))), (q67, .inl (cI, 24, .inl (fun _ => 0)))] H := hP
  have hD : va_D A [(h0, .inr (4, [.ref q5, .int 0, .ref q18, .ref q26, .ref q34, .ref q42, .ref q51, .ref q59, .ref q67, .null, .null, .null])), (q5, .inr (3, [.int 0, .int 0, .ref q7_9, .ref q15_9, .ref q23_9, .ref q31_9, .ref q39_9, .ref q47_9, .ref q55_9, .null, .int 0, .int 0])), (q7_9, .inl (cI, 20, .inl (fun _ => 0))), (q15_9, .inl (cI, 20, .inl (fun _ => 0))), (q23_9, .inl (cI, 20, .inl (fun _ => 0))), (q31_9, .inl (cI, 24, .inl (fun _ => 0))), (q39_9, .inl (cI, 48, .inl (fun _ => 0))), (q47_9, .inl (cI, 48, .inl (fun _ => 0))), (q55_9, .inl (cI, 80, .inl (fun _ => 0))), (q18, .inl (cI, 20, .inl (fun _ => 0))), (q26, .inl (cI, 44, .inl (fun _ => 0))), (q34, .inl (cI, 44, .inl (fun _ => 0))), (q42, .inl (cI, 44, .inl (fun _ => 0))), (q51, .inl (cI, 264, .inl (fun _ => 0))), (q59, .inl (cJ, 96, .inr (.inl (fun _ => 0)))), (q67, .inl (cI, 24, .inl (fun _ => 0)))] := hD
  refine lv_aload_n hx hb d_St_init_72 rfl (lv_at hl 0 rfl) ?_
  refine lv_bipush (v := 15) hx hb d_St_init_73 (by decide) ?_
  refine ka_newa (atype := .int) (ty := .int) (N' := 15) (a0 := (15, .inl (fun _ => 0))) hx hb (hts _ (List.mem_cons_of_mem _ mw_53)) rfl hK.1 hP hD hS hA 0 rfl (fun _ => rfl) (by decide) (by decide) (by decide) (Nat.le_of_ble_eq_true rfl) (Nat.le_of_ble_eq_true rfl) d_St_init_75 (fun q75 H hP hD hS => ?_)
  refine W.widen (k := 16) (n := 823) (Nat.le_refl _) (Nat.le_refl _) ?_
  refine va_putF (D := (dC, dI)) (ci := 4) (v := .ref q75) (ty := (.array .int)) (C := R_St) (T := F_St) (N := 12) hx hb hts (fun w h => List.mem_cons_of_mem _ (in_St w h)) t_St t_St_ok n_St hown hK.1 hP hD hS 0 rfl rfl 9 (by decide) (hts _ (List.mem_cons_of_mem _ mw_176)) (fun _ h9 => h9) rfl hin rfl (by decide +kernel) rfl rfl (Nat.le_of_ble_eq_true rfl) d_St_init_77 (fun H locs hP hD hS => ?_)
  have hP : va_P (dC, dI) classes [(h0, .inr (4, [.ref q5, .int 0, .ref q18, .ref q26, .ref q34, .ref q42, .ref q51, .ref q59, .ref q67, .ref q75, .null, .null])), (q5, .inr (3, [.int 0, .int 0, .ref q7_9, .ref q15_9, .ref q23_9, .ref q31_9, .ref q39_9, .ref q47_9, .ref q55_9, .null, .int 0, .int 0])), (q7_9, .inl (cI, 20, .inl (fun _ => 0))), (q15_9, .inl (cI, 20, .inl (fun _ => 0))), (q23_9, .inl (cI, 20, .inl (fun _ => 0))), (q31_9, .inl (cI, 24, .inl (fun _ => 0))), (q39_9, .inl (cI, 48, .inl (fun _ => 0))), (q47_9, .inl (cI, 48, .inl (fun _ => 0))), (q55_9, .inl (cI, 80, .inl (fun _ => 0))), (q18, .inl (cI, 20, .inl (fun _ => 0))), (q26, .inl (cI, 44, .inl (fun _ => 0))), (q34, .inl (cI, 44, .inl (fun _ => 0))), (q42, .inl (cI, 44, .inl (fun _ => 0))), (q51, .inl (cI, 264, .inl (fun _ => 0))), (q59, .inl (cJ, 96, .inr (.inl (fun _ => 0)))), (q67, .inl (cI, 24, .inl (fun _ => 0))), (q75, .inl (cI, 15, .inl (fun _ => 0)))] H := hP
  have hD : va_D A [(h0, .inr (4, [.ref q5, .int 0, .ref q18, .ref q26, .ref q34, .ref q42, .ref q51, .ref q59, .ref q67, .ref q75, .null, .null])), (q5, .inr (3, [.int 0, .int 0, .ref q7_9, .ref q15_9, .ref q23_9, .ref q31_9, .ref q39_9, .ref q47_9, .ref q55_9, .null, .int 0, .int 0])), (q7_9, .inl (cI, 20, .inl (fun _ => 0))), (q15_9, .inl (cI, 20, .inl (fun _ => 0))), (q23_9, .inl (cI, 20, .inl (fun _ => 0))), (q31_9, .inl (cI, 24, .inl (fun _ => 0))), (q39_9, .inl (cI, 48, .inl (fun _ => 0))), (q47_9, .inl (cI, 48, .inl (fun _ => 0))), (q55_9, .inl (cI, 80, .inl (fun _ => 0))), (q18, .inl (cI, 20, .inl (fun _ => 0))), (q26, .inl (cI, 44, .inl (fun _ => 0))), (q34, .inl (cI, 44, .inl (fun _ => 0))), (q42, .inl (cI, 44, .inl (fun _ => 0))), (q51, .inl (cI, 264, .inl (fun _ => 0))), (q59, .inl (cJ, 96, .inr (.inl (fun _ => 0)))), (q67, .inl (cI, 24, .inl (fun _ => 0))), (q75, .inl (cI, 15, .inl (fun _ => 0)))] := hD
  refine lv_aload_n hx hb d_St_init_80 rfl (lv_at hl 0 rfl) ?_
  refine lv_sipush (v := 225) hx hb d_St_init_81 (by decide) ?_
  refine ka_newa (atype := .int) (ty := .int) (N' := 225) (a0 := (225, .inl (fun _ => 0))) hx hb (hts _ (List.mem_cons_of_mem _ mw_53)) rfl hK.1 hP hD hS hA 0 rfl (fun _ => rfl) (by decide) (by decide) (by decide) (Nat.le_of_ble_eq_true rfl) (Nat.le_of_ble_eq_true rfl) d_St_init_84 (fun q84 H hP hD hS => ?_)
  refine W.widen (k := 17) (n := 1048) (Nat.le_refl _) (Nat.le_refl _) ?_
  refine va_putF (D := (dC, dI)) (ci := 4) (v := .ref q84) (ty := (.array .int)) (C := R_St) (T := F_St) (N := 12) hx hb hts (fun w h => List.mem_cons_of_mem _ (in_St w h)) t_St t_St_ok n_St hown hK.1 hP hD hS 0 rfl rfl 10 (by decide) (hts _ (List.mem_cons_of_mem _ mw_179)) (fun _ h9 => h9) rfl hin rfl (by decide +kernel) rfl rfl (Nat.le_of_ble_eq_true rfl) d_St_init_86 (fun H locs hP hD hS => ?_)
  have hP : va_P (dC, dI) classes [(h0, .inr (4, [.ref q5, .int 0, .ref q18, .ref q26, .ref q34, .ref q42, .ref q51, .ref q59, .ref q67, .ref q75, .ref q84, .null])), (q5, .inr (3, [.int 0, .int 0, .ref q7_9, .ref q15_9, .ref q23_9, .ref q31_9, .ref q39_9, .ref q47_9, .ref q55_9, .null, .int 0, .int 0])), (q7_9, .inl (cI, 20, .inl (fun _ => 0))), (q15_9, .inl (cI, 20, .inl (fun _ => 0))), (q23_9, .inl (cI, 20, .inl (fun _ => 0))), (q31_9, .inl (cI, 24, .inl (fun _ => 0))), (q39_9, .inl (cI, 48, .inl (fun _ => 0))), (q47_9, .inl (cI, 48, .inl (fun _ => 0))), (q55_9, .inl (cI, 80, .inl (fun _ => 0))), (q18, .inl (cI, 20, .inl (fun _ => 0))), (q26, .inl (cI, 44, .inl (fun _ => 0))), (q34, .inl (cI, 44, .inl (fun _ => 0))), (q42, .inl (cI, 44, .inl (fun _ => 0))), (q51, .inl (cI, 264, .inl (fun _ => 0))), (q59, .inl (cJ, 96, .inr (.inl (fun _ => 0)))), (q67, .inl (cI, 24, .inl (fun _ => 0))), (q75, .inl (cI, 15, .inl (fun _ => 0))), (q84, .inl (cI, 225, .inl (fun _ => 0)))] H := hP
  have hD : va_D A [(h0, .inr (4, [.ref q5, .int 0, .ref q18, .ref q26, .ref q34, .ref q42, .ref q51, .ref q59, .ref q67, .ref q75, .ref q84, .null])), (q5, .inr (3, [.int 0, .int 0, .ref q7_9, .ref q15_9, .ref q23_9, .ref q31_9, .ref q39_9, .ref q47_9, .ref q55_9, .null, .int 0, .int 0])), (q7_9, .inl (cI, 20, .inl (fun _ => 0))), (q15_9, .inl (cI, 20, .inl (fun _ => 0))), (q23_9, .inl (cI, 20, .inl (fun _ => 0))), (q31_9, .inl (cI, 24, .inl (fun _ => 0))), (q39_9, .inl (cI, 48, .inl (fun _ => 0))), (q47_9, .inl (cI, 48, .inl (fun _ => 0))), (q55_9, .inl (cI, 80, .inl (fun _ => 0))), (q18, .inl (cI, 20, .inl (fun _ => 0))), (q26, .inl (cI, 44, .inl (fun _ => 0))), (q34, .inl (cI, 44, .inl (fun _ => 0))), (q42, .inl (cI, 44, .inl (fun _ => 0))), (q51, .inl (cI, 264, .inl (fun _ => 0))), (q59, .inl (cJ, 96, .inr (.inl (fun _ => 0)))), (q67, .inl (cI, 24, .inl (fun _ => 0))), (q75, .inl (cI, 15, .inl (fun _ => 0))), (q84, .inl (cI, 225, .inl (fun _ => 0)))] := hD
  refine lv_aload_n hx hb d_St_init_89 rfl (lv_at hl 0 rfl) ?_
  refine lv_bipush (v := 6) hx hb d_St_init_90 (by decide) ?_
  refine ka_newa (atype := .int) (ty := .int) (N' := 6) (a0 := (6, .inl (fun _ => 0))) hx hb (hts _ (List.mem_cons_of_mem _ mw_53)) rfl hK.1 hP hD hS hA 0 rfl (fun _ => rfl) (by decide) (by decide) (by decide) (Nat.le_of_ble_eq_true rfl) (Nat.le_of_ble_eq_true rfl) d_St_init_92 (fun q92 H hP hD hS => ?_)
  refine W.widen (k := 18) (n := 1054) (Nat.le_refl _) (Nat.le_refl _) ?_
  refine va_putF (D := (dC, dI)) (ci := 4) (v := .ref q92) (ty := (.array .int)) (C := R_St) (T := F_St) (N := 12) hx hb hts (fun w h => List.mem_cons_of_mem _ (in_St w h)) t_St t_St_ok n_St hown hK.1 hP hD hS 0 rfl rfl 11 (by decide) (hts _ (List.mem_cons_of_mem _ mw_181)) (fun _ h9 => h9) rfl hin rfl (by decide +kernel) rfl rfl (Nat.le_of_ble_eq_true rfl) d_St_init_94 (fun H locs hP hD hS => ?_)
  have hP : va_P (dC, dI) classes [(h0, .inr (4, [.ref q5, .int 0, .ref q18, .ref q26, .ref q34, .ref q42, .ref q51, .ref q59, .ref q67, .ref q75, .ref q84, .ref q92])), (q5, .inr (3, [.int 0, .int 0, .ref q7_9, .ref q15_9, .ref q23_9, .ref q31_9, .ref q39_9, .ref q47_9, .ref q55_9, .null, .int 0, .int 0])), (q7_9, .inl (cI, 20, .inl (fun _ => 0))), (q15_9, .inl (cI, 20, .inl (fun _ => 0))), (q23_9, .inl (cI, 20, .inl (fun _ => 0))), (q31_9, .inl (cI, 24, .inl (fun _ => 0))), (q39_9, .inl (cI, 48, .inl (fun _ => 0))), (q47_9, .inl (cI, 48, .inl (fun _ => 0))), (q55_9, .inl (cI, 80, .inl (fun _ => 0))), (q18, .inl (cI, 20, .inl (fun _ => 0))), (q26, .inl (cI, 44, .inl (fun _ => 0))), (q34, .inl (cI, 44, .inl (fun _ => 0))), (q42, .inl (cI, 44, .inl (fun _ => 0))), (q51, .inl (cI, 264, .inl (fun _ => 0))), (q59, .inl (cJ, 96, .inr (.inl (fun _ => 0)))), (q67, .inl (cI, 24, .inl (fun _ => 0))), (q75, .inl (cI, 15, .inl (fun _ => 0))), (q84, .inl (cI, 225, .inl (fun _ => 0))), (q92, .inl (cI, 6, .inl (fun _ => 0)))] H := hP
  have hD : va_D A [(h0, .inr (4, [.ref q5, .int 0, .ref q18, .ref q26, .ref q34, .ref q42, .ref q51, .ref q59, .ref q67, .ref q75, .ref q84, .ref q92])), (q5, .inr (3, [.int 0, .int 0, .ref q7_9, .ref q15_9, .ref q23_9, .ref q31_9, .ref q39_9, .ref q47_9, .ref q55_9, .null, .int 0, .int 0])), (q7_9, .inl (cI, 20, .inl (fun _ => 0))), (q15_9, .inl (cI, 20, .inl (fun _ => 0))), (q23_9, .inl (cI, 20, .inl (fun _ => 0))), (q31_9, .inl (cI, 24, .inl (fun _ => 0))), (q39_9, .inl (cI, 48, .inl (fun _ => 0))), (q47_9, .inl (cI, 48, .inl (fun _ => 0))), (q55_9, .inl (cI, 80, .inl (fun _ => 0))), (q18, .inl (cI, 20, .inl (fun _ => 0))), (q26, .inl (cI, 44, .inl (fun _ => 0))), (q34, .inl (cI, 44, .inl (fun _ => 0))), (q42, .inl (cI, 44, .inl (fun _ => 0))), (q51, .inl (cI, 264, .inl (fun _ => 0))), (q59, .inl (cJ, 96, .inr (.inl (fun _ => 0)))), (q67, .inl (cI, 24, .inl (fun _ => 0))), (q75, .inl (cI, 15, .inl (fun _ => 0))), (q84, .inl (cI, 225, .inl (fun _ => 0))), (q92, .inl (cI, 6, .inl (fun _ => 0)))] := hD
  refine lv_aload_n hx hb d_St_init_97 rfl (lv_at hl 0 rfl) ?_
  refine va_get (D := (dC, dI)) (ci := 4) (v := .ref q51) (C := R_St) (T := F_St) (N := 12) hx hb hts (fun w h => List.mem_cons_of_mem _ (in_St w h)) hown hK.1 hP 0 rfl rfl 6 (by decide) (hts _ (List.mem_cons_of_mem _ mw_173)) (fun _ h9 => h9) rfl d_St_init_98 ?_
  refine lv_iconst (v := (-1)) hx hb d_St_init_101 (by decide) ?_
  have hPc := hP.sub (ws' := [(q51, .inl (cI, 264, .inl (fun _ => 0)))]) [13] rfl
  have hDc := hD.sub (ws' := [(q51, .inl (cI, 264, .inl (fun _ => 0)))]) [13] (by decide) rfl
  have hFc := va_free (wc := [(q51, .inl (cI, 264, .inl (fun _ => 0)))]) hD hS hA [13] rfl
  refine va_callv (va_runS (As := [.ref q51, .int (-1)]) (rest := []) ⟨hx, hb, hml, hown, hts⟩ (c_Ar_fillI l dC dI cI cB cZ cJ (-1) q51 264 (fun _ => 0) (by decide) H.size) (va_cwS 2 hts (tb_S2 z1_mw_145 z1_mw_146 mw_6 z1_mw_147) rfl rfl rfl ⟨by decide +kernel, by decide +kernel, by decide +kernel⟩ ⟨(Nat.le_of_ble_eq_true rfl), (Nat.le_of_ble_eq_true rfl)⟩) ⟨pw_blind, pw_pre hPc hK hDc⟩ rfl rfl hl.1 rfl (lv_room (Nat.le_of_ble_eq_true rfl)) d_St_init_102 ⟨(Nat.le_of_ble_eq_true rfl), (Nat.le_of_ble_eq_true rfl)⟩) hS (fun q _ h => hFc q h) hFc (fun u t H locs ht hvm hw hB hz1 hk1 hS => ?_)
  obtain ⟨hP1, hD1⟩ := hB
  rw [ht] at hP1
  obtain ⟨hP, hD⟩ := va_join (wr := [(h0, .inr (4, [.ref q5, .int 0, .ref q18, .ref q26, .ref q34, .ref q42, .ref q51, .ref q59, .ref q67, .ref q75, .ref q84, .ref q92])), (q5, .inr (3, [.int 0, .int 0, .ref q7_9, .ref q15_9, .ref q23_9, .ref q31_9, .ref q39_9, .ref q47_9, .ref q55_9, .null, .int 0, .int 0])), (q7_9, .inl (cI, 20, .inl (fun _ => 0))), (q15_9, .inl (cI, 20, .inl (fun _ => 0))), (q23_9, .inl (cI, 20, .inl (fun _ => 0))), (q31_9, .inl (cI, 24, .inl (fun _ => 0))), (q39_9, .inl (cI, 48, .inl (fun _ => 0))), (q47_9, .inl (cI, 48, .inl (fun _ => 0))), (q55_9, .inl (cI, 80, .inl (fun _ => 0))), (q18, .inl (cI, 20, .inl (fun _ => 0))), (q26, .inl (cI, 44, .inl (fun _ => 0))), (q34, .inl (cI, 44, .inl (fun _ => 0))), (q42, .inl (cI, 44, .inl (fun _ => 0))), (q59, .inl (cJ, 96, .inr (.inl (fun _ => 0)))), (q67, .inl (cI, 24, .inl (fun _ => 0))), (q75, .inl (cI, 15, .inl (fun _ => 0))), (q84, .inl (cI, 225, .inl (fun _ => 0))), (q92, .inl (cI, 6, .inl (fun _ => 0)))]) (w1 := [(q51, .inl (cI, 264, .inl ((fun _ => (-1)))))]) hP hD [13] [0, 1, 2, 3, 4, 5, 6, 7, 8, 9, 10, 11, 12, 14, 15, 16, 17, 18] rfl rfl (by decide) (by decide) hk1 hFc hP1 hD1
  have hP : va_P (dC, dI) classes [(h0, .inr (4, [.ref q5, .int 0, .ref q18, .ref q26, .ref q34, .ref q42, .ref q51, .ref q59, .ref q67, .ref q75, .ref q84, .ref q92])), (q5, .inr (3, [.int 0, .int 0, .ref q7_9, .ref q15_9, .ref q23_9, .ref q31_9, .ref q39_9, .ref q47_9, .ref q55_9, .null, .int 0, .int 0])), (q7_9, .inl (cI, 20, .inl (fun _ => 0))), (q15_9, .inl (cI, 20, .inl (fun _ => 0))), (q23_9, .inl (cI, 20, .inl (fun _ => 0))), (q31_9, .inl (cI, 24, .inl (fun _ => 0))), (q39_9, .inl (cI, 48, .inl (fun _ => 0))), (q47_9, .inl (cI, 48, .inl (fun _ => 0))), (q55_9, .inl (cI, 80, .inl (fun _ => 0))), (q18, .inl (cI, 20, .inl (fun _ => 0))), (q26, .inl (cI, 44, .inl (fun _ => 0))), (q34, .inl (cI, 44, .inl (fun _ => 0))), (q42, .inl (cI, 44, .inl (fun _ => 0))), (q59, .inl (cJ, 96, .inr (.inl (fun _ => 0)))), (q67, .inl (cI, 24, .inl (fun _ => 0))), (q75, .inl (cI, 15, .inl (fun _ => 0))), (q84, .inl (cI, 225, .inl (fun _ => 0))), (q92, .inl (cI, 6, .inl (fun _ => 0))), (q51, .inl (cI, 264, .inl ((fun _ => (-1)))))] H := hP
  have hD : va_D A [(h0, .inr (4, [.ref q5, .int 0, .ref q18, .ref q26, .ref q34, .ref q42, .ref q51, .ref q59, .ref q67, .ref q75, .ref q84, .ref q92])), (q5, .inr (3, [.int 0, .int 0, .ref q7_9, .ref q15_9, .ref q23_9, .ref q31_9, .ref q39_9, .ref q47_9, .ref q55_9, .null, .int 0, .int 0])), (q7_9, .inl (cI, 20, .inl (fun _ => 0))), (q15_9, .inl (cI, 20, .inl (fun _ => 0))), (q23_9, .inl (cI, 20, .inl (fun _ => 0))), (q31_9, .inl (cI, 24, .inl (fun _ => 0))), (q39_9, .inl (cI, 48, .inl (fun _ => 0))), (q47_9, .inl (cI, 48, .inl (fun _ => 0))), (q55_9, .inl (cI, 80, .inl (fun _ => 0))), (q18, .inl (cI, 20, .inl (fun _ => 0))), (q26, .inl (cI, 44, .inl (fun _ => 0))), (q34, .inl (cI, 44, .inl (fun _ => 0))), (q42, .inl (cI, 44, .inl (fun _ => 0))), (q59, .inl (cJ, 96, .inr (.inl (fun _ => 0)))), (q67, .inl (cI, 24, .inl (fun _ => 0))), (q75, .inl (cI, 15, .inl (fun _ => 0))), (q84, .inl (cI, 225, .inl (fun _ => 0))), (q92, .inl (cI, 6, .inl (fun _ => 0))), (q51, .inl (cI, 264, .inl ((fun _ => (-1)))))] := hD
  refine lv_aload_n hx hb d_St_init_105 rfl (lv_at hl 0 rfl) ?_
  refine va_get (D := (dC, dI)) (ci := 4) (v := .ref q84) (C := R_St) (T := F_St) (N := 12) hx hb hts (fun w h => List.mem_cons_of_mem _ (in_St w h)) hown hK.1 hP 0 rfl rfl 10 (by decide) (hts _ (List.mem_cons_of_mem _ mw_179)) (fun _ h9 => h9) rfl d_St_init_106 ?_
  refine lv_iconst (v := 5) hx hb d_St_init_109 (by decide) ?_
  have hPc := hP.sub (ws' := [(q84, .inl (cI, 225, .inl (fun _ => 0)))]) [16] rfl
  have hDc := hD.sub (ws' := [(q84, .inl (cI, 225, .inl (fun _ => 0)))]) [16] (by decide) rfl
  have hFc := va_free (wc := [(q84, .inl (cI, 225, .inl (fun _ => 0)))]) hD hS hA [16] rfl
  refine va_callv (va_runS (As := [.ref q84, .int 5]) (rest := []) ⟨hx, hb, hml, hown, hts⟩ (c_Ar_fillI l dC dI cI cB cZ cJ 5 q84 225 (fun _ => 0) (by decide) H.size) (va_cwS 2 hts (tb_S2 z1_mw_145 z1_mw_146 mw_6 z1_mw_147) rfl rfl rfl ⟨by decide +kernel, by decide +kernel, by decide +kernel⟩ ⟨(Nat.le_of_ble_eq_true rfl), (Nat.le_of_ble_eq_true rfl)⟩) ⟨pw_blind, pw_pre hPc hK hDc⟩ rfl rfl hl.1 rfl (lv_room (Nat.le_of_ble_eq_true rfl)) d_St_init_110 ⟨(Nat.le_of_ble_eq_true rfl), (Nat.le_of_ble_eq_true rfl)⟩) hS (fun q _ h => hFc q h) hFc (fun u t H locs ht hvm hw hB hz1 hk1 hS => ?_)
  obtain ⟨hP1, hD1⟩ := hB
  rw [ht] at hP1
  obtain ⟨hP, hD⟩ := va_join (wr := [(h0, .inr (4, [.ref q5, .int 0, .ref q18, .ref q26, .ref q34, .ref q42, .ref q51, .ref q59, .ref q67, .ref q75, .ref q84, .ref q92])), (q5, .inr (3, [.int 0, .int 0, .ref q7_9, .ref q15_9, .ref q23_9, .ref q31_9, .ref q39_9, .ref q47_9, .ref q55_9, .null, .int 0, .int 0])), (q7_9, .inl (cI, 20, .inl (fun _ => 0))), (q15_9, .inl (cI, 20, .inl (fun _ => 0))), (q23_9, .inl (cI, 20, .inl (fun _ => 0))), (q31_9, .inl (cI, 24, .inl (fun _ => 0))), (q39_9, .inl (cI, 48, .inl (fun _ => 0))), (q47_9, .inl (cI, 48, .inl (fun _ => 0))), (q55_9, .inl (cI, 80, .inl (fun _ => 0))), (q18, .inl (cI, 20, .inl (fun _ => 0))), (q26, .inl (cI, 44, .inl (fun _ => 0))), (q34, .inl (cI, 44, .inl (fun _ => 0))), (q42, .inl (cI, 44, .inl (fun _ => 0))), (q59, .inl (cJ, 96, .inr (.inl (fun _ => 0)))), (q67, .inl (cI, 24, .inl (fun _ => 0))), (q75, .inl (cI, 15, .inl (fun _ => 0))), (q92, .inl (cI, 6, .inl (fun _ => 0))), (q51, .inl (cI, 264, .inl ((fun _ => (-1)))))]) (w1 := [(q84, .inl (cI, 225, .inl (fun _ => 5)))]) hP hD [16] [0, 1, 2, 3, 4, 5, 6, 7, 8, 9, 10, 11, 12, 13, 14, 15, 17, 18] rfl rfl (by decide) (by decide) hk1 hFc hP1 hD1
  have hP : va_P (dC, dI) classes [(h0, .inr (4, [.ref q5, .int 0, .ref q18, .ref q26, .ref q34, .ref q42, .ref q51, .ref q59, .ref q67, .ref q75, .ref q84, .ref q92])), (q5, .inr (3, [.int 0, .int 0, .ref q7_9, .ref q15_9, .ref q23_9, .ref q31_9, .ref q39_9, .ref q47_9, .ref q55_9, .null, .int 0, .int 0])), (q7_9, .inl (cI, 20, .inl (fun _ => 0))), (q15_9, .inl (cI, 20, .inl (fun _ => 0))), (q23_9, .inl (cI, 20, .inl (fun _ => 0))), (q31_9, .inl (cI, 24, .inl (fun _ => 0))), (q39_9, .inl (cI, 48, .inl (fun _ => 0))), (q47_9, .inl (cI, 48, .inl (fun _ => 0))), (q55_9, .inl (cI, 80, .inl (fun _ => 0))), (q18, .inl (cI, 20, .inl (fun _ => 0))), (q26, .inl (cI, 44, .inl (fun _ => 0))), (q34, .inl (cI, 44, .inl (fun _ => 0))), (q42, .inl (cI, 44, .inl (fun _ => 0))), (q59, .inl (cJ, 96, .inr (.inl (fun _ => 0)))), (q67, .inl (cI, 24, .inl (fun _ => 0))), (q75, .inl (cI, 15, .inl (fun _ => 0))), (q92, .inl (cI, 6, .inl (fun _ => 0))), (q51, .inl (cI, 264, .inl ((fun _ => (-1))))), (q84, .inl (cI, 225, .inl (fun _ => 5)))] H := hP
  have hD : va_D A [(h0, .inr (4, [.ref q5, .int 0, .ref q18, .ref q26, .ref q34, .ref q42, .ref q51, .ref q59, .ref q67, .ref q75, .ref q84, .ref q92])), (q5, .inr (3, [.int 0, .int 0, .ref q7_9, .ref q15_9, .ref q23_9, .ref q31_9, .ref q39_9, .ref q47_9, .ref q55_9, .null, .int 0, .int 0])), (q7_9, .inl (cI, 20, .inl (fun _ => 0))), (q15_9, .inl (cI, 20, .inl (fun _ => 0))), (q23_9, .inl (cI, 20, .inl (fun _ => 0))), (q31_9, .inl (cI, 24, .inl (fun _ => 0))), (q39_9, .inl (cI, 48, .inl (fun _ => 0))), (q47_9, .inl (cI, 48, .inl (fun _ => 0))), (q55_9, .inl (cI, 80, .inl (fun _ => 0))), (q18, .inl (cI, 20, .inl (fun _ => 0))), (q26, .inl (cI, 44, .inl (fun _ => 0))), (q34, .inl (cI, 44, .inl (fun _ => 0))), (q42, .inl (cI, 44, .inl (fun _ => 0))), (q59, .inl (cJ, 96, .inr (.inl (fun _ => 0)))), (q67, .inl (cI, 24, .inl (fun _ => 0))), (q75, .inl (cI, 15, .inl (fun _ => 0))), (q92, .inl (cI, 6, .inl (fun _ => 0))), (q51, .inl (cI, 264, .inl ((fun _ => (-1))))), (q84, .inl (cI, 225, .inl (fun _ => 5)))] := hD
  refine lv_aload_n hx hb d_St_init_113 rfl (lv_at hl 0 rfl) ?_
  refine va_get (D := (dC, dI)) (ci := 4) (v := .ref q92) (C := R_St) (T := F_St) (N := 12) hx hb hts (fun w h => List.mem_cons_of_mem _ (in_St w h)) hown hK.1 hP 0 rfl rfl 11 (by decide) (hts _ (List.mem_cons_of_mem _ mw_181)) (fun _ h9 => h9) rfl d_St_init_114 ?_
  refine lv_ldc (v := 86400) hx hb hown (hts _ (List.mem_cons_of_mem _ mw_148)) d_St_init_117 ?_
  have hPc := hP.sub (ws' := [(q92, .inl (cI, 6, .inl (fun _ => 0)))]) [16] rfl
  have hDc := hD.sub (ws' := [(q92, .inl (cI, 6, .inl (fun _ => 0)))]) [16] (by decide) rfl
  have hFc := va_free (wc := [(q92, .inl (cI, 6, .inl (fun _ => 0)))]) hD hS hA [16] rfl
  refine va_callv (va_runS (As := [.ref q92, .int 86400]) (rest := []) ⟨hx, hb, hml, hown, hts⟩ (c_Ar_fillI l dC dI cI cB cZ cJ 86400 q92 6 (fun _ => 0) (by decide) H.size) (va_cwS 2 hts (tb_S2 z1_mw_145 z1_mw_146 mw_6 z1_mw_147) rfl rfl rfl ⟨by decide +kernel, by decide +kernel, by decide +kernel⟩ ⟨(Nat.le_of_ble_eq_true rfl), (Nat.le_of_ble_eq_true rfl)⟩) ⟨pw_blind, pw_pre hPc hK hDc⟩ rfl rfl hl.1 rfl (lv_room (Nat.le_of_ble_eq_true rfl)) d_St_init_119 ⟨(Nat.le_of_ble_eq_true rfl), (Nat.le_of_ble_eq_true rfl)⟩) hS (fun q _ h => hFc q h) hFc (fun u t H locs ht hvm hw hB hz1 hk1 hS => ?_)
  obtain ⟨hP1, hD1⟩ := hB
  rw [ht] at hP1
  obtain ⟨hP, hD⟩ := va_join (wr := [(h0, .inr (4, [.ref q5, .int 0, .ref q18, .ref q26, .ref q34, .ref q42, .ref q51, .ref q59, .ref q67, .ref q75, .ref q84, .ref q92])), (q5, .inr (3, [.int 0, .int 0, .ref q7_9, .ref q15_9, .ref q23_9, .ref q31_9, .ref q39_9, .ref q47_9, .ref q55_9, .null, .int 0, .int 0])), (q7_9, .inl (cI, 20, .inl (fun _ => 0))), (q15_9, .inl (cI, 20, .inl (fun _ => 0))), (q23_9, .inl (cI, 20, .inl (fun _ => 0))), (q31_9, .inl (cI, 24, .inl (fun _ => 0))), (q39_9, .inl (cI, 48, .inl (fun _ => 0))), (q47_9, .inl (cI, 48, .inl (fun _ => 0))), (q55_9, .inl (cI, 80, .inl (fun _ => 0))), (q18, .inl (cI, 20, .inl (fun _ => 0))), (q26, .inl (cI, 44, .inl (fun _ => 0))), (q34, .inl (cI, 44, .inl (fun _ => 0))), (q42, .inl (cI, 44, .inl (fun _ => 0))), (q59, .inl (cJ, 96, .inr (.inl (fun _ => 0)))), (q67, .inl (cI, 24, .inl (fun _ => 0))), (q75, .inl (cI, 15, .inl (fun _ => 0))), (q51, .inl (cI, 264, .inl ((fun _ => (-1))))), (q84, .inl (cI, 225, .inl (fun _ => 5)))]) (w1 := [(q92, .inl (cI, 6, .inl (fun _ => 86400)))]) hP hD [16] [0, 1, 2, 3, 4, 5, 6, 7, 8, 9, 10, 11, 12, 13, 14, 15, 17, 18] rfl rfl (by decide) (by decide) hk1 hFc hP1 hD1
  have hP : va_P (dC, dI) classes [(h0, .inr (4, [.ref q5, .int 0, .ref q18, .ref q26, .ref q34, .ref q42, .ref q51, .ref q59, .ref q67, .ref q75, .ref q84, .ref q92])), (q5, .inr (3, [.int 0, .int 0, .ref q7_9, .ref q15_9, .ref q23_9, .ref q31_9, .ref q39_9, .ref q47_9, .ref q55_9, .null, .int 0, .int 0])), (q7_9, .inl (cI, 20, .inl (fun _ => 0))), (q15_9, .inl (cI, 20, .inl (fun _ => 0))), (q23_9, .inl (cI, 20, .inl (fun _ => 0))), (q31_9, .inl (cI, 24, .inl (fun _ => 0))), (q39_9, .inl (cI, 48, .inl (fun _ => 0))), (q47_9, .inl (cI, 48, .inl (fun _ => 0))), (q55_9, .inl (cI, 80, .inl (fun _ => 0))), (q18, .inl (cI, 20, .inl (fun _ => 0))), (q26, .inl (cI, 44, .inl (fun _ => 0))), (q34, .inl (cI, 44, .inl (fun _ => 0))), (q42, .inl (cI, 44, .inl (fun _ => 0))), (q59, .inl (cJ, 96, .inr (.inl (fun _ => 0)))), (q67, .inl (cI, 24, .inl (fun _ => 0))), (q75, .inl (cI, 15, .inl (fun _ => 0))), (q51, .inl (cI, 264, .inl ((fun _ => (-1))))), (q84, .inl (cI, 225, .inl (fun _ => 5))), (q92, .inl (cI, 6, .inl (fun _ => 86400)))] H := hP
  have hD : va_D A [(h0, .inr (4, [.ref q5, .int 0, .ref q18, .ref q26, .ref q34, .ref q42, .ref q51, .ref q59, .ref q67, .ref q75, .ref q84, .ref q92])), (q5, .inr (3, [.int 0, .int 0, .ref q7_9, .ref q15_9, .ref q23_9, .ref q31_9, .ref q39_9, .ref q47_9, .ref q55_9, .null, .int 0, .int 0])), (q7_9, .inl (cI, 20, .inl (fun _ => 0))), (q15_9, .inl (cI, 20, .inl (fun _ => 0))), (q23_9, .inl (cI, 20, .inl (fun _ => 0))), (q31_9, .inl (cI, 24, .inl (fun _ => 0))), (q39_9, .inl (cI, 48, .inl (fun _ => 0))), (q47_9, .inl (cI, 48, .inl (fun _ => 0))), (q55_9, .inl (cI, 80, .inl (fun _ => 0))), (q18, .inl (cI, 20, .inl (fun _ => 0))), (q26, .inl (cI, 44, .inl (fun _ => 0))), (q34, .inl (cI, 44, .inl (fun _ => 0))), (q42, .inl (cI, 44, .inl (fun _ => 0))), (q59, .inl (cJ, 96, .inr (.inl (fun _ => 0)))), (q67, .inl (cI, 24, .inl (fun _ => 0))), (q75, .inl (cI, 15, .inl (fun _ => 0))), (q51, .inl (cI, 264, .inl ((fun _ => (-1))))), (q84, .inl (cI, 225, .inl (fun _ => 5))), (q92, .inl (cI, 6, .inl (fun _ => 86400)))] := hD
  exact W.vret hx hb hr (fun t ht hW => ⟨⟨(), rfl, trivial, ⟨q5, q7_9, q15_9, q23_9, q31_9, q39_9, q47_9, q55_9, q18, q26, q34, q42, q59, q67, q75, q51, q84, q92, by rw [ht]; exact hP, hD⟩⟩, hS.F ht⟩) hS.2.2 d_St_init_122
abbrev t_Sf_init_46 : List UInt8 := 177 :: []
abbrev t_Sf_init_43 : List UInt8 := 181 :: 0 :: 29 :: t_Sf_init_46
abbrev t_Sf_init_42 : List UInt8 := 44 :: t_Sf_init_43
abbrev t_Sf_init_41 : List UInt8 := 42 :: t_Sf_init_42
abbrev t_Sf_init_38 : List UInt8 := 181 :: 0 :: 25 :: t_Sf_init_41
abbrev t_Sf_init_37 : List UInt8 := 43 :: t_Sf_init_38
abbrev t_Sf_init_36 : List UInt8 := 42 :: t_Sf_init_37
abbrev t_Sf_init_33 : List UInt8 := 181 :: 0 :: 22 :: t_Sf_init_36
abbrev t_Sf_init_31 : List UInt8 := 188 :: 11 :: t_Sf_init_33
abbrev t_Sf_init_29 : List UInt8 := 16 :: 44 :: t_Sf_init_31
abbrev t_Sf_init_28 : List UInt8 := 42 :: t_Sf_init_29
abbrev t_Sf_init_25 : List UInt8 := 181 :: 0 :: 19 :: t_Sf_init_28
abbrev t_Sf_init_23 : List UInt8 := 188 :: 11 :: t_Sf_init_25
abbrev t_Sf_init_21 : List UInt8 := 16 :: 15 :: t_Sf_init_23
abbrev t_Sf_init_20 : List UInt8 := 42 :: t_Sf_init_21
abbrev t_Sf_init_17 : List UInt8 := 181 :: 0 :: 15 :: t_Sf_init_20
abbrev t_Sf_init_15 : List UInt8 := 188 :: 10 :: t_Sf_init_17
abbrev t_Sf_init_13 : List UInt8 := 16 :: 15 :: t_Sf_init_15
abbrev t_Sf_init_12 : List UInt8 := 42 :: t_Sf_init_13
abbrev t_Sf_init_9 : List UInt8 := 181 :: 0 :: 9 :: t_Sf_init_12
abbrev t_Sf_init_7 : List UInt8 := 188 :: 11 :: t_Sf_init_9
abbrev t_Sf_init_5 : List UInt8 := 16 :: 15 :: t_Sf_init_7
abbrev t_Sf_init_4 : List UInt8 := 42 :: t_Sf_init_5
abbrev t_Sf_init_1 : List UInt8 := 183 :: 0 :: 3 :: t_Sf_init_4
abbrev t_Sf_init_0 : List UInt8 := 42 :: t_Sf_init_1
theorem a_Sf_init_0 : dk_at b_Sf_init 0 t_Sf_init_0 := dk_start (by decide +kernel)
theorem a_Sf_init_1 : dk_at b_Sf_init 1 t_Sf_init_1 := dk_go 1 a_Sf_init_0 rfl
theorem a_Sf_init_4 : dk_at b_Sf_init 4 t_Sf_init_4 := dk_go 3 a_Sf_init_1 rfl
theorem a_Sf_init_5 : dk_at b_Sf_init 5 t_Sf_init_5 := dk_go 1 a_Sf_init_4 rfl
theorem a_Sf_init_7 : dk_at b_Sf_init 7 t_Sf_init_7 := dk_go 2 a_Sf_init_5 rfl
theorem a_Sf_init_9 : dk_at b_Sf_init 9 t_Sf_init_9 := dk_go 2 a_Sf_init_7 rfl
theorem a_Sf_init_12 : dk_at b_Sf_init 12 t_Sf_init_12 := dk_go 3 a_Sf_init_9 rfl
theorem a_Sf_init_13 : dk_at b_Sf_init 13 t_Sf_init_13 := dk_go 1 a_Sf_init_12 rfl
theorem a_Sf_init_15 : dk_at b_Sf_init 15 t_Sf_init_15 := dk_go 2 a_Sf_init_13 rfl
theorem a_Sf_init_17 : dk_at b_Sf_init 17 t_Sf_init_17 := dk_go 2 a_Sf_init_15 rfl
theorem a_Sf_init_20 : dk_at b_Sf_init 20 t_Sf_init_20 := dk_go 3 a_Sf_init_17 rfl
theorem a_Sf_init_21 : dk_at b_Sf_init 21 t_Sf_init_21 := dk_go 1 a_Sf_init_20 rfl
theorem a_Sf_init_23 : dk_at b_Sf_init 23 t_Sf_init_23 := dk_go 2 a_Sf_init_21 rfl
theorem a_Sf_init_25 : dk_at b_Sf_init 25 t_Sf_init_25 := dk_go 2 a_Sf_init_23 rfl
theorem a_Sf_init_28 : dk_at b_Sf_init 28 t_Sf_init_28 := dk_go 3 a_Sf_init_25 rfl
theorem a_Sf_init_29 : dk_at b_Sf_init 29 t_Sf_init_29 := dk_go 1 a_Sf_init_28 rfl
theorem a_Sf_init_31 : dk_at b_Sf_init 31 t_Sf_init_31 := dk_go 2 a_Sf_init_29 rfl
theorem a_Sf_init_33 : dk_at b_Sf_init 33 t_Sf_init_33 := dk_go 2 a_Sf_init_31 rfl
theorem a_Sf_init_36 : dk_at b_Sf_init 36 t_Sf_init_36 := dk_go 3 a_Sf_init_33 rfl
theorem a_Sf_init_37 : dk_at b_Sf_init 37 t_Sf_init_37 := dk_go 1 a_Sf_init_36 rfl
theorem a_Sf_init_38 : dk_at b_Sf_init 38 t_Sf_init_38 := dk_go 1 a_Sf_init_37 rfl
theorem a_Sf_init_41 : dk_at b_Sf_init 41 t_Sf_init_41 := dk_go 3 a_Sf_init_38 rfl
theorem a_Sf_init_42 : dk_at b_Sf_init 42 t_Sf_init_42 := dk_go 1 a_Sf_init_41 rfl
theorem a_Sf_init_43 : dk_at b_Sf_init 43 t_Sf_init_43 := dk_go 1 a_Sf_init_42 rfl
theorem a_Sf_init_46 : dk_at b_Sf_init 46 t_Sf_init_46 := dk_go 3 a_Sf_init_43 rfl
theorem d_Sf_init_0 : decode b_Sf_init 0 = .ok (.aload_n 0, 1) := dk_0 a_Sf_init_0 (dko_42 _)
theorem d_Sf_init_1 : decode b_Sf_init 1 = .ok (.invokespecial 3, 3) := dk_U2 a_Sf_init_1 (dko_183 _) rfl
theorem d_Sf_init_4 : decode b_Sf_init 4 = .ok (.aload_n 0, 1) := dk_0 a_Sf_init_4 (dko_42 _)
theorem d_Sf_init_5 : decode b_Sf_init 5 = .ok (.bipush 15, 2) := dk_S1 a_Sf_init_5 (dko_16 _) (by decide +kernel)
theorem d_Sf_init_7 : decode b_Sf_init 7 = .ok (.newarray .long, 2) := dk_N a_Sf_init_7 (dko_188 _) rfl
theorem d_Sf_init_9 : decode b_Sf_init 9 = .ok (.putfield 9, 3) := dk_U2 a_Sf_init_9 (dko_181 _) rfl
theorem d_Sf_init_12 : decode b_Sf_init 12 = .ok (.aload_n 0, 1) := dk_0 a_Sf_init_12 (dko_42 _)
theorem d_Sf_init_13 : decode b_Sf_init 13 = .ok (.bipush 15, 2) := dk_S1 a_Sf_init_13 (dko_16 _) (by decide +kernel)
theorem d_Sf_init_15 : decode b_Sf_init 15 = .ok (.newarray .int, 2) := dk_N a_Sf_init_15 (dko_188 _) rfl
theorem d_Sf_init_17 : decode b_Sf_init 17 = .ok (.putfield 15, 3) := dk_U2 a_Sf_init_17 (dko_181 _) rfl
theorem d_Sf_init_20 : decode b_Sf_init 20 = .ok (.aload_n 0, 1) := dk_0 a_Sf_init_20 (dko_42 _)
theorem d_Sf_init_21 : decode b_Sf_init 21 = .ok (.bipush 15, 2) := dk_S1 a_Sf_init_21 (dko_16 _) (by decide +kernel)
theorem d_Sf_init_23 : decode b_Sf_init 23 = .ok (.newarray .long, 2) := dk_N a_Sf_init_23 (dko_188 _) rfl
theorem d_Sf_init_25 : decode b_Sf_init 25 = .ok (.putfield 19, 3) := dk_U2 a_Sf_init_25 (dko_181 _) rfl
theorem d_Sf_init_28 : decode b_Sf_init 28 = .ok (.aload_n 0, 1) := dk_0 a_Sf_init_28 (dko_42 _)
theorem d_Sf_init_29 : decode b_Sf_init 29 = .ok (.bipush 44, 2) := dk_S1 a_Sf_init_29 (dko_16 _) (by decide +kernel)
theorem d_Sf_init_31 : decode b_Sf_init 31 = .ok (.newarray .long, 2) := dk_N a_Sf_init_31 (dko_188 _) rfl
theorem d_Sf_init_33 : decode b_Sf_init 33 = .ok (.putfield 22, 3) := dk_U2 a_Sf_init_33 (dko_181 _) rfl
theorem d_Sf_init_36 : decode b_Sf_init 36 = .ok (.aload_n 0, 1) := dk_0 a_Sf_init_36 (dko_42 _)
theorem d_Sf_init_37 : decode b_Sf_init 37 = .ok (.aload_n 1, 1) := dk_0 a_Sf_init_37 (dko_43 _)
theorem d_Sf_init_38 : decode b_Sf_init 38 = .ok (.putfield 25, 3) := dk_U2 a_Sf_init_38 (dko_181 _) rfl
theorem d_Sf_init_41 : decode b_Sf_init 41 = .ok (.aload_n 0, 1) := dk_0 a_Sf_init_41 (dko_42 _)
theorem d_Sf_init_42 : decode b_Sf_init 42 = .ok (.aload_n 2, 1) := dk_0 a_Sf_init_42 (dko_44 _)
theorem d_Sf_init_43 : decode b_Sf_init 43 = .ok (.putfield 29, 3) := dk_U2 a_Sf_init_43 (dko_181 _) rfl
theorem d_Sf_init_46 : decode b_Sf_init 46 = .ok (.return_, 1) := dk_0 a_Sf_init_46 (dko_177 _)
set_option maxHeartbeats 4000000 in
set_option maxRecDepth 100000 in
theorem c_Sf_init (l : Launch) (dC : Nat → ClassId) (dI : Nat → Nat → Nat) (cI cB cZ cJ : ClassId) (h0 : Nat) (r1 : Nat) (r2 : Nat) (sz : Nat) : Met l y_Sf_init w_Sf_init ({ frames := 1, cells := 4, slots := 89, locals := 20 }) (va_Pc [.ref h0, .ref r1, .ref r2] (PW dC dI cI cB cZ cJ [(h0, .inr (6, [.null, .null, .null, .null, .null, .null, .int 0, .int 0, .int 0, .int 0]))] sz)) (va_Qv (fun _ : Unit => True) (fun (_ : Unit) (t : State) => ∃ q7 q15 q23 q31 : Nat, va_P (dC, dI) classes [(h0, .inr (6, [.ref r1, .ref r2, .ref q7, .ref q15, .ref q23, .ref q31, .int 0, .int 0, .int 0, .int 0])), (q7, .inl (cJ, 15, .inr (.inl (fun _ => 0)))), (q15, .inl (cI, 15, .inl (fun _ => 0))), (q23, .inl (cJ, 15, .inr (.inl (fun _ => 0)))), (q31, .inl (cJ, 44, .inr (.inl (fun _ => 0))))] t.heap ∧ va_D (va_A [(h0, .inr (6, [.null, .null, .null, .null, .null, .null, .int 0, .int 0, .int 0, .int 0]))] sz) [(h0, .inr (6, [.ref r1, .ref r2, .ref q7, .ref q15, .ref q23, .ref q31, .int 0, .int 0, .int 0, .int 0])), (q7, .inl (cJ, 15, .inr (.inl (fun _ => 0)))), (q15, .inl (cI, 15, .inl (fun _ => 0))), (q23, .inl (cJ, 15, .inr (.inl (fun _ => 0)))), (q31, .inl (cJ, 44, .inr (.inl (fun _ => 0))))]) (va_A [(h0, .inr (6, [.null, .null, .null, .null, .null, .null, .int 0, .int 0, .int 0, .int 0]))] sz)) 4 89 (va_A [(h0, .inr (6, [.null, .null, .null, .null, .null, .null, .int 0, .int 0, .int 0, .int 0]))] sz) := by
  refine Met.ofW (cc := b_Sf_init) (maxL := 3) (ret := none) (by decide) rfl ?_
  intro p e s m args below meth c s₁ B hml hv
  obtain ⟨rfl, hsz, hP, hK, hD⟩ := hv
  have hx := B.exec
  have hb := B.bytes
  have hr := B.returns
  have hts := atoms_spec (ws := w_Sf_init) B.pre
  have hown : s.vm.findClass R_Sf = some m.cls := findClass_of_methodNamed B.named
  have hlocks := B.notSynchronized
  have hin : meth.name = "<init>" := (name_of_methodNamed B.named B.method).1
  subst hsz
  have hD := hD.self (sz := s.heap.size)
  generalize hAe : va_A [(h0, .inr (6, [.null, .null, .null, .null, .null, .null, .int 0, .int 0, .int 0, .int 0]))] s.heap.size = A at hD ⊢
  have hA : ∀ q : Nat, s.heap.size ≤ q → A q := fun q h => by rw [← hAe]; exact Or.inr h
  have hS : va_S A s.heap s.heap [] := va_S.rf
  have hP : va_P (dC, dI) classes [(h0, .inr (6, [.null, .null, .null, .null, .null, .null, .int 0, .int 0, .int 0, .int 0]))] s.heap := hP
  have hl := lv_entry ([.ref h0, .ref r1, .ref r2]) (n := 3) (Nat.le_of_ble_eq_true rfl)
  rw [lg_entry_eq]
  generalize (lg_sl ([.ref h0, .ref r1, .ref r2]) ++ List.replicate (3 - (lg_sl ([.ref h0, .ref r1, .ref r2])).length) Slot.unset).toArray = ls at hl ⊢
  have hl : lv_has ls 3 [(0, .ref h0), (1, .ref r1), (2, .ref r2)] := hl
  refine lv_aload_n hx hb d_Sf_init_0 rfl (lv_at hl 0 rfl) ?_
  refine W.objInit hx hb hown (hts _ (List.mem_cons_of_mem _ mw_281)) (hts _ (List.mem_cons_of_mem _ mw_30)) (hts _ (List.mem_cons_of_mem _ mw_31)) rfl (by rw [hml]; exact hl.1) rfl d_Sf_init_1 (Nat.le_of_ble_eq_true rfl) (Nat.le_of_ble_eq_true rfl) ?_
  refine W.eq (g2 := F0 m 4 ls []) rfl ?_
  refine lv_aload_n hx hb d_Sf_init_4 rfl (lv_at hl 0 rfl) ?_
  refine lv_bipush (v := 15) hx hb d_Sf_init_5 (by decide) ?_
  refine ka_newa (atype := .long) (ty := .long) (N' := 15) (a0 := (15, .inr (.inl (fun _ => 0)))) hx hb (hts _ (List.mem_cons_of_mem _ mw_208)) rfl hK.1 hP hD hS hA 3 rfl (fun _ => rfl) (by decide) (by decide) (by decide) (Nat.le_of_ble_eq_true rfl) (Nat.le_of_ble_eq_true rfl) d_Sf_init_7 (fun q7 H hP hD hS => ?_)
  refine W.widen (k := 1) (n := 15) (Nat.le_refl _) (Nat.le_refl _) ?_
  refine va_putF (D := (dC, dI)) (ci := 6) (v := .ref q7) (ty := (.array .long)) (C := R_Sf) (T := F_Sf) (N := 10) hx hb hts (fun w h => List.mem_cons_of_mem _ (in_Sf w h)) t_Sf t_Sf_ok n_Sf hown hK.1 hP hD hS 0 rfl rfl 2 (by decide) (hts _ (List.mem_cons_of_mem _ mw_284)) (fun _ h9 => h9) rfl hin rfl (by decide +kernel) rfl rfl (Nat.le_of_ble_eq_true rfl) d_Sf_init_9 (fun H locs hP hD hS => ?_)
  have hP : va_P (dC, dI) classes [(h0, .inr (6, [.null, .null, .ref q7, .null, .null, .null, .int 0, .int 0, .int 0, .int 0])), (q7, .inl (cJ, 15, .inr (.inl (fun _ => 0))))] H := hP
  have hD : va_D A [(h0, .inr (6, [.null, .null, .ref q7, .null, .null, .null, .int 0, .int 0, .int 0, .int 0])), (q7, .inl (cJ, 15, .inr (.inl (fun _ => 0))))] := hD
  refine lv_aload_n hx hb d_Sf_init_12 rfl (lv_at hl 0 rfl) ?_
  refine lv_bipush (v := 15) hx hb d_Sf_init_13 (by decide) ?_
  refine ka_newa (atype := .int) (ty := .int) (N' := 15) (a0 := (15, .inl (fun _ => 0))) hx hb (hts _ (List.mem_cons_of_mem _ mw_53)) rfl hK.1 hP hD hS hA 0 rfl (fun _ => rfl) (by decide) (by decide) (by decide) (Nat.le_of_ble_eq_true rfl) (Nat.le_of_ble_eq_true rfl) d_Sf_init_15 (fun q15 H hP hD hS => ?_)
  refine W.widen (k := 2) (n := 30) (Nat.le_refl _) (Nat.le_refl _) ?_
  refine va_putF (D := (dC, dI)) (ci := 6) (v := .ref q15) (ty := (.array .int)) (C := R_Sf) (T := F_Sf) (N := 10) hx hb hts (fun w h => List.mem_cons_of_mem _ (in_Sf w h)) t_Sf t_Sf_ok n_Sf hown hK.1 hP hD hS 0 rfl rfl 3 (by decide) (hts _ (List.mem_cons_of_mem _ mw_285)) (fun _ h9 => h9) rfl hin rfl (by decide +kernel) rfl rfl (Nat.le_of_ble_eq_true rfl) d_Sf_init_17 (fun H locs hP hD hS => ?_)
  have hP : va_P (dC, dI) classes [(h0, .inr (6, [.null, .null, .ref q7, .ref q15, .null, .null, .int 0, .int 0, .int 0, .int 0])), (q7, .inl (cJ, 15, .inr (.inl (fun _ => 0)))), (q15, .inl (cI, 15, .inl (fun _ => 0)))] H := hP
  have hD : va_D A [(h0, .inr (6, [.null, .null, .ref q7, .ref q15, .null, .null, .int 0, .int 0, .int 0, .int 0])), (q7, .inl (cJ, 15, .inr (.inl (fun _ => 0)))), (q15, .inl (cI, 15, .inl (fun _ => 0)))] := hD
  refine lv_aload_n hx hb d_Sf_init_20 rfl (lv_at hl 0 rfl) ?_
  refine lv_bipush (v := 15) hx hb d_Sf_init_21 (by decide) ?_
  refine ka_newa (atype := .long) (ty := .long) (N' := 15) (a0 := (15, .inr (.inl (fun _ => 0)))) hx hb (hts _ (List.mem_cons_of_mem _ mw_208)) rfl hK.1 hP hD hS hA 3 rfl (fun _ => rfl) (by decide) (by decide) (by decide) (Nat.le_of_ble_eq_true rfl) (Nat.le_of_ble_eq_true rfl) d_Sf_init_23 (fun q23 H hP hD hS => ?_)
  refine W.widen (k := 3) (n := 45) (Nat.le_refl _) (Nat.le_refl _) ?_
  refine va_putF (D := (dC, dI)) (ci := 6) (v := .ref q23) (ty := (.array .long)) (C := R_Sf) (T := F_Sf) (N := 10) hx hb hts (fun w h => List.mem_cons_of_mem _ (in_Sf w h)) t_Sf t_Sf_ok n_Sf hown hK.1 hP hD hS 0 rfl rfl 4 (by decide) (hts _ (List.mem_cons_of_mem _ mw_286)) (fun _ h9 => h9) rfl hin rfl (by decide +kernel) rfl rfl (Nat.le_of_ble_eq_true rfl) d_Sf_init_25 (fun H locs hP hD hS => ?_)
  have hP : va_P (dC, dI) classes [(h0, .inr (6, [.null, .null, .ref q7, .ref q15, .ref q23, .null, .int 0, .int 0, .int 0, .int 0])), (q7, .inl (cJ, 15, .inr (.inl (fun _ => 0)))), (q15, .inl (cI, 15, .inl (fun _ => 0))), (q23, .inl (cJ, 15, .inr (.inl (fun _ => 0))))] H := hP
  have hD : va_D A [(h0, .inr (6, [.null, .null, .ref q7, .ref q15, .ref q23, .null, .int 0, .int 0, .int 0, .int 0])), (q7, .inl (cJ, 15, .inr (.inl (fun _ => 0)))), (q15, .inl (cI, 15, .inl (fun _ => 0))), (q23, .inl (cJ, 15, .inr (.inl (fun _ => 0))))] := hD
  refine lv_aload_n hx hb d_Sf_init_28 rfl (lv_at hl 0 rfl) ?_
  refine lv_bipush (v := 44) hx hb d_Sf_init_29 (by decide) ?_
  refine ka_newa (atype := .long) (ty := .long) (N' := 44) (a0 := (44, .inr (.inl (fun _ => 0)))) hx hb (hts _ (List.mem_cons_of_mem _ mw_208)) rfl hK.1 hP hD hS hA 3 rfl (fun _ => rfl) (by decide) (by decide) (by decide) (Nat.le_of_ble_eq_true rfl) (Nat.le_of_ble_eq_true rfl) d_Sf_init_31 (fun q31 H hP hD hS => ?_)
  refine W.widen (k := 4) (n := 89) (Nat.le_refl _) (Nat.le_refl _) ?_
  refine va_putF (D := (dC, dI)) (ci := 6) (v := .ref q31) (ty := (.array .long)) (C := R_Sf) (T := F_Sf) (N := 10) hx hb hts (fun w h => List.mem_cons_of_mem _ (in_Sf w h)) t_Sf t_Sf_ok n_Sf hown hK.1 hP hD hS 0 rfl rfl 5 (by decide) (hts _ (List.mem_cons_of_mem _ mw_287)) (fun _ h9 => h9) rfl hin rfl (by decide +kernel) rfl rfl (Nat.le_of_ble_eq_true rfl) d_Sf_init_33 (fun H locs hP hD hS => ?_)
  have hP : va_P (dC, dI) classes [(h0, .inr (6, [.null, .null, .ref q7, .ref q15, .ref q23, .ref q31, .int 0, .int 0, .int 0, .int 0])), (q7, .inl (cJ, 15, .inr (.inl (fun _ => 0)))), (q15, .inl (cI, 15, .inl (fun _ => 0))), (q23, .inl (cJ, 15, .inr (.inl (fun _ => 0)))), (q31, .inl (cJ, 44, .inr (.inl (fun _ => 0))))] H := hP
  have hD : va_D A [(h0, .inr (6, [.null, .null, .ref q7, .ref q15, .ref q23, .ref q31, .int 0, .int 0, .int 0, .int 0])), (q7, .inl (cJ, 15, .inr (.inl (fun _ => 0)))), (q15, .inl (cI, 15, .inl (fun _ => 0))), (q23, .inl (cJ, 15, .inr (.inl (fun _ => 0)))), (q31, .inl (cJ, 44, .inr (.inl (fun _ => 0))))] := hD
  refine lv_aload_n hx hb d_Sf_init_36 rfl (lv_at hl 0 rfl) ?_
  refine lv_aload_n hx hb d_Sf_init_37 rfl (lv_at hl 1 rfl) ?_
  refine va_putF (D := (dC, dI)) (ci := 6) (v := .ref r1) (ty := (.object "BreweryHouse$Stock")) (C := R_Sf) (T := F_Sf) (N := 10) hx hb hts (fun w h => List.mem_cons_of_mem _ (in_Sf w h)) t_Sf t_Sf_ok n_Sf hown hK.1 hP hD hS 0 rfl rfl 0 (by decide) (hts _ (List.mem_cons_of_mem _ mw_282)) (fun _ h9 => h9) rfl hin rfl (by decide +kernel) rfl rfl (Nat.le_of_ble_eq_true rfl) d_Sf_init_38 (fun H locs hP hD hS => ?_)
  have hP : va_P (dC, dI) classes [(h0, .inr (6, [.ref r1, .null, .ref q7, .ref q15, .ref q23, .ref q31, .int 0, .int 0, .int 0, .int 0])), (q7, .inl (cJ, 15, .inr (.inl (fun _ => 0)))), (q15, .inl (cI, 15, .inl (fun _ => 0))), (q23, .inl (cJ, 15, .inr (.inl (fun _ => 0)))), (q31, .inl (cJ, 44, .inr (.inl (fun _ => 0))))] H := hP
  have hD : va_D A [(h0, .inr (6, [.ref r1, .null, .ref q7, .ref q15, .ref q23, .ref q31, .int 0, .int 0, .int 0, .int 0])), (q7, .inl (cJ, 15, .inr (.inl (fun _ => 0)))), (q15, .inl (cI, 15, .inl (fun _ => 0))), (q23, .inl (cJ, 15, .inr (.inl (fun _ => 0)))), (q31, .inl (cJ, 44, .inr (.inl (fun _ => 0))))] := hD
  refine lv_aload_n hx hb d_Sf_init_41 rfl (lv_at hl 0 rfl) ?_
  refine lv_aload_n hx hb d_Sf_init_42 rfl (lv_at hl 2 rfl) ?_
  refine va_putF (D := (dC, dI)) (ci := 6) (v := .ref r2) (ty := (.object "BreweryHouse$Ways")) (C := R_Sf) (T := F_Sf) (N := 10) hx hb hts (fun w h => List.mem_cons_of_mem _ (in_Sf w h)) t_Sf t_Sf_ok n_Sf hown hK.1 hP hD hS 0 rfl rfl 1 (by decide) (hts _ (List.mem_cons_of_mem _ mw_283)) (fun _ h9 => h9) rfl hin rfl (by decide +kernel) rfl rfl (Nat.le_of_ble_eq_true rfl) d_Sf_init_43 (fun H locs hP hD hS => ?_)
  have hP : va_P (dC, dI) classes [(h0, .inr (6, [.ref r1, .ref r2, .ref q7, .ref q15, .ref q23, .ref q31, .int 0, .int 0, .int 0, .int 0])), (q7, .inl (cJ, 15, .inr (.inl (fun _ => 0)))), (q15, .inl (cI, 15, .inl (fun _ => 0))), (q23, .inl (cJ, 15, .inr (.inl (fun _ => 0)))), (q31, .inl (cJ, 44, .inr (.inl (fun _ => 0))))] H := hP
  have hD : va_D A [(h0, .inr (6, [.ref r1, .ref r2, .ref q7, .ref q15, .ref q23, .ref q31, .int 0, .int 0, .int 0, .int 0])), (q7, .inl (cJ, 15, .inr (.inl (fun _ => 0)))), (q15, .inl (cI, 15, .inl (fun _ => 0))), (q23, .inl (cJ, 15, .inr (.inl (fun _ => 0)))), (q31, .inl (cJ, 44, .inr (.inl (fun _ => 0))))] := hD
  exact W.vret hx hb hr (fun t ht hW => ⟨⟨(), rfl, trivial, ⟨q7, q15, q23, q31, by rw [ht]; exact hP, hD⟩⟩, hS.F ht⟩) hS.2.2 d_Sf_init_46
abbrev t_Ac_init_70 : List UInt8 := 177 :: []
abbrev t_Ac_init_67 : List UInt8 := 184 :: 0 :: 43 :: t_Ac_init_70
abbrev t_Ac_init_66 : List UInt8 := 2 :: t_Ac_init_67
abbrev t_Ac_init_63 : List UInt8 := 180 :: 0 :: 18 :: t_Ac_init_66
abbrev t_Ac_init_62 : List UInt8 := 42 :: t_Ac_init_63
abbrev t_Ac_init_59 : List UInt8 := 181 :: 0 :: 39 :: t_Ac_init_62
abbrev t_Ac_init_58 : List UInt8 := 45 :: t_Ac_init_59
abbrev t_Ac_init_57 : List UInt8 := 42 :: t_Ac_init_58
abbrev t_Ac_init_54 : List UInt8 := 181 :: 0 :: 35 :: t_Ac_init_57
abbrev t_Ac_init_53 : List UInt8 := 44 :: t_Ac_init_54
abbrev t_Ac_init_52 : List UInt8 := 42 :: t_Ac_init_53
abbrev t_Ac_init_49 : List UInt8 := 181 :: 0 :: 31 :: t_Ac_init_52
abbrev t_Ac_init_48 : List UInt8 := 43 :: t_Ac_init_49
abbrev t_Ac_init_47 : List UInt8 := 42 :: t_Ac_init_48
abbrev t_Ac_init_44 : List UInt8 := 181 :: 0 :: 28 :: t_Ac_init_47
abbrev t_Ac_init_42 : List UInt8 := 188 :: 10 :: t_Ac_init_44
abbrev t_Ac_init_40 : List UInt8 := 16 :: 32 :: t_Ac_init_42
abbrev t_Ac_init_39 : List UInt8 := 42 :: t_Ac_init_40
abbrev t_Ac_init_36 : List UInt8 := 181 :: 0 :: 25 :: t_Ac_init_39
abbrev t_Ac_init_34 : List UInt8 := 188 :: 10 :: t_Ac_init_36
abbrev t_Ac_init_32 : List UInt8 := 16 :: 32 :: t_Ac_init_34
abbrev t_Ac_init_31 : List UInt8 := 42 :: t_Ac_init_32
abbrev t_Ac_init_28 : List UInt8 := 181 :: 0 :: 22 :: t_Ac_init_31
abbrev t_Ac_init_26 : List UInt8 := 188 :: 10 :: t_Ac_init_28
abbrev t_Ac_init_24 : List UInt8 := 16 :: 32 :: t_Ac_init_26
abbrev t_Ac_init_23 : List UInt8 := 42 :: t_Ac_init_24
abbrev t_Ac_init_20 : List UInt8 := 181 :: 0 :: 18 :: t_Ac_init_23
abbrev t_Ac_init_18 : List UInt8 := 188 :: 10 :: t_Ac_init_20
abbrev t_Ac_init_16 : List UInt8 := 16 :: 32 :: t_Ac_init_18
abbrev t_Ac_init_15 : List UInt8 := 42 :: t_Ac_init_16
abbrev t_Ac_init_12 : List UInt8 := 181 :: 0 :: 12 :: t_Ac_init_15
abbrev t_Ac_init_9 : List UInt8 := 183 :: 0 :: 11 :: t_Ac_init_12
abbrev t_Ac_init_8 : List UInt8 := 89 :: t_Ac_init_9
abbrev t_Ac_init_5 : List UInt8 := 187 :: 0 :: 9 :: t_Ac_init_8
abbrev t_Ac_init_4 : List UInt8 := 42 :: t_Ac_init_5
abbrev t_Ac_init_1 : List UInt8 := 183 :: 0 :: 3 :: t_Ac_init_4
abbrev t_Ac_init_0 : List UInt8 := 42 :: t_Ac_init_1
theorem a_Ac_init_0 : dk_at b_Ac_init 0 t_Ac_init_0 := dk_start (by decide +kernel)
theorem a_Ac_init_1 : dk_at b_Ac_init 1 t_Ac_init_1 := dk_go 1 a_Ac_init_0 rfl
theorem a_Ac_init_4 : dk_at b_Ac_init 4 t_Ac_init_4 := dk_go 3 a_Ac_init_1 rfl
theorem a_Ac_init_5 : dk_at b_Ac_init 5 t_Ac_init_5 := dk_go 1 a_Ac_init_4 rfl
theorem a_Ac_init_8 : dk_at b_Ac_init 8 t_Ac_init_8 := dk_go 3 a_Ac_init_5 rfl
theorem a_Ac_init_9 : dk_at b_Ac_init 9 t_Ac_init_9 := dk_go 1 a_Ac_init_8 rfl
theorem a_Ac_init_12 : dk_at b_Ac_init 12 t_Ac_init_12 := dk_go 3 a_Ac_init_9 rfl
theorem a_Ac_init_15 : dk_at b_Ac_init 15 t_Ac_init_15 := dk_go 3 a_Ac_init_12 rfl
theorem a_Ac_init_16 : dk_at b_Ac_init 16 t_Ac_init_16 := dk_go 1 a_Ac_init_15 rfl
theorem a_Ac_init_18 : dk_at b_Ac_init 18 t_Ac_init_18 := dk_go 2 a_Ac_init_16 rfl
theorem a_Ac_init_20 : dk_at b_Ac_init 20 t_Ac_init_20 := dk_go 2 a_Ac_init_18 rfl
theorem a_Ac_init_23 : dk_at b_Ac_init 23 t_Ac_init_23 := dk_go 3 a_Ac_init_20 rfl
theorem a_Ac_init_24 : dk_at b_Ac_init 24 t_Ac_init_24 := dk_go 1 a_Ac_init_23 rfl
theorem a_Ac_init_26 : dk_at b_Ac_init 26 t_Ac_init_26 := dk_go 2 a_Ac_init_24 rfl
theorem a_Ac_init_28 : dk_at b_Ac_init 28 t_Ac_init_28 := dk_go 2 a_Ac_init_26 rfl
theorem a_Ac_init_31 : dk_at b_Ac_init 31 t_Ac_init_31 := dk_go 3 a_Ac_init_28 rfl
theorem a_Ac_init_32 : dk_at b_Ac_init 32 t_Ac_init_32 := dk_go 1 a_Ac_init_31 rfl
theorem a_Ac_init_34 : dk_at b_Ac_init 34 t_Ac_init_34 := dk_go 2 a_Ac_init_32 rfl
theorem a_Ac_init_36 : dk_at b_Ac_init 36 t_Ac_init_36 := dk_go 2 a_Ac_init_34 rfl
theorem a_Ac_init_39 : dk_at b_Ac_init 39 t_Ac_init_39 := dk_go 3 a_Ac_init_36 rfl
theorem a_Ac_init_40 : dk_at b_Ac_init 40 t_Ac_init_40 := dk_go 1 a_Ac_init_39 rfl
theorem a_Ac_init_42 : dk_at b_Ac_init 42 t_Ac_init_42 := dk_go 2 a_Ac_init_40 rfl
theorem a_Ac_init_44 : dk_at b_Ac_init 44 t_Ac_init_44 := dk_go 2 a_Ac_init_42 rfl
theorem a_Ac_init_47 : dk_at b_Ac_init 47 t_Ac_init_47 := dk_go 3 a_Ac_init_44 rfl
theorem a_Ac_init_48 : dk_at b_Ac_init 48 t_Ac_init_48 := dk_go 1 a_Ac_init_47 rfl
theorem a_Ac_init_49 : dk_at b_Ac_init 49 t_Ac_init_49 := dk_go 1 a_Ac_init_48 rfl
theorem a_Ac_init_52 : dk_at b_Ac_init 52 t_Ac_init_52 := dk_go 3 a_Ac_init_49 rfl
theorem a_Ac_init_53 : dk_at b_Ac_init 53 t_Ac_init_53 := dk_go 1 a_Ac_init_52 rfl
theorem a_Ac_init_54 : dk_at b_Ac_init 54 t_Ac_init_54 := dk_go 1 a_Ac_init_53 rfl
theorem a_Ac_init_57 : dk_at b_Ac_init 57 t_Ac_init_57 := dk_go 3 a_Ac_init_54 rfl
theorem a_Ac_init_58 : dk_at b_Ac_init 58 t_Ac_init_58 := dk_go 1 a_Ac_init_57 rfl
theorem a_Ac_init_59 : dk_at b_Ac_init 59 t_Ac_init_59 := dk_go 1 a_Ac_init_58 rfl
theorem a_Ac_init_62 : dk_at b_Ac_init 62 t_Ac_init_62 := dk_go 3 a_Ac_init_59 rfl
theorem a_Ac_init_63 : dk_at b_Ac_init 63 t_Ac_init_63 := dk_go 1 a_Ac_init_62 rfl
theorem a_Ac_init_66 : dk_at b_Ac_init 66 t_Ac_init_66 := dk_go 3 a_Ac_init_63 rfl
theorem a_Ac_init_67 : dk_at b_Ac_init 67 t_Ac_init_67 := dk_go 1 a_Ac_init_66 rfl
theorem a_Ac_init_70 : dk_at b_Ac_init 70 t_Ac_init_70 := dk_go 3 a_Ac_init_67 rfl
theorem d_Ac_init_0 : decode b_Ac_init 0 = .ok (.aload_n 0, 1) := dk_0 a_Ac_init_0 (dko_42 _)
theorem d_Ac_init_1 : decode b_Ac_init 1 = .ok (.invokespecial 3, 3) := dk_U2 a_Ac_init_1 (dko_183 _) rfl
theorem d_Ac_init_4 : decode b_Ac_init 4 = .ok (.aload_n 0, 1) := dk_0 a_Ac_init_4 (dko_42 _)
theorem d_Ac_init_5 : decode b_Ac_init 5 = .ok (.new 9, 3) := dk_U2 a_Ac_init_5 (dko_187 _) rfl
theorem d_Ac_init_8 : decode b_Ac_init 8 = .ok (.dup, 1) := dk_0 a_Ac_init_8 (dko_89 _)
theorem d_Ac_init_9 : decode b_Ac_init 9 = .ok (.invokespecial 11, 3) := dk_U2 a_Ac_init_9 (dko_183 _) rfl
theorem d_Ac_init_12 : decode b_Ac_init 12 = .ok (.putfield 12, 3) := dk_U2 a_Ac_init_12 (dko_181 _) rfl
theorem d_Ac_init_15 : decode b_Ac_init 15 = .ok (.aload_n 0, 1) := dk_0 a_Ac_init_15 (dko_42 _)
theorem d_Ac_init_16 : decode b_Ac_init 16 = .ok (.bipush 32, 2) := dk_S1 a_Ac_init_16 (dko_16 _) (by decide +kernel)
theorem d_Ac_init_18 : decode b_Ac_init 18 = .ok (.newarray .int, 2) := dk_N a_Ac_init_18 (dko_188 _) rfl
theorem d_Ac_init_20 : decode b_Ac_init 20 = .ok (.putfield 18, 3) := dk_U2 a_Ac_init_20 (dko_181 _) rfl
theorem d_Ac_init_23 : decode b_Ac_init 23 = .ok (.aload_n 0, 1) := dk_0 a_Ac_init_23 (dko_42 _)
theorem d_Ac_init_24 : decode b_Ac_init 24 = .ok (.bipush 32, 2) := dk_S1 a_Ac_init_24 (dko_16 _) (by decide +kernel)
theorem d_Ac_init_26 : decode b_Ac_init 26 = .ok (.newarray .int, 2) := dk_N a_Ac_init_26 (dko_188 _) rfl
theorem d_Ac_init_28 : decode b_Ac_init 28 = .ok (.putfield 22, 3) := dk_U2 a_Ac_init_28 (dko_181 _) rfl
theorem d_Ac_init_31 : decode b_Ac_init 31 = .ok (.aload_n 0, 1) := dk_0 a_Ac_init_31 (dko_42 _)
theorem d_Ac_init_32 : decode b_Ac_init 32 = .ok (.bipush 32, 2) := dk_S1 a_Ac_init_32 (dko_16 _) (by decide +kernel)
theorem d_Ac_init_34 : decode b_Ac_init 34 = .ok (.newarray .int, 2) := dk_N a_Ac_init_34 (dko_188 _) rfl
theorem d_Ac_init_36 : decode b_Ac_init 36 = .ok (.putfield 25, 3) := dk_U2 a_Ac_init_36 (dko_181 _) rfl
theorem d_Ac_init_39 : decode b_Ac_init 39 = .ok (.aload_n 0, 1) := dk_0 a_Ac_init_39 (dko_42 _)
theorem d_Ac_init_40 : decode b_Ac_init 40 = .ok (.bipush 32, 2) := dk_S1 a_Ac_init_40 (dko_16 _) (by decide +kernel)
theorem d_Ac_init_42 : decode b_Ac_init 42 = .ok (.newarray .int, 2) := dk_N a_Ac_init_42 (dko_188 _) rfl
theorem d_Ac_init_44 : decode b_Ac_init 44 = .ok (.putfield 28, 3) := dk_U2 a_Ac_init_44 (dko_181 _) rfl
theorem d_Ac_init_47 : decode b_Ac_init 47 = .ok (.aload_n 0, 1) := dk_0 a_Ac_init_47 (dko_42 _)
theorem d_Ac_init_48 : decode b_Ac_init 48 = .ok (.aload_n 1, 1) := dk_0 a_Ac_init_48 (dko_43 _)
theorem d_Ac_init_49 : decode b_Ac_init 49 = .ok (.putfield 31, 3) := dk_U2 a_Ac_init_49 (dko_181 _) rfl
theorem d_Ac_init_52 : decode b_Ac_init 52 = .ok (.aload_n 0, 1) := dk_0 a_Ac_init_52 (dko_42 _)
theorem d_Ac_init_53 : decode b_Ac_init 53 = .ok (.aload_n 2, 1) := dk_0 a_Ac_init_53 (dko_44 _)
theorem d_Ac_init_54 : decode b_Ac_init 54 = .ok (.putfield 35, 3) := dk_U2 a_Ac_init_54 (dko_181 _) rfl
theorem d_Ac_init_57 : decode b_Ac_init 57 = .ok (.aload_n 0, 1) := dk_0 a_Ac_init_57 (dko_42 _)
theorem d_Ac_init_58 : decode b_Ac_init 58 = .ok (.aload_n 3, 1) := dk_0 a_Ac_init_58 (dko_45 _)
theorem d_Ac_init_59 : decode b_Ac_init 59 = .ok (.putfield 39, 3) := dk_U2 a_Ac_init_59 (dko_181 _) rfl
theorem d_Ac_init_62 : decode b_Ac_init 62 = .ok (.aload_n 0, 1) := dk_0 a_Ac_init_62 (dko_42 _)
theorem d_Ac_init_63 : decode b_Ac_init 63 = .ok (.getfield 18, 3) := dk_U2 a_Ac_init_63 (dko_180 _) rfl
theorem d_Ac_init_66 : decode b_Ac_init 66 = .ok (.iconst (-1), 1) := dk_0 a_Ac_init_66 (dko_2 _)
theorem d_Ac_init_67 : decode b_Ac_init 67 = .ok (.invokestatic 43, 3) := dk_U2 a_Ac_init_67 (dko_184 _) rfl
theorem d_Ac_init_70 : decode b_Ac_init 70 = .ok (.return_, 1) := dk_0 a_Ac_init_70 (dko_177 _)
set_option maxHeartbeats 4000000 in
set_option maxRecDepth 100000 in
theorem c_Ac_init (l : Launch) (dC : Nat → ClassId) (dI : Nat → Nat → Nat) (cI cB cZ cJ : ClassId) (h0 : Nat) (r1 : Nat) (r2 : Nat) (r3 : Nat) (sz : Nat) : Met l y_Ac_init w_Ac_init ({ frames := 2, cells := 13, slots := 1827, locals := 40 }) (va_Pc [.ref h0, .ref r1, .ref r2, .ref r3] (PW dC dI cI cB cZ cJ [(h0, .inr (11, [.null, .null, .null, .null, .null, .null, .null, .null]))] sz)) (va_Qv (fun _ : Unit => True) (fun (_ : Unit) (t : State) => ∃ q5 q7_9 q15_9 q23_9 q31_9 q39_9 q47_9 q55_9 q64_9 q26 q34 q42 q18 : Nat, va_P (dC, dI) classes [(h0, .inr (11, [.ref r1, .ref r2, .ref r3, .ref q5, .ref q18, .ref q26, .ref q34, .ref q42])), (q5, .inr (7, [.int 0, .int 0, .ref q7_9, .ref q15_9, .ref q23_9, .ref q31_9, .ref q39_9, .ref q47_9, .ref q55_9, .ref q64_9, .int 0, .null, .int 0, .int 0, .int 0, .int 0, .int 0, .int 0])), (q7_9, .inl (cI, 40, .inl (fun _ => 0))), (q15_9, .inl (cZ, 40, .inl (fun _ => 0))), (q23_9, .inl (cI, 40, .inl (fun _ => 0))), (q31_9, .inl (cI, 40, .inl (fun _ => 0))), (q39_9, .inl (cI, 40, .inl (fun _ => 0))), (q47_9, .inl (cZ, 40, .inl (fun _ => 0))), (q55_9, .inl (cI, 41, .inl (fun _ => 0))), (q64_9, .inl (cI, 1400, .inl (fun _ => 0))), (q26, .inl (cI, 32, .inl (fun _ => 0))), (q34, .inl (cI, 32, .inl (fun _ => 0))), (q42, .inl (cI, 32, .inl (fun _ => 0))), (q18, .inl (cI, 32, .inl ((fun _ => (-1)))))] t.heap ∧ va_D (va_A [(h0, .inr (11, [.null, .null, .null, .null, .null, .null, .null, .null]))] sz) [(h0, .inr (11, [.ref r1, .ref r2, .ref r3, .ref q5, .ref q18, .ref q26, .ref q34, .ref q42])), (q5, .inr (7, [.int 0, .int 0, .ref q7_9, .ref q15_9, .ref q23_9, .ref q31_9, .ref q39_9, .ref q47_9, .ref q55_9, .ref q64_9, .int 0, .null, .int 0, .int 0, .int 0, .int 0, .int 0, .int 0])), (q7_9, .inl (cI, 40, .inl (fun _ => 0))), (q15_9, .inl (cZ, 40, .inl (fun _ => 0))), (q23_9, .inl (cI, 40, .inl (fun _ => 0))), (q31_9, .inl (cI, 40, .inl (fun _ => 0))), (q39_9, .inl (cI, 40, .inl (fun _ => 0))), (q47_9, .inl (cZ, 40, .inl (fun _ => 0))), (q55_9, .inl (cI, 41, .inl (fun _ => 0))), (q64_9, .inl (cI, 1400, .inl (fun _ => 0))), (q26, .inl (cI, 32, .inl (fun _ => 0))), (q34, .inl (cI, 32, .inl (fun _ => 0))), (q42, .inl (cI, 32, .inl (fun _ => 0))), (q18, .inl (cI, 32, .inl ((fun _ => (-1)))))]) (va_A [(h0, .inr (11, [.null, .null, .null, .null, .null, .null, .null, .null]))] sz)) 13 1827 (va_A [(h0, .inr (11, [.null, .null, .null, .null, .null, .null, .null, .null]))] sz) := by
  refine Met.ofW (cc := b_Ac_init) (maxL := 4) (ret := none) (by decide) rfl ?_
  intro p e s m args below meth c s₁ B hml hv
  obtain ⟨rfl, hsz, hP, hK, hD⟩ := hv
  have hx := B.exec
  have hb := B.bytes
  have hr := B.returns
  have hts := atoms_spec (ws := w_Ac_init) B.pre
  have hown : s.vm.findClass R_Ac = some m.cls := findClass_of_methodNamed B.named
  have hlocks := B.notSynchronized
  have hin : meth.name = "<init>" := (name_of_methodNamed B.named B.method).1
  subst hsz
  have hD := hD.self (sz := s.heap.size)
  generalize hAe : va_A [(h0, .inr (11, [.null, .null, .null, .null, .null, .null, .null, .null]))] s.heap.size = A at hD ⊢
  have hA : ∀ q : Nat, s.heap.size ≤ q → A q := fun q h => by rw [← hAe]; exact Or.inr h
  have hS : va_S A s.heap s.heap [] := va_S.rf
  have hP : va_P (dC, dI) classes [(h0, .inr (11, [.null, .null, .null, .null, .null, .null, .null, .null]))] s.heap := hP
  have hl := lv_entry ([.ref h0, .ref r1, .ref r2, .ref r3]) (n := 4) (Nat.le_of_ble_eq_true rfl)
  rw [lg_entry_eq]
  generalize (lg_sl ([.ref h0, .ref r1, .ref r2, .ref r3]) ++ List.replicate (4 - (lg_sl ([.ref h0, .ref r1, .ref r2, .ref r3])).length) Slot.unset).toArray = ls at hl ⊢
  have hl : lv_has ls 4 [(0, .ref h0), (1, .ref r1), (2, .ref r2), (3, .ref r3)] := hl
  refine lv_aload_n hx hb d_Ac_init_0 rfl (lv_at hl 0 rfl) ?_
  refine W.objInit hx hb hown (hts _ (List.mem_cons_of_mem _ mw_322)) (hts _ (List.mem_cons_of_mem _ mw_30)) (hts _ (List.mem_cons_of_mem _ mw_31)) rfl (by rw [hml]; exact hl.1) rfl d_Ac_init_1 (Nat.le_of_ble_eq_true rfl) (Nat.le_of_ble_eq_true rfl) ?_
  refine W.eq (g2 := F0 m 4 ls []) rfl ?_
  refine lv_aload_n hx hb d_Ac_init_4 rfl (lv_at hl 0 rfl) ?_
  refine va_new (ci := 7) (fs := [.int 0, .int 0, .null, .null, .null, .null, .null, .null, .null, .null, .int 0, .null, .int 0, .int 0, .int 0, .int 0, .int 0, .int 0]) (C := R_Ro) (T := F_Ro) (N := 18) hx hb hts (fun w h => List.mem_cons_of_mem _ (in_Ro w h)) t_Ro t_Ro_ok hown (hts _ (List.mem_cons_of_mem _ mw_323)) (hts _ (List.mem_cons_of_mem _ mw_324)) (hts _ (List.mem_cons_of_mem _ mw_10)) hK.1 hP hD hS hA rfl df_Ro (Nat.le_of_ble_eq_true rfl) (Nat.le_of_ble_eq_true rfl) d_Ac_init_5 (fun q5 H hP hD hS => ?_)
  refine W.widen (k := 1) (n := 18) (Nat.le_refl _) (Nat.le_refl _) ?_
  have hP : va_P (dC, dI) classes [(h0, .inr (11, [.null, .null, .null, .null, .null, .null, .null, .null])), (q5, .inr (7, [.int 0, .int 0, .null, .null, .null, .null, .null, .null, .null, .null, .int 0, .null, .int 0, .int 0, .int 0, .int 0, .int 0, .int 0]))] H := hP
  have hD : va_D A [(h0, .inr (11, [.null, .null, .null, .null, .null, .null, .null, .null])), (q5, .inr (7, [.int 0, .int 0, .null, .null, .null, .null, .null, .null, .null, .null, .int 0, .null, .int 0, .int 0, .int 0, .int 0, .int 0, .int 0]))] := hD
  refine lv_dup hx hb d_Ac_init_8 rfl ?_
  have hPc := hP.sub (ws' := [(q5, .inr (7, [.int 0, .int 0, .null, .null, .null, .null, .null, .null, .null, .null, .int 0, .null, .int 0, .int 0, .int 0, .int 0, .int 0, .int 0]))]) [1] rfl
  have hDc := hD.sub (ws' := [(q5, .inr (7, [.int 0, .int 0, .null, .null, .null, .null, .null, .null, .null, .null, .int 0, .null, .int 0, .int 0, .int 0, .int 0, .int 0, .int 0]))]) [1] (by decide) rfl
  have hFc := va_free (wc := [(q5, .inr (7, [.int 0, .int 0, .null, .null, .null, .null, .null, .null, .null, .null, .int 0, .null, .int 0, .int 0, .int 0, .int 0, .int 0, .int 0]))]) hD hS hA [1] rfl
  refine va_callv (va_runIN (As := []) (rest := [.ref q5, .ref h0]) ⟨hx, hb, hml, hown, hts⟩ (c_Ro_init l dC dI cI cB cZ cJ q5 H.size) ⟨va_cnB 0 hts (tb_in mw_327) rfl rfl rfl (hK.2 _ nw_325) (hts _ (List.mem_cons_of_mem _ mw_10)) ⟨by decide +kernel, by decide +kernel, by decide +kernel⟩ ⟨(Nat.le_of_ble_eq_true rfl), (Nat.le_of_ble_eq_true rfl)⟩, rfl, (hts _ (List.mem_cons_of_mem _ mw_326))⟩ ⟨pw_blind, pw_pre hPc hK hDc⟩ rfl rfl hl.1 rfl (lv_room (Nat.le_of_ble_eq_true rfl)) d_Ac_init_9 ⟨(Nat.le_of_ble_eq_true rfl), (Nat.le_of_ble_eq_true rfl)⟩) hS (fun q _ h => hFc q h) hFc (fun u t H locs ht hvm hw hB hz1 hk1 hS => ?_)
  obtain ⟨q7_9, q15_9, q23_9, q31_9, q39_9, q47_9, q55_9, q64_9, hP1, hD1⟩ := hB
  rw [ht] at hP1
  obtain ⟨hP, hD⟩ := va_join (wr := [(h0, .inr (11, [.null, .null, .null, .null, .null, .null, .null, .null]))]) (w1 := [(q5, .inr (7, [.int 0, .int 0, .ref q7_9, .ref q15_9, .ref q23_9, .ref q31_9, .ref q39_9, .ref q47_9, .ref q55_9, .ref q64_9, .int 0, .null, .int 0, .int 0, .int 0, .int 0, .int 0, .int 0])), (q7_9, .inl (cI, 40, .inl (fun _ => 0))), (q15_9, .inl (cZ, 40, .inl (fun _ => 0))), (q23_9, .inl (cI, 40, .inl (fun _ => 0))), (q31_9, .inl (cI, 40, .inl (fun _ => 0))), (q39_9, .inl (cI, 40, .inl (fun _ => 0))), (q47_9, .inl (cZ, 40, .inl (fun _ => 0))), (q55_9, .inl (cI, 41, .inl (fun _ => 0))), (q64_9, .inl (cI, 1400, .inl (fun _ => 0)))]) hP hD [1] [0] rfl rfl (by decide) (by decide) hk1 hFc hP1 hD1
  refine W.widen (k := 9) (n := 1699) (Nat.le_refl _) (Nat.le_refl _) ?_
  have hP : va_P (dC, dI) classes [(h0, .inr (11, [.null, .null, .null, .null, .null, .null, .null, .null])), (q5, .inr (7, [.int 0, .int 0, .ref q7_9, .ref q15_9, .ref q23_9, .ref q31_9, .ref q39_9, .ref q47_9, .ref q55_9, .ref q64_9, .int 0, .null, .int 0, .int 0, .int 0, .int 0, .int 0, .int 0])), (q7_9, .inl (cI, 40, .inl (fun _ => 0))), (q15_9, .inl (cZ, 40, .inl (fun _ => 0))), (q23_9, .inl (cI, 40, .inl (fun _ => 0))), (q31_9, .inl (cI, 40, .inl (fun _ => 0))), (q39_9, .inl (cI, 40, .inl (fun _ => 0))), (q47_9, .inl (cZ, 40, .inl (fun _ => 0))), (q55_9, .inl (cI, 41, .inl (fun _ => 0))), (q64_9, .inl (cI, 1400, .inl (fun _ => 0)))] H := hP
  have hD : va_D A [(h0, .inr (11, [.null, .null, .null, .null, .null, .null, .null, .null])), (q5, .inr (7, [.int 0, .int 0, .ref q7_9, .ref q15_9, .ref q23_9, .ref q31_9, .ref q39_9, .ref q47_9, .ref q55_9, .ref q64_9, .int 0, .null, .int 0, .int 0, .int 0, .int 0, .int 0, .int 0])), (q7_9, .inl (cI, 40, .inl (fun _ => 0))), (q15_9, .inl (cZ, 40, .inl (fun _ => 0))), (q23_9, .inl (cI, 40, .inl (fun _ => 0))), (q31_9, .inl (cI, 40, .inl (fun _ => 0))), (q39_9, .inl (cI, 40, .inl (fun _ => 0))), (q47_9, .inl (cZ, 40, .inl (fun _ => 0))), (q55_9, .inl (cI, 41, .inl (fun _ => 0))), (q64_9, .inl (cI, 1400, .inl (fun _ => 0)))] := hD
  refine va_put (D := (dC, dI)) (ci := 11) (v := .ref q5) (ty := (.object "BreweryHouse$Rows")) (C := R_Ac) (T := F_Ac) (N := 8) hx hb hts (fun w h => List.mem_cons_of_mem _ (in_Ac w h)) t_Ac t_Ac_ok n_Ac hown hK.1 hP hD hS 0 rfl rfl 3 (by decide) (hts _ (List.mem_cons_of_mem _ mw_393)) (fun _ h9 => h9) rfl (by decide +kernel) rfl rfl (Nat.le_of_ble_eq_true rfl) d_Ac_init_12 (fun H locs hP hD hS => ?_)
  have hP : va_P (dC, dI) classes [(h0, .inr (11, [.null, .null, .null, .ref q5, .null, .null, .null, .null])), (q5, .inr (7, [.int 0, .int 0, .ref q7_9, .ref q15_9, .ref q23_9, .ref q31_9, .ref q39_9, .ref q47_9, .ref q55_9, .ref q64_9, .int 0, .null, .int 0, .int 0, .int 0, .int 0, .int 0, .int 0])), (q7_9, .inl (cI, 40, .inl (fun _ => 0))), (q15_9, .inl (cZ, 40, .inl (fun _ => 0))), (q23_9, .inl (cI, 40, .inl (fun _ => 0))), (q31_9, .inl (cI, 40, .inl (fun _ => 0))), (q39_9, .inl (cI, 40, .inl (fun _ => 0))), (q47_9, .inl (cZ, 40, .inl (fun _ => 0))), (q55_9, .inl (cI, 41, .inl (fun _ => 0))), (q64_9, .inl (cI, 1400, .inl (fun _ => 0)))] H := hP
  have hD : va_D A [(h0, .inr (11, [.null, .null, .null, .ref q5, .null, .null, .null, .null])), (q5, .inr (7, [.int 0, .int 0, .ref q7_9, .ref q15_9, .ref q23_9, .ref q31_9, .ref q39_9, .ref q47_9, .ref q55_9, .ref q64_9, .int 0, .null, .int 0, .int 0, .int 0, .int 0, .int 0, .int 0])), (q7_9, .inl (cI, 40, .inl (fun _ => 0))), (q15_9, .inl (cZ, 40, .inl (fun _ => 0))), (q23_9, .inl (cI, 40, .inl (fun _ => 0))), (q31_9, .inl (cI, 40, .inl (fun _ => 0))), (q39_9, .inl (cI, 40, .inl (fun _ => 0))), (q47_9, .inl (cZ, 40, .inl (fun _ => 0))), (q55_9, .inl (cI, 41, .inl (fun _ => 0))), (q64_9, .inl (cI, 1400, .inl (fun _ => 0)))] := hD
  refine lv_aload_n hx hb d_Ac_init_15 rfl (lv_at hl 0 rfl) ?_
  refine lv_bipush (v := 32) hx hb d_Ac_init_16 (by decide) ?_
  refine ka_newa (atype := .int) (ty := .int) (N' := 32) (a0 := (32, .inl (fun _ => 0))) hx hb (hts _ (List.mem_cons_of_mem _ mw_53)) rfl hK.1 hP hD hS hA 0 rfl (fun _ => rfl) (by decide) (by decide) (by decide) (Nat.le_of_ble_eq_true rfl) (Nat.le_of_ble_eq_true rfl) d_Ac_init_18 (fun q18 H hP hD hS => ?_)
  refine W.widen (k := 10) (n := 1731) (Nat.le_refl _) (Nat.le_refl _) ?_
  refine va_putF (D := (dC, dI)) (ci := 11) (v := .ref q18) (ty := (.array .int)) (C := R_Ac) (T := F_Ac) (N := 8) hx hb hts (fun w h => List.mem_cons_of_mem _ (in_Ac w h)) t_Ac t_Ac_ok n_Ac hown hK.1 hP hD hS 0 rfl rfl 4 (by decide) (hts _ (List.mem_cons_of_mem _ mw_395)) (fun _ h9 => h9) rfl hin rfl (by decide +kernel) rfl rfl (Nat.le_of_ble_eq_true rfl) d_Ac_init_20 (fun H locs hP hD hS => ?_)
  have hP : va_P (dC, dI) classes [(h0, .inr (11, [.null, .null, .null, .ref q5, .ref q18, .null, .null, .null])), (q5, .inr (7, [.int 0, .int 0, .ref q7_9, .ref q15_9, .ref q23_9, .ref q31_9, .ref q39_9, .ref q47_9, .ref q55_9, .ref q64_9, .int 0, .null, .int 0, .int 0, .int 0, .int 0, .int 0, .int 0])), (q7_9, .inl (cI, 40, .inl (fun _ => 0))), (q15_9, .inl (cZ, 40, .inl (fun _ => 0))), (q23_9, .inl (cI, 40, .inl (fun _ => 0))), (q31_9, .inl (cI, 40, .inl (fun _ => 0))), (q39_9, .inl (cI, 40, .inl (fun _ => 0))), (q47_9, .inl (cZ, 40, .inl (fun _ => 0))), (q55_9, .inl (cI, 41, .inl (fun _ => 0))), (q64_9, .inl (cI, 1400, .inl (fun _ => 0))), (q18, .inl (cI, 32, .inl (fun _ => 0)))] H := hP
  have hD : va_D A [(h0, .inr (11, [.null, .null, .null, .ref q5, .ref q18, .null, .null, .null])), (q5, .inr (7, [.int 0, .int 0, .ref q7_9, .ref q15_9, .ref q23_9, .ref q31_9, .ref q39_9, .ref q47_9, .ref q55_9, .ref q64_9, .int 0, .null, .int 0, .int 0, .int 0, .int 0, .int 0, .int 0])), (q7_9, .inl (cI, 40, .inl (fun _ => 0))), (q15_9, .inl (cZ, 40, .inl (fun _ => 0))), (q23_9, .inl (cI, 40, .inl (fun _ => 0))), (q31_9, .inl (cI, 40, .inl (fun _ => 0))), (q39_9, .inl (cI, 40, .inl (fun _ => 0))), (q47_9, .inl (cZ, 40, .inl (fun _ => 0))), (q55_9, .inl (cI, 41, .inl (fun _ => 0))), (q64_9, .inl (cI, 1400, .inl (fun _ => 0))), (q18, .inl (cI, 32, .inl (fun _ => 0)))] := hD
  refine lv_aload_n hx hb d_Ac_init_23 rfl (lv_at hl 0 rfl) ?_
  refine lv_bipush (v := 32) hx hb d_Ac_init_24 (by decide) ?_
  refine ka_newa (atype := .int) (ty := .int) (N' := 32) (a0 := (32, .inl (fun _ => 0))) hx hb (hts _ (List.mem_cons_of_mem _ mw_53)) rfl hK.1 hP hD hS hA 0 rfl (fun _ => rfl) (by decide) (by decide) (by decide) (Nat.le_of_ble_eq_true rfl) (Nat.le_of_ble_eq_true rfl) d_Ac_init_26 (fun q26 H hP hD hS => ?_)
  refine W.widen (k := 11) (n := 1763) (Nat.le_refl _) (Nat.le_refl _) ?_
  refine va_putF (D := (dC, dI)) (ci := 11) (v := .ref q26) (ty := (.array .int)) (C := R_Ac) (T := F_Ac) (N := 8) hx hb hts (fun w h => List.mem_cons_of_mem _ (in_Ac w h)) t_Ac t_Ac_ok n_Ac hown hK.1 hP hD hS 0 rfl rfl 5 (by decide) (hts _ (List.mem_cons_of_mem _ mw_396)) (fun _ h9 => h9) rfl hin rfl (by decide +kernel) rfl rfl (Nat.le_of_ble_eq_true rfl) d_Ac_init_28 (fun H locs hP hD hS => ?_)
  have hP : va_P (dC, dI) classes [(h0, .inr (11, [.null, .null, .null, .ref q5, .ref q18, .ref q26, .null, .null])), (q5, .inr (7, [.int 0, .int 0, .ref q7_9, .ref q15_9, .ref q23_9, .ref q31_9, .ref q39_9, .ref q47_9, .ref q55_9, .ref q64_9, .int 0, .null, .int 0, .int 0, .int 0, .int 0, .int 0, .int 0])), (q7_9, .inl (cI, 40, .inl (fun _ => 0))), (q15_9, .inl (cZ, 40, .inl (fun _ => 0))), (q23_9, .inl (cI, 40, .inl (fun _ => 0))), (q31_9, .inl (cI, 40, .inl (fun _ => 0))), (q39_9, .inl (cI, 40, .inl (fun _ => 0))), (q47_9, .inl (cZ, 40, .inl (fun _ => 0))), (q55_9, .inl (cI, 41, .inl (fun _ => 0))), (q64_9, .inl (cI, 1400, .inl (fun _ => 0))), (q18, .inl (cI, 32, .inl (fun _ => 0))), (q26, .inl (cI, 32, .inl (fun _ => 0)))] H := hP
  have hD : va_D A [(h0, .inr (11, [.null, .null, .null, .ref q5, .ref q18, .ref q26, .null, .null])), (q5, .inr (7, [.int 0, .int 0, .ref q7_9, .ref q15_9, .ref q23_9, .ref q31_9, .ref q39_9, .ref q47_9, .ref q55_9, .ref q64_9, .int 0, .null, .int 0, .int 0, .int 0, .int 0, .int 0, .int 0])), (q7_9, .inl (cI, 40, .inl (fun _ => 0))), (q15_9, .inl (cZ, 40, .inl (fun _ => 0))), (q23_9, .inl (cI, 40, .inl (fun _ => 0))), (q31_9, .inl (cI, 40, .inl (fun _ => 0))), (q39_9, .inl (cI, 40, .inl (fun _ => 0))), (q47_9, .inl (cZ, 40, .inl (fun _ => 0))), (q55_9, .inl (cI, 41, .inl (fun _ => 0))), (q64_9, .inl (cI, 1400, .inl (fun _ => 0))), (q18, .inl (cI, 32, .inl (fun _ => 0))), (q26, .inl (cI, 32, .inl (fun _ => 0)))] := hD
  refine lv_aload_n hx hb d_Ac_init_31 rfl (lv_at hl 0 rfl) ?_
  refine lv_bipush (v := 32) hx hb d_Ac_init_32 (by decide) ?_
  refine ka_newa (atype := .int) (ty := .int) (N' := 32) (a0 := (32, .inl (fun _ => 0))) hx hb (hts _ (List.mem_cons_of_mem _ mw_53)) rfl hK.1 hP hD hS hA 0 rfl (fun _ => rfl) (by decide) (by decide) (by decide) (Nat.le_of_ble_eq_true rfl) (Nat.le_of_ble_eq_true rfl) d_Ac_init_34 (fun q34 H hP hD hS => ?_)
  refine W.widen (k := 12) (n := 1795) (Nat.le_refl _) (Nat.le_refl _) ?_
  refine va_putF (D := (dC, dI)) (ci := 11) (v := .ref q34) (ty := (.array .int)) (C := R_Ac) (T := F_Ac) (N := 8) hx hb hts (fun w h => List.mem_cons_of_mem _ (in_Ac w h)) t_Ac t_Ac_ok n_Ac hown hK.1 hP hD hS 0 rfl rfl 6 (by decide) (hts _ (List.mem_cons_of_mem _ mw_397)) (fun _ h9 => h9) rfl hin rfl (by decide +kernel) rfl rfl (Nat.le_of_ble_eq_true rfl) d_Ac_init_36 (fun H locs hP hD hS => ?_)
  have hP : va_P (dC, dI) classes [(h0, .inr (11, [.null, .null, .null, .ref q5, .ref q18, .ref q26, .ref q34, .null])), (q5, .inr (7, [.int 0, .int 0, .ref q7_9, .ref q15_9, .ref q23_9, .ref q31_9, .ref q39_9, .ref q47_9, .ref q55_9, .ref q64_9, .int 0, .null, .int 0, .int 0, .int 0, .int 0, .int 0, .int 0])), (q7_9, .inl (cI, 40, .inl (fun _ => 0))), (q15_9, .inl (cZ, 40, .inl (fun _ => 0))), (q23_9, .inl (cI, 40, .inl (fun _ => 0))), (q31_9, .inl (cI, 40, .inl (fun _ => 0))), (q39_9, .inl (cI, 40, .inl (fun _ => 0))), (q47_9, .inl (cZ, 40, .inl (fun _ => 0))), (q55_9, .inl (cI, 41, .inl (fun _ => 0))), (q64_9, .inl (cI, 1400, .inl (fun _ => 0))), (q18, .inl (cI, 32, .inl (fun _ => 0))), (q26, .inl (cI, 32, .inl (fun _ => 0))), (q34, .inl (cI, 32, .inl (fun _ => 0)))] H := hP
  have hD : va_D A [(h0, .inr (11, [.null, .null, .null, .ref q5, .ref q18, .ref q26, .ref q34, .null])), (q5, .inr (7, [.int 0, .int 0, .ref q7_9, .ref q15_9, .ref q23_9, .ref q31_9, .ref q39_9, .ref q47_9, .ref q55_9, .ref q64_9, .int 0, .null, .int 0, .int 0, .int 0, .int 0, .int 0, .int 0])), (q7_9, .inl (cI, 40, .inl (fun _ => 0))), (q15_9, .inl (cZ, 40, .inl (fun _ => 0))), (q23_9, .inl (cI, 40, .inl (fun _ => 0))), (q31_9, .inl (cI, 40, .inl (fun _ => 0))), (q39_9, .inl (cI, 40, .inl (fun _ => 0))), (q47_9, .inl (cZ, 40, .inl (fun _ => 0))), (q55_9, .inl (cI, 41, .inl (fun _ => 0))), (q64_9, .inl (cI, 1400, .inl (fun _ => 0))), (q18, .inl (cI, 32, .inl (fun _ => 0))), (q26, .inl (cI, 32, .inl (fun _ => 0))), (q34, .inl (cI, 32, .inl (fun _ => 0)))] := hD
  refine lv_aload_n hx hb d_Ac_init_39 rfl (lv_at hl 0 rfl) ?_
  refine lv_bipush (v := 32) hx hb d_Ac_init_40 (by decide) ?_
  refine ka_newa (atype := .int) (ty := .int) (N' := 32) (a0 := (32, .inl (fun _ => 0))) hx hb (hts _ (List.mem_cons_of_mem _ mw_53)) rfl hK.1 hP hD hS hA 0 rfl (fun _ => rfl) (by decide) (by decide) (by decide) (Nat.le_of_ble_eq_true rfl) (Nat.le_of_ble_eq_true rfl) d_Ac_init_42 (fun q42 H hP hD hS => ?_)
  refine W.widen (k := 13) (n := 1827) (Nat.le_refl _) (Nat.le_refl _) ?_
  refine va_putF (D := (dC, dI)) (ci := 11) (v := .ref q42) (ty := (.array .int)) (C := R_Ac) (T := F_Ac) (N := 8) hx hb hts (fun w h => List.mem_cons_of_mem _ (in_Ac w h)) t_Ac t_Ac_ok n_Ac hown hK.1 hP hD hS 0 rfl rfl 7 (by decide) (hts _ (List.mem_cons_of_mem _ mw_398)) (fun _ h9 => h9) rfl hin rfl (by decide +kernel) rfl rfl (Nat.le_of_ble_eq_true rfl) d_Ac_init_44 (fun H locs hP hD hS => ?_)
  have hP : va_P (dC, dI) classes [(h0, .inr (11, [.null, .null, .null, .ref q5, .ref q18, .ref q26, .ref q34, .ref q42])), (q5, .inr (7, [.int 0, .int 0, .ref q7_9, .ref q15_9, .ref q23_9, .ref q31_9, .ref q39_9, .ref q47_9, .ref q55_9, .ref q64_9, .int 0, .null, .int 0, .int 0, .int 0, .int 0, .int 0, .int 0])), (q7_9, .inl (cI, 40, .inl (fun _ => 0))), (q15_9, .inl (cZ, 40, .inl (fun _ => 0))), (q23_9, .inl (cI, 40, .inl (fun _ => 0))), (q31_9, .inl (cI, 40, .inl (fun _ => 0))), (q39_9, .inl (cI, 40, .inl (fun _ => 0))), (q47_9, .inl (cZ, 40, .inl (fun _ => 0))), (q55_9, .inl (cI, 41, .inl (fun _ => 0))), (q64_9, .inl (cI, 1400, .inl (fun _ => 0))), (q18, .inl (cI, 32, .inl (fun _ => 0))), (q26, .inl (cI, 32, .inl (fun _ => 0))), (q34, .inl (cI, 32, .inl (fun _ => 0))), (q42, .inl (cI, 32, .inl (fun _ => 0)))] H := hP
  have hD : va_D A [(h0, .inr (11, [.null, .null, .null, .ref q5, .ref q18, .ref q26, .ref q34, .ref q42])), (q5, .inr (7, [.int 0, .int 0, .ref q7_9, .ref q15_9, .ref q23_9, .ref q31_9, .ref q39_9, .ref q47_9, .ref q55_9, .ref q64_9, .int 0, .null, .int 0, .int 0, .int 0, .int 0, .int 0, .int 0])), (q7_9, .inl (cI, 40, .inl (fun _ => 0))), (q15_9, .inl (cZ, 40, .inl (fun _ => 0))), (q23_9, .inl (cI, 40, .inl (fun _ => 0))), (q31_9, .inl (cI, 40, .inl (fun _ => 0))), (q39_9, .inl (cI, 40, .inl (fun _ => 0))), (q47_9, .inl (cZ, 40, .inl (fun _ => 0))), (q55_9, .inl (cI, 41, .inl (fun _ => 0))), (q64_9, .inl (cI, 1400, .inl (fun _ => 0))), (q18, .inl (cI, 32, .inl (fun _ => 0))), (q26, .inl (cI, 32, .inl (fun _ => 0))), (q34, .inl (cI, 32, .inl (fun _ => 0))), (q42, .inl (cI, 32, .inl (fun _ => 0)))] := hD
  refine lv_aload_n hx hb d_Ac_init_47 rfl (lv_at hl 0 rfl) ?_
  refine lv_aload_n hx hb d_Ac_init_48 rfl (lv_at hl 1 rfl) ?_
  refine va_putF (D := (dC, dI)) (ci := 11) (v := .ref r1) (ty := (.object "BreweryHouse$Stock")) (C := R_Ac) (T := F_Ac) (N := 8) hx hb hts (fun w h => List.mem_cons_of_mem _ (in_Ac w h)) t_Ac t_Ac_ok n_Ac hown hK.1 hP hD hS 0 rfl rfl 0 (by decide) (hts _ (List.mem_cons_of_mem _ mw_390)) (fun _ h9 => h9) rfl hin rfl (by decide +kernel) rfl rfl (Nat.le_of_ble_eq_true rfl) d_Ac_init_49 (fun H locs hP hD hS => ?_)
  have hP : va_P (dC, dI) classes [(h0, .inr (11, [.ref r1, .null, .null, .ref q5, .ref q18, .ref q26, .ref q34, .ref q42])), (q5, .inr (7, [.int 0, .int 0, .ref q7_9, .ref q15_9, .ref q23_9, .ref q31_9, .ref q39_9, .ref q47_9, .ref q55_9, .ref q64_9, .int 0, .null, .int 0, .int 0, .int 0, .int 0, .int 0, .int 0])), (q7_9, .inl (cI, 40, .inl (fun _ => 0))), (q15_9, .inl (cZ, 40, .inl (fun _ => 0))), (q23_9, .inl (cI, 40, .inl (fun _ => 0))), (q31_9, .inl (cI, 40, .inl (fun _ => 0))), (q39_9, .inl (cI, 40, .inl (fun _ => 0))), (q47_9, .inl (cZ, 40, .inl (fun _ => 0))), (q55_9, .inl (cI, 41, .inl (fun _ => 0))), (q64_9, .inl (cI, 1400, .inl (fun _ => 0))), (q18, .inl (cI, 32, .inl (fun _ => 0))), (q26, .inl (cI, 32, .inl (fun _ => 0))), (q34, .inl (cI, 32, .inl (fun _ => 0))), (q42, .inl (cI, 32, .inl (fun _ => 0)))] H := hP
  have hD : va_D A [(h0, .inr (11, [.ref r1, .null, .null, .ref q5, .ref q18, .ref q26, .ref q34, .ref q42])), (q5, .inr (7, [.int 0, .int 0, .ref q7_9, .ref q15_9, .ref q23_9, .ref q31_9, .ref q39_9, .ref q47_9, .ref q55_9, .ref q64_9, .int 0, .null, .int 0, .int 0, .int 0, .int 0, .int 0, .int 0])), (q7_9, .inl (cI, 40, .inl (fun _ => 0))), (q15_9, .inl (cZ, 40, .inl (fun _ => 0))), (q23_9, .inl (cI, 40, .inl (fun _ => 0))), (q31_9, .inl (cI, 40, .inl (fun _ => 0))), (q39_9, .inl (cI, 40, .inl (fun _ => 0))), (q47_9, .inl (cZ, 40, .inl (fun _ => 0))), (q55_9, .inl (cI, 41, .inl (fun _ => 0))), (q64_9, .inl (cI, 1400, .inl (fun _ => 0))), (q18, .inl (cI, 32, .inl (fun _ => 0))), (q26, .inl (cI, 32, .inl (fun _ => 0))), (q34, .inl (cI, 32, .inl (fun _ => 0))), (q42, .inl (cI, 32, .inl (fun _ => 0)))] := hD
  refine lv_aload_n hx hb d_Ac_init_52 rfl (lv_at hl 0 rfl) ?_
  refine lv_aload_n hx hb d_Ac_init_53 rfl (lv_at hl 2 rfl) ?_
  refine va_putF (D := (dC, dI)) (ci := 11) (v := .ref r2) (ty := (.object "BreweryHouse$Ways")) (C := R_Ac) (T := F_Ac) (N := 8) hx hb hts (fun w h => List.mem_cons_of_mem _ (in_Ac w h)) t_Ac t_Ac_ok n_Ac hown hK.1 hP hD hS 0 rfl rfl 1 (by decide) (hts _ (List.mem_cons_of_mem _ mw_391)) (fun _ h9 => h9) rfl hin rfl (by decide +kernel) rfl rfl (Nat.le_of_ble_eq_true rfl) d_Ac_init_54 (fun H locs hP hD hS => ?_)
  have hP : va_P (dC, dI) classes [(h0, .inr (11, [.ref r1, .ref r2, .null, .ref q5, .ref q18, .ref q26, .ref q34, .ref q42])), (q5, .inr (7, [.int 0, .int 0, .ref q7_9, .ref q15_9, .ref q23_9, .ref q31_9, .ref q39_9, .ref q47_9, .ref q55_9, .ref q64_9, .int 0, .null, .int 0, .int 0, .int 0, .int 0, .int 0, .int 0])), (q7_9, .inl (cI, 40, .inl (fun _ => 0))), (q15_9, .inl (cZ, 40, .inl (fun _ => 0))), (q23_9, .inl (cI, 40, .inl (fun _ => 0))), (q31_9, .inl (cI, 40, .inl (fun _ => 0))), (q39_9, .inl (cI, 40, .inl (fun _ => 0))), (q47_9, .inl (cZ, 40, .inl (fun _ => 0))), (q55_9, .inl (cI, 41, .inl (fun _ => 0))), (q64_9, .inl (cI, 1400, .inl (fun _ => 0))), (q18, .inl (cI, 32, .inl (fun _ => 0))), (q26, .inl (cI, 32, .inl (fun _ => 0))), (q34, .inl (cI, 32, .inl (fun _ => 0))), (q42, .inl (cI, 32, .inl (fun _ => 0)))] H := hP
  have hD : va_D A [(h0, .inr (11, [.ref r1, .ref r2, .null, .ref q5, .ref q18, .ref q26, .ref q34, .ref q42])), (q5, .inr (7, [.int 0, .int 0, .ref q7_9, .ref q15_9, .ref q23_9, .ref q31_9, .ref q39_9, .ref q47_9, .ref q55_9, .ref q64_9, .int 0, .null, .int 0, .int 0, .int 0, .int 0, .int 0, .int 0])), (q7_9, .inl (cI, 40, .inl (fun _ => 0))), (q15_9, .inl (cZ, 40, .inl (fun _ => 0))), (q23_9, .inl (cI, 40, .inl (fun _ => 0))), (q31_9, .inl (cI, 40, .inl (fun _ => 0))), (q39_9, .inl (cI, 40, .inl (fun _ => 0))), (q47_9, .inl (cZ, 40, .inl (fun _ => 0))), (q55_9, .inl (cI, 41, .inl (fun _ => 0))), (q64_9, .inl (cI, 1400, .inl (fun _ => 0))), (q18, .inl (cI, 32, .inl (fun _ => 0))), (q26, .inl (cI, 32, .inl (fun _ => 0))), (q34, .inl (cI, 32, .inl (fun _ => 0))), (q42, .inl (cI, 32, .inl (fun _ => 0)))] := hD
  refine lv_aload_n hx hb d_Ac_init_57 rfl (lv_at hl 0 rfl) ?_
  refine lv_aload_n hx hb d_Ac_init_58 rfl (lv_at hl 3 rfl) ?_
  refine va_putF (D := (dC, dI)) (ci := 11) (v := .ref r3) (ty := (.object "BreweryHouse$Safety")) (C := R_Ac) (T := F_Ac) (N := 8) hx hb hts (fun w h => List.mem_cons_of_mem _ (in_Ac w h)) t_Ac t_Ac_ok n_Ac hown hK.1 hP hD hS 0 rfl rfl 2 (by decide) (hts _ (List.mem_cons_of_mem _ mw_392)) (fun _ h9 => h9) rfl hin rfl (by decide +kernel) rfl rfl (Nat.le_of_ble_eq_true rfl) d_Ac_init_59 (fun H locs hP hD hS => ?_)
  have hP : va_P (dC, dI) classes [(h0, .inr (11, [.ref r1, .ref r2, .ref r3, .ref q5, .ref q18, .ref q26, .ref q34, .ref q42])), (q5, .inr (7, [.int 0, .int 0, .ref q7_9, .ref q15_9, .ref q23_9, .ref q31_9, .ref q39_9, .ref q47_9, .ref q55_9, .ref q64_9, .int 0, .null, .int 0, .int 0, .int 0, .int 0, .int 0, .int 0])), (q7_9, .inl (cI, 40, .inl (fun _ => 0))), (q15_9, .inl (cZ, 40, .inl (fun _ => 0))), (q23_9, .inl (cI, 40, .inl (fun _ => 0))), (q31_9, .inl (cI, 40, .inl (fun _ => 0))), (q39_9, .inl (cI, 40, .inl (fun _ => 0))), (q47_9, .inl (cZ, 40, .inl (fun _ => 0))), (q55_9, .inl (cI, 41, .inl (fun _ => 0))), (q64_9, .inl (cI, 1400, .inl (fun _ => 0))), (q18, .inl (cI, 32, .inl (fun _ => 0))), (q26, .inl (cI, 32, .inl (fun _ => 0))), (q34, .inl (cI, 32, .inl (fun _ => 0))), (q42, .inl (cI, 32, .inl (fun _ => 0)))] H := hP
  have hD : va_D A [(h0, .inr (11, [.ref r1, .ref r2, .ref r3, .ref q5, .ref q18, .ref q26, .ref q34, .ref q42])), (q5, .inr (7, [.int 0, .int 0, .ref q7_9, .ref q15_9, .ref q23_9, .ref q31_9, .ref q39_9, .ref q47_9, .ref q55_9, .ref q64_9, .int 0, .null, .int 0, .int 0, .int 0, .int 0, .int 0, .int 0])), (q7_9, .inl (cI, 40, .inl (fun _ => 0))), (q15_9, .inl (cZ, 40, .inl (fun _ => 0))), (q23_9, .inl (cI, 40, .inl (fun _ => 0))), (q31_9, .inl (cI, 40, .inl (fun _ => 0))), (q39_9, .inl (cI, 40, .inl (fun _ => 0))), (q47_9, .inl (cZ, 40, .inl (fun _ => 0))), (q55_9, .inl (cI, 41, .inl (fun _ => 0))), (q64_9, .inl (cI, 1400, .inl (fun _ => 0))), (q18, .inl (cI, 32, .inl (fun _ => 0))), (q26, .inl (cI, 32, .inl (fun _ => 0))), (q34, .inl (cI, 32, .inl (fun _ => 0))), (q42, .inl (cI, 32, .inl (fun _ => 0)))] := hD
  refine lv_aload_n hx hb d_Ac_init_62 rfl (lv_at hl 0 rfl) ?_
  refine va_get (D := (dC, dI)) (ci := 11) (v := .ref q18) (C := R_Ac) (T := F_Ac) (N := 8) hx hb hts (fun w h => List.mem_cons_of_mem _ (in_Ac w h)) hown hK.1 hP 0 rfl rfl 4 (by decide) (hts _ (List.mem_cons_of_mem _ mw_395)) (fun _ h9 => h9) rfl d_Ac_init_63 ?_
  refine lv_iconst (v := (-1)) hx hb d_Ac_init_66 (by decide) ?_
  have hPc := hP.sub (ws' := [(q18, .inl (cI, 32, .inl (fun _ => 0)))]) [10] rfl
  have hDc := hD.sub (ws' := [(q18, .inl (cI, 32, .inl (fun _ => 0)))]) [10] (by decide) rfl
  have hFc := va_free (wc := [(q18, .inl (cI, 32, .inl (fun _ => 0)))]) hD hS hA [10] rfl
  refine va_callv (va_runS (As := [.ref q18, .int (-1)]) (rest := []) ⟨hx, hb, hml, hown, hts⟩ (c_Ar_fillI l dC dI cI cB cZ cJ (-1) q18 32 (fun _ => 0) (by decide) H.size) (va_cwS 2 hts (tb_S2 mw_389 z1_mw_146 mw_6 z1_mw_147) rfl rfl rfl ⟨by decide +kernel, by decide +kernel, by decide +kernel⟩ ⟨(Nat.le_of_ble_eq_true rfl), (Nat.le_of_ble_eq_true rfl)⟩) ⟨pw_blind, pw_pre hPc hK hDc⟩ rfl rfl hl.1 rfl (lv_room (Nat.le_of_ble_eq_true rfl)) d_Ac_init_67 ⟨(Nat.le_of_ble_eq_true rfl), (Nat.le_of_ble_eq_true rfl)⟩) hS (fun q _ h => hFc q h) hFc (fun u t H locs ht hvm hw hB hz1 hk1 hS => ?_)
  obtain ⟨hP1, hD1⟩ := hB
  rw [ht] at hP1
  obtain ⟨hP, hD⟩ := va_join (wr := [(h0, .inr (11, [.ref r1, .ref r2, .ref r3, .ref q5, .ref q18, .ref q26, .ref q34, .ref q42])), (q5, .inr (7, [.int 0, .int 0, .ref q7_9, .ref q15_9, .ref q23_9, .ref q31_9, .ref q39_9, .ref q47_9, .ref q55_9, .ref q64_9, .int 0, .null, .int 0, .int 0, .int 0, .int 0, .int 0, .int 0])), (q7_9, .inl (cI, 40, .inl (fun _ => 0))), (q15_9, .inl (cZ, 40, .inl (fun _ => 0))), (q23_9, .inl (cI, 40, .inl (fun _ => 0))), (q31_9, .inl (cI, 40, .inl (fun _ => 0))), (q39_9, .inl (cI, 40, .inl (fun _ => 0))), (q47_9, .inl (cZ, 40, .inl (fun _ => 0))), (q55_9, .inl (cI, 41, .inl (fun _ => 0))), (q64_9, .inl (cI, 1400, .inl (fun _ => 0))), (q26, .inl (cI, 32, .inl (fun _ => 0))), (q34, .inl (cI, 32, .inl (fun _ => 0))), (q42, .inl (cI, 32, .inl (fun _ => 0)))]) (w1 := [(q18, .inl (cI, 32, .inl ((fun _ => (-1)))))]) hP hD [10] [0, 1, 2, 3, 4, 5, 6, 7, 8, 9, 11, 12, 13] rfl rfl (by decide) (by decide) hk1 hFc hP1 hD1
  have hP : va_P (dC, dI) classes [(h0, .inr (11, [.ref r1, .ref r2, .ref r3, .ref q5, .ref q18, .ref q26, .ref q34, .ref q42])), (q5, .inr (7, [.int 0, .int 0, .ref q7_9, .ref q15_9, .ref q23_9, .ref q31_9, .ref q39_9, .ref q47_9, .ref q55_9, .ref q64_9, .int 0, .null, .int 0, .int 0, .int 0, .int 0, .int 0, .int 0])), (q7_9, .inl (cI, 40, .inl (fun _ => 0))), (q15_9, .inl (cZ, 40, .inl (fun _ => 0))), (q23_9, .inl (cI, 40, .inl (fun _ => 0))), (q31_9, .inl (cI, 40, .inl (fun _ => 0))), (q39_9, .inl (cI, 40, .inl (fun _ => 0))), (q47_9, .inl (cZ, 40, .inl (fun _ => 0))), (q55_9, .inl (cI, 41, .inl (fun _ => 0))), (q64_9, .inl (cI, 1400, .inl (fun _ => 0))), (q26, .inl (cI, 32, .inl (fun _ => 0))), (q34, .inl (cI, 32, .inl (fun _ => 0))), (q42, .inl (cI, 32, .inl (fun _ => 0))), (q18, .inl (cI, 32, .inl ((fun _ => (-1)))))] H := hP
  have hD : va_D A [(h0, .inr (11, [.ref r1, .ref r2, .ref r3, .ref q5, .ref q18, .ref q26, .ref q34, .ref q42])), (q5, .inr (7, [.int 0, .int 0, .ref q7_9, .ref q15_9, .ref q23_9, .ref q31_9, .ref q39_9, .ref q47_9, .ref q55_9, .ref q64_9, .int 0, .null, .int 0, .int 0, .int 0, .int 0, .int 0, .int 0])), (q7_9, .inl (cI, 40, .inl (fun _ => 0))), (q15_9, .inl (cZ, 40, .inl (fun _ => 0))), (q23_9, .inl (cI, 40, .inl (fun _ => 0))), (q31_9, .inl (cI, 40, .inl (fun _ => 0))), (q39_9, .inl (cI, 40, .inl (fun _ => 0))), (q47_9, .inl (cZ, 40, .inl (fun _ => 0))), (q55_9, .inl (cI, 41, .inl (fun _ => 0))), (q64_9, .inl (cI, 1400, .inl (fun _ => 0))), (q26, .inl (cI, 32, .inl (fun _ => 0))), (q34, .inl (cI, 32, .inl (fun _ => 0))), (q42, .inl (cI, 32, .inl (fun _ => 0))), (q18, .inl (cI, 32, .inl ((fun _ => (-1)))))] := hD
  exact W.vret hx hb hr (fun t ht hW => ⟨⟨(), rfl, trivial, ⟨q5, q7_9, q15_9, q23_9, q31_9, q39_9, q47_9, q55_9, q64_9, q26, q34, q42, q18, by rw [ht]; exact hP, hD⟩⟩, hS.F ht⟩) hS.2.2 d_Ac_init_70
abbrev t_Ru_init_124 : List UInt8 := 177 :: []
abbrev t_Ru_init_121 : List UInt8 := 181 :: 0 :: 62 :: t_Ru_init_124
abbrev t_Ru_init_120 : List UInt8 := 45 :: t_Ru_init_121
abbrev t_Ru_init_119 : List UInt8 := 42 :: t_Ru_init_120
abbrev t_Ru_init_116 : List UInt8 := 181 :: 0 :: 58 :: t_Ru_init_119
abbrev t_Ru_init_115 : List UInt8 := 44 :: t_Ru_init_116
abbrev t_Ru_init_114 : List UInt8 := 42 :: t_Ru_init_115
abbrev t_Ru_init_111 : List UInt8 := 181 :: 0 :: 54 :: t_Ru_init_114
abbrev t_Ru_init_110 : List UInt8 := 43 :: t_Ru_init_111
abbrev t_Ru_init_109 : List UInt8 := 42 :: t_Ru_init_110
abbrev t_Ru_init_106 : List UInt8 := 181 :: 0 :: 51 :: t_Ru_init_109
abbrev t_Ru_init_104 : List UInt8 := 188 :: 11 :: t_Ru_init_106
abbrev t_Ru_init_102 : List UInt8 := 16 :: 64 :: t_Ru_init_104
abbrev t_Ru_init_101 : List UInt8 := 42 :: t_Ru_init_102
abbrev t_Ru_init_98 : List UInt8 := 181 :: 0 :: 48 :: t_Ru_init_101
abbrev t_Ru_init_96 : List UInt8 := 188 :: 11 :: t_Ru_init_98
abbrev t_Ru_init_93 : List UInt8 := 17 :: 1 :: 245 :: t_Ru_init_96
abbrev t_Ru_init_92 : List UInt8 := 42 :: t_Ru_init_93
abbrev t_Ru_init_89 : List UInt8 := 181 :: 0 :: 45 :: t_Ru_init_92
abbrev t_Ru_init_87 : List UInt8 := 188 :: 11 :: t_Ru_init_89
abbrev t_Ru_init_84 : List UInt8 := 17 :: 1 :: 245 :: t_Ru_init_87
abbrev t_Ru_init_83 : List UInt8 := 42 :: t_Ru_init_84
abbrev t_Ru_init_80 : List UInt8 := 181 :: 0 :: 42 :: t_Ru_init_83
abbrev t_Ru_init_78 : List UInt8 := 188 :: 11 :: t_Ru_init_80
abbrev t_Ru_init_75 : List UInt8 := 17 :: 1 :: 245 :: t_Ru_init_78
abbrev t_Ru_init_74 : List UInt8 := 42 :: t_Ru_init_75
abbrev t_Ru_init_71 : List UInt8 := 181 :: 0 :: 38 :: t_Ru_init_74
abbrev t_Ru_init_69 : List UInt8 := 188 :: 11 :: t_Ru_init_71
abbrev t_Ru_init_66 : List UInt8 := 17 :: 1 :: 245 :: t_Ru_init_69
abbrev t_Ru_init_65 : List UInt8 := 42 :: t_Ru_init_66
abbrev t_Ru_init_62 : List UInt8 := 181 :: 0 :: 35 :: t_Ru_init_65
abbrev t_Ru_init_60 : List UInt8 := 188 :: 10 :: t_Ru_init_62
abbrev t_Ru_init_57 : List UInt8 := 17 :: 1 :: 245 :: t_Ru_init_60
abbrev t_Ru_init_56 : List UInt8 := 42 :: t_Ru_init_57
abbrev t_Ru_init_53 : List UInt8 := 181 :: 0 :: 32 :: t_Ru_init_56
abbrev t_Ru_init_51 : List UInt8 := 188 :: 10 :: t_Ru_init_53
abbrev t_Ru_init_48 : List UInt8 := 17 :: 1 :: 245 :: t_Ru_init_51
abbrev t_Ru_init_47 : List UInt8 := 42 :: t_Ru_init_48
abbrev t_Ru_init_44 : List UInt8 := 181 :: 0 :: 29 :: t_Ru_init_47
abbrev t_Ru_init_42 : List UInt8 := 188 :: 10 :: t_Ru_init_44
abbrev t_Ru_init_39 : List UInt8 := 17 :: 1 :: 245 :: t_Ru_init_42
abbrev t_Ru_init_38 : List UInt8 := 42 :: t_Ru_init_39
abbrev t_Ru_init_35 : List UInt8 := 181 :: 0 :: 26 :: t_Ru_init_38
abbrev t_Ru_init_33 : List UInt8 := 188 :: 10 :: t_Ru_init_35
abbrev t_Ru_init_30 : List UInt8 := 17 :: 1 :: 245 :: t_Ru_init_33
abbrev t_Ru_init_29 : List UInt8 := 42 :: t_Ru_init_30
abbrev t_Ru_init_26 : List UInt8 := 181 :: 0 :: 22 :: t_Ru_init_29
abbrev t_Ru_init_24 : List UInt8 := 188 :: 10 :: t_Ru_init_26
abbrev t_Ru_init_21 : List UInt8 := 17 :: 1 :: 245 :: t_Ru_init_24
abbrev t_Ru_init_20 : List UInt8 := 42 :: t_Ru_init_21
abbrev t_Ru_init_17 : List UInt8 := 181 :: 0 :: 18 :: t_Ru_init_20
abbrev t_Ru_init_16 : List UInt8 := 7 :: t_Ru_init_17
abbrev t_Ru_init_15 : List UInt8 := 42 :: t_Ru_init_16
abbrev t_Ru_init_12 : List UInt8 := 181 :: 0 :: 12 :: t_Ru_init_15
abbrev t_Ru_init_9 : List UInt8 := 183 :: 0 :: 11 :: t_Ru_init_12
abbrev t_Ru_init_8 : List UInt8 := 89 :: t_Ru_init_9
abbrev t_Ru_init_5 : List UInt8 := 187 :: 0 :: 9 :: t_Ru_init_8
abbrev t_Ru_init_4 : List UInt8 := 42 :: t_Ru_init_5
abbrev t_Ru_init_1 : List UInt8 := 183 :: 0 :: 3 :: t_Ru_init_4
abbrev t_Ru_init_0 : List UInt8 := 42 :: t_Ru_init_1
theorem a_Ru_init_0 : dk_at b_Ru_init 0 t_Ru_init_0 := dk_start (by decide +kernel)
theorem a_Ru_init_1 : dk_at b_Ru_init 1 t_Ru_init_1 := dk_go 1 a_Ru_init_0 rfl
theorem a_Ru_init_4 : dk_at b_Ru_init 4 t_Ru_init_4 := dk_go 3 a_Ru_init_1 rfl
theorem a_Ru_init_5 : dk_at b_Ru_init 5 t_Ru_init_5 := dk_go 1 a_Ru_init_4 rfl
theorem a_Ru_init_8 : dk_at b_Ru_init 8 t_Ru_init_8 := dk_go 3 a_Ru_init_5 rfl
theorem a_Ru_init_9 : dk_at b_Ru_init 9 t_Ru_init_9 := dk_go 1 a_Ru_init_8 rfl
theorem a_Ru_init_12 : dk_at b_Ru_init 12 t_Ru_init_12 := dk_go 3 a_Ru_init_9 rfl
theorem a_Ru_init_15 : dk_at b_Ru_init 15 t_Ru_init_15 := dk_go 3 a_Ru_init_12 rfl
theorem a_Ru_init_16 : dk_at b_Ru_init 16 t_Ru_init_16 := dk_go 1 a_Ru_init_15 rfl
theorem a_Ru_init_17 : dk_at b_Ru_init 17 t_Ru_init_17 := dk_go 1 a_Ru_init_16 rfl
theorem a_Ru_init_20 : dk_at b_Ru_init 20 t_Ru_init_20 := dk_go 3 a_Ru_init_17 rfl
theorem a_Ru_init_21 : dk_at b_Ru_init 21 t_Ru_init_21 := dk_go 1 a_Ru_init_20 rfl
theorem a_Ru_init_24 : dk_at b_Ru_init 24 t_Ru_init_24 := dk_go 3 a_Ru_init_21 rfl
theorem a_Ru_init_26 : dk_at b_Ru_init 26 t_Ru_init_26 := dk_go 2 a_Ru_init_24 rfl
theorem a_Ru_init_29 : dk_at b_Ru_init 29 t_Ru_init_29 := dk_go 3 a_Ru_init_26 rfl
theorem a_Ru_init_30 : dk_at b_Ru_init 30 t_Ru_init_30 := dk_go 1 a_Ru_init_29 rfl
theorem a_Ru_init_33 : dk_at b_Ru_init 33 t_Ru_init_33 := dk_go 3 a_Ru_init_30 rfl
theorem a_Ru_init_35 : dk_at b_Ru_init 35 t_Ru_init_35 := dk_go 2 a_Ru_init_33 rfl
theorem a_Ru_init_38 : dk_at b_Ru_init 38 t_Ru_init_38 := dk_go 3 a_Ru_init_35 rfl
theorem a_Ru_init_39 : dk_at b_Ru_init 39 t_Ru_init_39 := dk_go 1 a_Ru_init_38 rfl
theorem a_Ru_init_42 : dk_at b_Ru_init 42 t_Ru_init_42 := dk_go 3 a_Ru_init_39 rfl
theorem a_Ru_init_44 : dk_at b_Ru_init 44 t_Ru_init_44 := dk_go 2 a_Ru_init_42 rfl
theorem a_Ru_init_47 : dk_at b_Ru_init 47 t_Ru_init_47 := dk_go 3 a_Ru_init_44 rfl
theorem a_Ru_init_48 : dk_at b_Ru_init 48 t_Ru_init_48 := dk_go 1 a_Ru_init_47 rfl
theorem a_Ru_init_51 : dk_at b_Ru_init 51 t_Ru_init_51 := dk_go 3 a_Ru_init_48 rfl
theorem a_Ru_init_53 : dk_at b_Ru_init 53 t_Ru_init_53 := dk_go 2 a_Ru_init_51 rfl
theorem a_Ru_init_56 : dk_at b_Ru_init 56 t_Ru_init_56 := dk_go 3 a_Ru_init_53 rfl
theorem a_Ru_init_57 : dk_at b_Ru_init 57 t_Ru_init_57 := dk_go 1 a_Ru_init_56 rfl
theorem a_Ru_init_60 : dk_at b_Ru_init 60 t_Ru_init_60 := dk_go 3 a_Ru_init_57 rfl
theorem a_Ru_init_62 : dk_at b_Ru_init 62 t_Ru_init_62 := dk_go 2 a_Ru_init_60 rfl
theorem a_Ru_init_65 : dk_at b_Ru_init 65 t_Ru_init_65 := dk_go 3 a_Ru_init_62 rfl
theorem a_Ru_init_66 : dk_at b_Ru_init 66 t_Ru_init_66 := dk_go 1 a_Ru_init_65 rfl
theorem a_Ru_init_69 : dk_at b_Ru_init 69 t_Ru_init_69 := dk_go 3 a_Ru_init_66 rfl
theorem a_Ru_init_71 : dk_at b_Ru_init 71 t_Ru_init_71 := dk_go 2 a_Ru_init_69 rfl
theorem a_Ru_init_74 : dk_at b_Ru_init 74 t_Ru_init_74 := dk_go 3 a_Ru_init_71 rfl
theorem a_Ru_init_75 : dk_at b_Ru_init 75 t_Ru_init_75 := dk_go 1 a_Ru_init_74 rfl
theorem a_Ru_init_78 : dk_at b_Ru_init 78 t_Ru_init_78 := dk_go 3 a_Ru_init_75 rfl
theorem a_Ru_init_80 : dk_at b_Ru_init 80 t_Ru_init_80 := dk_go 2 a_Ru_init_78 rfl
theorem a_Ru_init_83 : dk_at b_Ru_init 83 t_Ru_init_83 := dk_go 3 a_Ru_init_80 rfl
theorem a_Ru_init_84 : dk_at b_Ru_init 84 t_Ru_init_84 := dk_go 1 a_Ru_init_83 rfl
theorem a_Ru_init_87 : dk_at b_Ru_init 87 t_Ru_init_87 := dk_go 3 a_Ru_init_84 rfl
theorem a_Ru_init_89 : dk_at b_Ru_init 89 t_Ru_init_89 := dk_go 2 a_Ru_init_87 rfl
theorem a_Ru_init_92 : dk_at b_Ru_init 92 t_Ru_init_92 := dk_go 3 a_Ru_init_89 rfl
theorem a_Ru_init_93 : dk_at b_Ru_init 93 t_Ru_init_93 := dk_go 1 a_Ru_init_92 rfl
theorem a_Ru_init_96 : dk_at b_Ru_init 96 t_Ru_init_96 := dk_go 3 a_Ru_init_93 rfl
theorem a_Ru_init_98 : dk_at b_Ru_init 98 t_Ru_init_98 := dk_go 2 a_Ru_init_96 rfl
theorem a_Ru_init_101 : dk_at b_Ru_init 101 t_Ru_init_101 := dk_go 3 a_Ru_init_98 rfl
theorem a_Ru_init_102 : dk_at b_Ru_init 102 t_Ru_init_102 := dk_go 1 a_Ru_init_101 rfl
theorem a_Ru_init_104 : dk_at b_Ru_init 104 t_Ru_init_104 := dk_go 2 a_Ru_init_102 rfl
theorem a_Ru_init_106 : dk_at b_Ru_init 106 t_Ru_init_106 := dk_go 2 a_Ru_init_104 rfl
theorem a_Ru_init_109 : dk_at b_Ru_init 109 t_Ru_init_109 := dk_go 3 a_Ru_init_106 rfl
theorem a_Ru_init_110 : dk_at b_Ru_init 110 t_Ru_init_110 := dk_go 1 a_Ru_init_109 rfl
theorem a_Ru_init_111 : dk_at b_Ru_init 111 t_Ru_init_111 := dk_go 1 a_Ru_init_110 rfl
theorem a_Ru_init_114 : dk_at b_Ru_init 114 t_Ru_init_114 := dk_go 3 a_Ru_init_111 rfl
theorem a_Ru_init_115 : dk_at b_Ru_init 115 t_Ru_init_115 := dk_go 1 a_Ru_init_114 rfl
theorem a_Ru_init_116 : dk_at b_Ru_init 116 t_Ru_init_116 := dk_go 1 a_Ru_init_115 rfl
theorem a_Ru_init_119 : dk_at b_Ru_init 119 t_Ru_init_119 := dk_go 3 a_Ru_init_116 rfl
theorem a_Ru_init_120 : dk_at b_Ru_init 120 t_Ru_init_120 := dk_go 1 a_Ru_init_119 rfl
theorem a_Ru_init_121 : dk_at b_Ru_init 121 t_Ru_init_121 := dk_go 1 a_Ru_init_120 rfl
theorem a_Ru_init_124 : dk_at b_Ru_init 124 t_Ru_init_124 := dk_go 3 a_Ru_init_121 rfl
theorem d_Ru_init_0 : decode b_Ru_init 0 = .ok (.aload_n 0, 1) := dk_0 a_Ru_init_0 (dko_42 _)
theorem d_Ru_init_1 : decode b_Ru_init 1 = .ok (.invokespecial 3, 3) := dk_U2 a_Ru_init_1 (dko_183 _) rfl
theorem d_Ru_init_4 : decode b_Ru_init 4 = .ok (.aload_n 0, 1) := dk_0 a_Ru_init_4 (dko_42 _)
theorem d_Ru_init_5 : decode b_Ru_init 5 = .ok (.new 9, 3) := dk_U2 a_Ru_init_5 (dko_187 _) rfl
theorem d_Ru_init_8 : decode b_Ru_init 8 = .ok (.dup, 1) := dk_0 a_Ru_init_8 (dko_89 _)
theorem d_Ru_init_9 : decode b_Ru_init 9 = .ok (.invokespecial 11, 3) := dk_U2 a_Ru_init_9 (dko_183 _) rfl
theorem d_Ru_init_12 : decode b_Ru_init 12 = .ok (.putfield 12, 3) := dk_U2 a_Ru_init_12 (dko_181 _) rfl
theorem d_Ru_init_15 : decode b_Ru_init 15 = .ok (.aload_n 0, 1) := dk_0 a_Ru_init_15 (dko_42 _)
theorem d_Ru_init_16 : decode b_Ru_init 16 = .ok (.iconst 4, 1) := dk_0 a_Ru_init_16 (dko_7 _)
theorem d_Ru_init_17 : decode b_Ru_init 17 = .ok (.putfield 18, 3) := dk_U2 a_Ru_init_17 (dko_181 _) rfl
theorem d_Ru_init_20 : decode b_Ru_init 20 = .ok (.aload_n 0, 1) := dk_0 a_Ru_init_20 (dko_42 _)
theorem d_Ru_init_21 : decode b_Ru_init 21 = .ok (.sipush 501, 3) := dk_S2 a_Ru_init_21 (dko_17 _) (by decide +kernel)
theorem d_Ru_init_24 : decode b_Ru_init 24 = .ok (.newarray .int, 2) := dk_N a_Ru_init_24 (dko_188 _) rfl
theorem d_Ru_init_26 : decode b_Ru_init 26 = .ok (.putfield 22, 3) := dk_U2 a_Ru_init_26 (dko_181 _) rfl
theorem d_Ru_init_29 : decode b_Ru_init 29 = .ok (.aload_n 0, 1) := dk_0 a_Ru_init_29 (dko_42 _)
theorem d_Ru_init_30 : decode b_Ru_init 30 = .ok (.sipush 501, 3) := dk_S2 a_Ru_init_30 (dko_17 _) (by decide +kernel)
theorem d_Ru_init_33 : decode b_Ru_init 33 = .ok (.newarray .int, 2) := dk_N a_Ru_init_33 (dko_188 _) rfl
theorem d_Ru_init_35 : decode b_Ru_init 35 = .ok (.putfield 26, 3) := dk_U2 a_Ru_init_35 (dko_181 _) rfl
theorem d_Ru_init_38 : decode b_Ru_init 38 = .ok (.aload_n 0, 1) := dk_0 a_Ru_init_38 (dko_42 _)
theorem d_Ru_init_39 : decode b_Ru_init 39 = .ok (.sipush 501, 3) := dk_S2 a_Ru_init_39 (dko_17 _) (by decide +kernel)
theorem d_Ru_init_42 : decode b_Ru_init 42 = .ok (.newarray .int, 2) := dk_N a_Ru_init_42 (dko_188 _) rfl
theorem d_Ru_init_44 : decode b_Ru_init 44 = .ok (.putfield 29, 3) := dk_U2 a_Ru_init_44 (dko_181 _) rfl
theorem d_Ru_init_47 : decode b_Ru_init 47 = .ok (.aload_n 0, 1) := dk_0 a_Ru_init_47 (dko_42 _)
theorem d_Ru_init_48 : decode b_Ru_init 48 = .ok (.sipush 501, 3) := dk_S2 a_Ru_init_48 (dko_17 _) (by decide +kernel)
theorem d_Ru_init_51 : decode b_Ru_init 51 = .ok (.newarray .int, 2) := dk_N a_Ru_init_51 (dko_188 _) rfl
theorem d_Ru_init_53 : decode b_Ru_init 53 = .ok (.putfield 32, 3) := dk_U2 a_Ru_init_53 (dko_181 _) rfl
theorem d_Ru_init_56 : decode b_Ru_init 56 = .ok (.aload_n 0, 1) := dk_0 a_Ru_init_56 (dko_42 _)
theorem d_Ru_init_57 : decode b_Ru_init 57 = .ok (.sipush 501, 3) := dk_S2 a_Ru_init_57 (dko_17 _) (by decide +kernel)
theorem d_Ru_init_60 : decode b_Ru_init 60 = .ok (.newarray .int, 2) := dk_N a_Ru_init_60 (dko_188 _) rfl
theorem d_Ru_init_62 : decode b_Ru_init 62 = .ok (.putfield 35, 3) := dk_U2 a_Ru_init_62 (dko_181 _) rfl
theorem d_Ru_init_65 : decode b_Ru_init 65 = .ok (.aload_n 0, 1) := dk_0 a_Ru_init_65 (dko_42 _)
theorem d_Ru_init_66 : decode b_Ru_init 66 = .ok (.sipush 501, 3) := dk_S2 a_Ru_init_66 (dko_17 _) (by decide +kernel)
theorem d_Ru_init_69 : decode b_Ru_init 69 = .ok (.newarray .long, 2) := dk_N a_Ru_init_69 (dko_188 _) rfl
theorem d_Ru_init_71 : decode b_Ru_init 71 = .ok (.putfield 38, 3) := dk_U2 a_Ru_init_71 (dko_181 _) rfl
theorem d_Ru_init_74 : decode b_Ru_init 74 = .ok (.aload_n 0, 1) := dk_0 a_Ru_init_74 (dko_42 _)
theorem d_Ru_init_75 : decode b_Ru_init 75 = .ok (.sipush 501, 3) := dk_S2 a_Ru_init_75 (dko_17 _) (by decide +kernel)
theorem d_Ru_init_78 : decode b_Ru_init 78 = .ok (.newarray .long, 2) := dk_N a_Ru_init_78 (dko_188 _) rfl
theorem d_Ru_init_80 : decode b_Ru_init 80 = .ok (.putfield 42, 3) := dk_U2 a_Ru_init_80 (dko_181 _) rfl
theorem d_Ru_init_83 : decode b_Ru_init 83 = .ok (.aload_n 0, 1) := dk_0 a_Ru_init_83 (dko_42 _)
theorem d_Ru_init_84 : decode b_Ru_init 84 = .ok (.sipush 501, 3) := dk_S2 a_Ru_init_84 (dko_17 _) (by decide +kernel)
theorem d_Ru_init_87 : decode b_Ru_init 87 = .ok (.newarray .long, 2) := dk_N a_Ru_init_87 (dko_188 _) rfl
theorem d_Ru_init_89 : decode b_Ru_init 89 = .ok (.putfield 45, 3) := dk_U2 a_Ru_init_89 (dko_181 _) rfl
theorem d_Ru_init_92 : decode b_Ru_init 92 = .ok (.aload_n 0, 1) := dk_0 a_Ru_init_92 (dko_42 _)
theorem d_Ru_init_93 : decode b_Ru_init 93 = .ok (.sipush 501, 3) := dk_S2 a_Ru_init_93 (dko_17 _) (by decide +kernel)
theorem d_Ru_init_96 : decode b_Ru_init 96 = .ok (.newarray .long, 2) := dk_N a_Ru_init_96 (dko_188 _) rfl
theorem d_Ru_init_98 : decode b_Ru_init 98 = .ok (.putfield 48, 3) := dk_U2 a_Ru_init_98 (dko_181 _) rfl
theorem d_Ru_init_101 : decode b_Ru_init 101 = .ok (.aload_n 0, 1) := dk_0 a_Ru_init_101 (dko_42 _)
theorem d_Ru_init_102 : decode b_Ru_init 102 = .ok (.bipush 64, 2) := dk_S1 a_Ru_init_102 (dko_16 _) (by decide +kernel)
theorem d_Ru_init_104 : decode b_Ru_init 104 = .ok (.newarray .long, 2) := dk_N a_Ru_init_104 (dko_188 _) rfl
theorem d_Ru_init_106 : decode b_Ru_init 106 = .ok (.putfield 51, 3) := dk_U2 a_Ru_init_106 (dko_181 _) rfl
theorem d_Ru_init_109 : decode b_Ru_init 109 = .ok (.aload_n 0, 1) := dk_0 a_Ru_init_109 (dko_42 _)
theorem d_Ru_init_110 : decode b_Ru_init 110 = .ok (.aload_n 1, 1) := dk_0 a_Ru_init_110 (dko_43 _)
theorem d_Ru_init_111 : decode b_Ru_init 111 = .ok (.putfield 54, 3) := dk_U2 a_Ru_init_111 (dko_181 _) rfl
theorem d_Ru_init_114 : decode b_Ru_init 114 = .ok (.aload_n 0, 1) := dk_0 a_Ru_init_114 (dko_42 _)
theorem d_Ru_init_115 : decode b_Ru_init 115 = .ok (.aload_n 2, 1) := dk_0 a_Ru_init_115 (dko_44 _)
theorem d_Ru_init_116 : decode b_Ru_init 116 = .ok (.putfield 58, 3) := dk_U2 a_Ru_init_116 (dko_181 _) rfl
theorem d_Ru_init_119 : decode b_Ru_init 119 = .ok (.aload_n 0, 1) := dk_0 a_Ru_init_119 (dko_42 _)
theorem d_Ru_init_120 : decode b_Ru_init 120 = .ok (.aload_n 3, 1) := dk_0 a_Ru_init_120 (dko_45 _)
theorem d_Ru_init_121 : decode b_Ru_init 121 = .ok (.putfield 62, 3) := dk_U2 a_Ru_init_121 (dko_181 _) rfl
theorem d_Ru_init_124 : decode b_Ru_init 124 = .ok (.return_, 1) := dk_0 a_Ru_init_124 (dko_177 _)
set_option maxHeartbeats 4000000 in
set_option maxRecDepth 100000 in
theorem c_Ru_init (l : Launch) (dC : Nat → ClassId) (dI : Nat → Nat → Nat) (cI cB cZ cJ : ClassId) (h0 : Nat) (r1 : Nat) (r2 : Nat) (r3 : Nat) (sz : Nat) : Met l y_Ru_init w_Ru_init ({ frames := 2, cells := 25, slots := 6978, locals := 40 }) (va_Pc [.ref h0, .ref r1, .ref r2, .ref r3] (PW dC dI cI cB cZ cJ [(h0, .inr (10, [.null, .null, .null, .null, .int 0, .int 0, .null, .null, .null, .null, .null, .null, .null, .null, .null, .int 0, .null, .long 0, .int 0, .int 0, .int 0]))] sz)) (va_Qv (fun _ : Unit => True) (fun (_ : Unit) (t : State) => ∃ q5 q13_9 q22_9 q31_9 q40_9 q49_9 q58_9 q67_9 q75_9 q83_9 q91_9 q99_9 q107_9 q115_9 q123_9 q24 q33 q42 q51 q60 q69 q78 q87 q96 q104 : Nat, va_P (dC, dI) classes [(h0, .inr (10, [.ref r1, .ref r2, .ref r3, .ref q5, .int 4, .int 0, .ref q24, .ref q33, .ref q42, .ref q51, .ref q60, .ref q69, .ref q78, .ref q87, .ref q96, .int 0, .ref q104, .long 0, .int 0, .int 0, .int 0])), (q5, .inr (8, [.int 0, .int 0, .int (-1), .ref q13_9, .ref q22_9, .ref q31_9, .ref q40_9, .ref q49_9, .ref q58_9, .ref q67_9, .int 0, .ref q75_9, .ref q83_9, .ref q91_9, .ref q99_9, .ref q107_9, .ref q115_9, .ref q123_9])), (q13_9, .inl (cI, 301, .inl (fun _ => 0))), (q22_9, .inl (cI, 301, .inl (fun _ => 0))), (q31_9, .inl (cI, 301, .inl (fun _ => 0))), (q40_9, .inl (cI, 301, .inl (fun _ => 0))), (q49_9, .inl (cI, 301, .inl (fun _ => 0))), (q58_9, .inl (cI, 301, .inl (fun _ => 0))), (q67_9, .inl (cJ, 301, .inr (.inl (fun _ => 0)))), (q75_9, .inl (cJ, 40, .inr (.inl (fun _ => 0)))), (q83_9, .inl (cI, 40, .inl (fun _ => 0))), (q91_9, .inl (cI, 40, .inl (fun _ => 0))), (q99_9, .inl (cI, 40, .inl (fun _ => 0))), (q107_9, .inl (cJ, 40, .inr (.inl (fun _ => 0)))), (q115_9, .inl (cI, 40, .inl (fun _ => 0))), (q123_9, .inl (cI, 40, .inl (fun _ => 0))), (q24, .inl (cI, 501, .inl (fun _ => 0))), (q33, .inl (cI, 501, .inl (fun _ => 0))), (q42, .inl (cI, 501, .inl (fun _ => 0))), (q51, .inl (cI, 501, .inl (fun _ => 0))), (q60, .inl (cI, 501, .inl (fun _ => 0))), (q69, .inl (cJ, 501, .inr (.inl (fun _ => 0)))), (q78, .inl (cJ, 501, .inr (.inl (fun _ => 0)))), (q87, .inl (cJ, 501, .inr (.inl (fun _ => 0)))), (q96, .inl (cJ, 501, .inr (.inl (fun _ => 0)))), (q104, .inl (cJ, 64, .inr (.inl (fun _ => 0))))] t.heap ∧ va_D (va_A [(h0, .inr (10, [.null, .null, .null, .null, .int 0, .int 0, .null, .null, .null, .null, .null, .null, .null, .null, .null, .int 0, .null, .long 0, .int 0, .int 0, .int 0]))] sz) [(h0, .inr (10, [.ref r1, .ref r2, .ref r3, .ref q5, .int 4, .int 0, .ref q24, .ref q33, .ref q42, .ref q51, .ref q60, .ref q69, .ref q78, .ref q87, .ref q96, .int 0, .ref q104, .long 0, .int 0, .int 0, .int 0])), (q5, .inr (8, [.int 0, .int 0, .int (-1), .ref q13_9, .ref q22_9, .ref q31_9, .ref q40_9, .ref q49_9, .ref q58_9, .ref q67_9, .int 0, .ref q75_9, .ref q83_9, .ref q91_9, .ref q99_9, .ref q107_9, .ref q115_9, .ref q123_9])), (q13_9, .inl (cI, 301, .inl (fun _ => 0))), (q22_9, .inl (cI, 301, .inl (fun _ => 0))), (q31_9, .inl (cI, 301, .inl (fun _ => 0))), (q40_9, .inl (cI, 301, .inl (fun _ => 0))), (q49_9, .inl (cI, 301, .inl (fun _ => 0))), (q58_9, .inl (cI, 301, .inl (fun _ => 0))), (q67_9, .inl (cJ, 301, .inr (.inl (fun _ => 0)))), (q75_9, .inl (cJ, 40, .inr (.inl (fun _ => 0)))), (q83_9, .inl (cI, 40, .inl (fun _ => 0))), (q91_9, .inl (cI, 40, .inl (fun _ => 0))), (q99_9, .inl (cI, 40, .inl (fun _ => 0))), (q107_9, .inl (cJ, 40, .inr (.inl (fun _ => 0)))), (q115_9, .inl (cI, 40, .inl (fun _ => 0))), (q123_9, .inl (cI, 40, .inl (fun _ => 0))), (q24, .inl (cI, 501, .inl (fun _ => 0))), (q33, .inl (cI, 501, .inl (fun _ => 0))), (q42, .inl (cI, 501, .inl (fun _ => 0))), (q51, .inl (cI, 501, .inl (fun _ => 0))), (q60, .inl (cI, 501, .inl (fun _ => 0))), (q69, .inl (cJ, 501, .inr (.inl (fun _ => 0)))), (q78, .inl (cJ, 501, .inr (.inl (fun _ => 0)))), (q87, .inl (cJ, 501, .inr (.inl (fun _ => 0)))), (q96, .inl (cJ, 501, .inr (.inl (fun _ => 0)))), (q104, .inl (cJ, 64, .inr (.inl (fun _ => 0))))]) (va_A [(h0, .inr (10, [.null, .null, .null, .null, .int 0, .int 0, .null, .null, .null, .null, .null, .null, .null, .null, .null, .int 0, .null, .long 0, .int 0, .int 0, .int 0]))] sz)) 25 6978 (va_A [(h0, .inr (10, [.null, .null, .null, .null, .int 0, .int 0, .null, .null, .null, .null, .null, .null, .null, .null, .null, .int 0, .null, .long 0, .int 0, .int 0, .int 0]))] sz) := by
  refine Met.ofW (cc := b_Ru_init) (maxL := 4) (ret := none) (by decide) rfl ?_
  intro p e s m args below meth c s₁ B hml hv
  obtain ⟨rfl, hsz, hP, hK, hD⟩ := hv
  have hx := B.exec
  have hb := B.bytes
  have hr := B.returns
  have hts := atoms_spec (ws := w_Ru_init) B.pre
  have hown : s.vm.findClass R_Ru = some m.cls := findClass_of_methodNamed B.named
  have hlocks := B.notSynchronized
  have hin : meth.name = "<init>" := (name_of_methodNamed B.named B.method).1
  subst hsz
  have hD := hD.self (sz := s.heap.size)
  generalize hAe : va_A [(h0, .inr (10, [.null, .null, .null, .null, .int 0, .int 0, .null, .null, .null, .null, .null, .null, .null, .null, .null, .int 0, .null, .long 0, .int 0, .int 0, .int 0]))] s.heap.size = A at hD ⊢
  have hA : ∀ q : Nat, s.heap.size ≤ q → A q := fun q h => by rw [← hAe]; exact Or.inr h
  have hS : va_S A s.heap s.heap [] := va_S.rf
  have hP : va_P (dC, dI) classes [(h0, .inr (10, [.null, .null, .null, .null, .int 0, .int 0, .null, .null, .null, .null, .null, .null, .null, .null, .null, .int 0, .null, .long 0, .int 0, .int 0, .int 0]))] s.heap := hP
  have hl := lv_entry ([.ref h0, .ref r1, .ref r2, .ref r3]) (n := 4) (Nat.le_of_ble_eq_true rfl)
  rw [lg_entry_eq]
  generalize (lg_sl ([.ref h0, .ref r1, .ref r2, .ref r3]) ++ List.replicate (4 - (lg_sl ([.ref h0, .ref r1, .ref r2, .ref r3])).length) Slot.unset).toArray = ls at hl ⊢
  have hl : lv_has ls 4 [(0, .ref h0), (1, .ref r1), (2, .ref r2), (3, .ref r3)] := hl
  refine lv_aload_n hx hb d_Ru_init_0 rfl (lv_at hl 0 rfl) ?_
  refine W.objInit hx hb hown (hts _ (List.mem_cons_of_mem _ mw_421)) (hts _ (List.mem_cons_of_mem _ mw_30)) (hts _ (List.mem_cons_of_mem _ mw_31)) rfl (by rw [hml]; exact hl.1) rfl d_Ru_init_1 (Nat.le_of_ble_eq_true rfl) (Nat.le_of_ble_eq_true rfl) ?_
  refine W.eq (g2 := F0 m 4 ls []) rfl ?_
  refine lv_aload_n hx hb d_Ru_init_4 rfl (lv_at hl 0 rfl) ?_
  refine va_new (ci := 8) (fs := [.int 0, .int 0, .int 0, .null, .null, .null, .null, .null, .null, .null, .int 0, .null, .null, .null, .null, .null, .null, .null]) (C := R_Pr) (T := F_Pr) (N := 18) hx hb hts (fun w h => List.mem_cons_of_mem _ (in_Pr w h)) t_Pr t_Pr_ok hown (hts _ (List.mem_cons_of_mem _ mw_422)) (hts _ (List.mem_cons_of_mem _ mw_423)) (hts _ (List.mem_cons_of_mem _ mw_12)) hK.1 hP hD hS hA rfl df_Pr (Nat.le_of_ble_eq_true rfl) (Nat.le_of_ble_eq_true rfl) d_Ru_init_5 (fun q5 H hP hD hS => ?_)
  refine W.widen (k := 1) (n := 18) (Nat.le_refl _) (Nat.le_refl _) ?_
  have hP : va_P (dC, dI) classes [(h0, .inr (10, [.null, .null, .null, .null, .int 0, .int 0, .null, .null, .null, .null, .null, .null, .null, .null, .null, .int 0, .null, .long 0, .int 0, .int 0, .int 0])), (q5, .inr (8, [.int 0, .int 0, .int 0, .null, .null, .null, .null, .null, .null, .null, .int 0, .null, .null, .null, .null, .null, .null, .null]))] H := hP
  have hD : va_D A [(h0, .inr (10, [.null, .null, .null, .null, .int 0, .int 0, .null, .null, .null, .null, .null, .null, .null, .null, .null, .int 0, .null, .long 0, .int 0, .int 0, .int 0])), (q5, .inr (8, [.int 0, .int 0, .int 0, .null, .null, .null, .null, .null, .null, .null, .int 0, .null, .null, .null, .null, .null, .null, .null]))] := hD
  refine lv_dup hx hb d_Ru_init_8 rfl ?_
  have hPc := hP.sub (ws' := [(q5, .inr (8, [.int 0, .int 0, .int 0, .null, .null, .null, .null, .null, .null, .null, .int 0, .null, .null, .null, .null, .null, .null, .null]))]) [1] rfl
  have hDc := hD.sub (ws' := [(q5, .inr (8, [.int 0, .int 0, .int 0, .null, .null, .null, .null, .null, .null, .null, .int 0, .null, .null, .null, .null, .null, .null, .null]))]) [1] (by decide) rfl
  have hFc := va_free (wc := [(q5, .inr (8, [.int 0, .int 0, .int 0, .null, .null, .null, .null, .null, .null, .null, .int 0, .null, .null, .null, .null, .null, .null, .null]))]) hD hS hA [1] rfl
  refine va_callv (va_runIN (As := []) (rest := [.ref q5, .ref h0]) ⟨hx, hb, hml, hown, hts⟩ (c_Pr_init l dC dI cI cB cZ cJ q5 H.size) ⟨va_cnB 0 hts (tb_in mw_426) rfl rfl rfl (hK.2 _ nw_424) (hts _ (List.mem_cons_of_mem _ mw_12)) ⟨by decide +kernel, by decide +kernel, by decide +kernel⟩ ⟨(Nat.le_of_ble_eq_true rfl), (Nat.le_of_ble_eq_true rfl)⟩, rfl, (hts _ (List.mem_cons_of_mem _ mw_425))⟩ ⟨pw_blind, pw_pre hPc hK hDc⟩ rfl rfl hl.1 rfl (lv_room (Nat.le_of_ble_eq_true rfl)) d_Ru_init_9 ⟨(Nat.le_of_ble_eq_true rfl), (Nat.le_of_ble_eq_true rfl)⟩) hS (fun q _ h => hFc q h) hFc (fun u t H locs ht hvm hw hB hz1 hk1 hS => ?_)
  obtain ⟨q13_9, q22_9, q31_9, q40_9, q49_9, q58_9, q67_9, q75_9, q83_9, q91_9, q99_9, q107_9, q115_9, q123_9, hP1, hD1⟩ := hB
  rw [ht] at hP1
  obtain ⟨hP, hD⟩ := va_join (wr := [(h0, .inr (10, [.null, .null, .null, .null, .int 0, .int 0, .null, .null, .null, .null, .null, .null, .null, .null, .null, .int 0, .null, .long 0, .int 0, .int 0, .int 0]))]) (w1 := [(q5, .inr (8, [.int 0, .int 0, .int (-1), .ref q13_9, .ref q22_9, .ref q31_9, .ref q40_9, .ref q49_9, .ref q58_9, .ref q67_9, .int 0, .ref q75_9, .ref q83_9, .ref q91_9, .ref q99_9, .ref q107_9, .ref q115_9, .ref q123_9])), (q13_9, .inl (cI, 301, .inl (fun _ => 0))), (q22_9, .inl (cI, 301, .inl (fun _ => 0))), (q31_9, .inl (cI, 301, .inl (fun _ => 0))), (q40_9, .inl (cI, 301, .inl (fun _ => 0))), (q49_9, .inl (cI, 301, .inl (fun _ => 0))), (q58_9, .inl (cI, 301, .inl (fun _ => 0))), (q67_9, .inl (cJ, 301, .inr (.inl (fun _ => 0)))), (q75_9, .inl (cJ, 40, .inr (.inl (fun _ => 0)))), (q83_9, .inl (cI, 40, .inl (fun _ => 0))), (q91_9, .inl (cI, 40, .inl (fun _ => 0))), (q99_9, .inl (cI, 40, .inl (fun _ => 0))), (q107_9, .inl (cJ, 40, .inr (.inl (fun _ => 0)))), (q115_9, .inl (cI, 40, .inl (fun _ => 0))), (q123_9, .inl (cI, 40, .inl (fun _ => 0)))]) hP hD [1] [0] rfl rfl (by decide) (by decide) hk1 hFc hP1 hD1
  refine W.widen (k := 15) (n := 2405) (Nat.le_refl _) (Nat.le_refl _) ?_
  have hP : va_P (dC, dI) classes [(h0, .inr (10, [.null, .null, .null, .null, .int 0, .int 0, .null, .null, .null, .null, .null, .null, .null, .null, .null, .int 0, .null, .long 0, .int 0, .int 0, .int 0])), (q5, .inr (8, [.int 0, .int 0, .int (-1), .ref q13_9, .ref q22_9, .ref q31_9, .ref q40_9, .ref q49_9, .ref q58_9, .ref q67_9, .int 0, .ref q75_9, .ref q83_9, .ref q91_9, .ref q99_9, .ref q107_9, .ref q115_9, .ref q123_9])), (q13_9, .inl (cI, 301, .inl (fun _ => 0))), (q22_9, .inl (cI, 301, .inl (fun _ => 0))), (q31_9, .inl (cI, 301, .inl (fun _ => 0))), (q40_9, .inl (cI, 301, .inl (fun _ => 0))), (q49_9, .inl (cI, 301, .inl (fun _ => 0))), (q58_9, .inl (cI, 301, .inl (fun _ => 0))), (q67_9, .inl (cJ, 301, .inr (.inl (fun _ => 0)))), (q75_9, .inl (cJ, 40, .inr (.inl (fun _ => 0)))), (q83_9, .inl (cI, 40, .inl (fun _ => 0))), (q91_9, .inl (cI, 40, .inl (fun _ => 0))), (q99_9, .inl (cI, 40, .inl (fun _ => 0))), (q107_9, .inl (cJ, 40, .inr (.inl (fun _ => 0)))), (q115_9, .inl (cI, 40, .inl (fun _ => 0))), (q123_9, .inl (cI, 40, .inl (fun _ => 0)))] H := hP
  have hD : va_D A [(h0, .inr (10, [.null, .null, .null, .null, .int 0, .int 0, .null, .null, .null, .null, .null, .null, .null, .null, .null, .int 0, .null, .long 0, .int 0, .int 0, .int 0])), (q5, .inr (8, [.int 0, .int 0, .int (-1), .ref q13_9, .ref q22_9, .ref q31_9, .ref q40_9, .ref q49_9, .ref q58_9, .ref q67_9, .int 0, .ref q75_9, .ref q83_9, .ref q91_9, .ref q99_9, .ref q107_9, .ref q115_9, .ref q123_9])), (q13_9, .inl (cI, 301, .inl (fun _ => 0))), (q22_9, .inl (cI, 301, .inl (fun _ => 0))), (q31_9, .inl (cI, 301, .inl (fun _ => 0))), (q40_9, .inl (cI, 301, .inl (fun _ => 0))), (q49_9, .inl (cI, 301, .inl (fun _ => 0))), (q58_9, .inl (cI, 301, .inl (fun _ => 0))), (q67_9, .inl (cJ, 301, .inr (.inl (fun _ => 0)))), (q75_9, .inl (cJ, 40, .inr (.inl (fun _ => 0)))), (q83_9, .inl (cI, 40, .inl (fun _ => 0))), (q91_9, .inl (cI, 40, .inl (fun _ => 0))), (q99_9, .inl (cI, 40, .inl (fun _ => 0))), (q107_9, .inl (cJ, 40, .inr (.inl (fun _ => 0)))), (q115_9, .inl (cI, 40, .inl (fun _ => 0))), (q123_9, .inl (cI, 40, .inl (fun _ => 0)))] := hD
  refine va_put (D := (dC, dI)) (ci := 10) (v := .ref q5) (ty := (.object "BreweryHouse$Program")) (C := R_Ru) (T := F_Ru) (N := 21) hx hb hts (fun w h => List.mem_cons_of_mem _ (in_Ru w h)) t_Ru t_Ru_ok n_Ru hown hK.1 hP hD hS 0 rfl rfl 3 (by decide) (hts _ (List.mem_cons_of_mem _ mw_514)) (fun _ h9 => h9) rfl (by decide +kernel) rfl rfl (Nat.le_of_ble_eq_true rfl) d_Ru_init_12 (fun H locs hP hD hS => ?_)
  have hP : va_P (dC, dI) classes [(h0, .inr (10, [.null, .null, .null, .ref q5, .int 0, .int 0, .null, .null, .null, .null, .null, .null, .null, .null, .null, .int 0, .null, .long 0, .int 0, .int 0, .int 0])), (q5, .inr (8, [.int 0, .int 0, .int (-1), .ref q13_9, .ref q22_9, .ref q31_9, .ref q40_9, .ref q49_9, .ref q58_9, .ref q67_9, .int 0, .ref q75_9, .ref q83_9, .ref q91_9, .ref q99_9, .ref q107_9, .ref q115_9, .ref q123_9])), (q13_9, .inl (cI, 301, .inl (fun _ => 0))), (q22_9, .inl (cI, 301, .inl (fun _ => 0))), (q31_9, .inl (cI, 301, .inl (fun _ => 0))), (q40_9, .inl (cI, 301, .inl (fun _ => 0))), (q49_9, .inl (cI, 301, .inl (fun _ => 0))), (q58_9, .inl (cI, 301, .inl (fun _ => 0))), (q67_9, .inl (cJ, 301, .inr (.inl (fun _ => 0)))), (q75_9, .inl (cJ, 40, .inr (.inl (fun _ => 0)))), (q83_9, .inl (cI, 40, .inl (fun _ => 0))), (q91_9, .inl (cI, 40, .inl (fun _ => 0))), (q99_9, .inl (cI, 40, .inl (fun _ => 0))), (q107_9, .inl (cJ, 40, .inr (.inl (fun _ => 0)))), (q115_9, .inl (cI, 40, .inl (fun _ => 0))), (q123_9, .inl (cI, 40, .inl (fun _ => 0)))] H := hP
  have hD : va_D A [(h0, .inr (10, [.null, .null, .null, .ref q5, .int 0, .int 0, .null, .null, .null, .null, .null, .null, .null, .null, .null, .int 0, .null, .long 0, .int 0, .int 0, .int 0])), (q5, .inr (8, [.int 0, .int 0, .int (-1), .ref q13_9, .ref q22_9, .ref q31_9, .ref q40_9, .ref q49_9, .ref q58_9, .ref q67_9, .int 0, .ref q75_9, .ref q83_9, .ref q91_9, .ref q99_9, .ref q107_9, .ref q115_9, .ref q123_9])), (q13_9, .inl (cI, 301, .inl (fun _ => 0))), (q22_9, .inl (cI, 301, .inl (fun _ => 0))), (q31_9, .inl (cI, 301, .inl (fun _ => 0))), (q40_9, .inl (cI, 301, .inl (fun _ => 0))), (q49_9, .inl (cI, 301, .inl (fun _ => 0))), (q58_9, .inl (cI, 301, .inl (fun _ => 0))), (q67_9, .inl (cJ, 301, .inr (.inl (fun _ => 0)))), (q75_9, .inl (cJ, 40, .inr (.inl (fun _ => 0)))), (q83_9, .inl (cI, 40, .inl (fun _ => 0))), (q91_9, .inl (cI, 40, .inl (fun _ => 0))), (q99_9, .inl (cI, 40, .inl (fun _ => 0))), (q107_9, .inl (cJ, 40, .inr (.inl (fun _ => 0)))), (q115_9, .inl (cI, 40, .inl (fun _ => 0))), (q123_9, .inl (cI, 40, .inl (fun _ => 0)))] := hD
  refine lv_aload_n hx hb d_Ru_init_15 rfl (lv_at hl 0 rfl) ?_
  refine lv_iconst (v := 4) hx hb d_Ru_init_16 (by decide) ?_
  refine va_put (D := (dC, dI)) (ci := 10) (v := .int 4) (ty := .int) (C := R_Ru) (T := F_Ru) (N := 21) hx hb hts (fun w h => List.mem_cons_of_mem _ (in_Ru w h)) t_Ru t_Ru_ok n_Ru hown hK.1 hP hD hS 0 rfl rfl 4 (by decide) (hts _ (List.mem_cons_of_mem _ mw_516)) (fun _ h9 => h9) rfl (by decide +kernel) rfl rfl (Nat.le_of_ble_eq_true rfl) d_Ru_init_17 (fun H locs hP hD hS => ?_)
  have hP : va_P (dC, dI) classes [(h0, .inr (10, [.null, .null, .null, .ref q5, .int 4, .int 0, .null, .null, .null, .null, .null, .null, .null, .null, .null, .int 0, .null, .long 0, .int 0, .int 0, .int 0])), (q5, .inr (8, [.int 0, .int 0, .int (-1), .ref q13_9, .ref q22_9, .ref q31_9, .ref q40_9, .ref q49_9, .ref q58_9, .ref q67_9, .int 0, .ref q75_9, .ref q83_9, .ref q91_9, .ref q99_9, .ref q107_9, .ref q115_9, .ref q123_9])), (q13_9, .inl (cI, 301, .inl (fun _ => 0))), (q22_9, .inl (cI, 301, .inl (fun _ => 0))), (q31_9, .inl (cI, 301, .inl (fun _ => 0))), (q40_9, .inl (cI, 301, .inl (fun _ => 0))), (q49_9, .inl (cI, 301, .inl (fun _ => 0))), (q58_9, .inl (cI, 301, .inl (fun _ => 0))), (q67_9, .inl (cJ, 301, .inr (.inl (fun _ => 0)))), (q75_9, .inl (cJ, 40, .inr (.inl (fun _ => 0)))), (q83_9, .inl (cI, 40, .inl (fun _ => 0))), (q91_9, .inl (cI, 40, .inl (fun _ => 0))), (q99_9, .inl (cI, 40, .inl (fun _ => 0))), (q107_9, .inl (cJ, 40, .inr (.inl (fun _ => 0)))), (q115_9, .inl (cI, 40, .inl (fun _ => 0))), (q123_9, .inl (cI, 40, .inl (fun _ => 0)))] H := hP
  have hD : va_D A [(h0, .inr (10, [.null, .null, .null, .ref q5, .int 4, .int 0, .null, .null, .null, .null, .null, .null, .null, .null, .null, .int 0, .null, .long 0, .int 0, .int 0, .int 0])), (q5, .inr (8, [.int 0, .int 0, .int (-1), .ref q13_9, .ref q22_9, .ref q31_9, .ref q40_9, .ref q49_9, .ref q58_9, .ref q67_9, .int 0, .ref q75_9, .ref q83_9, .ref q91_9, .ref q99_9, .ref q107_9, .ref q115_9, .ref q123_9])), (q13_9, .inl (cI, 301, .inl (fun _ => 0))), (q22_9, .inl (cI, 301, .inl (fun _ => 0))), (q31_9, .inl (cI, 301, .inl (fun _ => 0))), (q40_9, .inl (cI, 301, .inl (fun _ => 0))), (q49_9, .inl (cI, 301, .inl (fun _ => 0))), (q58_9, .inl (cI, 301, .inl (fun _ => 0))), (q67_9, .inl (cJ, 301, .inr (.inl (fun _ => 0)))), (q75_9, .inl (cJ, 40, .inr (.inl (fun _ => 0)))), (q83_9, .inl (cI, 40, .inl (fun _ => 0))), (q91_9, .inl (cI, 40, .inl (fun _ => 0))), (q99_9, .inl (cI, 40, .inl (fun _ => 0))), (q107_9, .inl (cJ, 40, .inr (.inl (fun _ => 0)))), (q115_9, .inl (cI, 40, .inl (fun _ => 0))), (q123_9, .inl (cI, 40, .inl (fun _ => 0)))] := hD
  refine lv_aload_n hx hb d_Ru_init_20 rfl (lv_at hl 0 rfl) ?_
  refine lv_sipush (v := 501) hx hb d_Ru_init_21 (by decide) ?_
  refine ka_newa (atype := .int) (ty := .int) (N' := 501) (a0 := (501, .inl (fun _ => 0))) hx hb (hts _ (List.mem_cons_of_mem _ mw_53)) rfl hK.1 hP hD hS hA 0 rfl (fun _ => rfl) (by decide) (by decide) (by decide) (Nat.le_of_ble_eq_true rfl) (Nat.le_of_ble_eq_true rfl) d_Ru_init_24 (fun q24 H hP hD hS => ?_)
  refine W.widen (k := 16) (n := 2906) (Nat.le_refl _) (Nat.le_refl _) ?_
  refine va_putF (D := (dC, dI)) (ci := 10) (v := .ref q24) (ty := (.array .int)) (C := R_Ru) (T := F_Ru) (N := 21) hx hb hts (fun w h => List.mem_cons_of_mem _ (in_Ru w h)) t_Ru t_Ru_ok n_Ru hown hK.1 hP hD hS 0 rfl rfl 6 (by decide) (hts _ (List.mem_cons_of_mem _ mw_519)) (fun _ h9 => h9) rfl hin rfl (by decide +kernel) rfl rfl (Nat.le_of_ble_eq_true rfl) d_Ru_init_26 (fun H locs hP hD hS => ?_)
  have hP : va_P (dC, dI) classes [(h0, .inr (10, [.null, .null, .null, .ref q5, .int 4, .int 0, .ref q24, .null, .null, .null, .null, .null, .null, .null, .null, .int 0, .null, .long 0, .int 0, .int 0, .int 0])), (q5, .inr (8, [.int 0, .int 0, .int (-1), .ref q13_9, .ref q22_9, .ref q31_9, .ref q40_9, .ref q49_9, .ref q58_9, .ref q67_9, .int 0, .ref q75_9, .ref q83_9, .ref q91_9, .ref q99_9, .ref q107_9, .ref q115_9, .ref q123_9])), (q13_9, .inl (cI, 301, .inl (fun _ => 0))), (q22_9, .inl (cI, 301, .inl (fun _ => 0))), (q31_9, .inl (cI, 301, .inl (fun _ => 0))), (q40_9, .inl (cI, 301, .inl (fun _ => 0))), (q49_9, .inl (cI, 301, .inl (fun _ => 0))), (q58_9, .inl (cI, 301, .inl (fun _ => 0))), (q67_9, .inl (cJ, 301, .inr (.inl (fun _ => 0)))), (q75_9, .inl (cJ, 40, .inr (.inl (fun _ => 0)))), (q83_9, .inl (cI, 40, .inl (fun _ => 0))), (q91_9, .inl (cI, 40, .inl (fun _ => 0))), (q99_9, .inl (cI, 40, .inl (fun _ => 0))), (q107_9, .inl (cJ, 40, .inr (.inl (fun _ => 0)))), (q115_9, .inl (cI, 40, .inl (fun _ => 0))), (q123_9, .inl (cI, 40, .inl (fun _ => 0))), (q24, .inl (cI, 501, .inl (fun _ => 0)))] H := hP
  have hD : va_D A [(h0, .inr (10, [.null, .null, .null, .ref q5, .int 4, .int 0, .ref q24, .null, .null, .null, .null, .null, .null, .null, .null, .int 0, .null, .long 0, .int 0, .int 0, .int 0])), (q5, .inr (8, [.int 0, .int 0, .int (-1), .ref q13_9, .ref q22_9, .ref q31_9, .ref q40_9, .ref q49_9, .ref q58_9, .ref q67_9, .int 0, .ref q75_9, .ref q83_9, .ref q91_9, .ref q99_9, .ref q107_9, .ref q115_9, .ref q123_9])), (q13_9, .inl (cI, 301, .inl (fun _ => 0))), (q22_9, .inl (cI, 301, .inl (fun _ => 0))), (q31_9, .inl (cI, 301, .inl (fun _ => 0))), (q40_9, .inl (cI, 301, .inl (fun _ => 0))), (q49_9, .inl (cI, 301, .inl (fun _ => 0))), (q58_9, .inl (cI, 301, .inl (fun _ => 0))), (q67_9, .inl (cJ, 301, .inr (.inl (fun _ => 0)))), (q75_9, .inl (cJ, 40, .inr (.inl (fun _ => 0)))), (q83_9, .inl (cI, 40, .inl (fun _ => 0))), (q91_9, .inl (cI, 40, .inl (fun _ => 0))), (q99_9, .inl (cI, 40, .inl (fun _ => 0))), (q107_9, .inl (cJ, 40, .inr (.inl (fun _ => 0)))), (q115_9, .inl (cI, 40, .inl (fun _ => 0))), (q123_9, .inl (cI, 40, .inl (fun _ => 0))), (q24, .inl (cI, 501, .inl (fun _ => 0)))] := hD
  refine lv_aload_n hx hb d_Ru_init_29 rfl (lv_at hl 0 rfl) ?_
  refine lv_sipush (v := 501) hx hb d_Ru_init_30 (by decide) ?_
  refine ka_newa (atype := .int) (ty := .int) (N' := 501) (a0 := (501, .inl (fun _ => 0))) hx hb (hts _ (List.mem_cons_of_mem _ mw_53)) rfl hK.1 hP hD hS hA 0 rfl (fun _ => rfl) (by decide) (by decide) (by decide) (Nat.le_of_ble_eq_true rfl) (Nat.le_of_ble_eq_true rfl) d_Ru_init_33 (fun q33 H hP hD hS => ?_)
  refine W.widen (k := 17) (n := 3407) (Nat.le_refl _) (Nat.le_refl _) ?_
  refine va_putF (D := (dC, dI)) (ci := 10) (v := .ref q33) (ty := (.array .int)) (C := R_Ru) (T := F_Ru) (N := 21) hx hb hts (fun w h => List.mem_cons_of_mem _ (in_Ru w h)) t_Ru t_Ru_ok n_Ru hown hK.1 hP hD hS 0 rfl rfl 7 (by decide) (hts _ (List.mem_cons_of_mem _ mw_520)) (fun _ h9 => h9) rfl hin rfl (by decide +kernel) rfl rfl (Nat.le_of_ble_eq_true rfl) d_Ru_init_35 (fun H locs hP hD hS => ?_)
  have hP : va_P (dC, dI) classes [(h0, .inr (10, [.null, .null, .null, .ref q5, .int 4, .int 0, .ref q24, .ref q33, .null, .null, .null, .null, .null, .null, .null, .int 0, .null, .long 0, .int 0, .int 0, .int 0])), (q5, .inr (8, [.int 0, .int 0, .int (-1), .ref q13_9, .ref q22_9, .ref q31_9, .ref q40_9, .ref q49_9, .ref q58_9, .ref q67_9, .int 0, .ref q75_9, .ref q83_9, .ref q91_9, .ref q99_9, .ref q107_9, .ref q115_9, .ref q123_9])), (q13_9, .inl (cI, 301, .inl (fun _ => 0))), (q22_9, .inl (cI, 301, .inl (fun _ => 0))), (q31_9, .inl (cI, 301, .inl (fun _ => 0))), (q40_9, .inl (cI, 301, .inl (fun _ => 0))), (q49_9, .inl (cI, 301, .inl (fun _ => 0))), (q58_9, .inl (cI, 301, .inl (fun _ => 0))), (q67_9, .inl (cJ, 301, .inr (.inl (fun _ => 0)))), (q75_9, .inl (cJ, 40, .inr (.inl (fun _ => 0)))), (q83_9, .inl (cI, 40, .inl (fun _ => 0))), (q91_9, .inl (cI, 40, .inl (fun _ => 0))), (q99_9, .inl (cI, 40, .inl (fun _ => 0))), (q107_9, .inl (cJ, 40, .inr (.inl (fun _ => 0)))), (q115_9, .inl (cI, 40, .inl (fun _ => 0))), (q123_9, .inl (cI, 40, .inl (fun _ => 0))), (q24, .inl (cI, 501, .inl (fun _ => 0))), (q33, .inl (cI, 501, .inl (fun _ => 0)))] H := hP
  have hD : va_D A [(h0, .inr (10, [.null, .null, .null, .ref q5, .int 4, .int 0, .ref q24, .ref q33, .null, .null, .null, .null, .null, .null, .null, .int 0, .null, .long 0, .int 0, .int 0, .int 0])), (q5, .inr (8, [.int 0, .int 0, .int (-1), .ref q13_9, .ref q22_9, .ref q31_9, .ref q40_9, .ref q49_9, .ref q58_9, .ref q67_9, .int 0, .ref q75_9, .ref q83_9, .ref q91_9, .ref q99_9, .ref q107_9, .ref q115_9, .ref q123_9])), (q13_9, .inl (cI, 301, .inl (fun _ => 0))), (q22_9, .inl (cI, 301, .inl (fun _ => 0))), (q31_9, .inl (cI, 301, .inl (fun _ => 0))), (q40_9, .inl (cI, 301, .inl (fun _ => 0))), (q49_9, .inl (cI, 301, .inl (fun _ => 0))), (q58_9, .inl (cI, 301, .inl (fun _ => 0))), (q67_9, .inl (cJ, 301, .inr (.inl (fun _ => 0)))), (q75_9, .inl (cJ, 40, .inr (.inl (fun _ => 0)))), (q83_9, .inl (cI, 40, .inl (fun _ => 0))), (q91_9, .inl (cI, 40, .inl (fun _ => 0))), (q99_9, .inl (cI, 40, .inl (fun _ => 0))), (q107_9, .inl (cJ, 40, .inr (.inl (fun _ => 0)))), (q115_9, .inl (cI, 40, .inl (fun _ => 0))), (q123_9, .inl (cI, 40, .inl (fun _ => 0))), (q24, .inl (cI, 501, .inl (fun _ => 0))), (q33, .inl (cI, 501, .inl (fun _ => 0)))] := hD
  refine lv_aload_n hx hb d_Ru_init_38 rfl (lv_at hl 0 rfl) ?_
  refine lv_sipush (v := 501) hx hb d_Ru_init_39 (by decide) ?_
  refine ka_newa (atype := .int) (ty := .int) (N' := 501) (a0 := (501, .inl (fun _ => 0))) hx hb (hts _ (List.mem_cons_of_mem _ mw_53)) rfl hK.1 hP hD hS hA 0 rfl (fun _ => rfl) (by decide) (by decide) (by decide) (Nat.le_of_ble_eq_true rfl) (Nat.le_of_ble_eq_true rfl) d_Ru_init_42 (fun q42 H hP hD hS => ?_)
  refine W.widen (k := 18) (n := 3908) (Nat.le_refl _) (Nat.le_refl _) ?_
  refine va_putF (D := (dC, dI)) (ci := 10) (v := .ref q42) (ty := (.array .int)) (C := R_Ru) (T := F_Ru) (N := 21) hx hb hts (fun w h => List.mem_cons_of_mem _ (in_Ru w h)) t_Ru t_Ru_ok n_Ru hown hK.1 hP hD hS 0 rfl rfl 8 (by decide) (hts _ (List.mem_cons_of_mem _ mw_521)) (fun _ h9 => h9) rfl hin rfl (by decide +kernel) rfl rfl (Nat.le_of_ble_eq_true rfl) d_Ru_init_44 (fun H locs hP hD hS => ?_)
  have hP : va_P (dC, dI) classes [(h0, .inr (10, [.null, .null, .null, .ref q5, .int 4, .int 0, .ref q24, .ref q33, .ref q42, .null, .null, .null, .null, .null, .null, .int 0, .null, .long 0, .int 0, .int 0, .int 0])), (q5, .inr (8, [.int 0, .int 0, .int (-1), .ref q13_9, .ref q22_9, .ref q31_9, .ref q40_9, .ref q49_9, .ref q58_9, .ref q67_9, .int 0, .ref q75_9, .ref q83_9, .ref q91_9, .ref q99_9, .ref q107_9, .ref q115_9, .ref q123_9])), (q13_9, .inl (cI, 301, .inl (fun _ => 0))), (q22_9, .inl (cI, 301, .inl (fun _ => 0))), (q31_9, .inl (cI, 301, .inl (fun _ => 0))), (q40_9, .inl (cI, 301, .inl (fun _ => 0))), (q49_9, .inl (cI, 301, .inl (fun _ => 0))), (q58_9, .inl (cI, 301, .inl (fun _ => 0))), (q67_9, .inl (cJ, 301, .inr (.inl (fun _ => 0)))), (q75_9, .inl (cJ, 40, .inr (.inl (fun _ => 0)))), (q83_9, .inl (cI, 40, .inl (fun _ => 0))), (q91_9, .inl (cI, 40, .inl (fun _ => 0))), (q99_9, .inl (cI, 40, .inl (fun _ => 0))), (q107_9, .inl (cJ, 40, .inr (.inl (fun _ => 0)))), (q115_9, .inl (cI, 40, .inl (fun _ => 0))), (q123_9, .inl (cI, 40, .inl (fun _ => 0))), (q24, .inl (cI, 501, .inl (fun _ => 0))), (q33, .inl (cI, 501, .inl (fun _ => 0))), (q42, .inl (cI, 501, .inl (fun _ => 0)))] H := hP
  have hD : va_D A [(h0, .inr (10, [.null, .null, .null, .ref q5, .int 4, .int 0, .ref q24, .ref q33, .ref q42, .null, .null, .null, .null, .null, .null, .int 0, .null, .long 0, .int 0, .int 0, .int 0])), (q5, .inr (8, [.int 0, .int 0, .int (-1), .ref q13_9, .ref q22_9, .ref q31_9, .ref q40_9, .ref q49_9, .ref q58_9, .ref q67_9, .int 0, .ref q75_9, .ref q83_9, .ref q91_9, .ref q99_9, .ref q107_9, .ref q115_9, .ref q123_9])), (q13_9, .inl (cI, 301, .inl (fun _ => 0))), (q22_9, .inl (cI, 301, .inl (fun _ => 0))), (q31_9, .inl (cI, 301, .inl (fun _ => 0))), (q40_9, .inl (cI, 301, .inl (fun _ => 0))), (q49_9, .inl (cI, 301, .inl (fun _ => 0))), (q58_9, .inl (cI, 301, .inl (fun _ => 0))), (q67_9, .inl (cJ, 301, .inr (.inl (fun _ => 0)))), (q75_9, .inl (cJ, 40, .inr (.inl (fun _ => 0)))), (q83_9, .inl (cI, 40, .inl (fun _ => 0))), (q91_9, .inl (cI, 40, .inl (fun _ => 0))), (q99_9, .inl (cI, 40, .inl (fun _ => 0))), (q107_9, .inl (cJ, 40, .inr (.inl (fun _ => 0)))), (q115_9, .inl (cI, 40, .inl (fun _ => 0))), (q123_9, .inl (cI, 40, .inl (fun _ => 0))), (q24, .inl (cI, 501, .inl (fun _ => 0))), (q33, .inl (cI, 501, .inl (fun _ => 0))), (q42, .inl (cI, 501, .inl (fun _ => 0)))] := hD
  refine lv_aload_n hx hb d_Ru_init_47 rfl (lv_at hl 0 rfl) ?_
  refine lv_sipush (v := 501) hx hb d_Ru_init_48 (by decide) ?_
  refine ka_newa (atype := .int) (ty := .int) (N' := 501) (a0 := (501, .inl (fun _ => 0))) hx hb (hts _ (List.mem_cons_of_mem _ mw_53)) rfl hK.1 hP hD hS hA 0 rfl (fun _ => rfl) (by decide) (by decide) (by decide) (Nat.le_of_ble_eq_true rfl) (Nat.le_of_ble_eq_true rfl) d_Ru_init_51 (fun q51 H hP hD hS => ?_)
  refine W.widen (k := 19) (n := 4409) (Nat.le_refl _) (Nat.le_refl _) ?_
  refine va_putF (D := (dC, dI)) (ci := 10) (v := .ref q51) (ty := (.array .int)) (C := R_Ru) (T := F_Ru) (N := 21) hx hb hts (fun w h => List.mem_cons_of_mem _ (in_Ru w h)) t_Ru t_Ru_ok n_Ru hown hK.1 hP hD hS 0 rfl rfl 9 (by decide) (hts _ (List.mem_cons_of_mem _ mw_522)) (fun _ h9 => h9) rfl hin rfl (by decide +kernel) rfl rfl (Nat.le_of_ble_eq_true rfl) d_Ru_init_53 (fun H locs hP hD hS => ?_)
  have hP : va_P (dC, dI) classes [(h0, .inr (10, [.null, .null, .null, .ref q5, .int 4, .int 0, .ref q24, .ref q33, .ref q42, .ref q51, .null, .null, .null, .null, .null, .int 0, .null, .long 0, .int 0, .int 0, .int 0])), (q5, .inr (8, [.int 0, .int 0, .int (-1), .ref q13_9, .ref q22_9, .ref q31_9, .ref q40_9, .ref q49_9, .ref q58_9, .ref q67_9, .int 0, .ref q75_9, .ref q83_9, .ref q91_9, .ref q99_9, .ref q107_9, .ref q115_9, .ref q123_9])), (q13_9, .inl (cI, 301, .inl (fun _ => 0))), (q22_9, .inl (cI, 301, .inl (fun _ => 0))), (q31_9, .inl (cI, 301, .inl (fun _ => 0))), (q40_9, .inl (cI, 301, .inl (fun _ => 0))), (q49_9, .inl (cI, 301, .inl (fun _ => 0))), (q58_9, .inl (cI, 301, .inl (fun _ => 0))), (q67_9, .inl (cJ, 301, .inr (.inl (fun _ => 0)))), (q75_9, .inl (cJ, 40, .inr (.inl (fun _ => 0)))), (q83_9, .inl (cI, 40, .inl (fun _ => 0))), (q91_9, .inl (cI, 40, .inl (fun _ => 0))), (q99_9, .inl (cI, 40, .inl (fun _ => 0))), (q107_9, .inl (cJ, 40, .inr (.inl (fun _ => 0)))), (q115_9, .inl (cI, 40, .inl (fun _ => 0))), (q123_9, .inl (cI, 40, .inl (fun _ => 0))), (q24, .inl (cI, 501, .inl (fun _ => 0))), (q33, .inl (cI, 501, .inl (fun _ => 0))), (q42, .inl (cI, 501, .inl (fun _ => 0))), (q51, .inl (cI, 501, .inl (fun _ => 0)))] H := hP
  have hD : va_D A [(h0, .inr (10, [.null, .null, .null, .ref q5, .int 4, .int 0, .ref q24, .ref q33, .ref q42, .ref q51, .null, .null, .null, .null, .null, .int 0, .null, .long 0, .int 0, .int 0, .int 0])), (q5, .inr (8, [.int 0, .int 0, .int (-1), .ref q13_9, .ref q22_9, .ref q31_9, .ref q40_9, .ref q49_9, .ref q58_9, .ref q67_9, .int 0, .ref q75_9, .ref q83_9, .ref q91_9, .ref q99_9, .ref q107_9, .ref q115_9, .ref q123_9])), (q13_9, .inl (cI, 301, .inl (fun _ => 0))), (q22_9, .inl (cI, 301, .inl (fun _ => 0))), (q31_9, .inl (cI, 301, .inl (fun _ => 0))), (q40_9, .inl (cI, 301, .inl (fun _ => 0))), (q49_9, .inl (cI, 301, .inl (fun _ => 0))), (q58_9, .inl (cI, 301, .inl (fun _ => 0))), (q67_9, .inl (cJ, 301, .inr (.inl (fun _ => 0)))), (q75_9, .inl (cJ, 40, .inr (.inl (fun _ => 0)))), (q83_9, .inl (cI, 40, .inl (fun _ => 0))), (q91_9, .inl (cI, 40, .inl (fun _ => 0))), (q99_9, .inl (cI, 40, .inl (fun _ => 0))), (q107_9, .inl (cJ, 40, .inr (.inl (fun _ => 0)))), (q115_9, .inl (cI, 40, .inl (fun _ => 0))), (q123_9, .inl (cI, 40, .inl (fun _ => 0))), (q24, .inl (cI, 501, .inl (fun _ => 0))), (q33, .inl (cI, 501, .inl (fun _ => 0))), (q42, .inl (cI, 501, .inl (fun _ => 0))), (q51, .inl (cI, 501, .inl (fun _ => 0)))] := hD
  refine lv_aload_n hx hb d_Ru_init_56 rfl (lv_at hl 0 rfl) ?_
  refine lv_sipush (v := 501) hx hb d_Ru_init_57 (by decide) ?_
  refine ka_newa (atype := .int) (ty := .int) (N' := 501) (a0 := (501, .inl (fun _ => 0))) hx hb (hts _ (List.mem_cons_of_mem _ mw_53)) rfl hK.1 hP hD hS hA 0 rfl (fun _ => rfl) (by decide) (by decide) (by decide) (Nat.le_of_ble_eq_true rfl) (Nat.le_of_ble_eq_true rfl) d_Ru_init_60 (fun q60 H hP hD hS => ?_)
  refine W.widen (k := 20) (n := 4910) (Nat.le_refl _) (Nat.le_refl _) ?_
  refine va_putF (D := (dC, dI)) (ci := 10) (v := .ref q60) (ty := (.array .int)) (C := R_Ru) (T := F_Ru) (N := 21) hx hb hts (fun w h => List.mem_cons_of_mem _ (in_Ru w h)) t_Ru t_Ru_ok n_Ru hown hK.1 hP hD hS 0 rfl rfl 10 (by decide) (hts _ (List.mem_cons_of_mem _ mw_523)) (fun _ h9 => h9) rfl hin rfl (by decide +kernel) rfl rfl (Nat.le_of_ble_eq_true rfl) d_Ru_init_62 (fun H locs hP hD hS => ?_)
  have hP : va_P (dC, dI) classes [(h0, .inr (10, [.null, .null, .null, .ref q5, .int 4, .int 0, .ref q24, .ref q33, .ref q42, .ref q51, .ref q60, .null, .null, .null, .null, .int 0, .null, .long 0, .int 0, .int 0, .int 0])), (q5, .inr (8, [.int 0, .int 0, .int (-1), .ref q13_9, .ref q22_9, .ref q31_9, .ref q40_9, .ref q49_9, .ref q58_9, .ref q67_9, .int 0, .ref q75_9, .ref q83_9, .ref q91_9, .ref q99_9, .ref q107_9, .ref q115_9, .ref q123_9])), (q13_9, .inl (cI, 301, .inl (fun _ => 0))), (q22_9, .inl (cI, 301, .inl (fun _ => 0))), (q31_9, .inl (cI, 301, .inl (fun _ => 0))), (q40_9, .inl (cI, 301, .inl (fun _ => 0))), (q49_9, .inl (cI, 301, .inl (fun _ => 0))), (q58_9, .inl (cI, 301, .inl (fun _ => 0))), (q67_9, .inl (cJ, 301, .inr (.inl (fun _ => 0)))), (q75_9, .inl (cJ, 40, .inr (.inl (fun _ => 0)))), (q83_9, .inl (cI, 40, .inl (fun _ => 0))), (q91_9, .inl (cI, 40, .inl (fun _ => 0))), (q99_9, .inl (cI, 40, .inl (fun _ => 0))), (q107_9, .inl (cJ, 40, .inr (.inl (fun _ => 0)))), (q115_9, .inl (cI, 40, .inl (fun _ => 0))), (q123_9, .inl (cI, 40, .inl (fun _ => 0))), (q24, .inl (cI, 501, .inl (fun _ => 0))), (q33, .inl (cI, 501, .inl (fun _ => 0))), (q42, .inl (cI, 501, .inl (fun _ => 0))), (q51, .inl (cI, 501, .inl (fun _ => 0))), (q60, .inl (cI, 501, .inl (fun _ => 0)))] H := hP
  have hD : va_D A [(h0, .inr (10, [.null, .null, .null, .ref q5, .int 4, .int 0, .ref q24, .ref q33, .ref q42, .ref q51, .ref q60, .null, .null, .null, .null, .int 0, .null, .long 0, .int 0, .int 0, .int 0])), (q5, .inr (8, [.int 0, .int 0, .int (-1), .ref q13_9, .ref q22_9, .ref q31_9, .ref q40_9, .ref q49_9, .ref q58_9, .ref q67_9, .int 0, .ref q75_9, .ref q83_9, .ref q91_9, .ref q99_9, .ref q107_9, .ref q115_9, .ref q123_9])), (q13_9, .inl (cI, 301, .inl (fun _ => 0))), (q22_9, .inl (cI, 301, .inl (fun _ => 0))), (q31_9, .inl (cI, 301, .inl (fun _ => 0))), (q40_9, .inl (cI, 301, .inl (fun _ => 0))), (q49_9, .inl (cI, 301, .inl (fun _ => 0))), (q58_9, .inl (cI, 301, .inl (fun _ => 0))), (q67_9, .inl (cJ, 301, .inr (.inl (fun _ => 0)))), (q75_9, .inl (cJ, 40, .inr (.inl (fun _ => 0)))), (q83_9, .inl (cI, 40, .inl (fun _ => 0))), (q91_9, .inl (cI, 40, .inl (fun _ => 0))), (q99_9, .inl (cI, 40, .inl (fun _ => 0))), (q107_9, .inl (cJ, 40, .inr (.inl (fun _ => 0)))), (q115_9, .inl (cI, 40, .inl (fun _ => 0))), (q123_9, .inl (cI, 40, .inl (fun _ => 0))), (q24, .inl (cI, 501, .inl (fun _ => 0))), (q33, .inl (cI, 501, .inl (fun _ => 0))), (q42, .inl (cI, 501, .inl (fun _ => 0))), (q51, .inl (cI, 501, .inl (fun _ => 0))), (q60, .inl (cI, 501, .inl (fun _ => 0)))] := hD
  refine lv_aload_n hx hb d_Ru_init_65 rfl (lv_at hl 0 rfl) ?_
  refine lv_sipush (v := 501) hx hb d_Ru_init_66 (by decide) ?_
  refine ka_newa (atype := .long) (ty := .long) (N' := 501) (a0 := (501, .inr (.inl (fun _ => 0)))) hx hb (hts _ (List.mem_cons_of_mem _ mw_208)) rfl hK.1 hP hD hS hA 3 rfl (fun _ => rfl) (by decide) (by decide) (by decide) (Nat.le_of_ble_eq_true rfl) (Nat.le_of_ble_eq_true rfl) d_Ru_init_69 (fun q69 H hP hD hS => ?_)
  refine W.widen (k := 21) (n := 5411) (Nat.le_refl _) (Nat.le_refl _) ?_
  refine va_putF (D := (dC, dI)) (ci := 10) (v := .ref q69) (ty := (.array .long)) (C := R_Ru) (T := F_Ru) (N := 21) hx hb hts (fun w h => List.mem_cons_of_mem _ (in_Ru w h)) t_Ru t_Ru_ok n_Ru hown hK.1 hP hD hS 0 rfl rfl 11 (by decide) (hts _ (List.mem_cons_of_mem _ mw_524)) (fun _ h9 => h9) rfl hin rfl (by decide +kernel) rfl rfl (Nat.le_of_ble_eq_true rfl) d_Ru_init_71 (fun H locs hP hD hS => ?_)
  have hP : va_P (dC, dI) classes [(h0, .inr (10, [.null, .null, .null, .ref q5, .int 4, .int 0, .ref q24, .ref q33, .ref q42, .ref q51, .ref q60, .ref q69, .null, .null, .null, .int 0, .null, .long 0, .int 0, .int 0, .int 0])), (q5, .inr (8, [.int 0, .int 0, .int (-1), .ref q13_9, .ref q22_9, .ref q31_9, .ref q40_9, .ref q49_9, .ref q58_9, .ref q67_9, .int 0, .ref q75_9, .ref q83_9, .ref q91_9, .ref q99_9, .ref q107_9, .ref q115_9, .ref q123_9])), (q13_9, .inl (cI, 301, .inl (fun _ => 0))), (q22_9, .inl (cI, 301, .inl (fun _ => 0))), (q31_9, .inl (cI, 301, .inl (fun _ => 0))), (q40_9, .inl (cI, 301, .inl (fun _ => 0))), (q49_9, .inl (cI, 301, .inl (fun _ => 0))), (q58_9, .inl (cI, 301, .inl (fun _ => 0))), (q67_9, .inl (cJ, 301, .inr (.inl (fun _ => 0)))), (q75_9, .inl (cJ, 40, .inr (.inl (fun _ => 0)))), (q83_9, .inl (cI, 40, .inl (fun _ => 0))), (q91_9, .inl (cI, 40, .inl (fun _ => 0))), (q99_9, .inl (cI, 40, .inl (fun _ => 0))), (q107_9, .inl (cJ, 40, .inr (.inl (fun _ => 0)))), (q115_9, .inl (cI, 40, .inl (fun _ => 0))), (q123_9, .inl (cI, 40, .inl (fun _ => 0))), (q24, .inl (cI, 501, .inl (fun _ => 0))), (q33, .inl (cI, 501, .inl (fun _ => 0))), (q42, .inl (cI, 501, .inl (fun _ => 0))), (q51, .inl (cI, 501, .inl (fun _ => 0))), (q60, .inl (cI, 501, .inl (fun _ => 0))), (q69, .inl (cJ, 501, .inr (.inl (fun _ => 0))))] H := hP
  have hD : va_D A [(h0, .inr (10, [.null, .null, .null, .ref q5, .int 4, .int 0, .ref q24, .ref q33, .ref q42, .ref q51, .ref q60, .ref q69, .null, .null, .null, .int 0, .null, .long 0, .int 0, .int 0, .int 0])), (q5, .inr (8, [.int 0, .int 0, .int (-1), .ref q13_9, .ref q22_9, .ref q31_9, .ref q40_9, .ref q49_9, .ref q58_9, .ref q67_9, .int 0, .ref q75_9, .ref q83_9, .ref q91_9, .ref q99_9, .ref q107_9, .ref q115_9, .ref q123_9])), (q13_9, .inl (cI, 301, .inl (fun _ => 0))), (q22_9, .inl (cI, 301, .inl (fun _ => 0))), (q31_9, .inl (cI, 301, .inl (fun _ => 0))), (q40_9, .inl (cI, 301, .inl (fun _ => 0))), (q49_9, .inl (cI, 301, .inl (fun _ => 0))), (q58_9, .inl (cI, 301, .inl (fun _ => 0))), (q67_9, .inl (cJ, 301, .inr (.inl (fun _ => 0)))), (q75_9, .inl (cJ, 40, .inr (.inl (fun _ => 0)))), (q83_9, .inl (cI, 40, .inl (fun _ => 0))), (q91_9, .inl (cI, 40, .inl (fun _ => 0))), (q99_9, .inl (cI, 40, .inl (fun _ => 0))), (q107_9, .inl (cJ, 40, .inr (.inl (fun _ => 0)))), (q115_9, .inl (cI, 40, .inl (fun _ => 0))), (q123_9, .inl (cI, 40, .inl (fun _ => 0))), (q24, .inl (cI, 501, .inl (fun _ => 0))), (q33, .inl (cI, 501, .inl (fun _ => 0))), (q42, .inl (cI, 501, .inl (fun _ => 0))), (q51, .inl (cI, 501, .inl (fun _ => 0))), (q60, .inl (cI, 501, .inl (fun _ => 0))), (q69, .inl (cJ, 501, .inr (.inl (fun _ => 0))))] := hD
  refine lv_aload_n hx hb d_Ru_init_74 rfl (lv_at hl 0 rfl) ?_
  refine lv_sipush (v := 501) hx hb d_Ru_init_75 (by decide) ?_
  refine ka_newa (atype := .long) (ty := .long) (N' := 501) (a0 := (501, .inr (.inl (fun _ => 0)))) hx hb (hts _ (List.mem_cons_of_mem _ mw_208)) rfl hK.1 hP hD hS hA 3 rfl (fun _ => rfl) (by decide) (by decide) (by decide) (Nat.le_of_ble_eq_true rfl) (Nat.le_of_ble_eq_true rfl) d_Ru_init_78 (fun q78 H hP hD hS => ?_)
  refine W.widen (k := 22) (n := 5912) (Nat.le_refl _) (Nat.le_refl _) ?_
  refine va_putF (D := (dC, dI)) (ci := 10) (v := .ref q78) (ty := (.array .long)) (C := R_Ru) (T := F_Ru) (N := 21) hx hb hts (fun w h => List.mem_cons_of_mem _ (in_Ru w h)) t_Ru t_Ru_ok n_Ru hown hK.1 hP hD hS 0 rfl rfl 12 (by decide) (hts _ (List.mem_cons_of_mem _ mw_525)) (fun _ h9 => h9) rfl hin rfl (by decide +kernel) rfl rfl (Nat.le_of_ble_eq_true rfl) d_Ru_init_80 (fun H locs hP hD hS => ?_)
  have hP : va_P (dC, dI) classes [(h0, .inr (10, [.null, .null, .null, .ref q5, .int 4, .int 0, .ref q24, .ref q33, .ref q42, .ref q51, .ref q60, .ref q69, .ref q78, .null, .null, .int 0, .null, .long 0, .int 0, .int 0, .int 0])), (q5, .inr (8, [.int 0, .int 0, .int (-1), .ref q13_9, .ref q22_9, .ref q31_9, .ref q40_9, .ref q49_9, .ref q58_9, .ref q67_9, .int 0, .ref q75_9, .ref q83_9, .ref q91_9, .ref q99_9, .ref q107_9, .ref q115_9, .ref q123_9])), (q13_9, .inl (cI, 301, .inl (fun _ => 0))), (q22_9, .inl (cI, 301, .inl (fun _ => 0))), (q31_9, .inl (cI, 301, .inl (fun _ => 0))), (q40_9, .inl (cI, 301, .inl (fun _ => 0))), (q49_9, .inl (cI, 301, .inl (fun _ => 0))), (q58_9, .inl (cI, 301, .inl (fun _ => 0))), (q67_9, .inl (cJ, 301, .inr (.inl (fun _ => 0)))), (q75_9, .inl (cJ, 40, .inr (.inl (fun _ => 0)))), (q83_9, .inl (cI, 40, .inl (fun _ => 0))), (q91_9, .inl (cI, 40, .inl (fun _ => 0))), (q99_9, .inl (cI, 40, .inl (fun _ => 0))), (q107_9, .inl (cJ, 40, .inr (.inl (fun _ => 0)))), (q115_9, .inl (cI, 40, .inl (fun _ => 0))), (q123_9, .inl (cI, 40, .inl (fun _ => 0))), (q24, .inl (cI, 501, .inl (fun _ => 0))), (q33, .inl (cI, 501, .inl (fun _ => 0))), (q42, .inl (cI, 501, .inl (fun _ => 0))), (q51, .inl (cI, 501, .inl (fun _ => 0))), (q60, .inl (cI, 501, .inl (fun _ => 0))), (q69, .inl (cJ, 501, .inr (.inl (fun _ => 0)))), (q78, .inl (cJ, 501, .inr (.inl (fun _ => 0))))] H := hP
  have hD : va_D A [(h0, .inr (10, [.null, .null, .null, .ref q5, .int 4, .int 0, .ref q24, .ref q33, .ref q42, .ref q51, .ref q60, .ref q69, .ref q78, .null, .null, .int 0, .null, .long 0, .int 0, .int 0, .int 0])), (q5, .inr (8, [.int 0, .int 0, .int (-1), .ref q13_9, .ref q22_9, .ref q31_9, .ref q40_9, .ref q49_9, .ref q58_9, .ref q67_9, .int 0, .ref q75_9, .ref q83_9, .ref q91_9, .ref q99_9, .ref q107_9, .ref q115_9, .ref q123_9])), (q13_9, .inl (cI, 301, .inl (fun _ => 0))), (q22_9, .inl (cI, 301, .inl (fun _ => 0))), (q31_9, .inl (cI, 301, .inl (fun _ => 0))), (q40_9, .inl (cI, 301, .inl (fun _ => 0))), (q49_9, .inl (cI, 301, .inl (fun _ => 0))), (q58_9, .inl (cI, 301, .inl (fun _ => 0))), (q67_9, .inl (cJ, 301, .inr (.inl (fun _ => 0)))), (q75_9, .inl (cJ, 40, .inr (.inl (fun _ => 0)))), (q83_9, .inl (cI, 40, .inl (fun _ => 0))), (q91_9, .inl (cI, 40, .inl (fun _ => 0))), (q99_9, .inl (cI, 40, .inl (fun _ => 0))), (q107_9, .inl (cJ, 40, .inr (.inl (fun _ => 0)))), (q115_9, .inl (cI, 40, .inl (fun _ => 0))), (q123_9, .inl (cI, 40, .inl (fun _ => 0))), (q24, .inl (cI, 501, .inl (fun _ => 0))), (q33, .inl (cI, 501, .inl (fun _ => 0))), (q42, .inl (cI, 501, .inl (fun _ => 0))), (q51, .inl (cI, 501, .inl (fun _ => 0))), (q60, .inl (cI, 501, .inl (fun _ => 0))), (q69, .inl (cJ, 501, .inr (.inl (fun _ => 0)))), (q78, .inl (cJ, 501, .inr (.inl (fun _ => 0))))] := hD
  refine lv_aload_n hx hb d_Ru_init_83 rfl (lv_at hl 0 rfl) ?_
  refine lv_sipush (v := 501) hx hb d_Ru_init_84 (by decide) ?_
  refine ka_newa (atype := .long) (ty := .long) (N' := 501) (a0 := (501, .inr (.inl (fun _ => 0)))) hx hb (hts _ (List.mem_cons_of_mem _ mw_208)) rfl hK.1 hP hD hS hA 3 rfl (fun _ => rfl) (by decide) (by decide) (by decide) (Nat.le_of_ble_eq_true rfl) (Nat.le_of_ble_eq_true rfl) d_Ru_init_87 (fun q87 H hP hD hS => ?_)
  refine W.widen (k := 23) (n := 6413) (Nat.le_refl _) (Nat.le_refl _) ?_
  refine va_putF (D := (dC, dI)) (ci := 10) (v := .ref q87) (ty := (.array .long)) (C := R_Ru) (T := F_Ru) (N := 21) hx hb hts (fun w h => List.mem_cons_of_mem _ (in_Ru w h)) t_Ru t_Ru_ok n_Ru hown hK.1 hP hD hS 0 rfl rfl 13 (by decide) (hts _ (List.mem_cons_of_mem _ mw_526)) (fun _ h9 => h9) rfl hin rfl (by decide +kernel) rfl rfl (Nat.le_of_ble_eq_true rfl) d_Ru_init_89 (fun H locs hP hD hS => ?_)
  have hP : va_P (dC, dI) classes [(h0, .inr (10, [.null, .null, .null, .ref q5, .int 4, .int 0, .ref q24, .ref q33, .ref q42, .ref q51, .ref q60, .ref q69, .ref q78, .ref q87, .null, .int 0, .null, .long 0, .int 0, .int 0, .int 0])), (q5, .inr (8, [.int 0, .int 0, .int (-1), .ref q13_9, .ref q22_9, .ref q31_9, .ref q40_9, .ref q49_9, .ref q58_9, .ref q67_9, .int 0, .ref q75_9, .ref q83_9, .ref q91_9, .ref q99_9, .ref q107_9, .ref q115_9, .ref q123_9])), (q13_9, .inl (cI, 301, .inl (fun _ => 0))), (q22_9, .inl (cI, 301, .inl (fun _ => 0))), (q31_9, .inl (cI, 301, .inl (fun _ => 0))), (q40_9, .inl (cI, 301, .inl (fun _ => 0))), (q49_9, .inl (cI, 301, .inl (fun _ => 0))), (q58_9, .inl (cI, 301, .inl (fun _ => 0))), (q67_9, .inl (cJ, 301, .inr (.inl (fun _ => 0)))), (q75_9, .inl (cJ, 40, .inr (.inl (fun _ => 0)))), (q83_9, .inl (cI, 40, .inl (fun _ => 0))), (q91_9, .inl (cI, 40, .inl (fun _ => 0))), (q99_9, .inl (cI, 40, .inl (fun _ => 0))), (q107_9, .inl (cJ, 40, .inr (.inl (fun _ => 0)))), (q115_9, .inl (cI, 40, .inl (fun _ => 0))), (q123_9, .inl (cI, 40, .inl (fun _ => 0))), (q24, .inl (cI, 501, .inl (fun _ => 0))), (q33, .inl (cI, 501, .inl (fun _ => 0))), (q42, .inl (cI, 501, .inl (fun _ => 0))), (q51, .inl (cI, 501, .inl (fun _ => 0))), (q60, .inl (cI, 501, .inl (fun _ => 0))), (q69, .inl (cJ, 501, .inr (.inl (fun _ => 0)))), (q78, .inl (cJ, 501, .inr (.inl (fun _ => 0)))), (q87, .inl (cJ, 501, .inr (.inl (fun _ => 0))))] H := hP
  have hD : va_D A [(h0, .inr (10, [.null, .null, .null, .ref q5, .int 4, .int 0, .ref q24, .ref q33, .ref q42, .ref q51, .ref q60, .ref q69, .ref q78, .ref q87, .null, .int 0, .null, .long 0, .int 0, .int 0, .int 0])), (q5, .inr (8, [.int 0, .int 0, .int (-1), .ref q13_9, .ref q22_9, .ref q31_9, .ref q40_9, .ref q49_9, .ref q58_9, .ref q67_9, .int 0, .ref q75_9, .ref q83_9, .ref q91_9, .ref q99_9, .ref q107_9, .ref q115_9, .ref q123_9])), (q13_9, .inl (cI, 301, .inl (fun _ => 0))), (q22_9, .inl (cI, 301, .inl (fun _ => 0))), (q31_9, .inl (cI, 301, .inl (fun _ => 0))), (q40_9, .inl (cI, 301, .inl (fun _ => 0))), (q49_9, .inl (cI, 301, .inl (fun _ => 0))), (q58_9, .inl (cI, 301, .inl (fun _ => 0))), (q67_9, .inl (cJ, 301, .inr (.inl (fun _ => 0)))), (q75_9, .inl (cJ, 40, .inr (.inl (fun _ => 0)))), (q83_9, .inl (cI, 40, .inl (fun _ => 0))), (q91_9, .inl (cI, 40, .inl (fun _ => 0))), (q99_9, .inl (cI, 40, .inl (fun _ => 0))), (q107_9, .inl (cJ, 40, .inr (.inl (fun _ => 0)))), (q115_9, .inl (cI, 40, .inl (fun _ => 0))), (q123_9, .inl (cI, 40, .inl (fun _ => 0))), (q24, .inl (cI, 501, .inl (fun _ => 0))), (q33, .inl (cI, 501, .inl (fun _ => 0))), (q42, .inl (cI, 501, .inl (fun _ => 0))), (q51, .inl (cI, 501, .inl (fun _ => 0))), (q60, .inl (cI, 501, .inl (fun _ => 0))), (q69, .inl (cJ, 501, .inr (.inl (fun _ => 0)))), (q78, .inl (cJ, 501, .inr (.inl (fun _ => 0)))), (q87, .inl (cJ, 501, .inr (.inl (fun _ => 0))))] := hD
  refine lv_aload_n hx hb d_Ru_init_92 rfl (lv_at hl 0 rfl) ?_
  refine lv_sipush (v := 501) hx hb d_Ru_init_93 (by decide) ?_
  refine ka_newa (atype := .long) (ty := .long) (N' := 501) (a0 := (501, .inr (.inl (fun _ => 0)))) hx hb (hts _ (List.mem_cons_of_mem _ mw_208)) rfl hK.1 hP hD hS hA 3 rfl (fun _ => rfl) (by decide) (by decide) (by decide) (Nat.le_of_ble_eq_true rfl) (Nat.le_of_ble_eq_true rfl) d_Ru_init_96 (fun q96 H hP hD hS => ?_)
  refine W.widen (k := 24) (n := 6914) (Nat.le_refl _) (Nat.le_refl _) ?_
  refine va_putF (D := (dC, dI)) (ci := 10) (v := .ref q96) (ty := (.array .long)) (C := R_Ru) (T := F_Ru) (N := 21) hx hb hts (fun w h => List.mem_cons_of_mem _ (in_Ru w h)) t_Ru t_Ru_ok n_Ru hown hK.1 hP hD hS 0 rfl rfl 14 (by decide) (hts _ (List.mem_cons_of_mem _ mw_527)) (fun _ h9 => h9) rfl hin rfl (by decide +kernel) rfl rfl (Nat.le_of_ble_eq_true rfl) d_Ru_init_98 (fun H locs hP hD hS => ?_)
  have hP : va_P (dC, dI) classes [(h0, .inr (10, [.null, .null, .null, .ref q5, .int 4, .int 0, .ref q24, .ref q33, .ref q42, .ref q51, .ref q60, .ref q69, .ref q78, .ref q87, .ref q96, .int 0, .null, .long 0, .int 0, .int 0, .int 0])), (q5, .inr (8, [.int 0, .int 0, .int (-1), .ref q13_9, .ref q22_9, .ref q31_9, .ref q40_9, .ref q49_9, .ref q58_9, .ref q67_9, .int 0, .ref q75_9, .ref q83_9, .ref q91_9, .ref q99_9, .ref q107_9, .ref q115_9, .ref q123_9])), (q13_9, .inl (cI, 301, .inl (fun _ => 0))), (q22_9, .inl (cI, 301, .inl (fun _ => 0))), (q31_9, .inl (cI, 301, .inl (fun _ => 0))), (q40_9, .inl (cI, 301, .inl (fun _ => 0))), (q49_9, .inl (cI, 301, .inl (fun _ => 0))), (q58_9, .inl (cI, 301, .inl (fun _ => 0))), (q67_9, .inl (cJ, 301, .inr (.inl (fun _ => 0)))), (q75_9, .inl (cJ, 40, .inr (.inl (fun _ => 0)))), (q83_9, .inl (cI, 40, .inl (fun _ => 0))), (q91_9, .inl (cI, 40, .inl (fun _ => 0))), (q99_9, .inl (cI, 40, .inl (fun _ => 0))), (q107_9, .inl (cJ, 40, .inr (.inl (fun _ => 0)))), (q115_9, .inl (cI, 40, .inl (fun _ => 0))), (q123_9, .inl (cI, 40, .inl (fun _ => 0))), (q24, .inl (cI, 501, .inl (fun _ => 0))), (q33, .inl (cI, 501, .inl (fun _ => 0))), (q42, .inl (cI, 501, .inl (fun _ => 0))), (q51, .inl (cI, 501, .inl (fun _ => 0))), (q60, .inl (cI, 501, .inl (fun _ => 0))), (q69, .inl (cJ, 501, .inr (.inl (fun _ => 0)))), (q78, .inl (cJ, 501, .inr (.inl (fun _ => 0)))), (q87, .inl (cJ, 501, .inr (.inl (fun _ => 0)))), (q96, .inl (cJ, 501, .inr (.inl (fun _ => 0))))] H := hP
  have hD : va_D A [(h0, .inr (10, [.null, .null, .null, .ref q5, .int 4, .int 0, .ref q24, .ref q33, .ref q42, .ref q51, .ref q60, .ref q69, .ref q78, .ref q87, .ref q96, .int 0, .null, .long 0, .int 0, .int 0, .int 0])), (q5, .inr (8, [.int 0, .int 0, .int (-1), .ref q13_9, .ref q22_9, .ref q31_9, .ref q40_9, .ref q49_9, .ref q58_9, .ref q67_9, .int 0, .ref q75_9, .ref q83_9, .ref q91_9, .ref q99_9, .ref q107_9, .ref q115_9, .ref q123_9])), (q13_9, .inl (cI, 301, .inl (fun _ => 0))), (q22_9, .inl (cI, 301, .inl (fun _ => 0))), (q31_9, .inl (cI, 301, .inl (fun _ => 0))), (q40_9, .inl (cI, 301, .inl (fun _ => 0))), (q49_9, .inl (cI, 301, .inl (fun _ => 0))), (q58_9, .inl (cI, 301, .inl (fun _ => 0))), (q67_9, .inl (cJ, 301, .inr (.inl (fun _ => 0)))), (q75_9, .inl (cJ, 40, .inr (.inl (fun _ => 0)))), (q83_9, .inl (cI, 40, .inl (fun _ => 0))), (q91_9, .inl (cI, 40, .inl (fun _ => 0))), (q99_9, .inl (cI, 40, .inl (fun _ => 0))), (q107_9, .inl (cJ, 40, .inr (.inl (fun _ => 0)))), (q115_9, .inl (cI, 40, .inl (fun _ => 0))), (q123_9, .inl (cI, 40, .inl (fun _ => 0))), (q24, .inl (cI, 501, .inl (fun _ => 0))), (q33, .inl (cI, 501, .inl (fun _ => 0))), (q42, .inl (cI, 501, .inl (fun _ => 0))), (q51, .inl (cI, 501, .inl (fun _ => 0))), (q60, .inl (cI, 501, .inl (fun _ => 0))), (q69, .inl (cJ, 501, .inr (.inl (fun _ => 0)))), (q78, .inl (cJ, 501, .inr (.inl (fun _ => 0)))), (q87, .inl (cJ, 501, .inr (.inl (fun _ => 0)))), (q96, .inl (cJ, 501, .inr (.inl (fun _ => 0))))] := hD
  refine lv_aload_n hx hb d_Ru_init_101 rfl (lv_at hl 0 rfl) ?_
  refine lv_bipush (v := 64) hx hb d_Ru_init_102 (by decide) ?_
  refine ka_newa (atype := .long) (ty := .long) (N' := 64) (a0 := (64, .inr (.inl (fun _ => 0)))) hx hb (hts _ (List.mem_cons_of_mem _ mw_208)) rfl hK.1 hP hD hS hA 3 rfl (fun _ => rfl) (by decide) (by decide) (by decide) (Nat.le_of_ble_eq_true rfl) (Nat.le_of_ble_eq_true rfl) d_Ru_init_104 (fun q104 H hP hD hS => ?_)
  refine W.widen (k := 25) (n := 6978) (Nat.le_refl _) (Nat.le_refl _) ?_
  refine va_putF (D := (dC, dI)) (ci := 10) (v := .ref q104) (ty := (.array .long)) (C := R_Ru) (T := F_Ru) (N := 21) hx hb hts (fun w h => List.mem_cons_of_mem _ (in_Ru w h)) t_Ru t_Ru_ok n_Ru hown hK.1 hP hD hS 0 rfl rfl 16 (by decide) (hts _ (List.mem_cons_of_mem _ mw_529)) (fun _ h9 => h9) rfl hin rfl (by decide +kernel) rfl rfl (Nat.le_of_ble_eq_true rfl) d_Ru_init_106 (fun H locs hP hD hS => ?_)
  have hP : va_P (dC, dI) classes [(h0, .inr (10, [.null, .null, .null, .ref q5, .int 4, .int 0, .ref q24, .ref q33, .ref q42, .ref q51, .ref q60, .ref q69, .ref q78, .ref q87, .ref q96, .int 0, .ref q104, .long 0, .int 0, .int 0, .int 0])), (q5, .inr (8, [.int 0, .int 0, .int (-1), .ref q13_9, .ref q22_9, .ref q31_9, .ref q40_9, .ref q49_9, .ref q58_9, .ref q67_9, .int 0, .ref q75_9, .ref q83_9, .ref q91_9, .ref q99_9, .ref q107_9, .ref q115_9, .ref q123_9])), (q13_9, .inl (cI, 301, .inl (fun _ => 0))), (q22_9, .inl (cI, 301, .inl (fun _ => 0))), (q31_9, .inl (cI, 301, .inl (fun _ => 0))), (q40_9, .inl (cI, 301, .inl (fun _ => 0))), (q49_9, .inl (cI, 301, .inl (fun _ => 0))), (q58_9, .inl (cI, 301, .inl (fun _ => 0))), (q67_9, .inl (cJ, 301, .inr (.inl (fun _ => 0)))), (q75_9, .inl (cJ, 40, .inr (.inl (fun _ => 0)))), (q83_9, .inl (cI, 40, .inl (fun _ => 0))), (q91_9, .inl (cI, 40, .inl (fun _ => 0))), (q99_9, .inl (cI, 40, .inl (fun _ => 0))), (q107_9, .inl (cJ, 40, .inr (.inl (fun _ => 0)))), (q115_9, .inl (cI, 40, .inl (fun _ => 0))), (q123_9, .inl (cI, 40, .inl (fun _ => 0))), (q24, .inl (cI, 501, .inl (fun _ => 0))), (q33, .inl (cI, 501, .inl (fun _ => 0))), (q42, .inl (cI, 501, .inl (fun _ => 0))), (q51, .inl (cI, 501, .inl (fun _ => 0))), (q60, .inl (cI, 501, .inl (fun _ => 0))), (q69, .inl (cJ, 501, .inr (.inl (fun _ => 0)))), (q78, .inl (cJ, 501, .inr (.inl (fun _ => 0)))), (q87, .inl (cJ, 501, .inr (.inl (fun _ => 0)))), (q96, .inl (cJ, 501, .inr (.inl (fun _ => 0)))), (q104, .inl (cJ, 64, .inr (.inl (fun _ => 0))))] H := hP
  have hD : va_D A [(h0, .inr (10, [.null, .null, .null, .ref q5, .int 4, .int 0, .ref q24, .ref q33, .ref q42, .ref q51, .ref q60, .ref q69, .ref q78, .ref q87, .ref q96, .int 0, .ref q104, .long 0, .int 0, .int 0, .int 0])), (q5, .inr (8, [.int 0, .int 0, .int (-1), .ref q13_9, .ref q22_9, .ref q31_9, .ref q40_9, .ref q49_9, .ref q58_9, .ref q67_9, .int 0, .ref q75_9, .ref q83_9, .ref q91_9, .ref q99_9, .ref q107_9, .ref q115_9, .ref q123_9])), (q13_9, .inl (cI, 301, .inl (fun _ => 0))), (q22_9, .inl (cI, 301, .inl (fun _ => 0))), (q31_9, .inl (cI, 301, .inl (fun _ => 0))), (q40_9, .inl (cI, 301, .inl (fun _ => 0))), (q49_9, .inl (cI, 301, .inl (fun _ => 0))), (q58_9, .inl (cI, 301, .inl (fun _ => 0))), (q67_9, .inl (cJ, 301, .inr (.inl (fun _ => 0)))), (q75_9, .inl (cJ, 40, .inr (.inl (fun _ => 0)))), (q83_9, .inl (cI, 40, .inl (fun _ => 0))), (q91_9, .inl (cI, 40, .inl (fun _ => 0))), (q99_9, .inl (cI, 40, .inl (fun _ => 0))), (q107_9, .inl (cJ, 40, .inr (.inl (fun _ => 0)))), (q115_9, .inl (cI, 40, .inl (fun _ => 0))), (q123_9, .inl (cI, 40, .inl (fun _ => 0))), (q24, .inl (cI, 501, .inl (fun _ => 0))), (q33, .inl (cI, 501, .inl (fun _ => 0))), (q42, .inl (cI, 501, .inl (fun _ => 0))), (q51, .inl (cI, 501, .inl (fun _ => 0))), (q60, .inl (cI, 501, .inl (fun _ => 0))), (q69, .inl (cJ, 501, .inr (.inl (fun _ => 0)))), (q78, .inl (cJ, 501, .inr (.inl (fun _ => 0)))), (q87, .inl (cJ, 501, .inr (.inl (fun _ => 0)))), (q96, .inl (cJ, 501, .inr (.inl (fun _ => 0)))), (q104, .inl (cJ, 64, .inr (.inl (fun _ => 0))))] := hD
  refine lv_aload_n hx hb d_Ru_init_109 rfl (lv_at hl 0 rfl) ?_
  refine lv_aload_n hx hb d_Ru_init_110 rfl (lv_at hl 1 rfl) ?_
  refine va_putF (D := (dC, dI)) (ci := 10) (v := .ref r1) (ty := (.object "BreweryHouse$Acts")) (C := R_Ru) (T := F_Ru) (N := 21) hx hb hts (fun w h => List.mem_cons_of_mem _ (in_Ru w h)) t_Ru t_Ru_ok n_Ru hown hK.1 hP hD hS 0 rfl rfl 0 (by decide) (hts _ (List.mem_cons_of_mem _ mw_511)) (fun _ h9 => h9) rfl hin rfl (by decide +kernel) rfl rfl (Nat.le_of_ble_eq_true rfl) d_Ru_init_111 (fun H locs hP hD hS => ?_)
  have hP : va_P (dC, dI) classes [(h0, .inr (10, [.ref r1, .null, .null, .ref q5, .int 4, .int 0, .ref q24, .ref q33, .ref q42, .ref q51, .ref q60, .ref q69, .ref q78, .ref q87, .ref q96, .int 0, .ref q104, .long 0, .int 0, .int 0, .int 0])), (q5, .inr (8, [.int 0, .int 0, .int (-1), .ref q13_9, .ref q22_9, .ref q31_9, .ref q40_9, .ref q49_9, .ref q58_9, .ref q67_9, .int 0, .ref q75_9, .ref q83_9, .ref q91_9, .ref q99_9, .ref q107_9, .ref q115_9, .ref q123_9])), (q13_9, .inl (cI, 301, .inl (fun _ => 0))), (q22_9, .inl (cI, 301, .inl (fun _ => 0))), (q31_9, .inl (cI, 301, .inl (fun _ => 0))), (q40_9, .inl (cI, 301, .inl (fun _ => 0))), (q49_9, .inl (cI, 301, .inl (fun _ => 0))), (q58_9, .inl (cI, 301, .inl (fun _ => 0))), (q67_9, .inl (cJ, 301, .inr (.inl (fun _ => 0)))), (q75_9, .inl (cJ, 40, .inr (.inl (fun _ => 0)))), (q83_9, .inl (cI, 40, .inl (fun _ => 0))), (q91_9, .inl (cI, 40, .inl (fun _ => 0))), (q99_9, .inl (cI, 40, .inl (fun _ => 0))), (q107_9, .inl (cJ, 40, .inr (.inl (fun _ => 0)))), (q115_9, .inl (cI, 40, .inl (fun _ => 0))), (q123_9, .inl (cI, 40, .inl (fun _ => 0))), (q24, .inl (cI, 501, .inl (fun _ => 0))), (q33, .inl (cI, 501, .inl (fun _ => 0))), (q42, .inl (cI, 501, .inl (fun _ => 0))), (q51, .inl (cI, 501, .inl (fun _ => 0))), (q60, .inl (cI, 501, .inl (fun _ => 0))), (q69, .inl (cJ, 501, .inr (.inl (fun _ => 0)))), (q78, .inl (cJ, 501, .inr (.inl (fun _ => 0)))), (q87, .inl (cJ, 501, .inr (.inl (fun _ => 0)))), (q96, .inl (cJ, 501, .inr (.inl (fun _ => 0)))), (q104, .inl (cJ, 64, .inr (.inl (fun _ => 0))))] H := hP
  have hD : va_D A [(h0, .inr (10, [.ref r1, .null, .null, .ref q5, .int 4, .int 0, .ref q24, .ref q33, .ref q42, .ref q51, .ref q60, .ref q69, .ref q78, .ref q87, .ref q96, .int 0, .ref q104, .long 0, .int 0, .int 0, .int 0])), (q5, .inr (8, [.int 0, .int 0, .int (-1), .ref q13_9, .ref q22_9, .ref q31_9, .ref q40_9, .ref q49_9, .ref q58_9, .ref q67_9, .int 0, .ref q75_9, .ref q83_9, .ref q91_9, .ref q99_9, .ref q107_9, .ref q115_9, .ref q123_9])), (q13_9, .inl (cI, 301, .inl (fun _ => 0))), (q22_9, .inl (cI, 301, .inl (fun _ => 0))), (q31_9, .inl (cI, 301, .inl (fun _ => 0))), (q40_9, .inl (cI, 301, .inl (fun _ => 0))), (q49_9, .inl (cI, 301, .inl (fun _ => 0))), (q58_9, .inl (cI, 301, .inl (fun _ => 0))), (q67_9, .inl (cJ, 301, .inr (.inl (fun _ => 0)))), (q75_9, .inl (cJ, 40, .inr (.inl (fun _ => 0)))), (q83_9, .inl (cI, 40, .inl (fun _ => 0))), (q91_9, .inl (cI, 40, .inl (fun _ => 0))), (q99_9, .inl (cI, 40, .inl (fun _ => 0))), (q107_9, .inl (cJ, 40, .inr (.inl (fun _ => 0)))), (q115_9, .inl (cI, 40, .inl (fun _ => 0))), (q123_9, .inl (cI, 40, .inl (fun _ => 0))), (q24, .inl (cI, 501, .inl (fun _ => 0))), (q33, .inl (cI, 501, .inl (fun _ => 0))), (q42, .inl (cI, 501, .inl (fun _ => 0))), (q51, .inl (cI, 501, .inl (fun _ => 0))), (q60, .inl (cI, 501, .inl (fun _ => 0))), (q69, .inl (cJ, 501, .inr (.inl (fun _ => 0)))), (q78, .inl (cJ, 501, .inr (.inl (fun _ => 0)))), (q87, .inl (cJ, 501, .inr (.inl (fun _ => 0)))), (q96, .inl (cJ, 501, .inr (.inl (fun _ => 0)))), (q104, .inl (cJ, 64, .inr (.inl (fun _ => 0))))] := hD
  refine lv_aload_n hx hb d_Ru_init_114 rfl (lv_at hl 0 rfl) ?_
  refine lv_aload_n hx hb d_Ru_init_115 rfl (lv_at hl 2 rfl) ?_
  refine va_putF (D := (dC, dI)) (ci := 10) (v := .ref r2) (ty := (.object "BreweryHouse$Alarms")) (C := R_Ru) (T := F_Ru) (N := 21) hx hb hts (fun w h => List.mem_cons_of_mem _ (in_Ru w h)) t_Ru t_Ru_ok n_Ru hown hK.1 hP hD hS 0 rfl rfl 1 (by decide) (hts _ (List.mem_cons_of_mem _ mw_512)) (fun _ h9 => h9) rfl hin rfl (by decide +kernel) rfl rfl (Nat.le_of_ble_eq_true rfl) d_Ru_init_116 (fun H locs hP hD hS => ?_)
  have hP : va_P (dC, dI) classes [(h0, .inr (10, [.ref r1, .ref r2, .null, .ref q5, .int 4, .int 0, .ref q24, .ref q33, .ref q42, .ref q51, .ref q60, .ref q69, .ref q78, .ref q87, .ref q96, .int 0, .ref q104, .long 0, .int 0, .int 0, .int 0])), (q5, .inr (8, [.int 0, .int 0, .int (-1), .ref q13_9, .ref q22_9, .ref q31_9, .ref q40_9, .ref q49_9, .ref q58_9, .ref q67_9, .int 0, .ref q75_9, .ref q83_9, .ref q91_9, .ref q99_9, .ref q107_9, .ref q115_9, .ref q123_9])), (q13_9, .inl (cI, 301, .inl (fun _ => 0))), (q22_9, .inl (cI, 301, .inl (fun _ => 0))), (q31_9, .inl (cI, 301, .inl (fun _ => 0))), (q40_9, .inl (cI, 301, .inl (fun _ => 0))), (q49_9, .inl (cI, 301, .inl (fun _ => 0))), (q58_9, .inl (cI, 301, .inl (fun _ => 0))), (q67_9, .inl (cJ, 301, .inr (.inl (fun _ => 0)))), (q75_9, .inl (cJ, 40, .inr (.inl (fun _ => 0)))), (q83_9, .inl (cI, 40, .inl (fun _ => 0))), (q91_9, .inl (cI, 40, .inl (fun _ => 0))), (q99_9, .inl (cI, 40, .inl (fun _ => 0))), (q107_9, .inl (cJ, 40, .inr (.inl (fun _ => 0)))), (q115_9, .inl (cI, 40, .inl (fun _ => 0))), (q123_9, .inl (cI, 40, .inl (fun _ => 0))), (q24, .inl (cI, 501, .inl (fun _ => 0))), (q33, .inl (cI, 501, .inl (fun _ => 0))), (q42, .inl (cI, 501, .inl (fun _ => 0))), (q51, .inl (cI, 501, .inl (fun _ => 0))), (q60, .inl (cI, 501, .inl (fun _ => 0))), (q69, .inl (cJ, 501, .inr (.inl (fun _ => 0)))), (q78, .inl (cJ, 501, .inr (.inl (fun _ => 0)))), (q87, .inl (cJ, 501, .inr (.inl (fun _ => 0)))), (q96, .inl (cJ, 501, .inr (.inl (fun _ => 0)))), (q104, .inl (cJ, 64, .inr (.inl (fun _ => 0))))] H := hP
  have hD : va_D A [(h0, .inr (10, [.ref r1, .ref r2, .null, .ref q5, .int 4, .int 0, .ref q24, .ref q33, .ref q42, .ref q51, .ref q60, .ref q69, .ref q78, .ref q87, .ref q96, .int 0, .ref q104, .long 0, .int 0, .int 0, .int 0])), (q5, .inr (8, [.int 0, .int 0, .int (-1), .ref q13_9, .ref q22_9, .ref q31_9, .ref q40_9, .ref q49_9, .ref q58_9, .ref q67_9, .int 0, .ref q75_9, .ref q83_9, .ref q91_9, .ref q99_9, .ref q107_9, .ref q115_9, .ref q123_9])), (q13_9, .inl (cI, 301, .inl (fun _ => 0))), (q22_9, .inl (cI, 301, .inl (fun _ => 0))), (q31_9, .inl (cI, 301, .inl (fun _ => 0))), (q40_9, .inl (cI, 301, .inl (fun _ => 0))), (q49_9, .inl (cI, 301, .inl (fun _ => 0))), (q58_9, .inl (cI, 301, .inl (fun _ => 0))), (q67_9, .inl (cJ, 301, .inr (.inl (fun _ => 0)))), (q75_9, .inl (cJ, 40, .inr (.inl (fun _ => 0)))), (q83_9, .inl (cI, 40, .inl (fun _ => 0))), (q91_9, .inl (cI, 40, .inl (fun _ => 0))), (q99_9, .inl (cI, 40, .inl (fun _ => 0))), (q107_9, .inl (cJ, 40, .inr (.inl (fun _ => 0)))), (q115_9, .inl (cI, 40, .inl (fun _ => 0))), (q123_9, .inl (cI, 40, .inl (fun _ => 0))), (q24, .inl (cI, 501, .inl (fun _ => 0))), (q33, .inl (cI, 501, .inl (fun _ => 0))), (q42, .inl (cI, 501, .inl (fun _ => 0))), (q51, .inl (cI, 501, .inl (fun _ => 0))), (q60, .inl (cI, 501, .inl (fun _ => 0))), (q69, .inl (cJ, 501, .inr (.inl (fun _ => 0)))), (q78, .inl (cJ, 501, .inr (.inl (fun _ => 0)))), (q87, .inl (cJ, 501, .inr (.inl (fun _ => 0)))), (q96, .inl (cJ, 501, .inr (.inl (fun _ => 0)))), (q104, .inl (cJ, 64, .inr (.inl (fun _ => 0))))] := hD
  refine lv_aload_n hx hb d_Ru_init_119 rfl (lv_at hl 0 rfl) ?_
  refine lv_aload_n hx hb d_Ru_init_120 rfl (lv_at hl 3 rfl) ?_
  refine va_putF (D := (dC, dI)) (ci := 10) (v := .ref r3) (ty := (.object "BreweryHouse$Stock")) (C := R_Ru) (T := F_Ru) (N := 21) hx hb hts (fun w h => List.mem_cons_of_mem _ (in_Ru w h)) t_Ru t_Ru_ok n_Ru hown hK.1 hP hD hS 0 rfl rfl 2 (by decide) (hts _ (List.mem_cons_of_mem _ mw_513)) (fun _ h9 => h9) rfl hin rfl (by decide +kernel) rfl rfl (Nat.le_of_ble_eq_true rfl) d_Ru_init_121 (fun H locs hP hD hS => ?_)
  have hP : va_P (dC, dI) classes [(h0, .inr (10, [.ref r1, .ref r2, .ref r3, .ref q5, .int 4, .int 0, .ref q24, .ref q33, .ref q42, .ref q51, .ref q60, .ref q69, .ref q78, .ref q87, .ref q96, .int 0, .ref q104, .long 0, .int 0, .int 0, .int 0])), (q5, .inr (8, [.int 0, .int 0, .int (-1), .ref q13_9, .ref q22_9, .ref q31_9, .ref q40_9, .ref q49_9, .ref q58_9, .ref q67_9, .int 0, .ref q75_9, .ref q83_9, .ref q91_9, .ref q99_9, .ref q107_9, .ref q115_9, .ref q123_9])), (q13_9, .inl (cI, 301, .inl (fun _ => 0))), (q22_9, .inl (cI, 301, .inl (fun _ => 0))), (q31_9, .inl (cI, 301, .inl (fun _ => 0))), (q40_9, .inl (cI, 301, .inl (fun _ => 0))), (q49_9, .inl (cI, 301, .inl (fun _ => 0))), (q58_9, .inl (cI, 301, .inl (fun _ => 0))), (q67_9, .inl (cJ, 301, .inr (.inl (fun _ => 0)))), (q75_9, .inl (cJ, 40, .inr (.inl (fun _ => 0)))), (q83_9, .inl (cI, 40, .inl (fun _ => 0))), (q91_9, .inl (cI, 40, .inl (fun _ => 0))), (q99_9, .inl (cI, 40, .inl (fun _ => 0))), (q107_9, .inl (cJ, 40, .inr (.inl (fun _ => 0)))), (q115_9, .inl (cI, 40, .inl (fun _ => 0))), (q123_9, .inl (cI, 40, .inl (fun _ => 0))), (q24, .inl (cI, 501, .inl (fun _ => 0))), (q33, .inl (cI, 501, .inl (fun _ => 0))), (q42, .inl (cI, 501, .inl (fun _ => 0))), (q51, .inl (cI, 501, .inl (fun _ => 0))), (q60, .inl (cI, 501, .inl (fun _ => 0))), (q69, .inl (cJ, 501, .inr (.inl (fun _ => 0)))), (q78, .inl (cJ, 501, .inr (.inl (fun _ => 0)))), (q87, .inl (cJ, 501, .inr (.inl (fun _ => 0)))), (q96, .inl (cJ, 501, .inr (.inl (fun _ => 0)))), (q104, .inl (cJ, 64, .inr (.inl (fun _ => 0))))] H := hP
  have hD : va_D A [(h0, .inr (10, [.ref r1, .ref r2, .ref r3, .ref q5, .int 4, .int 0, .ref q24, .ref q33, .ref q42, .ref q51, .ref q60, .ref q69, .ref q78, .ref q87, .ref q96, .int 0, .ref q104, .long 0, .int 0, .int 0, .int 0])), (q5, .inr (8, [.int 0, .int 0, .int (-1), .ref q13_9, .ref q22_9, .ref q31_9, .ref q40_9, .ref q49_9, .ref q58_9, .ref q67_9, .int 0, .ref q75_9, .ref q83_9, .ref q91_9, .ref q99_9, .ref q107_9, .ref q115_9, .ref q123_9])), (q13_9, .inl (cI, 301, .inl (fun _ => 0))), (q22_9, .inl (cI, 301, .inl (fun _ => 0))), (q31_9, .inl (cI, 301, .inl (fun _ => 0))), (q40_9, .inl (cI, 301, .inl (fun _ => 0))), (q49_9, .inl (cI, 301, .inl (fun _ => 0))), (q58_9, .inl (cI, 301, .inl (fun _ => 0))), (q67_9, .inl (cJ, 301, .inr (.inl (fun _ => 0)))), (q75_9, .inl (cJ, 40, .inr (.inl (fun _ => 0)))), (q83_9, .inl (cI, 40, .inl (fun _ => 0))), (q91_9, .inl (cI, 40, .inl (fun _ => 0))), (q99_9, .inl (cI, 40, .inl (fun _ => 0))), (q107_9, .inl (cJ, 40, .inr (.inl (fun _ => 0)))), (q115_9, .inl (cI, 40, .inl (fun _ => 0))), (q123_9, .inl (cI, 40, .inl (fun _ => 0))), (q24, .inl (cI, 501, .inl (fun _ => 0))), (q33, .inl (cI, 501, .inl (fun _ => 0))), (q42, .inl (cI, 501, .inl (fun _ => 0))), (q51, .inl (cI, 501, .inl (fun _ => 0))), (q60, .inl (cI, 501, .inl (fun _ => 0))), (q69, .inl (cJ, 501, .inr (.inl (fun _ => 0)))), (q78, .inl (cJ, 501, .inr (.inl (fun _ => 0)))), (q87, .inl (cJ, 501, .inr (.inl (fun _ => 0)))), (q96, .inl (cJ, 501, .inr (.inl (fun _ => 0)))), (q104, .inl (cJ, 64, .inr (.inl (fun _ => 0))))] := hD
  exact W.vret hx hb hr (fun t ht hW => ⟨⟨(), rfl, trivial, ⟨q5, q13_9, q22_9, q31_9, q40_9, q49_9, q58_9, q67_9, q75_9, q83_9, q91_9, q99_9, q107_9, q115_9, q123_9, q24, q33, q42, q51, q60, q69, q78, q87, q96, q104, by rw [ht]; exact hP, hD⟩⟩, hS.F ht⟩) hS.2.2 d_Ru_init_124
