abbrev b_St_renew : ByteArray := prog_10_method_2_code
def y_St_renew : MethodName := ⟨R_St, "renew", "(LBreweryHouse$Plant;)V"⟩
abbrev w_St_renew : List Cond := .code y_St_renew b_St_renew 2 none :: lw_gd
abbrev b_Wa_forget : ByteArray := prog_12_method_2_code
def y_Wa_forget : MethodName := ⟨R_Wa, "forget", "()V"⟩
abbrev w_Wa_forget : List Cond := .code y_Wa_forget b_Wa_forget 2 none :: lw_gd
abbrev b_Pl_writeTo : ByteArray := prog_4_method_12_code
def y_Pl_writeTo : MethodName := ⟨R_Pl, "writeTo", "([B)I"⟩
abbrev w_Pl_writeTo : List Cond := .code y_Pl_writeTo b_Pl_writeTo 4 (some .int) :: lw_gd
abbrev b_Bh_takePlant : ByteArray := prog_1_method_4_code
def y_Bh_takePlant : MethodName := ⟨R_Bh, "takePlant", "()I"⟩
abbrev w_Bh_takePlant : List Cond := .code y_Bh_takePlant b_Bh_takePlant 2 (some .int) :: lw_gd
abbrev b_Bh_takeRows : ByteArray := prog_1_method_5_code
def y_Bh_takeRows : MethodName := ⟨R_Bh, "takeRows", "()I"⟩
abbrev w_Bh_takeRows : List Cond := .code y_Bh_takeRows b_Bh_takeRows 2 (some .int) :: lw_gd
abbrev b_Ru_expandAll : ByteArray := prog_8_method_4_code
def y_Ru_expandAll : MethodName := ⟨R_Ru, "expandAll", "(II)I"⟩
abbrev w_Ru_expandAll : List Cond := .code y_Ru_expandAll b_Ru_expandAll 8 (some .int) :: lw_gd
abbrev b_Ru_take : ByteArray := prog_8_method_3_code
def y_Ru_take : MethodName := ⟨R_Ru, "take", "(LBreweryHouse$Program;)V"⟩
abbrev w_Ru_take : List Cond := .code y_Ru_take b_Ru_take 2 none :: lw_gd
abbrev b_Bh_takeProgram : ByteArray := prog_1_method_6_code
def y_Bh_takeProgram : MethodName := ⟨R_Bh, "takeProgram", "()I"⟩
abbrev w_Bh_takeProgram : List Cond := .code y_Bh_takeProgram b_Bh_takeProgram 2 (some .int) :: lw_gd
abbrev b_Bh_end : ByteArray := prog_1_method_3_code
def y_Bh_end : MethodName := ⟨R_Bh, "end", "(II)I"⟩
abbrev w_Bh_end : List Cond := .code y_Bh_end b_Bh_end 5 (some .int) :: lw_gd
theorem mw_5 : (.initialized "BreweryHouse$Plant" : Cond) ∈ lw_gd := tb_mem (i := 5) (by decide +kernel) (by decide +kernel)
theorem mw_42 : (.fieldLink "BreweryHouse" 127 "BreweryHouse$Tape" "end" "I" : Cond) ∈ lw_gd := tb_mem (i := 42) (by decide +kernel) (by decide +kernel)
theorem mw_89 : (.fieldLink "BreweryHouse" 171 "BreweryHouse$Plant" "things" "I" : Cond) ∈ lw_gd := tb_mem (i := 89) (by decide +kernel) (by decide +kernel)
theorem mw_145 : (.methodLink "BreweryHouse$Stock" 50 y_Ar_fillI : Cond) ∈ lw_gd := tb_mem (i := 145) (by decide +kernel) (by decide +kernel)
theorem mw_146 : (.static y_Ar_fillI : Cond) ∈ lw_gd := tb_mem (i := 146) (by decide +kernel) (by decide +kernel)
theorem mw_147 : (.code y_Ar_fillI b_Ar_fillI 4 none : Cond) ∈ lw_gd := tb_mem (i := 147) (by decide +kernel) (by decide +kernel)
theorem mw_151 : (.fieldLink "BreweryHouse" 151 "BreweryHouse$Stock" "plant" "LBreweryHouse$Plant;" : Cond) ∈ lw_gd := tb_mem (i := 151) (by decide +kernel) (by decide +kernel)
theorem mw_157 : (.fieldLink "BreweryHouse$Stock" 18 "BreweryHouse$Stock" "position" "[I" : Cond) ∈ lw_gd := tb_mem (i := 157) (by decide +kernel) (by decide +kernel)
theorem mw_162 : (.fieldLink "BreweryHouse$Stock" 22 "BreweryHouse$Stock" "liquid" "[I" : Cond) ∈ lw_gd := tb_mem (i := 162) (by decide +kernel) (by decide +kernel)
theorem mw_167 : (.fieldLink "BreweryHouse$Stock" 25 "BreweryHouse$Stock" "amount" "[I" : Cond) ∈ lw_gd := tb_mem (i := 167) (by decide +kernel) (by decide +kernel)
theorem mw_171 : (.fieldLink "BreweryHouse$Stock" 28 "BreweryHouse$Stock" "last" "[I" : Cond) ∈ lw_gd := tb_mem (i := 171) (by decide +kernel) (by decide +kernel)
theorem mw_173 : (.fieldLink "BreweryHouse$Stock" 31 "BreweryHouse$Stock" "cleaned" "[I" : Cond) ∈ lw_gd := tb_mem (i := 173) (by decide +kernel) (by decide +kernel)
theorem mw_174 : (.fieldLink "BreweryHouse$Stock" 34 "BreweryHouse$Stock" "litres" "[J" : Cond) ∈ lw_gd := tb_mem (i := 174) (by decide +kernel) (by decide +kernel)
theorem mw_175 : (.fieldLink "BreweryHouse$Stock" 38 "BreweryHouse$Stock" "start" "[I" : Cond) ∈ lw_gd := tb_mem (i := 175) (by decide +kernel) (by decide +kernel)
theorem mw_229 : (.fieldLink "BreweryHouse$Ways" 39 "BreweryHouse$Ways" "taken" "[Z" : Cond) ∈ lw_gd := tb_mem (i := 229) (by decide +kernel) (by decide +kernel)
theorem mw_230 : (.fieldLink "BreweryHouse$Ways" 43 "BreweryHouse$Ways" "over" "[I" : Cond) ∈ lw_gd := tb_mem (i := 230) (by decide +kernel) (by decide +kernel)
theorem mw_330 : (.fieldLink "BreweryHouse" 180 "BreweryHouse$Rows" "count" "I" : Cond) ∈ lw_gd := tb_mem (i := 330) (by decide +kernel) (by decide +kernel)
theorem mw_429 : (.fieldLink "BreweryHouse" 193 "BreweryHouse$Program" "statements" "I" : Cond) ∈ lw_gd := tb_mem (i := 429) (by decide +kernel) (by decide +kernel)
theorem mw_435 : (.fieldLink "BreweryHouse$Run" 69 "BreweryHouse$Program" "opening" "I" : Cond) ∈ lw_gd := tb_mem (i := 435) (by decide +kernel) (by decide +kernel)
theorem mw_514 : (.fieldLink "BreweryHouse$Run" 12 "BreweryHouse$Run" "program" "LBreweryHouse$Program;" : Cond) ∈ lw_gd := tb_mem (i := 514) (by decide +kernel) (by decide +kernel)
theorem mw_518 : (.fieldLink "BreweryHouse$Run" 66 "BreweryHouse$Run" "parts" "I" : Cond) ∈ lw_gd := tb_mem (i := 518) (by decide +kernel) (by decide +kernel)
theorem mw_519 : (.fieldLink "BreweryHouse$Run" 22 "BreweryHouse$Run" "node" "[I" : Cond) ∈ lw_gd := tb_mem (i := 519) (by decide +kernel) (by decide +kernel)
theorem mw_520 : (.fieldLink "BreweryHouse$Run" 26 "BreweryHouse$Run" "first" "[I" : Cond) ∈ lw_gd := tb_mem (i := 520) (by decide +kernel) (by decide +kernel)
theorem mw_521 : (.fieldLink "BreweryHouse$Run" 29 "BreweryHouse$Run" "next" "[I" : Cond) ∈ lw_gd := tb_mem (i := 521) (by decide +kernel) (by decide +kernel)
theorem mw_691 : (.fieldLink "BreweryHouse" 69 "BreweryHouse" "reader" "LBreweryHouse$ProgramReader;" : Cond) ∈ lw_gd := tb_mem (i := 691) (by decide +kernel) (by decide +kernel)
theorem mw_692 : (.fieldLink "BreweryHouse" 76 "BreweryHouse" "sparePlant" "LBreweryHouse$Plant;" : Cond) ∈ lw_gd := tb_mem (i := 692) (by decide +kernel) (by decide +kernel)
theorem mw_693 : (.fieldLink "BreweryHouse" 83 "BreweryHouse" "spareRows" "LBreweryHouse$Rows;" : Cond) ∈ lw_gd := tb_mem (i := 693) (by decide +kernel) (by decide +kernel)
theorem mw_694 : (.fieldLink "BreweryHouse" 90 "BreweryHouse" "spareProgram" "LBreweryHouse$Program;" : Cond) ∈ lw_gd := tb_mem (i := 694) (by decide +kernel) (by decide +kernel)
theorem mw_695 : (.fieldLink "BreweryHouse" 94 "BreweryHouse" "plantText" "[B" : Cond) ∈ lw_gd := tb_mem (i := 695) (by decide +kernel) (by decide +kernel)
theorem mw_749 : (.methodLink "BreweryHouse" 130 y_Tp_isText : Cond) ∈ lw_gd := tb_mem (i := 749) (by decide +kernel) (by decide +kernel)
theorem mw_750 : (.instanceMethod y_Tp_isText : Cond) ∈ lw_gd := tb_mem (i := 750) (by decide +kernel) (by decide +kernel)
theorem mw_751 : (.selects "BreweryHouse$Tape" y_Tp_isText y_Tp_isText : Cond) ∈ lw_gd := tb_mem (i := 751) (by decide +kernel) (by decide +kernel)
theorem mw_752 : (.code y_Tp_isText b_Tp_isText 3 (some .boolean) : Cond) ∈ lw_gd := tb_mem (i := 752) (by decide +kernel) (by decide +kernel)
theorem mw_757 : (.methodLink "BreweryHouse" 133 y_Pl_read : Cond) ∈ lw_gd := tb_mem (i := 757) (by decide +kernel) (by decide +kernel)
theorem mw_758 : (.instanceMethod y_Pl_read : Cond) ∈ lw_gd := tb_mem (i := 758) (by decide +kernel) (by decide +kernel)
theorem mw_759 : (.selects "BreweryHouse$Plant" y_Pl_read y_Pl_read : Cond) ∈ lw_gd := tb_mem (i := 759) (by decide +kernel) (by decide +kernel)
theorem mw_760 : (.code y_Pl_read b_Pl_read 3 (some .int) : Cond) ∈ lw_gd := tb_mem (i := 760) (by decide +kernel) (by decide +kernel)
theorem mw_811 : (.methodLink "BreweryHouse" 137 y_Ro_read : Cond) ∈ lw_gd := tb_mem (i := 811) (by decide +kernel) (by decide +kernel)
theorem mw_812 : (.instanceMethod y_Ro_read : Cond) ∈ lw_gd := tb_mem (i := 812) (by decide +kernel) (by decide +kernel)
theorem mw_813 : (.selects "BreweryHouse$Rows" y_Ro_read y_Ro_read : Cond) ∈ lw_gd := tb_mem (i := 813) (by decide +kernel) (by decide +kernel)
theorem mw_814 : (.code y_Ro_read b_Ro_read 3 (some .int) : Cond) ∈ lw_gd := tb_mem (i := 814) (by decide +kernel) (by decide +kernel)
theorem mw_879 : (.methodLink "BreweryHouse" 138 y_Rd_read : Cond) ∈ lw_gd := tb_mem (i := 879) (by decide +kernel) (by decide +kernel)
theorem mw_880 : (.instanceMethod y_Rd_read : Cond) ∈ lw_gd := tb_mem (i := 880) (by decide +kernel) (by decide +kernel)
theorem mw_881 : (.selects "BreweryHouse$ProgramReader" y_Rd_read y_Rd_read : Cond) ∈ lw_gd := tb_mem (i := 881) (by decide +kernel) (by decide +kernel)
theorem mw_882 : (.code y_Rd_read b_Rd_read 9 (some .int) : Cond) ∈ lw_gd := tb_mem (i := 882) (by decide +kernel) (by decide +kernel)
theorem mw_1012 : (.methodLink "BreweryHouse" 141 y_Bh_takePlant : Cond) ∈ lw_gd := tb_mem (i := 1012) (by decide +kernel) (by decide +kernel)
theorem mw_1014 : (.instanceMethod y_Bh_takePlant : Cond) ∈ lw_gd := tb_mem (i := 1014) (by decide +kernel) (by decide +kernel)
theorem mw_1015 : (.code y_Bh_takePlant b_Bh_takePlant 2 (some .int) : Cond) ∈ lw_gd := tb_mem (i := 1015) (by decide +kernel) (by decide +kernel)
theorem mw_1016 : (.methodLink "BreweryHouse" 154 y_St_renew : Cond) ∈ lw_gd := tb_mem (i := 1016) (by decide +kernel) (by decide +kernel)
theorem mw_1017 : (.instanceMethod y_St_renew : Cond) ∈ lw_gd := tb_mem (i := 1017) (by decide +kernel) (by decide +kernel)
theorem mw_1018 : (.selects "BreweryHouse$Stock" y_St_renew y_St_renew : Cond) ∈ lw_gd := tb_mem (i := 1018) (by decide +kernel) (by decide +kernel)
theorem mw_1019 : (.code y_St_renew b_St_renew 2 none : Cond) ∈ lw_gd := tb_mem (i := 1019) (by decide +kernel) (by decide +kernel)
theorem mw_1020 : (.methodLink "BreweryHouse$Stock" 57 y_Ar_fillJ : Cond) ∈ lw_gd := tb_mem (i := 1020) (by decide +kernel) (by decide +kernel)
theorem mw_1023 : (.methodLink "BreweryHouse" 158 y_Wa_forget : Cond) ∈ lw_gd := tb_mem (i := 1023) (by decide +kernel) (by decide +kernel)
theorem mw_1024 : (.instanceMethod y_Wa_forget : Cond) ∈ lw_gd := tb_mem (i := 1024) (by decide +kernel) (by decide +kernel)
theorem mw_1025 : (.selects "BreweryHouse$Ways" y_Wa_forget y_Wa_forget : Cond) ∈ lw_gd := tb_mem (i := 1025) (by decide +kernel) (by decide +kernel)
theorem mw_1026 : (.code y_Wa_forget b_Wa_forget 2 none : Cond) ∈ lw_gd := tb_mem (i := 1026) (by decide +kernel) (by decide +kernel)
theorem mw_1027 : (.methodLink "BreweryHouse$Ways" 69 y_Ar_fillI : Cond) ∈ lw_gd := tb_mem (i := 1027) (by decide +kernel) (by decide +kernel)
theorem mw_1028 : (.methodLink "BreweryHouse" 164 y_Pl_writeTo : Cond) ∈ lw_gd := tb_mem (i := 1028) (by decide +kernel) (by decide +kernel)
theorem mw_1029 : (.instanceMethod y_Pl_writeTo : Cond) ∈ lw_gd := tb_mem (i := 1029) (by decide +kernel) (by decide +kernel)
theorem mw_1030 : (.selects "BreweryHouse$Plant" y_Pl_writeTo y_Pl_writeTo : Cond) ∈ lw_gd := tb_mem (i := 1030) (by decide +kernel) (by decide +kernel)
theorem mw_1031 : (.code y_Pl_writeTo b_Pl_writeTo 4 (some .int) : Cond) ∈ lw_gd := tb_mem (i := 1031) (by decide +kernel) (by decide +kernel)
theorem mw_1043 : (.methodLink "BreweryHouse" 145 y_Bh_takeRows : Cond) ∈ lw_gd := tb_mem (i := 1043) (by decide +kernel) (by decide +kernel)
theorem mw_1045 : (.instanceMethod y_Bh_takeRows : Cond) ∈ lw_gd := tb_mem (i := 1045) (by decide +kernel) (by decide +kernel)
theorem mw_1046 : (.code y_Bh_takeRows b_Bh_takeRows 2 (some .int) : Cond) ∈ lw_gd := tb_mem (i := 1046) (by decide +kernel) (by decide +kernel)
theorem mw_1047 : (.methodLink "BreweryHouse" 148 y_Bh_takeProgram : Cond) ∈ lw_gd := tb_mem (i := 1047) (by decide +kernel) (by decide +kernel)
theorem mw_1049 : (.instanceMethod y_Bh_takeProgram : Cond) ∈ lw_gd := tb_mem (i := 1049) (by decide +kernel) (by decide +kernel)
theorem mw_1050 : (.code y_Bh_takeProgram b_Bh_takeProgram 2 (some .int) : Cond) ∈ lw_gd := tb_mem (i := 1050) (by decide +kernel) (by decide +kernel)
theorem mw_1051 : (.methodLink "BreweryHouse" 186 y_Ru_take : Cond) ∈ lw_gd := tb_mem (i := 1051) (by decide +kernel) (by decide +kernel)
theorem mw_1052 : (.instanceMethod y_Ru_take : Cond) ∈ lw_gd := tb_mem (i := 1052) (by decide +kernel) (by decide +kernel)
theorem mw_1053 : (.selects "BreweryHouse$Run" y_Ru_take y_Ru_take : Cond) ∈ lw_gd := tb_mem (i := 1053) (by decide +kernel) (by decide +kernel)
theorem mw_1054 : (.code y_Ru_take b_Ru_take 2 none : Cond) ∈ lw_gd := tb_mem (i := 1054) (by decide +kernel) (by decide +kernel)
theorem mw_1055 : (.methodLink "BreweryHouse$Run" 72 y_Ru_expandAll : Cond) ∈ lw_gd := tb_mem (i := 1055) (by decide +kernel) (by decide +kernel)
theorem mw_1057 : (.instanceMethod y_Ru_expandAll : Cond) ∈ lw_gd := tb_mem (i := 1057) (by decide +kernel) (by decide +kernel)
theorem mw_1058 : (.code y_Ru_expandAll b_Ru_expandAll 8 (some .int) : Cond) ∈ lw_gd := tb_mem (i := 1058) (by decide +kernel) (by decide +kernel)
theorem mw_1063 : (.methodLink "BreweryHouse" 190 y_Wa_closeAll : Cond) ∈ lw_gd := tb_mem (i := 1063) (by decide +kernel) (by decide +kernel)
theorem mw_1064 : (.instanceMethod y_Wa_closeAll : Cond) ∈ lw_gd := tb_mem (i := 1064) (by decide +kernel) (by decide +kernel)
theorem mw_1065 : (.selects "BreweryHouse$Ways" y_Wa_closeAll y_Wa_closeAll : Cond) ∈ lw_gd := tb_mem (i := 1065) (by decide +kernel) (by decide +kernel)
theorem mw_1066 : (.code y_Wa_closeAll b_Wa_closeAll 2 none : Cond) ∈ lw_gd := tb_mem (i := 1066) (by decide +kernel) (by decide +kernel)
theorem sl_42 : (.selects "BreweryHouse" y_Bh_takePlant y_Bh_takePlant : Cond) ∈ lw_gd := List.mem_filter.mpr ⟨List.mem_append_left _ (List.mem_of_getElem? (i := 42) (by decide +kernel)), by decide +kernel⟩
theorem sl_43 : (.selects "BreweryHouse" y_Bh_takeRows y_Bh_takeRows : Cond) ∈ lw_gd := List.mem_filter.mpr ⟨List.mem_append_left _ (List.mem_of_getElem? (i := 43) (by decide +kernel)), by decide +kernel⟩
theorem sl_44 : (.selects "BreweryHouse" y_Bh_takeProgram y_Bh_takeProgram : Cond) ∈ lw_gd := List.mem_filter.mpr ⟨List.mem_append_left _ (List.mem_of_getElem? (i := 44) (by decide +kernel)), by decide +kernel⟩
theorem sl_45 : (.selects "BreweryHouse$Run" y_Ru_expandAll y_Ru_expandAll : Cond) ∈ lw_gd := List.mem_filter.mpr ⟨List.mem_append_left _ (List.mem_of_getElem? (i := 45) (by decide +kernel)), by decide +kernel⟩
abbrev t_St_renew_61 : List UInt8 := 177 :: []
abbrev t_St_renew_58 : List UInt8 := 184 :: 0 :: 50 :: t_St_renew_61
abbrev t_St_renew_57 : List UInt8 := 3 :: t_St_renew_58
abbrev t_St_renew_54 : List UInt8 := 180 :: 0 :: 38 :: t_St_renew_57
abbrev t_St_renew_53 : List UInt8 := 42 :: t_St_renew_54
abbrev t_St_renew_50 : List UInt8 := 184 :: 0 :: 57 :: t_St_renew_53
abbrev t_St_renew_49 : List UInt8 := 9 :: t_St_renew_50
abbrev t_St_renew_46 : List UInt8 := 180 :: 0 :: 34 :: t_St_renew_49
abbrev t_St_renew_45 : List UInt8 := 42 :: t_St_renew_46
abbrev t_St_renew_42 : List UInt8 := 184 :: 0 :: 50 :: t_St_renew_45
abbrev t_St_renew_41 : List UInt8 := 2 :: t_St_renew_42
abbrev t_St_renew_38 : List UInt8 := 180 :: 0 :: 31 :: t_St_renew_41
abbrev t_St_renew_37 : List UInt8 := 42 :: t_St_renew_38
abbrev t_St_renew_34 : List UInt8 := 184 :: 0 :: 50 :: t_St_renew_37
abbrev t_St_renew_33 : List UInt8 := 3 :: t_St_renew_34
abbrev t_St_renew_30 : List UInt8 := 180 :: 0 :: 28 :: t_St_renew_33
abbrev t_St_renew_29 : List UInt8 := 42 :: t_St_renew_30
abbrev t_St_renew_26 : List UInt8 := 184 :: 0 :: 50 :: t_St_renew_29
abbrev t_St_renew_25 : List UInt8 := 3 :: t_St_renew_26
abbrev t_St_renew_22 : List UInt8 := 180 :: 0 :: 25 :: t_St_renew_25
abbrev t_St_renew_21 : List UInt8 := 42 :: t_St_renew_22
abbrev t_St_renew_18 : List UInt8 := 184 :: 0 :: 50 :: t_St_renew_21
abbrev t_St_renew_17 : List UInt8 := 3 :: t_St_renew_18
abbrev t_St_renew_14 : List UInt8 := 180 :: 0 :: 22 :: t_St_renew_17
abbrev t_St_renew_13 : List UInt8 := 42 :: t_St_renew_14
abbrev t_St_renew_10 : List UInt8 := 184 :: 0 :: 50 :: t_St_renew_13
abbrev t_St_renew_9 : List UInt8 := 3 :: t_St_renew_10
abbrev t_St_renew_6 : List UInt8 := 180 :: 0 :: 18 :: t_St_renew_9
abbrev t_St_renew_5 : List UInt8 := 42 :: t_St_renew_6
abbrev t_St_renew_2 : List UInt8 := 181 :: 0 :: 12 :: t_St_renew_5
abbrev t_St_renew_1 : List UInt8 := 43 :: t_St_renew_2
abbrev t_St_renew_0 : List UInt8 := 42 :: t_St_renew_1
theorem a_St_renew_0 : dk_at b_St_renew 0 t_St_renew_0 := dk_start (by decide +kernel)
theorem a_St_renew_1 : dk_at b_St_renew 1 t_St_renew_1 := dk_go 1 a_St_renew_0 rfl
theorem a_St_renew_2 : dk_at b_St_renew 2 t_St_renew_2 := dk_go 1 a_St_renew_1 rfl
theorem a_St_renew_5 : dk_at b_St_renew 5 t_St_renew_5 := dk_go 3 a_St_renew_2 rfl
theorem a_St_renew_6 : dk_at b_St_renew 6 t_St_renew_6 := dk_go 1 a_St_renew_5 rfl
theorem a_St_renew_9 : dk_at b_St_renew 9 t_St_renew_9 := dk_go 3 a_St_renew_6 rfl
theorem a_St_renew_10 : dk_at b_St_renew 10 t_St_renew_10 := dk_go 1 a_St_renew_9 rfl
theorem a_St_renew_13 : dk_at b_St_renew 13 t_St_renew_13 := dk_go 3 a_St_renew_10 rfl
theorem a_St_renew_14 : dk_at b_St_renew 14 t_St_renew_14 := dk_go 1 a_St_renew_13 rfl
theorem a_St_renew_17 : dk_at b_St_renew 17 t_St_renew_17 := dk_go 3 a_St_renew_14 rfl
theorem a_St_renew_18 : dk_at b_St_renew 18 t_St_renew_18 := dk_go 1 a_St_renew_17 rfl
theorem a_St_renew_21 : dk_at b_St_renew 21 t_St_renew_21 := dk_go 3 a_St_renew_18 rfl
theorem a_St_renew_22 : dk_at b_St_renew 22 t_St_renew_22 := dk_go 1 a_St_renew_21 rfl
theorem a_St_renew_25 : dk_at b_St_renew 25 t_St_renew_25 := dk_go 3 a_St_renew_22 rfl
theorem a_St_renew_26 : dk_at b_St_renew 26 t_St_renew_26 := dk_go 1 a_St_renew_25 rfl
theorem a_St_renew_29 : dk_at b_St_renew 29 t_St_renew_29 := dk_go 3 a_St_renew_26 rfl
theorem a_St_renew_30 : dk_at b_St_renew 30 t_St_renew_30 := dk_go 1 a_St_renew_29 rfl
theorem a_St_renew_33 : dk_at b_St_renew 33 t_St_renew_33 := dk_go 3 a_St_renew_30 rfl
theorem a_St_renew_34 : dk_at b_St_renew 34 t_St_renew_34 := dk_go 1 a_St_renew_33 rfl
theorem a_St_renew_37 : dk_at b_St_renew 37 t_St_renew_37 := dk_go 3 a_St_renew_34 rfl
theorem a_St_renew_38 : dk_at b_St_renew 38 t_St_renew_38 := dk_go 1 a_St_renew_37 rfl
theorem a_St_renew_41 : dk_at b_St_renew 41 t_St_renew_41 := dk_go 3 a_St_renew_38 rfl
theorem a_St_renew_42 : dk_at b_St_renew 42 t_St_renew_42 := dk_go 1 a_St_renew_41 rfl
theorem a_St_renew_45 : dk_at b_St_renew 45 t_St_renew_45 := dk_go 3 a_St_renew_42 rfl
theorem a_St_renew_46 : dk_at b_St_renew 46 t_St_renew_46 := dk_go 1 a_St_renew_45 rfl
theorem a_St_renew_49 : dk_at b_St_renew 49 t_St_renew_49 := dk_go 3 a_St_renew_46 rfl
theorem a_St_renew_50 : dk_at b_St_renew 50 t_St_renew_50 := dk_go 1 a_St_renew_49 rfl
theorem a_St_renew_53 : dk_at b_St_renew 53 t_St_renew_53 := dk_go 3 a_St_renew_50 rfl
theorem a_St_renew_54 : dk_at b_St_renew 54 t_St_renew_54 := dk_go 1 a_St_renew_53 rfl
theorem a_St_renew_57 : dk_at b_St_renew 57 t_St_renew_57 := dk_go 3 a_St_renew_54 rfl
theorem a_St_renew_58 : dk_at b_St_renew 58 t_St_renew_58 := dk_go 1 a_St_renew_57 rfl
theorem a_St_renew_61 : dk_at b_St_renew 61 t_St_renew_61 := dk_go 3 a_St_renew_58 rfl
theorem d_St_renew_0 : decode b_St_renew 0 = .ok (.aload_n 0, 1) := dk_0 a_St_renew_0 (dko_42 _)
theorem d_St_renew_1 : decode b_St_renew 1 = .ok (.aload_n 1, 1) := dk_0 a_St_renew_1 (dko_43 _)
theorem d_St_renew_2 : decode b_St_renew 2 = .ok (.putfield 12, 3) := dk_U2 a_St_renew_2 (dko_181 _) rfl
theorem d_St_renew_5 : decode b_St_renew 5 = .ok (.aload_n 0, 1) := dk_0 a_St_renew_5 (dko_42 _)
theorem d_St_renew_6 : decode b_St_renew 6 = .ok (.getfield 18, 3) := dk_U2 a_St_renew_6 (dko_180 _) rfl
theorem d_St_renew_9 : decode b_St_renew 9 = .ok (.iconst 0, 1) := dk_0 a_St_renew_9 (dko_3 _)
theorem d_St_renew_10 : decode b_St_renew 10 = .ok (.invokestatic 50, 3) := dk_U2 a_St_renew_10 (dko_184 _) rfl
theorem d_St_renew_13 : decode b_St_renew 13 = .ok (.aload_n 0, 1) := dk_0 a_St_renew_13 (dko_42 _)
theorem d_St_renew_14 : decode b_St_renew 14 = .ok (.getfield 22, 3) := dk_U2 a_St_renew_14 (dko_180 _) rfl
theorem d_St_renew_17 : decode b_St_renew 17 = .ok (.iconst 0, 1) := dk_0 a_St_renew_17 (dko_3 _)
theorem d_St_renew_18 : decode b_St_renew 18 = .ok (.invokestatic 50, 3) := dk_U2 a_St_renew_18 (dko_184 _) rfl
theorem d_St_renew_21 : decode b_St_renew 21 = .ok (.aload_n 0, 1) := dk_0 a_St_renew_21 (dko_42 _)
theorem d_St_renew_22 : decode b_St_renew 22 = .ok (.getfield 25, 3) := dk_U2 a_St_renew_22 (dko_180 _) rfl
theorem d_St_renew_25 : decode b_St_renew 25 = .ok (.iconst 0, 1) := dk_0 a_St_renew_25 (dko_3 _)
theorem d_St_renew_26 : decode b_St_renew 26 = .ok (.invokestatic 50, 3) := dk_U2 a_St_renew_26 (dko_184 _) rfl
theorem d_St_renew_29 : decode b_St_renew 29 = .ok (.aload_n 0, 1) := dk_0 a_St_renew_29 (dko_42 _)
theorem d_St_renew_30 : decode b_St_renew 30 = .ok (.getfield 28, 3) := dk_U2 a_St_renew_30 (dko_180 _) rfl
theorem d_St_renew_33 : decode b_St_renew 33 = .ok (.iconst 0, 1) := dk_0 a_St_renew_33 (dko_3 _)
theorem d_St_renew_34 : decode b_St_renew 34 = .ok (.invokestatic 50, 3) := dk_U2 a_St_renew_34 (dko_184 _) rfl
theorem d_St_renew_37 : decode b_St_renew 37 = .ok (.aload_n 0, 1) := dk_0 a_St_renew_37 (dko_42 _)
theorem d_St_renew_38 : decode b_St_renew 38 = .ok (.getfield 31, 3) := dk_U2 a_St_renew_38 (dko_180 _) rfl
theorem d_St_renew_41 : decode b_St_renew 41 = .ok (.iconst (-1), 1) := dk_0 a_St_renew_41 (dko_2 _)
theorem d_St_renew_42 : decode b_St_renew 42 = .ok (.invokestatic 50, 3) := dk_U2 a_St_renew_42 (dko_184 _) rfl
theorem d_St_renew_45 : decode b_St_renew 45 = .ok (.aload_n 0, 1) := dk_0 a_St_renew_45 (dko_42 _)
theorem d_St_renew_46 : decode b_St_renew 46 = .ok (.getfield 34, 3) := dk_U2 a_St_renew_46 (dko_180 _) rfl
theorem d_St_renew_49 : decode b_St_renew 49 = .ok (.lconst 0, 1) := dk_0 a_St_renew_49 (dko_9 _)
theorem d_St_renew_50 : decode b_St_renew 50 = .ok (.invokestatic 57, 3) := dk_U2 a_St_renew_50 (dko_184 _) rfl
theorem d_St_renew_53 : decode b_St_renew 53 = .ok (.aload_n 0, 1) := dk_0 a_St_renew_53 (dko_42 _)
theorem d_St_renew_54 : decode b_St_renew 54 = .ok (.getfield 38, 3) := dk_U2 a_St_renew_54 (dko_180 _) rfl
theorem d_St_renew_57 : decode b_St_renew 57 = .ok (.iconst 0, 1) := dk_0 a_St_renew_57 (dko_3 _)
theorem d_St_renew_58 : decode b_St_renew 58 = .ok (.invokestatic 50, 3) := dk_U2 a_St_renew_58 (dko_184 _) rfl
theorem d_St_renew_61 : decode b_St_renew 61 = .ok (.return_, 1) := dk_0 a_St_renew_61 (dko_177 _)
set_option maxHeartbeats 4000000 in
set_option maxRecDepth 100000 in
theorem c_St_renew (l : Launch) (dC : Nat → ClassId) (dI : Nat → Nat → Nat) (cI cB cZ cJ : ClassId) (oSt : Nat) (xst_position : Nat) (xst_liquid : Nat) (xst_amount : Nat) (xst_last : Nat) (xst_cleaned : Nat) (xst_litres : Nat) (xst_start : Nat) (oP2 : Nat) (oP1 : Nat) (xs_ : List Value) (hst_plant : fx xs_ 0 (.ref oP1)) (hst_position : fx xs_ 2 (.ref xst_position)) (hst_liquid : fx xs_ 3 (.ref xst_liquid)) (hst_amount : fx xs_ 4 (.ref xst_amount)) (hst_last : fx xs_ 5 (.ref xst_last)) (hst_cleaned : fx xs_ 6 (.ref xst_cleaned)) (hst_litres : fx xs_ 7 (.ref xst_litres)) (hst_start : fx xs_ 8 (.ref xst_start)) (sz : Nat) : Met l y_St_renew w_St_renew ({ frames := 1, cells := 0, slots := 0, locals := 24 }) (va_Pc [.ref oSt, .ref oP2] (PW dC dI cI cB cZ cJ [(oSt, .inr (4, xs_)), (xst_position, .inl (cI, 20, .inl (fun _ => 0))), (xst_liquid, .inl (cI, 44, .inl (fun _ => 0))), (xst_amount, .inl (cI, 44, .inl (fun _ => 0))), (xst_last, .inl (cI, 44, .inl (fun _ => 0))), (xst_cleaned, .inl (cI, 264, .inl ((fun _ => (-1))))), (xst_litres, .inl (cJ, 96, .inr (.inl (fun _ => 0)))), (xst_start, .inl (cI, 24, .inl (fun _ => 0)))] sz)) (va_Qv (fun _ : Unit => True) (fun (_ : Unit) (t : State) => ∃ (n_xs_ : List Value), fx n_xs_ 0 (.ref oP2) ∧ fx n_xs_ 2 (.ref xst_position) ∧ fx n_xs_ 3 (.ref xst_liquid) ∧ fx n_xs_ 4 (.ref xst_amount) ∧ fx n_xs_ 5 (.ref xst_last) ∧ fx n_xs_ 6 (.ref xst_cleaned) ∧ fx n_xs_ 7 (.ref xst_litres) ∧ fx n_xs_ 8 (.ref xst_start) ∧ va_P (dC, dI) classes [(oSt, .inr (4, n_xs_)), (xst_position, .inl (cI, 20, .inl (fun _ => 0))), (xst_liquid, .inl (cI, 44, .inl (fun _ => 0))), (xst_amount, .inl (cI, 44, .inl (fun _ => 0))), (xst_last, .inl (cI, 44, .inl (fun _ => 0))), (xst_cleaned, .inl (cI, 264, .inl ((fun _ => (-1))))), (xst_litres, .inl (cJ, 96, .inr (.inl (fun _ => 0)))), (xst_start, .inl (cI, 24, .inl (fun _ => 0)))] t.heap ∧ va_D (va_A [(oSt, .inr (4, xs_)), (xst_position, .inl (cI, 20, .inl (fun _ => 0))), (xst_liquid, .inl (cI, 44, .inl (fun _ => 0))), (xst_amount, .inl (cI, 44, .inl (fun _ => 0))), (xst_last, .inl (cI, 44, .inl (fun _ => 0))), (xst_cleaned, .inl (cI, 264, .inl ((fun _ => (-1))))), (xst_litres, .inl (cJ, 96, .inr (.inl (fun _ => 0)))), (xst_start, .inl (cI, 24, .inl (fun _ => 0)))] sz) [(oSt, .inr (4, n_xs_)), (xst_position, .inl (cI, 20, .inl (fun _ => 0))), (xst_liquid, .inl (cI, 44, .inl (fun _ => 0))), (xst_amount, .inl (cI, 44, .inl (fun _ => 0))), (xst_last, .inl (cI, 44, .inl (fun _ => 0))), (xst_cleaned, .inl (cI, 264, .inl ((fun _ => (-1))))), (xst_litres, .inl (cJ, 96, .inr (.inl (fun _ => 0)))), (xst_start, .inl (cI, 24, .inl (fun _ => 0)))]) (va_A [(oSt, .inr (4, xs_)), (xst_position, .inl (cI, 20, .inl (fun _ => 0))), (xst_liquid, .inl (cI, 44, .inl (fun _ => 0))), (xst_amount, .inl (cI, 44, .inl (fun _ => 0))), (xst_last, .inl (cI, 44, .inl (fun _ => 0))), (xst_cleaned, .inl (cI, 264, .inl ((fun _ => (-1))))), (xst_litres, .inl (cJ, 96, .inr (.inl (fun _ => 0)))), (xst_start, .inl (cI, 24, .inl (fun _ => 0)))] sz)) 0 0 (va_A [(oSt, .inr (4, xs_)), (xst_position, .inl (cI, 20, .inl (fun _ => 0))), (xst_liquid, .inl (cI, 44, .inl (fun _ => 0))), (xst_amount, .inl (cI, 44, .inl (fun _ => 0))), (xst_last, .inl (cI, 44, .inl (fun _ => 0))), (xst_cleaned, .inl (cI, 264, .inl ((fun _ => (-1))))), (xst_litres, .inl (cJ, 96, .inr (.inl (fun _ => 0)))), (xst_start, .inl (cI, 24, .inl (fun _ => 0)))] sz) := by
  refine Met.ofW (cc := b_St_renew) (maxL := 2) (ret := none) (by decide) rfl ?_
  intro p e s m args below meth c s₁ B hml hv
  obtain ⟨rfl, hsz, hP, hK, hD⟩ := hv
  have hx := B.exec
  have hb := B.bytes
  have hr := B.returns
  have hts := atoms_spec (ws := w_St_renew) B.pre
  have hown : s.vm.findClass R_St = some m.cls := findClass_of_methodNamed B.named
  have hlocks := B.notSynchronized
  subst hsz
  have hD := hD.self (sz := s.heap.size)
  generalize hAe : va_A [(oSt, .inr (4, xs_)), (xst_position, .inl (cI, 20, .inl (fun _ => 0))), (xst_liquid, .inl (cI, 44, .inl (fun _ => 0))), (xst_amount, .inl (cI, 44, .inl (fun _ => 0))), (xst_last, .inl (cI, 44, .inl (fun _ => 0))), (xst_cleaned, .inl (cI, 264, .inl ((fun _ => (-1))))), (xst_litres, .inl (cJ, 96, .inr (.inl (fun _ => 0)))), (xst_start, .inl (cI, 24, .inl (fun _ => 0)))] s.heap.size = A at hD ⊢
  have hA : ∀ q : Nat, s.heap.size ≤ q → A q := fun q h => by rw [← hAe]; exact Or.inr h
  have hS : va_S A s.heap s.heap [] := va_S.rf
  have hP : va_P (dC, dI) classes [(oSt, .inr (4, xs_)), (xst_position, .inl (cI, 20, .inl (fun _ => 0))), (xst_liquid, .inl (cI, 44, .inl (fun _ => 0))), (xst_amount, .inl (cI, 44, .inl (fun _ => 0))), (xst_last, .inl (cI, 44, .inl (fun _ => 0))), (xst_cleaned, .inl (cI, 264, .inl ((fun _ => (-1))))), (xst_litres, .inl (cJ, 96, .inr (.inl (fun _ => 0)))), (xst_start, .inl (cI, 24, .inl (fun _ => 0)))] s.heap := hP
  have hl := lv_entry ([.ref oSt, .ref oP2]) (n := 2) (Nat.le_of_ble_eq_true rfl)
  rw [lg_entry_eq]
  generalize (lg_sl ([.ref oSt, .ref oP2]) ++ List.replicate (2 - (lg_sl ([.ref oSt, .ref oP2])).length) Slot.unset).toArray = ls at hl ⊢
  have hl : lv_has ls 2 [(0, .ref oSt), (1, .ref oP2)] := hl
  refine lv_aload_n hx hb d_St_renew_0 rfl (lv_at hl 0 rfl) ?_
  refine lv_aload_n hx hb d_St_renew_1 rfl (lv_at hl 1 rfl) ?_
  refine va_put (D := (dC, dI)) (ci := 4) (v := .ref oP2) (ty := (.object "BreweryHouse$Plant")) (C := R_St) (T := F_St) (N := 12) hx hb hts (fun w h => List.mem_cons_of_mem _ (in_St w h)) t_St t_St_ok n_St hown hK.1 hP hD hS 0 rfl rfl 0 (by decide) (hts _ (List.mem_cons_of_mem _ mw_149)) (fun _ h9 => h9) rfl (by decide +kernel) rfl rfl (st_lt hst_plant) d_St_renew_2 (fun H locs hP hD hS => ?_)
  have g2_4 : fx (xs_.set 0 (.ref oP2)) 4 (.ref xst_amount) := (st_ne hst_amount (by decide))
  have g2_6 : fx (xs_.set 0 (.ref oP2)) 6 (.ref xst_cleaned) := (st_ne hst_cleaned (by decide))
  have g2_5 : fx (xs_.set 0 (.ref oP2)) 5 (.ref xst_last) := (st_ne hst_last (by decide))
  have g2_3 : fx (xs_.set 0 (.ref oP2)) 3 (.ref xst_liquid) := (st_ne hst_liquid (by decide))
  have g2_7 : fx (xs_.set 0 (.ref oP2)) 7 (.ref xst_litres) := (st_ne hst_litres (by decide))
  have g2_0 : fx (xs_.set 0 (.ref oP2)) 0 (.ref oP2) := (st_eq hst_plant)
  have g2_2 : fx (xs_.set 0 (.ref oP2)) 2 (.ref xst_position) := (st_ne hst_position (by decide))
  have g2_8 : fx (xs_.set 0 (.ref oP2)) 8 (.ref xst_start) := (st_ne hst_start (by decide))
  have hP : va_P (dC, dI) classes [(oSt, .inr (4, (xs_.set 0 (.ref oP2)))), (xst_position, .inl (cI, 20, .inl (fun _ => 0))), (xst_liquid, .inl (cI, 44, .inl (fun _ => 0))), (xst_amount, .inl (cI, 44, .inl (fun _ => 0))), (xst_last, .inl (cI, 44, .inl (fun _ => 0))), (xst_cleaned, .inl (cI, 264, .inl ((fun _ => (-1))))), (xst_litres, .inl (cJ, 96, .inr (.inl (fun _ => 0)))), (xst_start, .inl (cI, 24, .inl (fun _ => 0)))] H := hP
  have hD : va_D A [(oSt, .inr (4, (xs_.set 0 (.ref oP2)))), (xst_position, .inl (cI, 20, .inl (fun _ => 0))), (xst_liquid, .inl (cI, 44, .inl (fun _ => 0))), (xst_amount, .inl (cI, 44, .inl (fun _ => 0))), (xst_last, .inl (cI, 44, .inl (fun _ => 0))), (xst_cleaned, .inl (cI, 264, .inl ((fun _ => (-1))))), (xst_litres, .inl (cJ, 96, .inr (.inl (fun _ => 0)))), (xst_start, .inl (cI, 24, .inl (fun _ => 0)))] := hD
  refine lv_aload_n hx hb d_St_renew_5 rfl (lv_at hl 0 rfl) ?_
  refine va_get (D := (dC, dI)) (ci := 4) (v := .ref xst_position) (C := R_St) (T := F_St) (N := 12) hx hb hts (fun w h => List.mem_cons_of_mem _ (in_St w h)) hown hK.1 hP 0 rfl rfl 2 (by decide) (hts _ (List.mem_cons_of_mem _ mw_157)) (fun _ h9 => h9) g2_2 d_St_renew_6 ?_
  refine lv_iconst (v := 0) hx hb d_St_renew_9 (by decide) ?_
  have hPc := hP.sub (ws' := [(xst_position, .inl (cI, 20, .inl (fun _ => 0)))]) [1] rfl
  have hDc := hD.sub (ws' := [(xst_position, .inl (cI, 20, .inl (fun _ => 0)))]) [1] (by decide) rfl
  have hFc := va_free (wc := [(xst_position, .inl (cI, 20, .inl (fun _ => 0)))]) hD hS hA [1] rfl
  refine va_callv (va_runS (As := [.ref xst_position, .int 0]) (rest := []) ⟨hx, hb, hml, hown, hts⟩ (c_Ar_fillI l dC dI cI cB cZ cJ 0 xst_position 20 (fun _ => 0) (by decide) H.size) (va_cwS 2 hts (tb_S2 mw_145 mw_146 mw_6 mw_147) rfl rfl rfl ⟨by decide +kernel, by decide +kernel, by decide +kernel⟩ ⟨(Nat.le_of_ble_eq_true rfl), (Nat.le_of_ble_eq_true rfl)⟩) ⟨pw_blind, pw_pre hPc hK hDc⟩ rfl rfl hl.1 rfl (lv_room (Nat.le_of_ble_eq_true rfl)) d_St_renew_10 ⟨(Nat.le_of_ble_eq_true rfl), (Nat.le_of_ble_eq_true rfl)⟩) hS (fun q _ h => hFc q h) hFc (fun u t H locs ht hvm hw hB hz1 hk1 hS => ?_)
  obtain ⟨hP1, hD1⟩ := hB
  rw [ht] at hP1
  obtain ⟨hP, hD⟩ := va_join (wr := [(oSt, .inr (4, (xs_.set 0 (.ref oP2)))), (xst_liquid, .inl (cI, 44, .inl (fun _ => 0))), (xst_amount, .inl (cI, 44, .inl (fun _ => 0))), (xst_last, .inl (cI, 44, .inl (fun _ => 0))), (xst_cleaned, .inl (cI, 264, .inl ((fun _ => (-1))))), (xst_litres, .inl (cJ, 96, .inr (.inl (fun _ => 0)))), (xst_start, .inl (cI, 24, .inl (fun _ => 0)))]) (w1 := [(xst_position, .inl (cI, 20, .inl (fun _ => 0)))]) hP hD [1] [0, 2, 3, 4, 5, 6, 7] rfl rfl (by decide) (by decide) hk1 hFc hP1 hD1
  have hP : va_P (dC, dI) classes [(oSt, .inr (4, (xs_.set 0 (.ref oP2)))), (xst_liquid, .inl (cI, 44, .inl (fun _ => 0))), (xst_amount, .inl (cI, 44, .inl (fun _ => 0))), (xst_last, .inl (cI, 44, .inl (fun _ => 0))), (xst_cleaned, .inl (cI, 264, .inl ((fun _ => (-1))))), (xst_litres, .inl (cJ, 96, .inr (.inl (fun _ => 0)))), (xst_start, .inl (cI, 24, .inl (fun _ => 0))), (xst_position, .inl (cI, 20, .inl (fun _ => 0)))] H := hP
  have hD : va_D A [(oSt, .inr (4, (xs_.set 0 (.ref oP2)))), (xst_liquid, .inl (cI, 44, .inl (fun _ => 0))), (xst_amount, .inl (cI, 44, .inl (fun _ => 0))), (xst_last, .inl (cI, 44, .inl (fun _ => 0))), (xst_cleaned, .inl (cI, 264, .inl ((fun _ => (-1))))), (xst_litres, .inl (cJ, 96, .inr (.inl (fun _ => 0)))), (xst_start, .inl (cI, 24, .inl (fun _ => 0))), (xst_position, .inl (cI, 20, .inl (fun _ => 0)))] := hD
  refine lv_aload_n hx hb d_St_renew_13 rfl (lv_at hl 0 rfl) ?_
  refine va_get (D := (dC, dI)) (ci := 4) (v := .ref xst_liquid) (C := R_St) (T := F_St) (N := 12) hx hb hts (fun w h => List.mem_cons_of_mem _ (in_St w h)) hown hK.1 hP 0 rfl rfl 3 (by decide) (hts _ (List.mem_cons_of_mem _ mw_162)) (fun _ h9 => h9) g2_3 d_St_renew_14 ?_
  refine lv_iconst (v := 0) hx hb d_St_renew_17 (by decide) ?_
  have hPc := hP.sub (ws' := [(xst_liquid, .inl (cI, 44, .inl (fun _ => 0)))]) [1] rfl
  have hDc := hD.sub (ws' := [(xst_liquid, .inl (cI, 44, .inl (fun _ => 0)))]) [1] (by decide) rfl
  have hFc := va_free (wc := [(xst_liquid, .inl (cI, 44, .inl (fun _ => 0)))]) hD hS hA [1] rfl
  refine va_callv (va_runS (As := [.ref xst_liquid, .int 0]) (rest := []) ⟨hx, hb, hml, hown, hts⟩ (c_Ar_fillI l dC dI cI cB cZ cJ 0 xst_liquid 44 (fun _ => 0) (by decide) H.size) (va_cwS 2 hts (tb_S2 mw_145 mw_146 mw_6 mw_147) rfl rfl rfl ⟨by decide +kernel, by decide +kernel, by decide +kernel⟩ ⟨(Nat.le_of_ble_eq_true rfl), (Nat.le_of_ble_eq_true rfl)⟩) ⟨pw_blind, pw_pre hPc hK hDc⟩ rfl rfl hl.1 rfl (lv_room (Nat.le_of_ble_eq_true rfl)) d_St_renew_18 ⟨(Nat.le_of_ble_eq_true rfl), (Nat.le_of_ble_eq_true rfl)⟩) hS (fun q _ h => hFc q h) hFc (fun u t H locs ht hvm hw hB hz1 hk1 hS => ?_)
  obtain ⟨hP1, hD1⟩ := hB
  rw [ht] at hP1
  obtain ⟨hP, hD⟩ := va_join (wr := [(oSt, .inr (4, (xs_.set 0 (.ref oP2)))), (xst_amount, .inl (cI, 44, .inl (fun _ => 0))), (xst_last, .inl (cI, 44, .inl (fun _ => 0))), (xst_cleaned, .inl (cI, 264, .inl ((fun _ => (-1))))), (xst_litres, .inl (cJ, 96, .inr (.inl (fun _ => 0)))), (xst_start, .inl (cI, 24, .inl (fun _ => 0))), (xst_position, .inl (cI, 20, .inl (fun _ => 0)))]) (w1 := [(xst_liquid, .inl (cI, 44, .inl (fun _ => 0)))]) hP hD [1] [0, 2, 3, 4, 5, 6, 7] rfl rfl (by decide) (by decide) hk1 hFc hP1 hD1
  have hP : va_P (dC, dI) classes [(oSt, .inr (4, (xs_.set 0 (.ref oP2)))), (xst_amount, .inl (cI, 44, .inl (fun _ => 0))), (xst_last, .inl (cI, 44, .inl (fun _ => 0))), (xst_cleaned, .inl (cI, 264, .inl ((fun _ => (-1))))), (xst_litres, .inl (cJ, 96, .inr (.inl (fun _ => 0)))), (xst_start, .inl (cI, 24, .inl (fun _ => 0))), (xst_position, .inl (cI, 20, .inl (fun _ => 0))), (xst_liquid, .inl (cI, 44, .inl (fun _ => 0)))] H := hP
  have hD : va_D A [(oSt, .inr (4, (xs_.set 0 (.ref oP2)))), (xst_amount, .inl (cI, 44, .inl (fun _ => 0))), (xst_last, .inl (cI, 44, .inl (fun _ => 0))), (xst_cleaned, .inl (cI, 264, .inl ((fun _ => (-1))))), (xst_litres, .inl (cJ, 96, .inr (.inl (fun _ => 0)))), (xst_start, .inl (cI, 24, .inl (fun _ => 0))), (xst_position, .inl (cI, 20, .inl (fun _ => 0))), (xst_liquid, .inl (cI, 44, .inl (fun _ => 0)))] := hD
  refine lv_aload_n hx hb d_St_renew_21 rfl (lv_at hl 0 rfl) ?_
  refine va_get (D := (dC, dI)) (ci := 4) (v := .ref xst_amount) (C := R_St) (T := F_St) (N := 12) hx hb hts (fun w h => List.mem_cons_of_mem _ (in_St w h)) hown hK.1 hP 0 rfl rfl 4 (by decide) (hts _ (List.mem_cons_of_mem _ mw_167)) (fun _ h9 => h9) g2_4 d_St_renew_22 ?_
  refine lv_iconst (v := 0) hx hb d_St_renew_25 (by decide) ?_
  have hPc := hP.sub (ws' := [(xst_amount, .inl (cI, 44, .inl (fun _ => 0)))]) [1] rfl
  have hDc := hD.sub (ws' := [(xst_amount, .inl (cI, 44, .inl (fun _ => 0)))]) [1] (by decide) rfl
  have hFc := va_free (wc := [(xst_amount, .inl (cI, 44, .inl (fun _ => 0)))]) hD hS hA [1] rfl
  refine va_callv (va_runS (As := [.ref xst_amount, .int 0]) (rest := []) ⟨hx, hb, hml, hown, hts⟩ (c_Ar_fillI l dC dI cI cB cZ cJ 0 xst_amount 44 (fun _ => 0) (by decide) H.size) (va_cwS 2 hts (tb_S2 mw_145 mw_146 mw_6 mw_147) rfl rfl rfl ⟨by decide +kernel, by decide +kernel, by decide +kernel⟩ ⟨(Nat.le_of_ble_eq_true rfl), (Nat.le_of_ble_eq_true rfl)⟩) ⟨pw_blind, pw_pre hPc hK hDc⟩ rfl rfl hl.1 rfl (lv_room (Nat.le_of_ble_eq_true rfl)) d_St_renew_26 ⟨(Nat.le_of_ble_eq_true rfl), (Nat.le_of_ble_eq_true rfl)⟩) hS (fun q _ h => hFc q h) hFc (fun u t H locs ht hvm hw hB hz1 hk1 hS => ?_)
  obtain ⟨hP1, hD1⟩ := hB
  rw [ht] at hP1
  obtain ⟨hP, hD⟩ := va_join (wr := [(oSt, .inr (4, (xs_.set 0 (.ref oP2)))), (xst_last, .inl (cI, 44, .inl (fun _ => 0))), (xst_cleaned, .inl (cI, 264, .inl ((fun _ => (-1))))), (xst_litres, .inl (cJ, 96, .inr (.inl (fun _ => 0)))), (xst_start, .inl (cI, 24, .inl (fun _ => 0))), (xst_position, .inl (cI, 20, .inl (fun _ => 0))), (xst_liquid, .inl (cI, 44, .inl (fun _ => 0)))]) (w1 := [(xst_amount, .inl (cI, 44, .inl (fun _ => 0)))]) hP hD [1] [0, 2, 3, 4, 5, 6, 7] rfl rfl (by decide) (by decide) hk1 hFc hP1 hD1
  have hP : va_P (dC, dI) classes [(oSt, .inr (4, (xs_.set 0 (.ref oP2)))), (xst_last, .inl (cI, 44, .inl (fun _ => 0))), (xst_cleaned, .inl (cI, 264, .inl ((fun _ => (-1))))), (xst_litres, .inl (cJ, 96, .inr (.inl (fun _ => 0)))), (xst_start, .inl (cI, 24, .inl (fun _ => 0))), (xst_position, .inl (cI, 20, .inl (fun _ => 0))), (xst_liquid, .inl (cI, 44, .inl (fun _ => 0))), (xst_amount, .inl (cI, 44, .inl (fun _ => 0)))] H := hP
  have hD : va_D A [(oSt, .inr (4, (xs_.set 0 (.ref oP2)))), (xst_last, .inl (cI, 44, .inl (fun _ => 0))), (xst_cleaned, .inl (cI, 264, .inl ((fun _ => (-1))))), (xst_litres, .inl (cJ, 96, .inr (.inl (fun _ => 0)))), (xst_start, .inl (cI, 24, .inl (fun _ => 0))), (xst_position, .inl (cI, 20, .inl (fun _ => 0))), (xst_liquid, .inl (cI, 44, .inl (fun _ => 0))), (xst_amount, .inl (cI, 44, .inl (fun _ => 0)))] := hD
  refine lv_aload_n hx hb d_St_renew_29 rfl (lv_at hl 0 rfl) ?_
  refine va_get (D := (dC, dI)) (ci := 4) (v := .ref xst_last) (C := R_St) (T := F_St) (N := 12) hx hb hts (fun w h => List.mem_cons_of_mem _ (in_St w h)) hown hK.1 hP 0 rfl rfl 5 (by decide) (hts _ (List.mem_cons_of_mem _ mw_171)) (fun _ h9 => h9) g2_5 d_St_renew_30 ?_
  refine lv_iconst (v := 0) hx hb d_St_renew_33 (by decide) ?_
  have hPc := hP.sub (ws' := [(xst_last, .inl (cI, 44, .inl (fun _ => 0)))]) [1] rfl
  have hDc := hD.sub (ws' := [(xst_last, .inl (cI, 44, .inl (fun _ => 0)))]) [1] (by decide) rfl
  have hFc := va_free (wc := [(xst_last, .inl (cI, 44, .inl (fun _ => 0)))]) hD hS hA [1] rfl
  refine va_callv (va_runS (As := [.ref xst_last, .int 0]) (rest := []) ⟨hx, hb, hml, hown, hts⟩ (c_Ar_fillI l dC dI cI cB cZ cJ 0 xst_last 44 (fun _ => 0) (by decide) H.size) (va_cwS 2 hts (tb_S2 mw_145 mw_146 mw_6 mw_147) rfl rfl rfl ⟨by decide +kernel, by decide +kernel, by decide +kernel⟩ ⟨(Nat.le_of_ble_eq_true rfl), (Nat.le_of_ble_eq_true rfl)⟩) ⟨pw_blind, pw_pre hPc hK hDc⟩ rfl rfl hl.1 rfl (lv_room (Nat.le_of_ble_eq_true rfl)) d_St_renew_34 ⟨(Nat.le_of_ble_eq_true rfl), (Nat.le_of_ble_eq_true rfl)⟩) hS (fun q _ h => hFc q h) hFc (fun u t H locs ht hvm hw hB hz1 hk1 hS => ?_)
  obtain ⟨hP1, hD1⟩ := hB
  rw [ht] at hP1
  obtain ⟨hP, hD⟩ := va_join (wr := [(oSt, .inr (4, (xs_.set 0 (.ref oP2)))), (xst_cleaned, .inl (cI, 264, .inl ((fun _ => (-1))))), (xst_litres, .inl (cJ, 96, .inr (.inl (fun _ => 0)))), (xst_start, .inl (cI, 24, .inl (fun _ => 0))), (xst_position, .inl (cI, 20, .inl (fun _ => 0))), (xst_liquid, .inl (cI, 44, .inl (fun _ => 0))), (xst_amount, .inl (cI, 44, .inl (fun _ => 0)))]) (w1 := [(xst_last, .inl (cI, 44, .inl (fun _ => 0)))]) hP hD [1] [0, 2, 3, 4, 5, 6, 7] rfl rfl (by decide) (by decide) hk1 hFc hP1 hD1
  have hP : va_P (dC, dI) classes [(oSt, .inr (4, (xs_.set 0 (.ref oP2)))), (xst_cleaned, .inl (cI, 264, .inl ((fun _ => (-1))))), (xst_litres, .inl (cJ, 96, .inr (.inl (fun _ => 0)))), (xst_start, .inl (cI, 24, .inl (fun _ => 0))), (xst_position, .inl (cI, 20, .inl (fun _ => 0))), (xst_liquid, .inl (cI, 44, .inl (fun _ => 0))), (xst_amount, .inl (cI, 44, .inl (fun _ => 0))), (xst_last, .inl (cI, 44, .inl (fun _ => 0)))] H := hP
  have hD : va_D A [(oSt, .inr (4, (xs_.set 0 (.ref oP2)))), (xst_cleaned, .inl (cI, 264, .inl ((fun _ => (-1))))), (xst_litres, .inl (cJ, 96, .inr (.inl (fun _ => 0)))), (xst_start, .inl (cI, 24, .inl (fun _ => 0))), (xst_position, .inl (cI, 20, .inl (fun _ => 0))), (xst_liquid, .inl (cI, 44, .inl (fun _ => 0))), (xst_amount, .inl (cI, 44, .inl (fun _ => 0))), (xst_last, .inl (cI, 44, .inl (fun _ => 0)))] := hD
  refine lv_aload_n hx hb d_St_renew_37 rfl (lv_at hl 0 rfl) ?_
  refine va_get (D := (dC, dI)) (ci := 4) (v := .ref xst_cleaned) (C := R_St) (T := F_St) (N := 12) hx hb hts (fun w h => List.mem_cons_of_mem _ (in_St w h)) hown hK.1 hP 0 rfl rfl 6 (by decide) (hts _ (List.mem_cons_of_mem _ mw_173)) (fun _ h9 => h9) g2_6 d_St_renew_38 ?_
  refine lv_iconst (v := (-1)) hx hb d_St_renew_41 (by decide) ?_
  have hPc := hP.sub (ws' := [(xst_cleaned, .inl (cI, 264, .inl ((fun _ => (-1)))))]) [1] rfl
  have hDc := hD.sub (ws' := [(xst_cleaned, .inl (cI, 264, .inl ((fun _ => (-1)))))]) [1] (by decide) rfl
  have hFc := va_free (wc := [(xst_cleaned, .inl (cI, 264, .inl ((fun _ => (-1)))))]) hD hS hA [1] rfl
  refine va_callv (va_runS (As := [.ref xst_cleaned, .int (-1)]) (rest := []) ⟨hx, hb, hml, hown, hts⟩ (c_Ar_fillI l dC dI cI cB cZ cJ (-1) xst_cleaned 264 ((fun _ => (-1))) (by decide) H.size) (va_cwS 2 hts (tb_S2 mw_145 mw_146 mw_6 mw_147) rfl rfl rfl ⟨by decide +kernel, by decide +kernel, by decide +kernel⟩ ⟨(Nat.le_of_ble_eq_true rfl), (Nat.le_of_ble_eq_true rfl)⟩) ⟨pw_blind, pw_pre hPc hK hDc⟩ rfl rfl hl.1 rfl (lv_room (Nat.le_of_ble_eq_true rfl)) d_St_renew_42 ⟨(Nat.le_of_ble_eq_true rfl), (Nat.le_of_ble_eq_true rfl)⟩) hS (fun q _ h => hFc q h) hFc (fun u t H locs ht hvm hw hB hz1 hk1 hS => ?_)
  obtain ⟨hP1, hD1⟩ := hB
  rw [ht] at hP1
  obtain ⟨hP, hD⟩ := va_join (wr := [(oSt, .inr (4, (xs_.set 0 (.ref oP2)))), (xst_litres, .inl (cJ, 96, .inr (.inl (fun _ => 0)))), (xst_start, .inl (cI, 24, .inl (fun _ => 0))), (xst_position, .inl (cI, 20, .inl (fun _ => 0))), (xst_liquid, .inl (cI, 44, .inl (fun _ => 0))), (xst_amount, .inl (cI, 44, .inl (fun _ => 0))), (xst_last, .inl (cI, 44, .inl (fun _ => 0)))]) (w1 := [(xst_cleaned, .inl (cI, 264, .inl ((fun _ => (-1)))))]) hP hD [1] [0, 2, 3, 4, 5, 6, 7] rfl rfl (by decide) (by decide) hk1 hFc hP1 hD1
  have hP : va_P (dC, dI) classes [(oSt, .inr (4, (xs_.set 0 (.ref oP2)))), (xst_litres, .inl (cJ, 96, .inr (.inl (fun _ => 0)))), (xst_start, .inl (cI, 24, .inl (fun _ => 0))), (xst_position, .inl (cI, 20, .inl (fun _ => 0))), (xst_liquid, .inl (cI, 44, .inl (fun _ => 0))), (xst_amount, .inl (cI, 44, .inl (fun _ => 0))), (xst_last, .inl (cI, 44, .inl (fun _ => 0))), (xst_cleaned, .inl (cI, 264, .inl ((fun _ => (-1)))))] H := hP
  have hD : va_D A [(oSt, .inr (4, (xs_.set 0 (.ref oP2)))), (xst_litres, .inl (cJ, 96, .inr (.inl (fun _ => 0)))), (xst_start, .inl (cI, 24, .inl (fun _ => 0))), (xst_position, .inl (cI, 20, .inl (fun _ => 0))), (xst_liquid, .inl (cI, 44, .inl (fun _ => 0))), (xst_amount, .inl (cI, 44, .inl (fun _ => 0))), (xst_last, .inl (cI, 44, .inl (fun _ => 0))), (xst_cleaned, .inl (cI, 264, .inl ((fun _ => (-1)))))] := hD
  refine lv_aload_n hx hb d_St_renew_45 rfl (lv_at hl 0 rfl) ?_
  refine va_get (D := (dC, dI)) (ci := 4) (v := .ref xst_litres) (C := R_St) (T := F_St) (N := 12) hx hb hts (fun w h => List.mem_cons_of_mem _ (in_St w h)) hown hK.1 hP 0 rfl rfl 7 (by decide) (hts _ (List.mem_cons_of_mem _ mw_174)) (fun _ h9 => h9) g2_7 d_St_renew_46 ?_
  refine lv_lconst (v := 0) hx hb d_St_renew_49 (by decide) ?_
  have hPc := hP.sub (ws' := [(xst_litres, .inl (cJ, 96, .inr (.inl (fun _ => 0))))]) [1] rfl
  have hDc := hD.sub (ws' := [(xst_litres, .inl (cJ, 96, .inr (.inl (fun _ => 0))))]) [1] (by decide) rfl
  have hFc := va_free (wc := [(xst_litres, .inl (cJ, 96, .inr (.inl (fun _ => 0))))]) hD hS hA [1] rfl
  refine va_callv (va_runS (As := [.ref xst_litres, .long 0]) (rest := []) ⟨hx, hb, hml, hown, hts⟩ (c_Ar_fillJ l dC dI cI cB cZ cJ 0 xst_litres 96 (fun _ => 0) (by decide) H.size) (va_cwS 2 hts (tb_S2 mw_1020 mw_1021 mw_6 mw_1022) rfl rfl rfl ⟨by decide +kernel, by decide +kernel, by decide +kernel⟩ ⟨(Nat.le_of_ble_eq_true rfl), (Nat.le_of_ble_eq_true rfl)⟩) ⟨pw_blind, pw_pre hPc hK hDc⟩ rfl rfl hl.1 rfl (lv_room (Nat.le_of_ble_eq_true rfl)) d_St_renew_50 ⟨(Nat.le_of_ble_eq_true rfl), (Nat.le_of_ble_eq_true rfl)⟩) hS (fun q _ h => hFc q h) hFc (fun u t H locs ht hvm hw hB hz1 hk1 hS => ?_)
  obtain ⟨hP1, hD1⟩ := hB
  rw [ht] at hP1
  obtain ⟨hP, hD⟩ := va_join (wr := [(oSt, .inr (4, (xs_.set 0 (.ref oP2)))), (xst_start, .inl (cI, 24, .inl (fun _ => 0))), (xst_position, .inl (cI, 20, .inl (fun _ => 0))), (xst_liquid, .inl (cI, 44, .inl (fun _ => 0))), (xst_amount, .inl (cI, 44, .inl (fun _ => 0))), (xst_last, .inl (cI, 44, .inl (fun _ => 0))), (xst_cleaned, .inl (cI, 264, .inl ((fun _ => (-1)))))]) (w1 := [(xst_litres, .inl (cJ, 96, .inr (.inl (fun _ => 0))))]) hP hD [1] [0, 2, 3, 4, 5, 6, 7] rfl rfl (by decide) (by decide) hk1 hFc hP1 hD1
  have hP : va_P (dC, dI) classes [(oSt, .inr (4, (xs_.set 0 (.ref oP2)))), (xst_start, .inl (cI, 24, .inl (fun _ => 0))), (xst_position, .inl (cI, 20, .inl (fun _ => 0))), (xst_liquid, .inl (cI, 44, .inl (fun _ => 0))), (xst_amount, .inl (cI, 44, .inl (fun _ => 0))), (xst_last, .inl (cI, 44, .inl (fun _ => 0))), (xst_cleaned, .inl (cI, 264, .inl ((fun _ => (-1))))), (xst_litres, .inl (cJ, 96, .inr (.inl (fun _ => 0))))] H := hP
  have hD : va_D A [(oSt, .inr (4, (xs_.set 0 (.ref oP2)))), (xst_start, .inl (cI, 24, .inl (fun _ => 0))), (xst_position, .inl (cI, 20, .inl (fun _ => 0))), (xst_liquid, .inl (cI, 44, .inl (fun _ => 0))), (xst_amount, .inl (cI, 44, .inl (fun _ => 0))), (xst_last, .inl (cI, 44, .inl (fun _ => 0))), (xst_cleaned, .inl (cI, 264, .inl ((fun _ => (-1))))), (xst_litres, .inl (cJ, 96, .inr (.inl (fun _ => 0))))] := hD
  refine lv_aload_n hx hb d_St_renew_53 rfl (lv_at hl 0 rfl) ?_
  refine va_get (D := (dC, dI)) (ci := 4) (v := .ref xst_start) (C := R_St) (T := F_St) (N := 12) hx hb hts (fun w h => List.mem_cons_of_mem _ (in_St w h)) hown hK.1 hP 0 rfl rfl 8 (by decide) (hts _ (List.mem_cons_of_mem _ mw_175)) (fun _ h9 => h9) g2_8 d_St_renew_54 ?_
  refine lv_iconst (v := 0) hx hb d_St_renew_57 (by decide) ?_
  have hPc := hP.sub (ws' := [(xst_start, .inl (cI, 24, .inl (fun _ => 0)))]) [1] rfl
  have hDc := hD.sub (ws' := [(xst_start, .inl (cI, 24, .inl (fun _ => 0)))]) [1] (by decide) rfl
  have hFc := va_free (wc := [(xst_start, .inl (cI, 24, .inl (fun _ => 0)))]) hD hS hA [1] rfl
  refine va_callv (va_runS (As := [.ref xst_start, .int 0]) (rest := []) ⟨hx, hb, hml, hown, hts⟩ (c_Ar_fillI l dC dI cI cB cZ cJ 0 xst_start 24 (fun _ => 0) (by decide) H.size) (va_cwS 2 hts (tb_S2 mw_145 mw_146 mw_6 mw_147) rfl rfl rfl ⟨by decide +kernel, by decide +kernel, by decide +kernel⟩ ⟨(Nat.le_of_ble_eq_true rfl), (Nat.le_of_ble_eq_true rfl)⟩) ⟨pw_blind, pw_pre hPc hK hDc⟩ rfl rfl hl.1 rfl (lv_room (Nat.le_of_ble_eq_true rfl)) d_St_renew_58 ⟨(Nat.le_of_ble_eq_true rfl), (Nat.le_of_ble_eq_true rfl)⟩) hS (fun q _ h => hFc q h) hFc (fun u t H locs ht hvm hw hB hz1 hk1 hS => ?_)
  obtain ⟨hP1, hD1⟩ := hB
  rw [ht] at hP1
  obtain ⟨hP, hD⟩ := va_join (wr := [(oSt, .inr (4, (xs_.set 0 (.ref oP2)))), (xst_position, .inl (cI, 20, .inl (fun _ => 0))), (xst_liquid, .inl (cI, 44, .inl (fun _ => 0))), (xst_amount, .inl (cI, 44, .inl (fun _ => 0))), (xst_last, .inl (cI, 44, .inl (fun _ => 0))), (xst_cleaned, .inl (cI, 264, .inl ((fun _ => (-1))))), (xst_litres, .inl (cJ, 96, .inr (.inl (fun _ => 0))))]) (w1 := [(xst_start, .inl (cI, 24, .inl (fun _ => 0)))]) hP hD [1] [0, 2, 3, 4, 5, 6, 7] rfl rfl (by decide) (by decide) hk1 hFc hP1 hD1
  have hP : va_P (dC, dI) classes [(oSt, .inr (4, (xs_.set 0 (.ref oP2)))), (xst_position, .inl (cI, 20, .inl (fun _ => 0))), (xst_liquid, .inl (cI, 44, .inl (fun _ => 0))), (xst_amount, .inl (cI, 44, .inl (fun _ => 0))), (xst_last, .inl (cI, 44, .inl (fun _ => 0))), (xst_cleaned, .inl (cI, 264, .inl ((fun _ => (-1))))), (xst_litres, .inl (cJ, 96, .inr (.inl (fun _ => 0)))), (xst_start, .inl (cI, 24, .inl (fun _ => 0)))] H := hP
  have hD : va_D A [(oSt, .inr (4, (xs_.set 0 (.ref oP2)))), (xst_position, .inl (cI, 20, .inl (fun _ => 0))), (xst_liquid, .inl (cI, 44, .inl (fun _ => 0))), (xst_amount, .inl (cI, 44, .inl (fun _ => 0))), (xst_last, .inl (cI, 44, .inl (fun _ => 0))), (xst_cleaned, .inl (cI, 264, .inl ((fun _ => (-1))))), (xst_litres, .inl (cJ, 96, .inr (.inl (fun _ => 0)))), (xst_start, .inl (cI, 24, .inl (fun _ => 0)))] := hD
  exact W.vret hx hb hr (fun t ht hW => ⟨⟨(), rfl, trivial, ⟨(xs_.set 0 (.ref oP2)), g2_0, g2_2, g2_3, g2_4, g2_5, g2_6, g2_7, g2_8, by rw [ht]; exact hP, hD⟩⟩, hS.F ht⟩) hS.2.2 d_St_renew_61
abbrev t_Wa_forget_34 : List UInt8 := 177 :: []
abbrev t_Wa_forget_31 : List UInt8 := 184 :: 0 :: 69 :: t_Wa_forget_34
abbrev t_Wa_forget_30 : List UInt8 := 3 :: t_Wa_forget_31
abbrev t_Wa_forget_27 : List UInt8 := 180 :: 0 :: 43 :: t_Wa_forget_30
abbrev t_Wa_forget_26 : List UInt8 := 42 :: t_Wa_forget_27
abbrev t_Wa_forget_23 : List UInt8 := 167 :: 255 :: 240 :: t_Wa_forget_26
abbrev t_Wa_forget_20 : List UInt8 := 132 :: 1 :: 1 :: t_Wa_forget_23
abbrev t_Wa_forget_19 : List UInt8 := 84 :: t_Wa_forget_20
abbrev t_Wa_forget_18 : List UInt8 := 3 :: t_Wa_forget_19
abbrev t_Wa_forget_17 : List UInt8 := 27 :: t_Wa_forget_18
abbrev t_Wa_forget_14 : List UInt8 := 180 :: 0 :: 39 :: t_Wa_forget_17
abbrev t_Wa_forget_13 : List UInt8 := 42 :: t_Wa_forget_14
abbrev t_Wa_forget_10 : List UInt8 := 162 :: 0 :: 16 :: t_Wa_forget_13
abbrev t_Wa_forget_8 : List UInt8 := 16 :: 24 :: t_Wa_forget_10
abbrev t_Wa_forget_7 : List UInt8 := 27 :: t_Wa_forget_8
abbrev t_Wa_forget_6 : List UInt8 := 60 :: t_Wa_forget_7
abbrev t_Wa_forget_5 : List UInt8 := 3 :: t_Wa_forget_6
abbrev t_Wa_forget_2 : List UInt8 := 181 :: 0 :: 65 :: t_Wa_forget_5
abbrev t_Wa_forget_1 : List UInt8 := 3 :: t_Wa_forget_2
abbrev t_Wa_forget_0 : List UInt8 := 42 :: t_Wa_forget_1
theorem a_Wa_forget_0 : dk_at b_Wa_forget 0 t_Wa_forget_0 := dk_start (by decide +kernel)
theorem a_Wa_forget_1 : dk_at b_Wa_forget 1 t_Wa_forget_1 := dk_go 1 a_Wa_forget_0 rfl
theorem a_Wa_forget_2 : dk_at b_Wa_forget 2 t_Wa_forget_2 := dk_go 1 a_Wa_forget_1 rfl
theorem a_Wa_forget_5 : dk_at b_Wa_forget 5 t_Wa_forget_5 := dk_go 3 a_Wa_forget_2 rfl
theorem a_Wa_forget_6 : dk_at b_Wa_forget 6 t_Wa_forget_6 := dk_go 1 a_Wa_forget_5 rfl
theorem a_Wa_forget_7 : dk_at b_Wa_forget 7 t_Wa_forget_7 := dk_go 1 a_Wa_forget_6 rfl
theorem a_Wa_forget_8 : dk_at b_Wa_forget 8 t_Wa_forget_8 := dk_go 1 a_Wa_forget_7 rfl
theorem a_Wa_forget_10 : dk_at b_Wa_forget 10 t_Wa_forget_10 := dk_go 2 a_Wa_forget_8 rfl
theorem a_Wa_forget_13 : dk_at b_Wa_forget 13 t_Wa_forget_13 := dk_go 3 a_Wa_forget_10 rfl
theorem a_Wa_forget_14 : dk_at b_Wa_forget 14 t_Wa_forget_14 := dk_go 1 a_Wa_forget_13 rfl
theorem a_Wa_forget_17 : dk_at b_Wa_forget 17 t_Wa_forget_17 := dk_go 3 a_Wa_forget_14 rfl
theorem a_Wa_forget_18 : dk_at b_Wa_forget 18 t_Wa_forget_18 := dk_go 1 a_Wa_forget_17 rfl
theorem a_Wa_forget_19 : dk_at b_Wa_forget 19 t_Wa_forget_19 := dk_go 1 a_Wa_forget_18 rfl
theorem a_Wa_forget_20 : dk_at b_Wa_forget 20 t_Wa_forget_20 := dk_go 1 a_Wa_forget_19 rfl
theorem a_Wa_forget_23 : dk_at b_Wa_forget 23 t_Wa_forget_23 := dk_go 3 a_Wa_forget_20 rfl
theorem a_Wa_forget_26 : dk_at b_Wa_forget 26 t_Wa_forget_26 := dk_go 3 a_Wa_forget_23 rfl
theorem a_Wa_forget_27 : dk_at b_Wa_forget 27 t_Wa_forget_27 := dk_go 1 a_Wa_forget_26 rfl
theorem a_Wa_forget_30 : dk_at b_Wa_forget 30 t_Wa_forget_30 := dk_go 3 a_Wa_forget_27 rfl
theorem a_Wa_forget_31 : dk_at b_Wa_forget 31 t_Wa_forget_31 := dk_go 1 a_Wa_forget_30 rfl
theorem a_Wa_forget_34 : dk_at b_Wa_forget 34 t_Wa_forget_34 := dk_go 3 a_Wa_forget_31 rfl
theorem d_Wa_forget_0 : decode b_Wa_forget 0 = .ok (.aload_n 0, 1) := dk_0 a_Wa_forget_0 (dko_42 _)
theorem d_Wa_forget_1 : decode b_Wa_forget 1 = .ok (.iconst 0, 1) := dk_0 a_Wa_forget_1 (dko_3 _)
theorem d_Wa_forget_2 : decode b_Wa_forget 2 = .ok (.putfield 65, 3) := dk_U2 a_Wa_forget_2 (dko_181 _) rfl
theorem d_Wa_forget_5 : decode b_Wa_forget 5 = .ok (.iconst 0, 1) := dk_0 a_Wa_forget_5 (dko_3 _)
theorem d_Wa_forget_6 : decode b_Wa_forget 6 = .ok (.istore_n 1, 1) := dk_0 a_Wa_forget_6 (dko_60 _)
theorem d_Wa_forget_7 : decode b_Wa_forget 7 = .ok (.iload_n 1, 1) := dk_0 a_Wa_forget_7 (dko_27 _)
theorem d_Wa_forget_8 : decode b_Wa_forget 8 = .ok (.bipush 24, 2) := dk_S1 a_Wa_forget_8 (dko_16 _) (by decide +kernel)
theorem d_Wa_forget_10 : decode b_Wa_forget 10 = .ok (.if_icmp .ge 16, 3) := dk_S2 a_Wa_forget_10 (dko_162 _) (by decide +kernel)
theorem d_Wa_forget_13 : decode b_Wa_forget 13 = .ok (.aload_n 0, 1) := dk_0 a_Wa_forget_13 (dko_42 _)
theorem d_Wa_forget_14 : decode b_Wa_forget 14 = .ok (.getfield 39, 3) := dk_U2 a_Wa_forget_14 (dko_180 _) rfl
theorem d_Wa_forget_17 : decode b_Wa_forget 17 = .ok (.iload_n 1, 1) := dk_0 a_Wa_forget_17 (dko_27 _)
theorem d_Wa_forget_18 : decode b_Wa_forget 18 = .ok (.iconst 0, 1) := dk_0 a_Wa_forget_18 (dko_3 _)
theorem d_Wa_forget_19 : decode b_Wa_forget 19 = .ok (.bastore, 1) := dk_0 a_Wa_forget_19 (dko_84 _)
theorem d_Wa_forget_20 : decode b_Wa_forget 20 = .ok (.iinc 1 1, 3) := dk_US a_Wa_forget_20 (dko_132 _) (by decide +kernel)
theorem d_Wa_forget_23 : decode b_Wa_forget 23 = .ok (.goto (-16), 3) := dk_S2 a_Wa_forget_23 (dko_167 _) (by decide +kernel)
theorem d_Wa_forget_26 : decode b_Wa_forget 26 = .ok (.aload_n 0, 1) := dk_0 a_Wa_forget_26 (dko_42 _)
theorem d_Wa_forget_27 : decode b_Wa_forget 27 = .ok (.getfield 43, 3) := dk_U2 a_Wa_forget_27 (dko_180 _) rfl
theorem d_Wa_forget_30 : decode b_Wa_forget 30 = .ok (.iconst 0, 1) := dk_0 a_Wa_forget_30 (dko_3 _)
theorem d_Wa_forget_31 : decode b_Wa_forget 31 = .ok (.invokestatic 69, 3) := dk_U2 a_Wa_forget_31 (dko_184 _) rfl
theorem d_Wa_forget_34 : decode b_Wa_forget 34 = .ok (.return_, 1) := dk_0 a_Wa_forget_34 (dko_177 _)
set_option maxHeartbeats 4000000 in
set_option maxRecDepth 100000 in
theorem c_Wa_forget (l : Launch) (dC : Nat → ClassId) (dI : Nat → Nat → Nat) (cI cB cZ cJ : ClassId) (oWa : Nat) (xw_taken : Nat) (xw_over : Nat) (xw : List Value) (hwa_count : fx xw 1 (.int 0)) (hwa_taken : fx xw 11 (.ref xw_taken)) (hwa_over : fx xw 12 (.ref xw_over)) (sz : Nat) : Met l y_Wa_forget w_Wa_forget ({ frames := 1, cells := 0, slots := 0, locals := 23 }) (va_Pc [.ref oWa] (PW dC dI cI cB cZ cJ [(oWa, .inr (5, xw)), (xw_taken, .inl (cZ, 24, .inl (fun _ => 0))), (xw_over, .inl (cI, 20, .inl (fun _ => 0)))] sz)) (va_Qv (fun _ : Unit => True) (fun (_ : Unit) (t : State) => ∃ (n_xw : List Value) (n_xw_taken : Nat → Int32), fx n_xw 1 (.int 0) ∧ fx n_xw 11 (.ref xw_taken) ∧ fx n_xw 12 (.ref xw_over) ∧ va_P (dC, dI) classes [(oWa, .inr (5, n_xw)), (xw_taken, .inl (cZ, 24, .inl n_xw_taken)), (xw_over, .inl (cI, 20, .inl (fun _ => 0)))] t.heap ∧ va_D (va_A [(oWa, .inr (5, xw)), (xw_taken, .inl (cZ, 24, .inl (fun _ => 0))), (xw_over, .inl (cI, 20, .inl (fun _ => 0)))] sz) [(oWa, .inr (5, n_xw)), (xw_taken, .inl (cZ, 24, .inl n_xw_taken)), (xw_over, .inl (cI, 20, .inl (fun _ => 0)))]) (va_A [(oWa, .inr (5, xw)), (xw_taken, .inl (cZ, 24, .inl (fun _ => 0))), (xw_over, .inl (cI, 20, .inl (fun _ => 0)))] sz)) 0 0 (va_A [(oWa, .inr (5, xw)), (xw_taken, .inl (cZ, 24, .inl (fun _ => 0))), (xw_over, .inl (cI, 20, .inl (fun _ => 0)))] sz) := by
  refine Met.ofW (cc := b_Wa_forget) (maxL := 2) (ret := none) (by decide) rfl ?_
  intro p e s m args below meth c s₁ B hml hv
  obtain ⟨rfl, hsz, hP, hK, hD⟩ := hv
  have hx := B.exec
  have hb := B.bytes
  have hr := B.returns
  have hts := atoms_spec (ws := w_Wa_forget) B.pre
  have hown : s.vm.findClass R_Wa = some m.cls := findClass_of_methodNamed B.named
  have hlocks := B.notSynchronized
  subst hsz
  have hD := hD.self (sz := s.heap.size)
  generalize hAe : va_A [(oWa, .inr (5, xw)), (xw_taken, .inl (cZ, 24, .inl (fun _ => 0))), (xw_over, .inl (cI, 20, .inl (fun _ => 0)))] s.heap.size = A at hD ⊢
  have hA : ∀ q : Nat, s.heap.size ≤ q → A q := fun q h => by rw [← hAe]; exact Or.inr h
  have hS : va_S A s.heap s.heap [] := va_S.rf
  have hP : va_P (dC, dI) classes [(oWa, .inr (5, xw)), (xw_taken, .inl (cZ, 24, .inl (fun _ => 0))), (xw_over, .inl (cI, 20, .inl (fun _ => 0)))] s.heap := hP
  have hl := lv_entry ([.ref oWa]) (n := 2) (Nat.le_of_ble_eq_true rfl)
  rw [lg_entry_eq]
  generalize (lg_sl ([.ref oWa]) ++ List.replicate (2 - (lg_sl ([.ref oWa])).length) Slot.unset).toArray = ls at hl ⊢
  have hl : lv_has ls 2 [(0, .ref oWa)] := hl
  refine lv_aload_n hx hb d_Wa_forget_0 rfl (lv_at hl 0 rfl) ?_
  refine lv_iconst (v := 0) hx hb d_Wa_forget_1 (by decide) ?_
  refine va_put (D := (dC, dI)) (ci := 5) (v := .int 0) (ty := .int) (C := R_Wa) (T := F_Wa) (N := 18) hx hb hts (fun w h => List.mem_cons_of_mem _ (in_Wa w h)) t_Wa t_Wa_ok n_Wa hown hK.1 hP hD hS 0 rfl rfl 1 (by decide) (hts _ (List.mem_cons_of_mem _ mw_218)) (fun _ h9 => h9) rfl (by decide +kernel) rfl rfl (st_lt hwa_count) d_Wa_forget_2 (fun H locs hP hD hS => ?_)
  have g2_1 : fx (xw.set 1 (.int 0)) 1 (.int 0) := (st_eq hwa_count)
  have g2_12 : fx (xw.set 1 (.int 0)) 12 (.ref xw_over) := (st_ne hwa_over (by decide))
  have g2_11 : fx (xw.set 1 (.int 0)) 11 (.ref xw_taken) := (st_ne hwa_taken (by decide))
  have hP : va_P (dC, dI) classes [(oWa, .inr (5, (xw.set 1 (.int 0)))), (xw_taken, .inl (cZ, 24, .inl (fun _ => 0))), (xw_over, .inl (cI, 20, .inl (fun _ => 0)))] H := hP
  have hD : va_D A [(oWa, .inr (5, (xw.set 1 (.int 0)))), (xw_taken, .inl (cZ, 24, .inl (fun _ => 0))), (xw_over, .inl (cI, 20, .inl (fun _ => 0)))] := hD
  refine lv_iconst (v := 0) hx hb d_Wa_forget_5 (by decide) ?_
  refine lv_istore_n hx hb d_Wa_forget_6 rfl hl (by decide) rfl (fun ls hl => ?_)
  have hl : lv_has ls 2 [(1, .int 0), (0, .ref oWa)] := hl
  have hl : lv_has ls 2 [(1, .int (nI 0)), (0, .ref oWa)] := lv_sub hl [0, 1] rfl
  refine lp_ind (σ := (Nat → Int32)) (fun i x H locs ls => va_P (dC, dI) classes [(oWa, .inr (5, (xw.set 1 (.int 0)))), (xw_taken, .inl (cZ, 24, .inl x)), (xw_over, .inl (cI, 20, .inl (fun _ => 0)))] H ∧ va_D A [(oWa, .inr (5, (xw.set 1 (.int 0)))), (xw_taken, .inl (cZ, 24, .inl x)), (xw_over, .inl (cI, 20, .inl (fun _ => 0)))] ∧ va_S A s.heap H locs ∧ lv_has ls 2 [(1, .int (nI i)), (0, .ref oWa)]) 7 24 ?_ ?_ 0 ((fun _ => 0)) _ _ _ (Nat.zero_le _) ⟨hP, hD, hS, hl⟩
  · intro i x H locs ls hi hI hki
    have hI := hI
    obtain ⟨hP, hD, hS, hl⟩ := hI
    have hP : va_P (dC, dI) classes [(oWa, .inr (5, (xw.set 1 (.int 0)))), (xw_taken, .inl (cZ, 24, .inl x)), (xw_over, .inl (cI, 20, .inl (fun _ => 0)))] H := hP
    have hD : va_D A [(oWa, .inr (5, (xw.set 1 (.int 0)))), (xw_taken, .inl (cZ, 24, .inl x)), (xw_over, .inl (cI, 20, .inl (fun _ => 0)))] := hD
    have hl : lv_has ls 2 [(1, .int (nI i)), (0, .ref oWa)] := hl
    refine lv_iload_n hx hb d_Wa_forget_7 rfl (lv_at hl 0 rfl) ?_
    refine lv_bipush (v := 24) hx hb d_Wa_forget_8 (by decide) ?_
    refine lv_icmp_ge (tgt := 26) hx hb d_Wa_forget_10 (by decide) (fun h => absurd h (show ¬ (24 : Int32) ≤ nI i from nI_ge hi (by decide))) (fun _ => ?_)
    refine lv_aload_n hx hb d_Wa_forget_13 rfl (lv_at hl 1 rfl) ?_
    refine va_get (D := (dC, dI)) (ci := 5) (v := .ref xw_taken) (C := R_Wa) (T := F_Wa) (N := 18) hx hb hts (fun w h => List.mem_cons_of_mem _ (in_Wa w h)) hown hK.1 hP 0 rfl rfl 11 (by decide) (hts _ (List.mem_cons_of_mem _ mw_229)) (fun _ h9 => h9) g2_11 d_Wa_forget_14 ?_
    refine lv_iload_n hx hb d_Wa_forget_17 rfl (lv_at hl 0 rfl) ?_
    refine lv_iconst (v := 0) hx hb d_Wa_forget_18 (by decide) ?_
    refine va_zast hx hb hK.1 hP hD hS 1 2 rfl rfl (vp_in_nI hi (by decide)) d_Wa_forget_19 (fun H locs hP hD hS => ?_)
    have hP : va_P (dC, dI) classes [(oWa, .inr (5, (xw.set 1 (.int 0)))), (xw_taken, .inl (cZ, 24, .inl ((upd x ((nI i) : Int32).toNatClampNeg (vp_nar .boolean 0))))), (xw_over, .inl (cI, 20, .inl (fun _ => 0)))] H := hP
    have hD : va_D A [(oWa, .inr (5, (xw.set 1 (.int 0)))), (xw_taken, .inl (cZ, 24, .inl ((upd x ((nI i) : Int32).toNatClampNeg (vp_nar .boolean 0))))), (xw_over, .inl (cI, 20, .inl (fun _ => 0)))] := hD
    generalize (upd x ((nI i) : Int32).toNatClampNeg (vp_nar .boolean 0)) = f19_2 at hP hD
    refine lv_iinc (k := 0) (v := (nI (i + 1))) hx hb d_Wa_forget_20 hl rfl (by first | rfl | decide | exact nI_1 i | exact pv_1 j hj) (by decide) rfl (fun ls hl => ?_)
    have hl : lv_has ls 2 [(1, .int (nI (i + 1))), (0, .ref oWa)] := hl
    refine lv_goto (tgt := 7) hx hb d_Wa_forget_23 (by decide) ?_
    have hl : lv_has ls 2 [(1, .int (nI (i + 1))), (0, .ref oWa)] := lv_sub hl [0, 1] rfl
    exact hki (f19_2) H locs ls ⟨hP, hD, hS, hl⟩
  · intro x H locs ls hI
    have hI := hI
    obtain ⟨hP, hD, hS, hl⟩ := hI
    have hP : va_P (dC, dI) classes [(oWa, .inr (5, (xw.set 1 (.int 0)))), (xw_taken, .inl (cZ, 24, .inl x)), (xw_over, .inl (cI, 20, .inl (fun _ => 0)))] H := hP
    have hD : va_D A [(oWa, .inr (5, (xw.set 1 (.int 0)))), (xw_taken, .inl (cZ, 24, .inl x)), (xw_over, .inl (cI, 20, .inl (fun _ => 0)))] := hD
    have hl : lv_has ls 2 [(1, .int (nI 24)), (0, .ref oWa)] := hl
    refine lv_iload_n hx hb d_Wa_forget_7 rfl (lv_at hl 0 rfl) ?_
    refine lv_bipush (v := 24) hx hb d_Wa_forget_8 (by decide) ?_
    refine lv_icmp_ge (tgt := 26) hx hb d_Wa_forget_10 (by decide) (fun _ => ?_) (fun h => absurd (show (24 : Int32) ≤ nI 24 from nI_le (Nat.le_refl _) (by decide)) h)
    refine lv_aload_n hx hb d_Wa_forget_26 rfl (lv_at hl 1 rfl) ?_
    refine va_get (D := (dC, dI)) (ci := 5) (v := .ref xw_over) (C := R_Wa) (T := F_Wa) (N := 18) hx hb hts (fun w h => List.mem_cons_of_mem _ (in_Wa w h)) hown hK.1 hP 0 rfl rfl 12 (by decide) (hts _ (List.mem_cons_of_mem _ mw_230)) (fun _ h9 => h9) g2_12 d_Wa_forget_27 ?_
    refine lv_iconst (v := 0) hx hb d_Wa_forget_30 (by decide) ?_
    have hPc := hP.sub (ws' := [(xw_over, .inl (cI, 20, .inl (fun _ => 0)))]) [2] rfl
    have hDc := hD.sub (ws' := [(xw_over, .inl (cI, 20, .inl (fun _ => 0)))]) [2] (by decide) rfl
    have hFc := va_free (wc := [(xw_over, .inl (cI, 20, .inl (fun _ => 0)))]) hD hS hA [2] rfl
    refine va_callv (va_runS (As := [.ref xw_over, .int 0]) (rest := []) ⟨hx, hb, hml, hown, hts⟩ (c_Ar_fillI l dC dI cI cB cZ cJ 0 xw_over 20 (fun _ => 0) (by decide) H.size) (va_cwS 2 hts (tb_S2 mw_1027 mw_146 mw_6 mw_147) rfl rfl rfl ⟨by decide +kernel, by decide +kernel, by decide +kernel⟩ ⟨(Nat.le_of_ble_eq_true rfl), (Nat.le_of_ble_eq_true rfl)⟩) ⟨pw_blind, pw_pre hPc hK hDc⟩ rfl rfl hl.1 rfl (lv_room (Nat.le_of_ble_eq_true rfl)) d_Wa_forget_31 ⟨(Nat.le_of_ble_eq_true rfl), (Nat.le_of_ble_eq_true rfl)⟩) hS (fun q _ h => hFc q h) hFc (fun u t H locs ht hvm hw hB hz1 hk1 hS => ?_)
    obtain ⟨hP1, hD1⟩ := hB
    rw [ht] at hP1
    obtain ⟨hP, hD⟩ := va_join (wr := [(oWa, .inr (5, (xw.set 1 (.int 0)))), (xw_taken, .inl (cZ, 24, .inl x))]) (w1 := [(xw_over, .inl (cI, 20, .inl (fun _ => 0)))]) hP hD [2] [0, 1] rfl rfl (by decide) (by decide) hk1 hFc hP1 hD1
    have hP : va_P (dC, dI) classes [(oWa, .inr (5, (xw.set 1 (.int 0)))), (xw_taken, .inl (cZ, 24, .inl x)), (xw_over, .inl (cI, 20, .inl (fun _ => 0)))] H := hP
    have hD : va_D A [(oWa, .inr (5, (xw.set 1 (.int 0)))), (xw_taken, .inl (cZ, 24, .inl x)), (xw_over, .inl (cI, 20, .inl (fun _ => 0)))] := hD
    exact W.vret hx hb hr (fun t ht hW => ⟨⟨(), rfl, trivial, ⟨(xw.set 1 (.int 0)), x, g2_1, g2_11, g2_12, by rw [ht]; exact hP, hD⟩⟩, hS.F ht⟩) hS.2.2 d_Wa_forget_34
abbrev t_Pl_writeTo_183 : List UInt8 := 172 :: []
abbrev t_Pl_writeTo_182 : List UInt8 := 28 :: t_Pl_writeTo_183
abbrev t_Pl_writeTo_179 : List UInt8 := 167 :: 255 :: 177 :: t_Pl_writeTo_182
abbrev t_Pl_writeTo_176 : List UInt8 := 132 :: 3 :: 1 :: t_Pl_writeTo_179
abbrev t_Pl_writeTo_175 : List UInt8 := 61 :: t_Pl_writeTo_176
abbrev t_Pl_writeTo_172 : List UInt8 := 184 :: 0 :: 117 :: t_Pl_writeTo_175
abbrev t_Pl_writeTo_170 : List UInt8 := 18 :: 125 :: t_Pl_writeTo_172
abbrev t_Pl_writeTo_169 : List UInt8 := 28 :: t_Pl_writeTo_170
abbrev t_Pl_writeTo_168 : List UInt8 := 43 :: t_Pl_writeTo_169
abbrev t_Pl_writeTo_167 : List UInt8 := 61 :: t_Pl_writeTo_168
abbrev t_Pl_writeTo_164 : List UInt8 := 184 :: 0 :: 121 :: t_Pl_writeTo_167
abbrev t_Pl_writeTo_163 : List UInt8 := 46 :: t_Pl_writeTo_164
abbrev t_Pl_writeTo_162 : List UInt8 := 29 :: t_Pl_writeTo_163
abbrev t_Pl_writeTo_159 : List UInt8 := 180 :: 0 :: 21 :: t_Pl_writeTo_162
abbrev t_Pl_writeTo_158 : List UInt8 := 42 :: t_Pl_writeTo_159
abbrev t_Pl_writeTo_155 : List UInt8 := 184 :: 0 :: 117 :: t_Pl_writeTo_158
abbrev t_Pl_writeTo_153 : List UInt8 := 18 :: 91 :: t_Pl_writeTo_155
abbrev t_Pl_writeTo_152 : List UInt8 := 28 :: t_Pl_writeTo_153
abbrev t_Pl_writeTo_151 : List UInt8 := 43 :: t_Pl_writeTo_152
abbrev t_Pl_writeTo_150 : List UInt8 := 43 :: t_Pl_writeTo_151
abbrev t_Pl_writeTo_149 : List UInt8 := 61 :: t_Pl_writeTo_150
abbrev t_Pl_writeTo_146 : List UInt8 := 184 :: 0 :: 127 :: t_Pl_writeTo_149
abbrev t_Pl_writeTo_145 : List UInt8 := 46 :: t_Pl_writeTo_146
abbrev t_Pl_writeTo_144 : List UInt8 := 96 :: t_Pl_writeTo_145
abbrev t_Pl_writeTo_143 : List UInt8 := 4 :: t_Pl_writeTo_144
abbrev t_Pl_writeTo_142 : List UInt8 := 104 :: t_Pl_writeTo_143
abbrev t_Pl_writeTo_141 : List UInt8 := 29 :: t_Pl_writeTo_142
abbrev t_Pl_writeTo_140 : List UInt8 := 5 :: t_Pl_writeTo_141
abbrev t_Pl_writeTo_137 : List UInt8 := 180 :: 0 :: 24 :: t_Pl_writeTo_140
abbrev t_Pl_writeTo_136 : List UInt8 := 42 :: t_Pl_writeTo_137
abbrev t_Pl_writeTo_133 : List UInt8 := 184 :: 0 :: 117 :: t_Pl_writeTo_136
abbrev t_Pl_writeTo_131 : List UInt8 := 18 :: 91 :: t_Pl_writeTo_133
abbrev t_Pl_writeTo_130 : List UInt8 := 28 :: t_Pl_writeTo_131
abbrev t_Pl_writeTo_129 : List UInt8 := 43 :: t_Pl_writeTo_130
abbrev t_Pl_writeTo_128 : List UInt8 := 43 :: t_Pl_writeTo_129
abbrev t_Pl_writeTo_127 : List UInt8 := 61 :: t_Pl_writeTo_128
abbrev t_Pl_writeTo_124 : List UInt8 := 184 :: 0 :: 127 :: t_Pl_writeTo_127
abbrev t_Pl_writeTo_123 : List UInt8 := 46 :: t_Pl_writeTo_124
abbrev t_Pl_writeTo_122 : List UInt8 := 104 :: t_Pl_writeTo_123
abbrev t_Pl_writeTo_121 : List UInt8 := 29 :: t_Pl_writeTo_122
abbrev t_Pl_writeTo_120 : List UInt8 := 5 :: t_Pl_writeTo_121
abbrev t_Pl_writeTo_117 : List UInt8 := 180 :: 0 :: 24 :: t_Pl_writeTo_120
abbrev t_Pl_writeTo_116 : List UInt8 := 42 :: t_Pl_writeTo_117
abbrev t_Pl_writeTo_113 : List UInt8 := 184 :: 0 :: 117 :: t_Pl_writeTo_116
abbrev t_Pl_writeTo_111 : List UInt8 := 18 :: 83 :: t_Pl_writeTo_113
abbrev t_Pl_writeTo_110 : List UInt8 := 28 :: t_Pl_writeTo_111
abbrev t_Pl_writeTo_109 : List UInt8 := 43 :: t_Pl_writeTo_110
abbrev t_Pl_writeTo_108 : List UInt8 := 43 :: t_Pl_writeTo_109
abbrev t_Pl_writeTo_105 : List UInt8 := 162 :: 0 :: 77 :: t_Pl_writeTo_108
abbrev t_Pl_writeTo_102 : List UInt8 := 180 :: 0 :: 41 :: t_Pl_writeTo_105
abbrev t_Pl_writeTo_101 : List UInt8 := 42 :: t_Pl_writeTo_102
abbrev t_Pl_writeTo_100 : List UInt8 := 29 :: t_Pl_writeTo_101
abbrev t_Pl_writeTo_99 : List UInt8 := 62 :: t_Pl_writeTo_100
abbrev t_Pl_writeTo_98 : List UInt8 := 3 :: t_Pl_writeTo_99
abbrev t_Pl_writeTo_95 : List UInt8 := 167 :: 255 :: 165 :: t_Pl_writeTo_98
abbrev t_Pl_writeTo_92 : List UInt8 := 132 :: 3 :: 1 :: t_Pl_writeTo_95
abbrev t_Pl_writeTo_91 : List UInt8 := 61 :: t_Pl_writeTo_92
abbrev t_Pl_writeTo_88 : List UInt8 := 184 :: 0 :: 117 :: t_Pl_writeTo_91
abbrev t_Pl_writeTo_86 : List UInt8 := 18 :: 125 :: t_Pl_writeTo_88
abbrev t_Pl_writeTo_85 : List UInt8 := 28 :: t_Pl_writeTo_86
abbrev t_Pl_writeTo_84 : List UInt8 := 43 :: t_Pl_writeTo_85
abbrev t_Pl_writeTo_83 : List UInt8 := 61 :: t_Pl_writeTo_84
abbrev t_Pl_writeTo_80 : List UInt8 := 184 :: 0 :: 121 :: t_Pl_writeTo_83
abbrev t_Pl_writeTo_79 : List UInt8 := 46 :: t_Pl_writeTo_80
abbrev t_Pl_writeTo_78 : List UInt8 := 29 :: t_Pl_writeTo_79
abbrev t_Pl_writeTo_75 : List UInt8 := 180 :: 0 :: 9 :: t_Pl_writeTo_78
abbrev t_Pl_writeTo_74 : List UInt8 := 42 :: t_Pl_writeTo_75
abbrev t_Pl_writeTo_71 : List UInt8 := 184 :: 0 :: 117 :: t_Pl_writeTo_74
abbrev t_Pl_writeTo_69 : List UInt8 := 18 :: 79 :: t_Pl_writeTo_71
abbrev t_Pl_writeTo_68 : List UInt8 := 28 :: t_Pl_writeTo_69
abbrev t_Pl_writeTo_67 : List UInt8 := 43 :: t_Pl_writeTo_68
abbrev t_Pl_writeTo_66 : List UInt8 := 43 :: t_Pl_writeTo_67
abbrev t_Pl_writeTo_63 : List UInt8 := 167 :: 0 :: 21 :: t_Pl_writeTo_66
abbrev t_Pl_writeTo_62 : List UInt8 := 61 :: t_Pl_writeTo_63
abbrev t_Pl_writeTo_59 : List UInt8 := 184 :: 0 :: 121 :: t_Pl_writeTo_62
abbrev t_Pl_writeTo_58 : List UInt8 := 46 :: t_Pl_writeTo_59
abbrev t_Pl_writeTo_57 : List UInt8 := 29 :: t_Pl_writeTo_58
abbrev t_Pl_writeTo_54 : List UInt8 := 180 :: 0 :: 15 :: t_Pl_writeTo_57
abbrev t_Pl_writeTo_53 : List UInt8 := 42 :: t_Pl_writeTo_54
abbrev t_Pl_writeTo_50 : List UInt8 := 184 :: 0 :: 117 :: t_Pl_writeTo_53
abbrev t_Pl_writeTo_48 : List UInt8 := 18 :: 59 :: t_Pl_writeTo_50
abbrev t_Pl_writeTo_47 : List UInt8 := 28 :: t_Pl_writeTo_48
abbrev t_Pl_writeTo_46 : List UInt8 := 43 :: t_Pl_writeTo_47
abbrev t_Pl_writeTo_45 : List UInt8 := 43 :: t_Pl_writeTo_46
abbrev t_Pl_writeTo_42 : List UInt8 := 160 :: 0 :: 24 :: t_Pl_writeTo_45
abbrev t_Pl_writeTo_40 : List UInt8 := 16 :: 9 :: t_Pl_writeTo_42
abbrev t_Pl_writeTo_39 : List UInt8 := 46 :: t_Pl_writeTo_40
abbrev t_Pl_writeTo_38 : List UInt8 := 29 :: t_Pl_writeTo_39
abbrev t_Pl_writeTo_35 : List UInt8 := 180 :: 0 :: 9 :: t_Pl_writeTo_38
abbrev t_Pl_writeTo_34 : List UInt8 := 42 :: t_Pl_writeTo_35
abbrev t_Pl_writeTo_31 : List UInt8 := 167 :: 0 :: 53 :: t_Pl_writeTo_34
abbrev t_Pl_writeTo_30 : List UInt8 := 61 :: t_Pl_writeTo_31
abbrev t_Pl_writeTo_27 : List UInt8 := 184 :: 0 :: 117 :: t_Pl_writeTo_30
abbrev t_Pl_writeTo_25 : List UInt8 := 18 :: 81 :: t_Pl_writeTo_27
abbrev t_Pl_writeTo_24 : List UInt8 := 28 :: t_Pl_writeTo_25
abbrev t_Pl_writeTo_23 : List UInt8 := 43 :: t_Pl_writeTo_24
abbrev t_Pl_writeTo_20 : List UInt8 := 160 :: 0 :: 14 :: t_Pl_writeTo_23
abbrev t_Pl_writeTo_18 : List UInt8 := 16 :: 8 :: t_Pl_writeTo_20
abbrev t_Pl_writeTo_17 : List UInt8 := 46 :: t_Pl_writeTo_18
abbrev t_Pl_writeTo_16 : List UInt8 := 29 :: t_Pl_writeTo_17
abbrev t_Pl_writeTo_13 : List UInt8 := 180 :: 0 :: 9 :: t_Pl_writeTo_16
abbrev t_Pl_writeTo_12 : List UInt8 := 42 :: t_Pl_writeTo_13
abbrev t_Pl_writeTo_9 : List UInt8 := 162 :: 0 :: 89 :: t_Pl_writeTo_12
abbrev t_Pl_writeTo_6 : List UInt8 := 180 :: 0 :: 37 :: t_Pl_writeTo_9
abbrev t_Pl_writeTo_5 : List UInt8 := 42 :: t_Pl_writeTo_6
abbrev t_Pl_writeTo_4 : List UInt8 := 29 :: t_Pl_writeTo_5
abbrev t_Pl_writeTo_3 : List UInt8 := 62 :: t_Pl_writeTo_4
abbrev t_Pl_writeTo_2 : List UInt8 := 3 :: t_Pl_writeTo_3
abbrev t_Pl_writeTo_1 : List UInt8 := 61 :: t_Pl_writeTo_2
abbrev t_Pl_writeTo_0 : List UInt8 := 3 :: t_Pl_writeTo_1
theorem a_Pl_writeTo_0 : dk_at b_Pl_writeTo 0 t_Pl_writeTo_0 := dk_start (by decide +kernel)
theorem a_Pl_writeTo_1 : dk_at b_Pl_writeTo 1 t_Pl_writeTo_1 := dk_go 1 a_Pl_writeTo_0 rfl
theorem a_Pl_writeTo_2 : dk_at b_Pl_writeTo 2 t_Pl_writeTo_2 := dk_go 1 a_Pl_writeTo_1 rfl
theorem a_Pl_writeTo_3 : dk_at b_Pl_writeTo 3 t_Pl_writeTo_3 := dk_go 1 a_Pl_writeTo_2 rfl
theorem a_Pl_writeTo_4 : dk_at b_Pl_writeTo 4 t_Pl_writeTo_4 := dk_go 1 a_Pl_writeTo_3 rfl
theorem a_Pl_writeTo_5 : dk_at b_Pl_writeTo 5 t_Pl_writeTo_5 := dk_go 1 a_Pl_writeTo_4 rfl
theorem a_Pl_writeTo_6 : dk_at b_Pl_writeTo 6 t_Pl_writeTo_6 := dk_go 1 a_Pl_writeTo_5 rfl
theorem a_Pl_writeTo_9 : dk_at b_Pl_writeTo 9 t_Pl_writeTo_9 := dk_go 3 a_Pl_writeTo_6 rfl
theorem a_Pl_writeTo_12 : dk_at b_Pl_writeTo 12 t_Pl_writeTo_12 := dk_go 3 a_Pl_writeTo_9 rfl
theorem a_Pl_writeTo_13 : dk_at b_Pl_writeTo 13 t_Pl_writeTo_13 := dk_go 1 a_Pl_writeTo_12 rfl
theorem a_Pl_writeTo_16 : dk_at b_Pl_writeTo 16 t_Pl_writeTo_16 := dk_go 3 a_Pl_writeTo_13 rfl
theorem a_Pl_writeTo_17 : dk_at b_Pl_writeTo 17 t_Pl_writeTo_17 := dk_go 1 a_Pl_writeTo_16 rfl
theorem a_Pl_writeTo_18 : dk_at b_Pl_writeTo 18 t_Pl_writeTo_18 := dk_go 1 a_Pl_writeTo_17 rfl
theorem a_Pl_writeTo_20 : dk_at b_Pl_writeTo 20 t_Pl_writeTo_20 := dk_go 2 a_Pl_writeTo_18 rfl
theorem a_Pl_writeTo_23 : dk_at b_Pl_writeTo 23 t_Pl_writeTo_23 := dk_go 3 a_Pl_writeTo_20 rfl
theorem a_Pl_writeTo_24 : dk_at b_Pl_writeTo 24 t_Pl_writeTo_24 := dk_go 1 a_Pl_writeTo_23 rfl
theorem a_Pl_writeTo_25 : dk_at b_Pl_writeTo 25 t_Pl_writeTo_25 := dk_go 1 a_Pl_writeTo_24 rfl
theorem a_Pl_writeTo_27 : dk_at b_Pl_writeTo 27 t_Pl_writeTo_27 := dk_go 2 a_Pl_writeTo_25 rfl
theorem a_Pl_writeTo_30 : dk_at b_Pl_writeTo 30 t_Pl_writeTo_30 := dk_go 3 a_Pl_writeTo_27 rfl
theorem a_Pl_writeTo_31 : dk_at b_Pl_writeTo 31 t_Pl_writeTo_31 := dk_go 1 a_Pl_writeTo_30 rfl
theorem a_Pl_writeTo_34 : dk_at b_Pl_writeTo 34 t_Pl_writeTo_34 := dk_go 3 a_Pl_writeTo_31 rfl
theorem a_Pl_writeTo_35 : dk_at b_Pl_writeTo 35 t_Pl_writeTo_35 := dk_go 1 a_Pl_writeTo_34 rfl
theorem a_Pl_writeTo_38 : dk_at b_Pl_writeTo 38 t_Pl_writeTo_38 := dk_go 3 a_Pl_writeTo_35 rfl
theorem a_Pl_writeTo_39 : dk_at b_Pl_writeTo 39 t_Pl_writeTo_39 := dk_go 1 a_Pl_writeTo_38 rfl
theorem a_Pl_writeTo_40 : dk_at b_Pl_writeTo 40 t_Pl_writeTo_40 := dk_go 1 a_Pl_writeTo_39 rfl
theorem a_Pl_writeTo_42 : dk_at b_Pl_writeTo 42 t_Pl_writeTo_42 := dk_go 2 a_Pl_writeTo_40 rfl
theorem a_Pl_writeTo_45 : dk_at b_Pl_writeTo 45 t_Pl_writeTo_45 := dk_go 3 a_Pl_writeTo_42 rfl
theorem a_Pl_writeTo_46 : dk_at b_Pl_writeTo 46 t_Pl_writeTo_46 := dk_go 1 a_Pl_writeTo_45 rfl
theorem a_Pl_writeTo_47 : dk_at b_Pl_writeTo 47 t_Pl_writeTo_47 := dk_go 1 a_Pl_writeTo_46 rfl
theorem a_Pl_writeTo_48 : dk_at b_Pl_writeTo 48 t_Pl_writeTo_48 := dk_go 1 a_Pl_writeTo_47 rfl
theorem a_Pl_writeTo_50 : dk_at b_Pl_writeTo 50 t_Pl_writeTo_50 := dk_go 2 a_Pl_writeTo_48 rfl
theorem a_Pl_writeTo_53 : dk_at b_Pl_writeTo 53 t_Pl_writeTo_53 := dk_go 3 a_Pl_writeTo_50 rfl
theorem a_Pl_writeTo_54 : dk_at b_Pl_writeTo 54 t_Pl_writeTo_54 := dk_go 1 a_Pl_writeTo_53 rfl
theorem a_Pl_writeTo_57 : dk_at b_Pl_writeTo 57 t_Pl_writeTo_57 := dk_go 3 a_Pl_writeTo_54 rfl
theorem a_Pl_writeTo_58 : dk_at b_Pl_writeTo 58 t_Pl_writeTo_58 := dk_go 1 a_Pl_writeTo_57 rfl
theorem a_Pl_writeTo_59 : dk_at b_Pl_writeTo 59 t_Pl_writeTo_59 := dk_go 1 a_Pl_writeTo_58 rfl
theorem a_Pl_writeTo_62 : dk_at b_Pl_writeTo 62 t_Pl_writeTo_62 := dk_go 3 a_Pl_writeTo_59 rfl
theorem a_Pl_writeTo_63 : dk_at b_Pl_writeTo 63 t_Pl_writeTo_63 := dk_go 1 a_Pl_writeTo_62 rfl
theorem a_Pl_writeTo_66 : dk_at b_Pl_writeTo 66 t_Pl_writeTo_66 := dk_go 3 a_Pl_writeTo_63 rfl
theorem a_Pl_writeTo_67 : dk_at b_Pl_writeTo 67 t_Pl_writeTo_67 := dk_go 1 a_Pl_writeTo_66 rfl
theorem a_Pl_writeTo_68 : dk_at b_Pl_writeTo 68 t_Pl_writeTo_68 := dk_go 1 a_Pl_writeTo_67 rfl
theorem a_Pl_writeTo_69 : dk_at b_Pl_writeTo 69 t_Pl_writeTo_69 := dk_go 1 a_Pl_writeTo_68 rfl
theorem a_Pl_writeTo_71 : dk_at b_Pl_writeTo 71 t_Pl_writeTo_71 := dk_go 2 a_Pl_writeTo_69 rfl
theorem a_Pl_writeTo_74 : dk_at b_Pl_writeTo 74 t_Pl_writeTo_74 := dk_go 3 a_Pl_writeTo_71 rfl
theorem a_Pl_writeTo_75 : dk_at b_Pl_writeTo 75 t_Pl_writeTo_75 := dk_go 1 a_Pl_writeTo_74 rfl
theorem a_Pl_writeTo_78 : dk_at b_Pl_writeTo 78 t_Pl_writeTo_78 := dk_go 3 a_Pl_writeTo_75 rfl
theorem a_Pl_writeTo_79 : dk_at b_Pl_writeTo 79 t_Pl_writeTo_79 := dk_go 1 a_Pl_writeTo_78 rfl
theorem a_Pl_writeTo_80 : dk_at b_Pl_writeTo 80 t_Pl_writeTo_80 := dk_go 1 a_Pl_writeTo_79 rfl
theorem a_Pl_writeTo_83 : dk_at b_Pl_writeTo 83 t_Pl_writeTo_83 := dk_go 3 a_Pl_writeTo_80 rfl
theorem a_Pl_writeTo_84 : dk_at b_Pl_writeTo 84 t_Pl_writeTo_84 := dk_go 1 a_Pl_writeTo_83 rfl
theorem a_Pl_writeTo_85 : dk_at b_Pl_writeTo 85 t_Pl_writeTo_85 := dk_go 1 a_Pl_writeTo_84 rfl
theorem a_Pl_writeTo_86 : dk_at b_Pl_writeTo 86 t_Pl_writeTo_86 := dk_go 1 a_Pl_writeTo_85 rfl
theorem a_Pl_writeTo_88 : dk_at b_Pl_writeTo 88 t_Pl_writeTo_88 := dk_go 2 a_Pl_writeTo_86 rfl
theorem a_Pl_writeTo_91 : dk_at b_Pl_writeTo 91 t_Pl_writeTo_91 := dk_go 3 a_Pl_writeTo_88 rfl
theorem a_Pl_writeTo_92 : dk_at b_Pl_writeTo 92 t_Pl_writeTo_92 := dk_go 1 a_Pl_writeTo_91 rfl
theorem a_Pl_writeTo_95 : dk_at b_Pl_writeTo 95 t_Pl_writeTo_95 := dk_go 3 a_Pl_writeTo_92 rfl
theorem a_Pl_writeTo_98 : dk_at b_Pl_writeTo 98 t_Pl_writeTo_98 := dk_go 3 a_Pl_writeTo_95 rfl
theorem a_Pl_writeTo_99 : dk_at b_Pl_writeTo 99 t_Pl_writeTo_99 := dk_go 1 a_Pl_writeTo_98 rfl
theorem a_Pl_writeTo_100 : dk_at b_Pl_writeTo 100 t_Pl_writeTo_100 := dk_go 1 a_Pl_writeTo_99 rfl
theorem a_Pl_writeTo_101 : dk_at b_Pl_writeTo 101 t_Pl_writeTo_101 := dk_go 1 a_Pl_writeTo_100 rfl
theorem a_Pl_writeTo_102 : dk_at b_Pl_writeTo 102 t_Pl_writeTo_102 := dk_go 1 a_Pl_writeTo_101 rfl
theorem a_Pl_writeTo_105 : dk_at b_Pl_writeTo 105 t_Pl_writeTo_105 := dk_go 3 a_Pl_writeTo_102 rfl
theorem a_Pl_writeTo_108 : dk_at b_Pl_writeTo 108 t_Pl_writeTo_108 := dk_go 3 a_Pl_writeTo_105 rfl
theorem a_Pl_writeTo_109 : dk_at b_Pl_writeTo 109 t_Pl_writeTo_109 := dk_go 1 a_Pl_writeTo_108 rfl
theorem a_Pl_writeTo_110 : dk_at b_Pl_writeTo 110 t_Pl_writeTo_110 := dk_go 1 a_Pl_writeTo_109 rfl
theorem a_Pl_writeTo_111 : dk_at b_Pl_writeTo 111 t_Pl_writeTo_111 := dk_go 1 a_Pl_writeTo_110 rfl
theorem a_Pl_writeTo_113 : dk_at b_Pl_writeTo 113 t_Pl_writeTo_113 := dk_go 2 a_Pl_writeTo_111 rfl
theorem a_Pl_writeTo_116 : dk_at b_Pl_writeTo 116 t_Pl_writeTo_116 := dk_go 3 a_Pl_writeTo_113 rfl
theorem a_Pl_writeTo_117 : dk_at b_Pl_writeTo 117 t_Pl_writeTo_117 := dk_go 1 a_Pl_writeTo_116 rfl
theorem a_Pl_writeTo_120 : dk_at b_Pl_writeTo 120 t_Pl_writeTo_120 := dk_go 3 a_Pl_writeTo_117 rfl
theorem a_Pl_writeTo_121 : dk_at b_Pl_writeTo 121 t_Pl_writeTo_121 := dk_go 1 a_Pl_writeTo_120 rfl
theorem a_Pl_writeTo_122 : dk_at b_Pl_writeTo 122 t_Pl_writeTo_122 := dk_go 1 a_Pl_writeTo_121 rfl
theorem a_Pl_writeTo_123 : dk_at b_Pl_writeTo 123 t_Pl_writeTo_123 := dk_go 1 a_Pl_writeTo_122 rfl
theorem a_Pl_writeTo_124 : dk_at b_Pl_writeTo 124 t_Pl_writeTo_124 := dk_go 1 a_Pl_writeTo_123 rfl
theorem a_Pl_writeTo_127 : dk_at b_Pl_writeTo 127 t_Pl_writeTo_127 := dk_go 3 a_Pl_writeTo_124 rfl
theorem a_Pl_writeTo_128 : dk_at b_Pl_writeTo 128 t_Pl_writeTo_128 := dk_go 1 a_Pl_writeTo_127 rfl
theorem a_Pl_writeTo_129 : dk_at b_Pl_writeTo 129 t_Pl_writeTo_129 := dk_go 1 a_Pl_writeTo_128 rfl
theorem a_Pl_writeTo_130 : dk_at b_Pl_writeTo 130 t_Pl_writeTo_130 := dk_go 1 a_Pl_writeTo_129 rfl
theorem a_Pl_writeTo_131 : dk_at b_Pl_writeTo 131 t_Pl_writeTo_131 := dk_go 1 a_Pl_writeTo_130 rfl
theorem a_Pl_writeTo_133 : dk_at b_Pl_writeTo 133 t_Pl_writeTo_133 := dk_go 2 a_Pl_writeTo_131 rfl
theorem a_Pl_writeTo_136 : dk_at b_Pl_writeTo 136 t_Pl_writeTo_136 := dk_go 3 a_Pl_writeTo_133 rfl
theorem a_Pl_writeTo_137 : dk_at b_Pl_writeTo 137 t_Pl_writeTo_137 := dk_go 1 a_Pl_writeTo_136 rfl
theorem a_Pl_writeTo_140 : dk_at b_Pl_writeTo 140 t_Pl_writeTo_140 := dk_go 3 a_Pl_writeTo_137 rfl
theorem a_Pl_writeTo_141 : dk_at b_Pl_writeTo 141 t_Pl_writeTo_141 := dk_go 1 a_Pl_writeTo_140 rfl
theorem a_Pl_writeTo_142 : dk_at b_Pl_writeTo 142 t_Pl_writeTo_142 := dk_go 1 a_Pl_writeTo_141 rfl
theorem a_Pl_writeTo_143 : dk_at b_Pl_writeTo 143 t_Pl_writeTo_143 := dk_go 1 a_Pl_writeTo_142 rfl
theorem a_Pl_writeTo_144 : dk_at b_Pl_writeTo 144 t_Pl_writeTo_144 := dk_go 1 a_Pl_writeTo_143 rfl
theorem a_Pl_writeTo_145 : dk_at b_Pl_writeTo 145 t_Pl_writeTo_145 := dk_go 1 a_Pl_writeTo_144 rfl
theorem a_Pl_writeTo_146 : dk_at b_Pl_writeTo 146 t_Pl_writeTo_146 := dk_go 1 a_Pl_writeTo_145 rfl
theorem a_Pl_writeTo_149 : dk_at b_Pl_writeTo 149 t_Pl_writeTo_149 := dk_go 3 a_Pl_writeTo_146 rfl
theorem a_Pl_writeTo_150 : dk_at b_Pl_writeTo 150 t_Pl_writeTo_150 := dk_go 1 a_Pl_writeTo_149 rfl
theorem a_Pl_writeTo_151 : dk_at b_Pl_writeTo 151 t_Pl_writeTo_151 := dk_go 1 a_Pl_writeTo_150 rfl
theorem a_Pl_writeTo_152 : dk_at b_Pl_writeTo 152 t_Pl_writeTo_152 := dk_go 1 a_Pl_writeTo_151 rfl
theorem a_Pl_writeTo_153 : dk_at b_Pl_writeTo 153 t_Pl_writeTo_153 := dk_go 1 a_Pl_writeTo_152 rfl
theorem a_Pl_writeTo_155 : dk_at b_Pl_writeTo 155 t_Pl_writeTo_155 := dk_go 2 a_Pl_writeTo_153 rfl
theorem a_Pl_writeTo_158 : dk_at b_Pl_writeTo 158 t_Pl_writeTo_158 := dk_go 3 a_Pl_writeTo_155 rfl
theorem a_Pl_writeTo_159 : dk_at b_Pl_writeTo 159 t_Pl_writeTo_159 := dk_go 1 a_Pl_writeTo_158 rfl
theorem a_Pl_writeTo_162 : dk_at b_Pl_writeTo 162 t_Pl_writeTo_162 := dk_go 3 a_Pl_writeTo_159 rfl
theorem a_Pl_writeTo_163 : dk_at b_Pl_writeTo 163 t_Pl_writeTo_163 := dk_go 1 a_Pl_writeTo_162 rfl
theorem a_Pl_writeTo_164 : dk_at b_Pl_writeTo 164 t_Pl_writeTo_164 := dk_go 1 a_Pl_writeTo_163 rfl
theorem a_Pl_writeTo_167 : dk_at b_Pl_writeTo 167 t_Pl_writeTo_167 := dk_go 3 a_Pl_writeTo_164 rfl
theorem a_Pl_writeTo_168 : dk_at b_Pl_writeTo 168 t_Pl_writeTo_168 := dk_go 1 a_Pl_writeTo_167 rfl
theorem a_Pl_writeTo_169 : dk_at b_Pl_writeTo 169 t_Pl_writeTo_169 := dk_go 1 a_Pl_writeTo_168 rfl
theorem a_Pl_writeTo_170 : dk_at b_Pl_writeTo 170 t_Pl_writeTo_170 := dk_go 1 a_Pl_writeTo_169 rfl
theorem a_Pl_writeTo_172 : dk_at b_Pl_writeTo 172 t_Pl_writeTo_172 := dk_go 2 a_Pl_writeTo_170 rfl
theorem a_Pl_writeTo_175 : dk_at b_Pl_writeTo 175 t_Pl_writeTo_175 := dk_go 3 a_Pl_writeTo_172 rfl
theorem a_Pl_writeTo_176 : dk_at b_Pl_writeTo 176 t_Pl_writeTo_176 := dk_go 1 a_Pl_writeTo_175 rfl
theorem a_Pl_writeTo_179 : dk_at b_Pl_writeTo 179 t_Pl_writeTo_179 := dk_go 3 a_Pl_writeTo_176 rfl
theorem a_Pl_writeTo_182 : dk_at b_Pl_writeTo 182 t_Pl_writeTo_182 := dk_go 3 a_Pl_writeTo_179 rfl
theorem a_Pl_writeTo_183 : dk_at b_Pl_writeTo 183 t_Pl_writeTo_183 := dk_go 1 a_Pl_writeTo_182 rfl
theorem d_Pl_writeTo_0 : decode b_Pl_writeTo 0 = .ok (.iconst 0, 1) := dk_0 a_Pl_writeTo_0 (dko_3 _)
theorem d_Pl_writeTo_1 : decode b_Pl_writeTo 1 = .ok (.istore_n 2, 1) := dk_0 a_Pl_writeTo_1 (dko_61 _)
theorem d_Pl_writeTo_2 : decode b_Pl_writeTo 2 = .ok (.iconst 0, 1) := dk_0 a_Pl_writeTo_2 (dko_3 _)
theorem d_Pl_writeTo_3 : decode b_Pl_writeTo 3 = .ok (.istore_n 3, 1) := dk_0 a_Pl_writeTo_3 (dko_62 _)
theorem d_Pl_writeTo_4 : decode b_Pl_writeTo 4 = .ok (.iload_n 3, 1) := dk_0 a_Pl_writeTo_4 (dko_29 _)
theorem d_Pl_writeTo_5 : decode b_Pl_writeTo 5 = .ok (.aload_n 0, 1) := dk_0 a_Pl_writeTo_5 (dko_42 _)
theorem d_Pl_writeTo_6 : decode b_Pl_writeTo 6 = .ok (.getfield 37, 3) := dk_U2 a_Pl_writeTo_6 (dko_180 _) rfl
theorem d_Pl_writeTo_9 : decode b_Pl_writeTo 9 = .ok (.if_icmp .ge 89, 3) := dk_S2 a_Pl_writeTo_9 (dko_162 _) (by decide +kernel)
theorem d_Pl_writeTo_98 : decode b_Pl_writeTo 98 = .ok (.iconst 0, 1) := dk_0 a_Pl_writeTo_98 (dko_3 _)
theorem d_Pl_writeTo_99 : decode b_Pl_writeTo 99 = .ok (.istore_n 3, 1) := dk_0 a_Pl_writeTo_99 (dko_62 _)
theorem d_Pl_writeTo_100 : decode b_Pl_writeTo 100 = .ok (.iload_n 3, 1) := dk_0 a_Pl_writeTo_100 (dko_29 _)
theorem d_Pl_writeTo_101 : decode b_Pl_writeTo 101 = .ok (.aload_n 0, 1) := dk_0 a_Pl_writeTo_101 (dko_42 _)
theorem d_Pl_writeTo_102 : decode b_Pl_writeTo 102 = .ok (.getfield 41, 3) := dk_U2 a_Pl_writeTo_102 (dko_180 _) rfl
theorem d_Pl_writeTo_105 : decode b_Pl_writeTo 105 = .ok (.if_icmp .ge 77, 3) := dk_S2 a_Pl_writeTo_105 (dko_162 _) (by decide +kernel)
theorem d_Pl_writeTo_182 : decode b_Pl_writeTo 182 = .ok (.iload_n 2, 1) := dk_0 a_Pl_writeTo_182 (dko_28 _)
theorem d_Pl_writeTo_183 : decode b_Pl_writeTo 183 = .ok (.ireturn, 1) := dk_0 a_Pl_writeTo_183 (dko_172 _)
set_option maxHeartbeats 4000000 in
set_option maxRecDepth 100000 in
theorem c_Pl_writeTo (l : Launch) (dC : Nat → ClassId) (dI : Nat → Nat → Nat) (cI cB cZ cJ : ClassId) (oP2 : Nat) (xb_plantText : Nat) (xq : List Value) (hxq_things : fx xq 0 (.int 0)) (hxq_pipes : fx xq 1 (.int 0)) (sz : Nat) : Met l y_Pl_writeTo w_Pl_writeTo ({ frames := 0, cells := 0, slots := 0, locals := 0 }) (va_Pc [.ref oP2, .ref xb_plantText] (PW dC dI cI cB cZ cJ [(oP2, .inr (3, xq))] sz)) (va_Qi (fun (r : Int32) (_ : Unit) => r = 0) (fun _ _ => True) (va_A [] sz)) 0 0 (va_A [] sz) := by
  refine Met.ofW (cc := b_Pl_writeTo) (maxL := 4) (ret := (some .int)) (by decide) rfl ?_
  intro p e s m args below meth c s₁ B hml hv
  obtain ⟨rfl, hsz, hP, hK, hD⟩ := hv
  have hx := B.exec
  have hb := B.bytes
  have hr := B.returns
  have hts := atoms_spec (ws := w_Pl_writeTo) B.pre
  have hown : s.vm.findClass R_Pl = some m.cls := findClass_of_methodNamed B.named
  have hlocks := B.notSynchronized
  subst hsz
  generalize hAe : va_A [] s.heap.size = A at ⊢
  have hA : ∀ q : Nat, s.heap.size ≤ q → A q := fun q h => by rw [← hAe]; exact Or.inr h
  have hS : va_S A s.heap s.heap [] := va_S.rf
  have hP : va_P (dC, dI) classes [(oP2, .inr (3, xq))] s.heap := hP
  have hl := lv_entry ([.ref oP2, .ref xb_plantText]) (n := 4) (Nat.le_of_ble_eq_true rfl)
  rw [lg_entry_eq]
  generalize (lg_sl ([.ref oP2, .ref xb_plantText]) ++ List.replicate (4 - (lg_sl ([.ref oP2, .ref xb_plantText])).length) Slot.unset).toArray = ls at hl ⊢
  have hl : lv_has ls 4 [(0, .ref oP2), (1, .ref xb_plantText)] := hl
  refine lv_iconst (v := 0) hx hb d_Pl_writeTo_0 (by decide) ?_
  refine lv_istore_n hx hb d_Pl_writeTo_1 rfl hl (by decide) rfl (fun ls hl => ?_)
  have hl : lv_has ls 4 [(2, .int 0), (0, .ref oP2), (1, .ref xb_plantText)] := hl
  refine lv_iconst (v := 0) hx hb d_Pl_writeTo_2 (by decide) ?_
  refine lv_istore_n hx hb d_Pl_writeTo_3 rfl hl (by decide) rfl (fun ls hl => ?_)
  have hl : lv_has ls 4 [(3, .int 0), (2, .int 0), (0, .ref oP2), (1, .ref xb_plantText)] := hl
  refine lv_iload_n hx hb d_Pl_writeTo_4 rfl (lv_at hl 0 rfl) ?_
  refine lv_aload_n hx hb d_Pl_writeTo_5 rfl (lv_at hl 2 rfl) ?_
  refine va_get (D := (dC, dI)) (ci := 3) (v := .int 0) (C := R_Pl) (T := F_Pl) (N := 12) hx hb hts (fun w h => List.mem_cons_of_mem _ (in_Pl w h)) hown hK.1 hP 0 rfl rfl 0 (by decide) (hts _ (List.mem_cons_of_mem _ mw_86)) (fun _ h9 => h9) hxq_things d_Pl_writeTo_6 ?_
  refine lv_icmp_ge (tgt := 98) hx hb d_Pl_writeTo_9 (by decide) (fun _ => ?_) (fun h => absurd (by decide) h)
  refine lv_iconst (v := 0) hx hb d_Pl_writeTo_98 (by decide) ?_
  refine lv_istore_n hx hb d_Pl_writeTo_99 rfl hl (by decide) rfl (fun ls hl => ?_)
  have hl : lv_has ls 4 [(3, .int 0), (2, .int 0), (0, .ref oP2), (1, .ref xb_plantText)] := hl
  refine lv_iload_n hx hb d_Pl_writeTo_100 rfl (lv_at hl 0 rfl) ?_
  refine lv_aload_n hx hb d_Pl_writeTo_101 rfl (lv_at hl 2 rfl) ?_
  refine va_get (D := (dC, dI)) (ci := 3) (v := .int 0) (C := R_Pl) (T := F_Pl) (N := 12) hx hb hts (fun w h => List.mem_cons_of_mem _ (in_Pl w h)) hown hK.1 hP 0 rfl rfl 1 (by decide) (hts _ (List.mem_cons_of_mem _ mw_92)) (fun _ h9 => h9) hxq_pipes d_Pl_writeTo_102 ?_
  refine lv_icmp_ge (tgt := 182) hx hb d_Pl_writeTo_105 (by decide) (fun _ => ?_) (fun h => absurd (by decide) h)
  refine lv_iload_n hx hb d_Pl_writeTo_182 rfl (lv_at hl 1 rfl) ?_
  exact W.iret (v := 0) hx hb hr (fun t ht hW => ⟨⟨_, (), rfl, (rfl), trivial⟩, hS.F ht⟩) hS.2.2 d_Pl_writeTo_183
abbrev t_Bh_takePlant_67 : List UInt8 := 172 :: []
abbrev t_Bh_takePlant_64 : List UInt8 := 180 :: 0 :: 171 :: t_Bh_takePlant_67
abbrev t_Bh_takePlant_61 : List UInt8 := 180 :: 0 :: 151 :: t_Bh_takePlant_64
abbrev t_Bh_takePlant_58 : List UInt8 := 180 :: 0 :: 26 :: t_Bh_takePlant_61
abbrev t_Bh_takePlant_57 : List UInt8 := 42 :: t_Bh_takePlant_58
abbrev t_Bh_takePlant_54 : List UInt8 := 181 :: 0 :: 168 :: t_Bh_takePlant_57
abbrev t_Bh_takePlant_51 : List UInt8 := 182 :: 0 :: 164 :: t_Bh_takePlant_54
abbrev t_Bh_takePlant_48 : List UInt8 := 180 :: 0 :: 94 :: t_Bh_takePlant_51
abbrev t_Bh_takePlant_47 : List UInt8 := 42 :: t_Bh_takePlant_48
abbrev t_Bh_takePlant_44 : List UInt8 := 180 :: 0 :: 151 :: t_Bh_takePlant_47
abbrev t_Bh_takePlant_41 : List UInt8 := 180 :: 0 :: 26 :: t_Bh_takePlant_44
abbrev t_Bh_takePlant_40 : List UInt8 := 42 :: t_Bh_takePlant_41
abbrev t_Bh_takePlant_39 : List UInt8 := 42 :: t_Bh_takePlant_40
abbrev t_Bh_takePlant_36 : List UInt8 := 181 :: 0 :: 161 :: t_Bh_takePlant_39
abbrev t_Bh_takePlant_35 : List UInt8 := 7 :: t_Bh_takePlant_36
abbrev t_Bh_takePlant_32 : List UInt8 := 180 :: 0 :: 62 :: t_Bh_takePlant_35
abbrev t_Bh_takePlant_31 : List UInt8 := 42 :: t_Bh_takePlant_32
abbrev t_Bh_takePlant_28 : List UInt8 := 182 :: 0 :: 158 :: t_Bh_takePlant_31
abbrev t_Bh_takePlant_25 : List UInt8 := 180 :: 0 :: 35 :: t_Bh_takePlant_28
abbrev t_Bh_takePlant_24 : List UInt8 := 42 :: t_Bh_takePlant_25
abbrev t_Bh_takePlant_21 : List UInt8 := 181 :: 0 :: 76 :: t_Bh_takePlant_24
abbrev t_Bh_takePlant_20 : List UInt8 := 43 :: t_Bh_takePlant_21
abbrev t_Bh_takePlant_19 : List UInt8 := 42 :: t_Bh_takePlant_20
abbrev t_Bh_takePlant_16 : List UInt8 := 182 :: 0 :: 154 :: t_Bh_takePlant_19
abbrev t_Bh_takePlant_13 : List UInt8 := 180 :: 0 :: 76 :: t_Bh_takePlant_16
abbrev t_Bh_takePlant_12 : List UInt8 := 42 :: t_Bh_takePlant_13
abbrev t_Bh_takePlant_9 : List UInt8 := 180 :: 0 :: 26 :: t_Bh_takePlant_12
abbrev t_Bh_takePlant_8 : List UInt8 := 42 :: t_Bh_takePlant_9
abbrev t_Bh_takePlant_7 : List UInt8 := 76 :: t_Bh_takePlant_8
abbrev t_Bh_takePlant_4 : List UInt8 := 180 :: 0 :: 151 :: t_Bh_takePlant_7
abbrev t_Bh_takePlant_1 : List UInt8 := 180 :: 0 :: 26 :: t_Bh_takePlant_4
abbrev t_Bh_takePlant_0 : List UInt8 := 42 :: t_Bh_takePlant_1
theorem a_Bh_takePlant_0 : dk_at b_Bh_takePlant 0 t_Bh_takePlant_0 := dk_start (by decide +kernel)
theorem a_Bh_takePlant_1 : dk_at b_Bh_takePlant 1 t_Bh_takePlant_1 := dk_go 1 a_Bh_takePlant_0 rfl
theorem a_Bh_takePlant_4 : dk_at b_Bh_takePlant 4 t_Bh_takePlant_4 := dk_go 3 a_Bh_takePlant_1 rfl
theorem a_Bh_takePlant_7 : dk_at b_Bh_takePlant 7 t_Bh_takePlant_7 := dk_go 3 a_Bh_takePlant_4 rfl
theorem a_Bh_takePlant_8 : dk_at b_Bh_takePlant 8 t_Bh_takePlant_8 := dk_go 1 a_Bh_takePlant_7 rfl
theorem a_Bh_takePlant_9 : dk_at b_Bh_takePlant 9 t_Bh_takePlant_9 := dk_go 1 a_Bh_takePlant_8 rfl
theorem a_Bh_takePlant_12 : dk_at b_Bh_takePlant 12 t_Bh_takePlant_12 := dk_go 3 a_Bh_takePlant_9 rfl
theorem a_Bh_takePlant_13 : dk_at b_Bh_takePlant 13 t_Bh_takePlant_13 := dk_go 1 a_Bh_takePlant_12 rfl
theorem a_Bh_takePlant_16 : dk_at b_Bh_takePlant 16 t_Bh_takePlant_16 := dk_go 3 a_Bh_takePlant_13 rfl
theorem a_Bh_takePlant_19 : dk_at b_Bh_takePlant 19 t_Bh_takePlant_19 := dk_go 3 a_Bh_takePlant_16 rfl
theorem a_Bh_takePlant_20 : dk_at b_Bh_takePlant 20 t_Bh_takePlant_20 := dk_go 1 a_Bh_takePlant_19 rfl
theorem a_Bh_takePlant_21 : dk_at b_Bh_takePlant 21 t_Bh_takePlant_21 := dk_go 1 a_Bh_takePlant_20 rfl
theorem a_Bh_takePlant_24 : dk_at b_Bh_takePlant 24 t_Bh_takePlant_24 := dk_go 3 a_Bh_takePlant_21 rfl
theorem a_Bh_takePlant_25 : dk_at b_Bh_takePlant 25 t_Bh_takePlant_25 := dk_go 1 a_Bh_takePlant_24 rfl
theorem a_Bh_takePlant_28 : dk_at b_Bh_takePlant 28 t_Bh_takePlant_28 := dk_go 3 a_Bh_takePlant_25 rfl
theorem a_Bh_takePlant_31 : dk_at b_Bh_takePlant 31 t_Bh_takePlant_31 := dk_go 3 a_Bh_takePlant_28 rfl
theorem a_Bh_takePlant_32 : dk_at b_Bh_takePlant 32 t_Bh_takePlant_32 := dk_go 1 a_Bh_takePlant_31 rfl
theorem a_Bh_takePlant_35 : dk_at b_Bh_takePlant 35 t_Bh_takePlant_35 := dk_go 3 a_Bh_takePlant_32 rfl
theorem a_Bh_takePlant_36 : dk_at b_Bh_takePlant 36 t_Bh_takePlant_36 := dk_go 1 a_Bh_takePlant_35 rfl
theorem a_Bh_takePlant_39 : dk_at b_Bh_takePlant 39 t_Bh_takePlant_39 := dk_go 3 a_Bh_takePlant_36 rfl
theorem a_Bh_takePlant_40 : dk_at b_Bh_takePlant 40 t_Bh_takePlant_40 := dk_go 1 a_Bh_takePlant_39 rfl
theorem a_Bh_takePlant_41 : dk_at b_Bh_takePlant 41 t_Bh_takePlant_41 := dk_go 1 a_Bh_takePlant_40 rfl
theorem a_Bh_takePlant_44 : dk_at b_Bh_takePlant 44 t_Bh_takePlant_44 := dk_go 3 a_Bh_takePlant_41 rfl
theorem a_Bh_takePlant_47 : dk_at b_Bh_takePlant 47 t_Bh_takePlant_47 := dk_go 3 a_Bh_takePlant_44 rfl
theorem a_Bh_takePlant_48 : dk_at b_Bh_takePlant 48 t_Bh_takePlant_48 := dk_go 1 a_Bh_takePlant_47 rfl
theorem a_Bh_takePlant_51 : dk_at b_Bh_takePlant 51 t_Bh_takePlant_51 := dk_go 3 a_Bh_takePlant_48 rfl
theorem a_Bh_takePlant_54 : dk_at b_Bh_takePlant 54 t_Bh_takePlant_54 := dk_go 3 a_Bh_takePlant_51 rfl
theorem a_Bh_takePlant_57 : dk_at b_Bh_takePlant 57 t_Bh_takePlant_57 := dk_go 3 a_Bh_takePlant_54 rfl
theorem a_Bh_takePlant_58 : dk_at b_Bh_takePlant 58 t_Bh_takePlant_58 := dk_go 1 a_Bh_takePlant_57 rfl
theorem a_Bh_takePlant_61 : dk_at b_Bh_takePlant 61 t_Bh_takePlant_61 := dk_go 3 a_Bh_takePlant_58 rfl
theorem a_Bh_takePlant_64 : dk_at b_Bh_takePlant 64 t_Bh_takePlant_64 := dk_go 3 a_Bh_takePlant_61 rfl
theorem a_Bh_takePlant_67 : dk_at b_Bh_takePlant 67 t_Bh_takePlant_67 := dk_go 3 a_Bh_takePlant_64 rfl
theorem d_Bh_takePlant_0 : decode b_Bh_takePlant 0 = .ok (.aload_n 0, 1) := dk_0 a_Bh_takePlant_0 (dko_42 _)
theorem d_Bh_takePlant_1 : decode b_Bh_takePlant 1 = .ok (.getfield 26, 3) := dk_U2 a_Bh_takePlant_1 (dko_180 _) rfl
theorem d_Bh_takePlant_4 : decode b_Bh_takePlant 4 = .ok (.getfield 151, 3) := dk_U2 a_Bh_takePlant_4 (dko_180 _) rfl
theorem d_Bh_takePlant_7 : decode b_Bh_takePlant 7 = .ok (.astore_n 1, 1) := dk_0 a_Bh_takePlant_7 (dko_76 _)
theorem d_Bh_takePlant_8 : decode b_Bh_takePlant 8 = .ok (.aload_n 0, 1) := dk_0 a_Bh_takePlant_8 (dko_42 _)
theorem d_Bh_takePlant_9 : decode b_Bh_takePlant 9 = .ok (.getfield 26, 3) := dk_U2 a_Bh_takePlant_9 (dko_180 _) rfl
theorem d_Bh_takePlant_12 : decode b_Bh_takePlant 12 = .ok (.aload_n 0, 1) := dk_0 a_Bh_takePlant_12 (dko_42 _)
theorem d_Bh_takePlant_13 : decode b_Bh_takePlant 13 = .ok (.getfield 76, 3) := dk_U2 a_Bh_takePlant_13 (dko_180 _) rfl
theorem d_Bh_takePlant_16 : decode b_Bh_takePlant 16 = .ok (.invokevirtual 154, 3) := dk_U2 a_Bh_takePlant_16 (dko_182 _) rfl
theorem d_Bh_takePlant_19 : decode b_Bh_takePlant 19 = .ok (.aload_n 0, 1) := dk_0 a_Bh_takePlant_19 (dko_42 _)
theorem d_Bh_takePlant_20 : decode b_Bh_takePlant 20 = .ok (.aload_n 1, 1) := dk_0 a_Bh_takePlant_20 (dko_43 _)
theorem d_Bh_takePlant_21 : decode b_Bh_takePlant 21 = .ok (.putfield 76, 3) := dk_U2 a_Bh_takePlant_21 (dko_181 _) rfl
theorem d_Bh_takePlant_24 : decode b_Bh_takePlant 24 = .ok (.aload_n 0, 1) := dk_0 a_Bh_takePlant_24 (dko_42 _)
theorem d_Bh_takePlant_25 : decode b_Bh_takePlant 25 = .ok (.getfield 35, 3) := dk_U2 a_Bh_takePlant_25 (dko_180 _) rfl
theorem d_Bh_takePlant_28 : decode b_Bh_takePlant 28 = .ok (.invokevirtual 158, 3) := dk_U2 a_Bh_takePlant_28 (dko_182 _) rfl
theorem d_Bh_takePlant_31 : decode b_Bh_takePlant 31 = .ok (.aload_n 0, 1) := dk_0 a_Bh_takePlant_31 (dko_42 _)
theorem d_Bh_takePlant_32 : decode b_Bh_takePlant 32 = .ok (.getfield 62, 3) := dk_U2 a_Bh_takePlant_32 (dko_180 _) rfl
theorem d_Bh_takePlant_35 : decode b_Bh_takePlant 35 = .ok (.iconst 4, 1) := dk_0 a_Bh_takePlant_35 (dko_7 _)
theorem d_Bh_takePlant_36 : decode b_Bh_takePlant 36 = .ok (.putfield 161, 3) := dk_U2 a_Bh_takePlant_36 (dko_181 _) rfl
theorem d_Bh_takePlant_39 : decode b_Bh_takePlant 39 = .ok (.aload_n 0, 1) := dk_0 a_Bh_takePlant_39 (dko_42 _)
theorem d_Bh_takePlant_40 : decode b_Bh_takePlant 40 = .ok (.aload_n 0, 1) := dk_0 a_Bh_takePlant_40 (dko_42 _)
theorem d_Bh_takePlant_41 : decode b_Bh_takePlant 41 = .ok (.getfield 26, 3) := dk_U2 a_Bh_takePlant_41 (dko_180 _) rfl
theorem d_Bh_takePlant_44 : decode b_Bh_takePlant 44 = .ok (.getfield 151, 3) := dk_U2 a_Bh_takePlant_44 (dko_180 _) rfl
theorem d_Bh_takePlant_47 : decode b_Bh_takePlant 47 = .ok (.aload_n 0, 1) := dk_0 a_Bh_takePlant_47 (dko_42 _)
theorem d_Bh_takePlant_48 : decode b_Bh_takePlant 48 = .ok (.getfield 94, 3) := dk_U2 a_Bh_takePlant_48 (dko_180 _) rfl
theorem d_Bh_takePlant_51 : decode b_Bh_takePlant 51 = .ok (.invokevirtual 164, 3) := dk_U2 a_Bh_takePlant_51 (dko_182 _) rfl
theorem d_Bh_takePlant_54 : decode b_Bh_takePlant 54 = .ok (.putfield 168, 3) := dk_U2 a_Bh_takePlant_54 (dko_181 _) rfl
theorem d_Bh_takePlant_57 : decode b_Bh_takePlant 57 = .ok (.aload_n 0, 1) := dk_0 a_Bh_takePlant_57 (dko_42 _)
theorem d_Bh_takePlant_58 : decode b_Bh_takePlant 58 = .ok (.getfield 26, 3) := dk_U2 a_Bh_takePlant_58 (dko_180 _) rfl
theorem d_Bh_takePlant_61 : decode b_Bh_takePlant 61 = .ok (.getfield 151, 3) := dk_U2 a_Bh_takePlant_61 (dko_180 _) rfl
theorem d_Bh_takePlant_64 : decode b_Bh_takePlant 64 = .ok (.getfield 171, 3) := dk_U2 a_Bh_takePlant_64 (dko_180 _) rfl
theorem d_Bh_takePlant_67 : decode b_Bh_takePlant 67 = .ok (.ireturn, 1) := dk_0 a_Bh_takePlant_67 (dko_172 _)
set_option maxHeartbeats 4000000 in
set_option maxRecDepth 100000 in
theorem c_Bh_takePlant (l : Launch) (dC : Nat → ClassId) (dI : Nat → Nat → Nat) (cI cB cZ cJ : ClassId) (oB : Nat) (oSt : Nat) (xst_position : Nat) (xst_liquid : Nat) (xst_amount : Nat) (xst_last : Nat) (xst_cleaned : Nat) (xst_litres : Nat) (xst_start : Nat) (oWa : Nat) (xw_taken : Nat) (xw_over : Nat) (oRu : Nat) (oP2 : Nat) (xb_plantText : Nat) (oP1 : Nat) (xb : List Value) (hb_stock : fx xb 2 (.ref oSt)) (hb_ways : fx xb 3 (.ref oWa)) (hb_run : fx xb 6 (.ref oRu)) (hb_sparePlant : fx xb 8 (.ref oP2)) (hb_plantText : fx xb 11 (.ref xb_plantText)) (hb_plantTextLength : fx xb 12 (.int 0)) (xs_ : List Value) (hst_plant : fx xs_ 0 (.ref oP1)) (hst_position : fx xs_ 2 (.ref xst_position)) (hst_liquid : fx xs_ 3 (.ref xst_liquid)) (hst_amount : fx xs_ 4 (.ref xst_amount)) (hst_last : fx xs_ 5 (.ref xst_last)) (hst_cleaned : fx xs_ 6 (.ref xst_cleaned)) (hst_litres : fx xs_ 7 (.ref xst_litres)) (hst_start : fx xs_ 8 (.ref xst_start)) (xw : List Value) (hwa_count : fx xw 1 (.int 0)) (hwa_taken : fx xw 11 (.ref xw_taken)) (hwa_over : fx xw 12 (.ref xw_over)) (xn : List Value) (hru_state : fx xn 4 (.int 4)) (xq : List Value) (hxq_things : fx xq 0 (.int 0)) (hxq_pipes : fx xq 1 (.int 0)) (sz : Nat) : Met l y_Bh_takePlant w_Bh_takePlant ({ frames := 2, cells := 0, slots := 0, locals := 45 }) (va_Pc [.ref oB] (PW dC dI cI cB cZ cJ [(oB, .inr (0, xb)), (oSt, .inr (4, xs_)), (xst_position, .inl (cI, 20, .inl (fun _ => 0))), (xst_liquid, .inl (cI, 44, .inl (fun _ => 0))), (xst_amount, .inl (cI, 44, .inl (fun _ => 0))), (xst_last, .inl (cI, 44, .inl (fun _ => 0))), (xst_cleaned, .inl (cI, 264, .inl ((fun _ => (-1))))), (xst_litres, .inl (cJ, 96, .inr (.inl (fun _ => 0)))), (xst_start, .inl (cI, 24, .inl (fun _ => 0))), (oWa, .inr (5, xw)), (xw_taken, .inl (cZ, 24, .inl (fun _ => 0))), (xw_over, .inl (cI, 20, .inl (fun _ => 0))), (oRu, .inr (10, xn)), (oP2, .inr (3, xq))] sz)) (va_Qi (fun (r : Int32) (_ : Unit) => r = 0) (fun _ _ => True) (va_A [(oB, .inr (0, xb)), (oSt, .inr (4, xs_)), (xst_position, .inl (cI, 20, .inl (fun _ => 0))), (xst_liquid, .inl (cI, 44, .inl (fun _ => 0))), (xst_amount, .inl (cI, 44, .inl (fun _ => 0))), (xst_last, .inl (cI, 44, .inl (fun _ => 0))), (xst_cleaned, .inl (cI, 264, .inl ((fun _ => (-1))))), (xst_litres, .inl (cJ, 96, .inr (.inl (fun _ => 0)))), (xst_start, .inl (cI, 24, .inl (fun _ => 0))), (oWa, .inr (5, xw)), (xw_taken, .inl (cZ, 24, .inl (fun _ => 0))), (xw_over, .inl (cI, 20, .inl (fun _ => 0))), (oRu, .inr (10, xn)), (oP2, .inr (3, xq))] sz)) 0 0 (va_A [(oB, .inr (0, xb)), (oSt, .inr (4, xs_)), (xst_position, .inl (cI, 20, .inl (fun _ => 0))), (xst_liquid, .inl (cI, 44, .inl (fun _ => 0))), (xst_amount, .inl (cI, 44, .inl (fun _ => 0))), (xst_last, .inl (cI, 44, .inl (fun _ => 0))), (xst_cleaned, .inl (cI, 264, .inl ((fun _ => (-1))))), (xst_litres, .inl (cJ, 96, .inr (.inl (fun _ => 0)))), (xst_start, .inl (cI, 24, .inl (fun _ => 0))), (oWa, .inr (5, xw)), (xw_taken, .inl (cZ, 24, .inl (fun _ => 0))), (xw_over, .inl (cI, 20, .inl (fun _ => 0))), (oRu, .inr (10, xn)), (oP2, .inr (3, xq))] sz) := by
  refine Met.ofW (cc := b_Bh_takePlant) (maxL := 2) (ret := (some .int)) (by decide) rfl ?_
  intro p e s m args below meth c s₁ B hml hv
  obtain ⟨rfl, hsz, hP, hK, hD⟩ := hv
  have hx := B.exec
  have hb := B.bytes
  have hr := B.returns
  have hts := atoms_spec (ws := w_Bh_takePlant) B.pre
  have hown : s.vm.findClass R_Bh = some m.cls := findClass_of_methodNamed B.named
  have hlocks := B.notSynchronized
  subst hsz
  have hD := hD.self (sz := s.heap.size)
  generalize hAe : va_A [(oB, .inr (0, xb)), (oSt, .inr (4, xs_)), (xst_position, .inl (cI, 20, .inl (fun _ => 0))), (xst_liquid, .inl (cI, 44, .inl (fun _ => 0))), (xst_amount, .inl (cI, 44, .inl (fun _ => 0))), (xst_last, .inl (cI, 44, .inl (fun _ => 0))), (xst_cleaned, .inl (cI, 264, .inl ((fun _ => (-1))))), (xst_litres, .inl (cJ, 96, .inr (.inl (fun _ => 0)))), (xst_start, .inl (cI, 24, .inl (fun _ => 0))), (oWa, .inr (5, xw)), (xw_taken, .inl (cZ, 24, .inl (fun _ => 0))), (xw_over, .inl (cI, 20, .inl (fun _ => 0))), (oRu, .inr (10, xn)), (oP2, .inr (3, xq))] s.heap.size = A at hD ⊢
  have hA : ∀ q : Nat, s.heap.size ≤ q → A q := fun q h => by rw [← hAe]; exact Or.inr h
  have hS : va_S A s.heap s.heap [] := va_S.rf
  have hP : va_P (dC, dI) classes [(oB, .inr (0, xb)), (oSt, .inr (4, xs_)), (xst_position, .inl (cI, 20, .inl (fun _ => 0))), (xst_liquid, .inl (cI, 44, .inl (fun _ => 0))), (xst_amount, .inl (cI, 44, .inl (fun _ => 0))), (xst_last, .inl (cI, 44, .inl (fun _ => 0))), (xst_cleaned, .inl (cI, 264, .inl ((fun _ => (-1))))), (xst_litres, .inl (cJ, 96, .inr (.inl (fun _ => 0)))), (xst_start, .inl (cI, 24, .inl (fun _ => 0))), (oWa, .inr (5, xw)), (xw_taken, .inl (cZ, 24, .inl (fun _ => 0))), (xw_over, .inl (cI, 20, .inl (fun _ => 0))), (oRu, .inr (10, xn)), (oP2, .inr (3, xq))] s.heap := hP
  have hl := lv_entry ([.ref oB]) (n := 2) (Nat.le_of_ble_eq_true rfl)
  rw [lg_entry_eq]
  generalize (lg_sl ([.ref oB]) ++ List.replicate (2 - (lg_sl ([.ref oB])).length) Slot.unset).toArray = ls at hl ⊢
  have hl : lv_has ls 2 [(0, .ref oB)] := hl
  refine lv_aload_n hx hb d_Bh_takePlant_0 rfl (lv_at hl 0 rfl) ?_
  refine va_get (D := (dC, dI)) (ci := 0) (v := .ref oSt) (C := R_Bh) (T := F_Bh) (N := 16) hx hb hts (fun w h => List.mem_cons_of_mem _ (in_Bh w h)) hown hK.1 hP 0 rfl rfl 2 (by decide) (hts _ (List.mem_cons_of_mem _ mw_686)) (fun _ h9 => h9) hb_stock d_Bh_takePlant_1 ?_
  refine va_get (D := (dC, dI)) (ci := 4) (v := .ref oP1) (C := R_St) (T := F_St) (N := 12) hx hb hts (fun w h => List.mem_cons_of_mem _ (in_St w h)) hown hK.1 hP 1 rfl rfl 0 (by decide) (hts _ (List.mem_cons_of_mem _ mw_151)) (fun _ h9 => h9) hst_plant d_Bh_takePlant_4 ?_
  refine lv_astore_n hx hb d_Bh_takePlant_7 rfl hl (by decide) rfl (fun ls hl => ?_)
  have hl : lv_has ls 2 [(1, .ref oP1), (0, .ref oB)] := hl
  refine lv_aload_n hx hb d_Bh_takePlant_8 rfl (lv_at hl 1 rfl) ?_
  refine va_get (D := (dC, dI)) (ci := 0) (v := .ref oSt) (C := R_Bh) (T := F_Bh) (N := 16) hx hb hts (fun w h => List.mem_cons_of_mem _ (in_Bh w h)) hown hK.1 hP 0 rfl rfl 2 (by decide) (hts _ (List.mem_cons_of_mem _ mw_686)) (fun _ h9 => h9) hb_stock d_Bh_takePlant_9 ?_
  refine lv_aload_n hx hb d_Bh_takePlant_12 rfl (lv_at hl 1 rfl) ?_
  refine va_get (D := (dC, dI)) (ci := 0) (v := .ref oP2) (C := R_Bh) (T := F_Bh) (N := 16) hx hb hts (fun w h => List.mem_cons_of_mem _ (in_Bh w h)) hown hK.1 hP 0 rfl rfl 8 (by decide) (hts _ (List.mem_cons_of_mem _ mw_692)) (fun _ h9 => h9) hb_sparePlant d_Bh_takePlant_13 ?_
  have hPc := hP.sub (ws' := [(oSt, .inr (4, xs_)), (xst_position, .inl (cI, 20, .inl (fun _ => 0))), (xst_liquid, .inl (cI, 44, .inl (fun _ => 0))), (xst_amount, .inl (cI, 44, .inl (fun _ => 0))), (xst_last, .inl (cI, 44, .inl (fun _ => 0))), (xst_cleaned, .inl (cI, 264, .inl ((fun _ => (-1))))), (xst_litres, .inl (cJ, 96, .inr (.inl (fun _ => 0)))), (xst_start, .inl (cI, 24, .inl (fun _ => 0)))]) [1, 2, 3, 4, 5, 6, 7, 8] rfl
  have hDc := hD.sub (ws' := [(oSt, .inr (4, xs_)), (xst_position, .inl (cI, 20, .inl (fun _ => 0))), (xst_liquid, .inl (cI, 44, .inl (fun _ => 0))), (xst_amount, .inl (cI, 44, .inl (fun _ => 0))), (xst_last, .inl (cI, 44, .inl (fun _ => 0))), (xst_cleaned, .inl (cI, 264, .inl ((fun _ => (-1))))), (xst_litres, .inl (cJ, 96, .inr (.inl (fun _ => 0)))), (xst_start, .inl (cI, 24, .inl (fun _ => 0)))]) [1, 2, 3, 4, 5, 6, 7, 8] (by decide) rfl
  have hFc := va_free (wc := [(oSt, .inr (4, xs_)), (xst_position, .inl (cI, 20, .inl (fun _ => 0))), (xst_liquid, .inl (cI, 44, .inl (fun _ => 0))), (xst_amount, .inl (cI, 44, .inl (fun _ => 0))), (xst_last, .inl (cI, 44, .inl (fun _ => 0))), (xst_cleaned, .inl (cI, 264, .inl ((fun _ => (-1))))), (xst_litres, .inl (cJ, 96, .inr (.inl (fun _ => 0)))), (xst_start, .inl (cI, 24, .inl (fun _ => 0)))]) hD hS hA [1, 2, 3, 4, 5, 6, 7, 8] rfl
  refine va_callv (va_runV (C := R_St) (As := [.ref oP2]) (rest := []) ⟨hx, hb, hml, hown, hts⟩ (c_St_renew l dC dI cI cB cZ cJ oSt xst_position xst_liquid xst_amount xst_last xst_cleaned xst_litres xst_start oP2 oP1 xs_ hst_plant hst_position hst_liquid hst_amount hst_last hst_cleaned hst_litres hst_start s.heap.size) (cwV 1 hts (tb_V mw_1016 mw_1017 mw_1018 mw_4 mw_1019) rfl rfl rfl ⟨rfl, by decide +kernel, by decide +kernel, by decide +kernel⟩ ⟨(Nat.le_of_ble_eq_true rfl), (Nat.le_of_ble_eq_true rfl)⟩) ⟨pw_blind, va_recv (q := (R_St, F_St, 12)) hK.1 hP (ci := 4) (q0 := 1) rfl rfl, pw_pre hPc hK hDc⟩ rfl rfl hl.1 rfl (lv_room (Nat.le_of_ble_eq_true rfl)) d_Bh_takePlant_16 ⟨(Nat.le_of_ble_eq_true rfl), (Nat.le_of_ble_eq_true rfl)⟩) hS (fun q _ h => hFc q h) hFc (fun u t H locs ht hvm hw hB hz1 hk1 hS => ?_)
  obtain ⟨s16_1_oSt, k16_1_oSt_0, k16_1_oSt_2, k16_1_oSt_3, k16_1_oSt_4, k16_1_oSt_5, k16_1_oSt_6, k16_1_oSt_7, k16_1_oSt_8, hP1, hD1⟩ := hB
  rw [ht] at hP1
  obtain ⟨hP, hD⟩ := va_join (wr := [(oB, .inr (0, xb)), (oWa, .inr (5, xw)), (xw_taken, .inl (cZ, 24, .inl (fun _ => 0))), (xw_over, .inl (cI, 20, .inl (fun _ => 0))), (oRu, .inr (10, xn)), (oP2, .inr (3, xq))]) (w1 := [(oSt, .inr (4, s16_1_oSt)), (xst_position, .inl (cI, 20, .inl (fun _ => 0))), (xst_liquid, .inl (cI, 44, .inl (fun _ => 0))), (xst_amount, .inl (cI, 44, .inl (fun _ => 0))), (xst_last, .inl (cI, 44, .inl (fun _ => 0))), (xst_cleaned, .inl (cI, 264, .inl ((fun _ => (-1))))), (xst_litres, .inl (cJ, 96, .inr (.inl (fun _ => 0)))), (xst_start, .inl (cI, 24, .inl (fun _ => 0)))]) hP hD [1, 2, 3, 4, 5, 6, 7, 8] [0, 9, 10, 11, 12, 13] rfl rfl (by decide) (by decide) hk1 hFc hP1 hD1
  have hP : va_P (dC, dI) classes [(oB, .inr (0, xb)), (oWa, .inr (5, xw)), (xw_taken, .inl (cZ, 24, .inl (fun _ => 0))), (xw_over, .inl (cI, 20, .inl (fun _ => 0))), (oRu, .inr (10, xn)), (oP2, .inr (3, xq)), (oSt, .inr (4, s16_1_oSt)), (xst_position, .inl (cI, 20, .inl (fun _ => 0))), (xst_liquid, .inl (cI, 44, .inl (fun _ => 0))), (xst_amount, .inl (cI, 44, .inl (fun _ => 0))), (xst_last, .inl (cI, 44, .inl (fun _ => 0))), (xst_cleaned, .inl (cI, 264, .inl ((fun _ => (-1))))), (xst_litres, .inl (cJ, 96, .inr (.inl (fun _ => 0)))), (xst_start, .inl (cI, 24, .inl (fun _ => 0)))] H := hP
  have hD : va_D A [(oB, .inr (0, xb)), (oWa, .inr (5, xw)), (xw_taken, .inl (cZ, 24, .inl (fun _ => 0))), (xw_over, .inl (cI, 20, .inl (fun _ => 0))), (oRu, .inr (10, xn)), (oP2, .inr (3, xq)), (oSt, .inr (4, s16_1_oSt)), (xst_position, .inl (cI, 20, .inl (fun _ => 0))), (xst_liquid, .inl (cI, 44, .inl (fun _ => 0))), (xst_amount, .inl (cI, 44, .inl (fun _ => 0))), (xst_last, .inl (cI, 44, .inl (fun _ => 0))), (xst_cleaned, .inl (cI, 264, .inl ((fun _ => (-1))))), (xst_litres, .inl (cJ, 96, .inr (.inl (fun _ => 0)))), (xst_start, .inl (cI, 24, .inl (fun _ => 0)))] := hD
  refine lv_aload_n hx hb d_Bh_takePlant_19 rfl (lv_at hl 1 rfl) ?_
  refine lv_aload_n hx hb d_Bh_takePlant_20 rfl (lv_at hl 0 rfl) ?_
  refine va_put (D := (dC, dI)) (ci := 0) (v := .ref oP1) (ty := (.object "BreweryHouse$Plant")) (C := R_Bh) (T := F_Bh) (N := 16) hx hb hts (fun w h => List.mem_cons_of_mem _ (in_Bh w h)) t_Bh t_Bh_ok n_Bh hown hK.1 hP hD hS 0 rfl rfl 8 (by decide) (hts _ (List.mem_cons_of_mem _ mw_692)) (fun _ h9 => h9) rfl (by decide +kernel) rfl rfl (st_lt hb_sparePlant) d_Bh_takePlant_21 (fun H locs hP hD hS => ?_)
  have g21_11 : fx (xb.set 8 (.ref oP1)) 11 (.ref xb_plantText) := (st_ne hb_plantText (by decide))
  have g21_12 : fx (xb.set 8 (.ref oP1)) 12 (.int 0) := (st_ne hb_plantTextLength (by decide))
  have g21_6 : fx (xb.set 8 (.ref oP1)) 6 (.ref oRu) := (st_ne hb_run (by decide))
  have g21_8 : fx (xb.set 8 (.ref oP1)) 8 (.ref oP1) := (st_eq hb_sparePlant)
  have g21_2 : fx (xb.set 8 (.ref oP1)) 2 (.ref oSt) := (st_ne hb_stock (by decide))
  have g21_3 : fx (xb.set 8 (.ref oP1)) 3 (.ref oWa) := (st_ne hb_ways (by decide))
  have hP : va_P (dC, dI) classes [(oB, .inr (0, (xb.set 8 (.ref oP1)))), (oWa, .inr (5, xw)), (xw_taken, .inl (cZ, 24, .inl (fun _ => 0))), (xw_over, .inl (cI, 20, .inl (fun _ => 0))), (oRu, .inr (10, xn)), (oP2, .inr (3, xq)), (oSt, .inr (4, s16_1_oSt)), (xst_position, .inl (cI, 20, .inl (fun _ => 0))), (xst_liquid, .inl (cI, 44, .inl (fun _ => 0))), (xst_amount, .inl (cI, 44, .inl (fun _ => 0))), (xst_last, .inl (cI, 44, .inl (fun _ => 0))), (xst_cleaned, .inl (cI, 264, .inl ((fun _ => (-1))))), (xst_litres, .inl (cJ, 96, .inr (.inl (fun _ => 0)))), (xst_start, .inl (cI, 24, .inl (fun _ => 0)))] H := hP
  have hD : va_D A [(oB, .inr (0, (xb.set 8 (.ref oP1)))), (oWa, .inr (5, xw)), (xw_taken, .inl (cZ, 24, .inl (fun _ => 0))), (xw_over, .inl (cI, 20, .inl (fun _ => 0))), (oRu, .inr (10, xn)), (oP2, .inr (3, xq)), (oSt, .inr (4, s16_1_oSt)), (xst_position, .inl (cI, 20, .inl (fun _ => 0))), (xst_liquid, .inl (cI, 44, .inl (fun _ => 0))), (xst_amount, .inl (cI, 44, .inl (fun _ => 0))), (xst_last, .inl (cI, 44, .inl (fun _ => 0))), (xst_cleaned, .inl (cI, 264, .inl ((fun _ => (-1))))), (xst_litres, .inl (cJ, 96, .inr (.inl (fun _ => 0)))), (xst_start, .inl (cI, 24, .inl (fun _ => 0)))] := hD
  refine lv_aload_n hx hb d_Bh_takePlant_24 rfl (lv_at hl 1 rfl) ?_
  refine va_get (D := (dC, dI)) (ci := 0) (v := .ref oWa) (C := R_Bh) (T := F_Bh) (N := 16) hx hb hts (fun w h => List.mem_cons_of_mem _ (in_Bh w h)) hown hK.1 hP 0 rfl rfl 3 (by decide) (hts _ (List.mem_cons_of_mem _ mw_687)) (fun _ h9 => h9) g21_3 d_Bh_takePlant_25 ?_
  have hPc := hP.sub (ws' := [(oWa, .inr (5, xw)), (xw_taken, .inl (cZ, 24, .inl (fun _ => 0))), (xw_over, .inl (cI, 20, .inl (fun _ => 0)))]) [1, 2, 3] rfl
  have hDc := hD.sub (ws' := [(oWa, .inr (5, xw)), (xw_taken, .inl (cZ, 24, .inl (fun _ => 0))), (xw_over, .inl (cI, 20, .inl (fun _ => 0)))]) [1, 2, 3] (by decide) rfl
  have hFc := va_free (wc := [(oWa, .inr (5, xw)), (xw_taken, .inl (cZ, 24, .inl (fun _ => 0))), (xw_over, .inl (cI, 20, .inl (fun _ => 0)))]) hD hS hA [1, 2, 3] rfl
  refine va_callv (va_runV (C := R_Wa) (As := []) (rest := []) ⟨hx, hb, hml, hown, hts⟩ (c_Wa_forget l dC dI cI cB cZ cJ oWa xw_taken xw_over xw hwa_count hwa_taken hwa_over H.size) (cwV 0 hts (tb_V mw_1023 mw_1024 mw_1025 mw_7 mw_1026) rfl rfl rfl ⟨rfl, by decide +kernel, by decide +kernel, by decide +kernel⟩ ⟨(Nat.le_of_ble_eq_true rfl), (Nat.le_of_ble_eq_true rfl)⟩) ⟨pw_blind, va_recv (q := (R_Wa, F_Wa, 18)) hK.1 hP (ci := 5) (q0 := 1) rfl rfl, pw_pre hPc hK hDc⟩ rfl rfl hl.1 rfl (lv_room (Nat.le_of_ble_eq_true rfl)) d_Bh_takePlant_28 ⟨(Nat.le_of_ble_eq_true rfl), (Nat.le_of_ble_eq_true rfl)⟩) hS (fun q _ h => hFc q h) hFc (fun u t H locs ht hvm hw hB hz1 hk1 hS => ?_)
  obtain ⟨s28_3_oWa, f28_3_xw_taken, k28_3_oWa_1, k28_3_oWa_11, k28_3_oWa_12, hP1, hD1⟩ := hB
  rw [ht] at hP1
  obtain ⟨hP, hD⟩ := va_join (wr := [(oB, .inr (0, (xb.set 8 (.ref oP1)))), (oRu, .inr (10, xn)), (oP2, .inr (3, xq)), (oSt, .inr (4, s16_1_oSt)), (xst_position, .inl (cI, 20, .inl (fun _ => 0))), (xst_liquid, .inl (cI, 44, .inl (fun _ => 0))), (xst_amount, .inl (cI, 44, .inl (fun _ => 0))), (xst_last, .inl (cI, 44, .inl (fun _ => 0))), (xst_cleaned, .inl (cI, 264, .inl ((fun _ => (-1))))), (xst_litres, .inl (cJ, 96, .inr (.inl (fun _ => 0)))), (xst_start, .inl (cI, 24, .inl (fun _ => 0)))]) (w1 := [(oWa, .inr (5, s28_3_oWa)), (xw_taken, .inl (cZ, 24, .inl f28_3_xw_taken)), (xw_over, .inl (cI, 20, .inl (fun _ => 0)))]) hP hD [1, 2, 3] [0, 4, 5, 6, 7, 8, 9, 10, 11, 12, 13] rfl rfl (by decide) (by decide) hk1 hFc hP1 hD1
  have hP : va_P (dC, dI) classes [(oB, .inr (0, (xb.set 8 (.ref oP1)))), (oRu, .inr (10, xn)), (oP2, .inr (3, xq)), (oSt, .inr (4, s16_1_oSt)), (xst_position, .inl (cI, 20, .inl (fun _ => 0))), (xst_liquid, .inl (cI, 44, .inl (fun _ => 0))), (xst_amount, .inl (cI, 44, .inl (fun _ => 0))), (xst_last, .inl (cI, 44, .inl (fun _ => 0))), (xst_cleaned, .inl (cI, 264, .inl ((fun _ => (-1))))), (xst_litres, .inl (cJ, 96, .inr (.inl (fun _ => 0)))), (xst_start, .inl (cI, 24, .inl (fun _ => 0))), (oWa, .inr (5, s28_3_oWa)), (xw_taken, .inl (cZ, 24, .inl f28_3_xw_taken)), (xw_over, .inl (cI, 20, .inl (fun _ => 0)))] H := hP
  have hD : va_D A [(oB, .inr (0, (xb.set 8 (.ref oP1)))), (oRu, .inr (10, xn)), (oP2, .inr (3, xq)), (oSt, .inr (4, s16_1_oSt)), (xst_position, .inl (cI, 20, .inl (fun _ => 0))), (xst_liquid, .inl (cI, 44, .inl (fun _ => 0))), (xst_amount, .inl (cI, 44, .inl (fun _ => 0))), (xst_last, .inl (cI, 44, .inl (fun _ => 0))), (xst_cleaned, .inl (cI, 264, .inl ((fun _ => (-1))))), (xst_litres, .inl (cJ, 96, .inr (.inl (fun _ => 0)))), (xst_start, .inl (cI, 24, .inl (fun _ => 0))), (oWa, .inr (5, s28_3_oWa)), (xw_taken, .inl (cZ, 24, .inl f28_3_xw_taken)), (xw_over, .inl (cI, 20, .inl (fun _ => 0)))] := hD
  refine lv_aload_n hx hb d_Bh_takePlant_31 rfl (lv_at hl 1 rfl) ?_
  refine va_get (D := (dC, dI)) (ci := 0) (v := .ref oRu) (C := R_Bh) (T := F_Bh) (N := 16) hx hb hts (fun w h => List.mem_cons_of_mem _ (in_Bh w h)) hown hK.1 hP 0 rfl rfl 6 (by decide) (hts _ (List.mem_cons_of_mem _ mw_690)) (fun _ h9 => h9) g21_6 d_Bh_takePlant_32 ?_
  refine lv_iconst (v := 4) hx hb d_Bh_takePlant_35 (by decide) ?_
  refine va_put (D := (dC, dI)) (ci := 10) (v := .int 4) (ty := .int) (C := R_Ru) (T := F_Ru) (N := 21) hx hb hts (fun w h => List.mem_cons_of_mem _ (in_Ru w h)) t_Ru t_Ru_ok n_Ru hown hK.1 hP hD hS 1 rfl rfl 4 (by decide) (hts _ (List.mem_cons_of_mem _ mw_517)) (fun _ h9 => h9) rfl (by decide +kernel) rfl rfl (st_lt hru_state) d_Bh_takePlant_36 (fun H locs hP hD hS => ?_)
  have g36_4 : fx (xn.set 4 (.int 4)) 4 (.int 4) := (st_eq hru_state)
  have hP : va_P (dC, dI) classes [(oB, .inr (0, (xb.set 8 (.ref oP1)))), (oRu, .inr (10, (xn.set 4 (.int 4)))), (oP2, .inr (3, xq)), (oSt, .inr (4, s16_1_oSt)), (xst_position, .inl (cI, 20, .inl (fun _ => 0))), (xst_liquid, .inl (cI, 44, .inl (fun _ => 0))), (xst_amount, .inl (cI, 44, .inl (fun _ => 0))), (xst_last, .inl (cI, 44, .inl (fun _ => 0))), (xst_cleaned, .inl (cI, 264, .inl ((fun _ => (-1))))), (xst_litres, .inl (cJ, 96, .inr (.inl (fun _ => 0)))), (xst_start, .inl (cI, 24, .inl (fun _ => 0))), (oWa, .inr (5, s28_3_oWa)), (xw_taken, .inl (cZ, 24, .inl f28_3_xw_taken)), (xw_over, .inl (cI, 20, .inl (fun _ => 0)))] H := hP
  have hD : va_D A [(oB, .inr (0, (xb.set 8 (.ref oP1)))), (oRu, .inr (10, (xn.set 4 (.int 4)))), (oP2, .inr (3, xq)), (oSt, .inr (4, s16_1_oSt)), (xst_position, .inl (cI, 20, .inl (fun _ => 0))), (xst_liquid, .inl (cI, 44, .inl (fun _ => 0))), (xst_amount, .inl (cI, 44, .inl (fun _ => 0))), (xst_last, .inl (cI, 44, .inl (fun _ => 0))), (xst_cleaned, .inl (cI, 264, .inl ((fun _ => (-1))))), (xst_litres, .inl (cJ, 96, .inr (.inl (fun _ => 0)))), (xst_start, .inl (cI, 24, .inl (fun _ => 0))), (oWa, .inr (5, s28_3_oWa)), (xw_taken, .inl (cZ, 24, .inl f28_3_xw_taken)), (xw_over, .inl (cI, 20, .inl (fun _ => 0)))] := hD
  refine lv_aload_n hx hb d_Bh_takePlant_39 rfl (lv_at hl 1 rfl) ?_
  refine lv_aload_n hx hb d_Bh_takePlant_40 rfl (lv_at hl 1 rfl) ?_
  refine va_get (D := (dC, dI)) (ci := 0) (v := .ref oSt) (C := R_Bh) (T := F_Bh) (N := 16) hx hb hts (fun w h => List.mem_cons_of_mem _ (in_Bh w h)) hown hK.1 hP 0 rfl rfl 2 (by decide) (hts _ (List.mem_cons_of_mem _ mw_686)) (fun _ h9 => h9) g21_2 d_Bh_takePlant_41 ?_
  refine va_get (D := (dC, dI)) (ci := 4) (v := .ref oP2) (C := R_St) (T := F_St) (N := 12) hx hb hts (fun w h => List.mem_cons_of_mem _ (in_St w h)) hown hK.1 hP 3 rfl rfl 0 (by decide) (hts _ (List.mem_cons_of_mem _ mw_151)) (fun _ h9 => h9) k16_1_oSt_0 d_Bh_takePlant_44 ?_
  refine lv_aload_n hx hb d_Bh_takePlant_47 rfl (lv_at hl 1 rfl) ?_
  refine va_get (D := (dC, dI)) (ci := 0) (v := .ref xb_plantText) (C := R_Bh) (T := F_Bh) (N := 16) hx hb hts (fun w h => List.mem_cons_of_mem _ (in_Bh w h)) hown hK.1 hP 0 rfl rfl 11 (by decide) (hts _ (List.mem_cons_of_mem _ mw_695)) (fun _ h9 => h9) g21_11 d_Bh_takePlant_48 ?_
  have hPc := hP.sub (ws' := [(oP2, .inr (3, xq))]) [2] rfl
  have hDc := hD.sub (ws' := [(oP2, .inr (3, xq))]) [2] (by decide) rfl
  have hFc := pu_free hS hA
  refine va_calli (va_runV (C := R_Pl) (As := [.ref xb_plantText]) (rest := [.ref oB]) ⟨hx, hb, hml, hown, hts⟩ (c_Pl_writeTo l dC dI cI cB cZ cJ oP2 xb_plantText xq hxq_things hxq_pipes H.size) (cwV 1 hts (tb_V mw_1028 mw_1029 mw_1030 mw_5 mw_1031) rfl rfl rfl ⟨rfl, by decide +kernel, by decide +kernel, by decide +kernel⟩ ⟨(Nat.le_of_ble_eq_true rfl), (Nat.le_of_ble_eq_true rfl)⟩) ⟨pw_blind, va_recv (q := (R_Pl, F_Pl, 12)) hK.1 hP (ci := 3) (q0 := 2) rfl rfl, pw_pre hPc hK hDc⟩ rfl rfl hl.1 rfl (lv_room (Nat.le_of_ble_eq_true rfl)) d_Bh_takePlant_51 ⟨(Nat.le_of_ble_eq_true rfl), (Nat.le_of_ble_eq_true rfl)⟩) hS (fun q _ h => hFc q h) hFc (fun r u t H locs ht hvm hw hB hz1 hk1 hS => ?_)
  have hP := pu_kept hP hk1
  obtain rfl : r = 0 := hw
  refine va_put (D := (dC, dI)) (ci := 0) (v := .int 0) (ty := .int) (C := R_Bh) (T := F_Bh) (N := 16) hx hb hts (fun w h => List.mem_cons_of_mem _ (in_Bh w h)) t_Bh t_Bh_ok n_Bh hown hK.1 hP hD hS 0 rfl rfl 12 (by decide) (hts _ (List.mem_cons_of_mem _ mw_696)) (fun _ h9 => h9) rfl (by decide +kernel) rfl rfl (st_lt g21_12) d_Bh_takePlant_54 (fun H locs hP hD hS => ?_)
  have g54_11 : fx ((xb.set 8 (.ref oP1)).set 12 (.int 0)) 11 (.ref xb_plantText) := (st_ne g21_11 (by decide))
  have g54_12 : fx ((xb.set 8 (.ref oP1)).set 12 (.int 0)) 12 (.int 0) := (st_eq g21_12)
  have g54_6 : fx ((xb.set 8 (.ref oP1)).set 12 (.int 0)) 6 (.ref oRu) := (st_ne g21_6 (by decide))
  have g54_8 : fx ((xb.set 8 (.ref oP1)).set 12 (.int 0)) 8 (.ref oP1) := (st_ne g21_8 (by decide))
  have g54_2 : fx ((xb.set 8 (.ref oP1)).set 12 (.int 0)) 2 (.ref oSt) := (st_ne g21_2 (by decide))
  have g54_3 : fx ((xb.set 8 (.ref oP1)).set 12 (.int 0)) 3 (.ref oWa) := (st_ne g21_3 (by decide))
  have hP : va_P (dC, dI) classes [(oB, .inr (0, ((xb.set 8 (.ref oP1)).set 12 (.int 0)))), (oRu, .inr (10, (xn.set 4 (.int 4)))), (oP2, .inr (3, xq)), (oSt, .inr (4, s16_1_oSt)), (xst_position, .inl (cI, 20, .inl (fun _ => 0))), (xst_liquid, .inl (cI, 44, .inl (fun _ => 0))), (xst_amount, .inl (cI, 44, .inl (fun _ => 0))), (xst_last, .inl (cI, 44, .inl (fun _ => 0))), (xst_cleaned, .inl (cI, 264, .inl ((fun _ => (-1))))), (xst_litres, .inl (cJ, 96, .inr (.inl (fun _ => 0)))), (xst_start, .inl (cI, 24, .inl (fun _ => 0))), (oWa, .inr (5, s28_3_oWa)), (xw_taken, .inl (cZ, 24, .inl f28_3_xw_taken)), (xw_over, .inl (cI, 20, .inl (fun _ => 0)))] H := hP
  have hD : va_D A [(oB, .inr (0, ((xb.set 8 (.ref oP1)).set 12 (.int 0)))), (oRu, .inr (10, (xn.set 4 (.int 4)))), (oP2, .inr (3, xq)), (oSt, .inr (4, s16_1_oSt)), (xst_position, .inl (cI, 20, .inl (fun _ => 0))), (xst_liquid, .inl (cI, 44, .inl (fun _ => 0))), (xst_amount, .inl (cI, 44, .inl (fun _ => 0))), (xst_last, .inl (cI, 44, .inl (fun _ => 0))), (xst_cleaned, .inl (cI, 264, .inl ((fun _ => (-1))))), (xst_litres, .inl (cJ, 96, .inr (.inl (fun _ => 0)))), (xst_start, .inl (cI, 24, .inl (fun _ => 0))), (oWa, .inr (5, s28_3_oWa)), (xw_taken, .inl (cZ, 24, .inl f28_3_xw_taken)), (xw_over, .inl (cI, 20, .inl (fun _ => 0)))] := hD
  refine lv_aload_n hx hb d_Bh_takePlant_57 rfl (lv_at hl 1 rfl) ?_
  refine va_get (D := (dC, dI)) (ci := 0) (v := .ref oSt) (C := R_Bh) (T := F_Bh) (N := 16) hx hb hts (fun w h => List.mem_cons_of_mem _ (in_Bh w h)) hown hK.1 hP 0 rfl rfl 2 (by decide) (hts _ (List.mem_cons_of_mem _ mw_686)) (fun _ h9 => h9) g54_2 d_Bh_takePlant_58 ?_
  refine va_get (D := (dC, dI)) (ci := 4) (v := .ref oP2) (C := R_St) (T := F_St) (N := 12) hx hb hts (fun w h => List.mem_cons_of_mem _ (in_St w h)) hown hK.1 hP 3 rfl rfl 0 (by decide) (hts _ (List.mem_cons_of_mem _ mw_151)) (fun _ h9 => h9) k16_1_oSt_0 d_Bh_takePlant_61 ?_
  refine va_get (D := (dC, dI)) (ci := 3) (v := .int 0) (C := R_Pl) (T := F_Pl) (N := 12) hx hb hts (fun w h => List.mem_cons_of_mem _ (in_Pl w h)) hown hK.1 hP 2 rfl rfl 0 (by decide) (hts _ (List.mem_cons_of_mem _ mw_89)) (fun _ h9 => h9) hxq_things d_Bh_takePlant_64 ?_
  exact W.iret (v := 0) hx hb hr (fun t ht hW => ⟨⟨_, (), rfl, (rfl), trivial⟩, hS.F ht⟩) hS.2.2 d_Bh_takePlant_67
abbrev t_Bh_takeRows_45 : List UInt8 := 172 :: []
abbrev t_Bh_takeRows_42 : List UInt8 := 180 :: 0 :: 180 :: t_Bh_takeRows_45
abbrev t_Bh_takeRows_39 : List UInt8 := 180 :: 0 :: 174 :: t_Bh_takeRows_42
abbrev t_Bh_takeRows_36 : List UInt8 := 180 :: 0 :: 53 :: t_Bh_takeRows_39
abbrev t_Bh_takeRows_35 : List UInt8 := 42 :: t_Bh_takeRows_36
abbrev t_Bh_takeRows_32 : List UInt8 := 181 :: 0 :: 83 :: t_Bh_takeRows_35
abbrev t_Bh_takeRows_31 : List UInt8 := 43 :: t_Bh_takeRows_32
abbrev t_Bh_takeRows_30 : List UInt8 := 42 :: t_Bh_takeRows_31
abbrev t_Bh_takeRows_27 : List UInt8 := 181 :: 0 :: 174 :: t_Bh_takeRows_30
abbrev t_Bh_takeRows_24 : List UInt8 := 180 :: 0 :: 83 :: t_Bh_takeRows_27
abbrev t_Bh_takeRows_23 : List UInt8 := 42 :: t_Bh_takeRows_24
abbrev t_Bh_takeRows_20 : List UInt8 := 180 :: 0 :: 53 :: t_Bh_takeRows_23
abbrev t_Bh_takeRows_19 : List UInt8 := 42 :: t_Bh_takeRows_20
abbrev t_Bh_takeRows_16 : List UInt8 := 181 :: 0 :: 177 :: t_Bh_takeRows_19
abbrev t_Bh_takeRows_13 : List UInt8 := 180 :: 0 :: 177 :: t_Bh_takeRows_16
abbrev t_Bh_takeRows_12 : List UInt8 := 43 :: t_Bh_takeRows_13
abbrev t_Bh_takeRows_9 : List UInt8 := 180 :: 0 :: 83 :: t_Bh_takeRows_12
abbrev t_Bh_takeRows_8 : List UInt8 := 42 :: t_Bh_takeRows_9
abbrev t_Bh_takeRows_7 : List UInt8 := 76 :: t_Bh_takeRows_8
abbrev t_Bh_takeRows_4 : List UInt8 := 180 :: 0 :: 174 :: t_Bh_takeRows_7
abbrev t_Bh_takeRows_1 : List UInt8 := 180 :: 0 :: 53 :: t_Bh_takeRows_4
abbrev t_Bh_takeRows_0 : List UInt8 := 42 :: t_Bh_takeRows_1
theorem a_Bh_takeRows_0 : dk_at b_Bh_takeRows 0 t_Bh_takeRows_0 := dk_start (by decide +kernel)
theorem a_Bh_takeRows_1 : dk_at b_Bh_takeRows 1 t_Bh_takeRows_1 := dk_go 1 a_Bh_takeRows_0 rfl
theorem a_Bh_takeRows_4 : dk_at b_Bh_takeRows 4 t_Bh_takeRows_4 := dk_go 3 a_Bh_takeRows_1 rfl
theorem a_Bh_takeRows_7 : dk_at b_Bh_takeRows 7 t_Bh_takeRows_7 := dk_go 3 a_Bh_takeRows_4 rfl
theorem a_Bh_takeRows_8 : dk_at b_Bh_takeRows 8 t_Bh_takeRows_8 := dk_go 1 a_Bh_takeRows_7 rfl
theorem a_Bh_takeRows_9 : dk_at b_Bh_takeRows 9 t_Bh_takeRows_9 := dk_go 1 a_Bh_takeRows_8 rfl
theorem a_Bh_takeRows_12 : dk_at b_Bh_takeRows 12 t_Bh_takeRows_12 := dk_go 3 a_Bh_takeRows_9 rfl
theorem a_Bh_takeRows_13 : dk_at b_Bh_takeRows 13 t_Bh_takeRows_13 := dk_go 1 a_Bh_takeRows_12 rfl
theorem a_Bh_takeRows_16 : dk_at b_Bh_takeRows 16 t_Bh_takeRows_16 := dk_go 3 a_Bh_takeRows_13 rfl
theorem a_Bh_takeRows_19 : dk_at b_Bh_takeRows 19 t_Bh_takeRows_19 := dk_go 3 a_Bh_takeRows_16 rfl
theorem a_Bh_takeRows_20 : dk_at b_Bh_takeRows 20 t_Bh_takeRows_20 := dk_go 1 a_Bh_takeRows_19 rfl
theorem a_Bh_takeRows_23 : dk_at b_Bh_takeRows 23 t_Bh_takeRows_23 := dk_go 3 a_Bh_takeRows_20 rfl
theorem a_Bh_takeRows_24 : dk_at b_Bh_takeRows 24 t_Bh_takeRows_24 := dk_go 1 a_Bh_takeRows_23 rfl
theorem a_Bh_takeRows_27 : dk_at b_Bh_takeRows 27 t_Bh_takeRows_27 := dk_go 3 a_Bh_takeRows_24 rfl
theorem a_Bh_takeRows_30 : dk_at b_Bh_takeRows 30 t_Bh_takeRows_30 := dk_go 3 a_Bh_takeRows_27 rfl
theorem a_Bh_takeRows_31 : dk_at b_Bh_takeRows 31 t_Bh_takeRows_31 := dk_go 1 a_Bh_takeRows_30 rfl
theorem a_Bh_takeRows_32 : dk_at b_Bh_takeRows 32 t_Bh_takeRows_32 := dk_go 1 a_Bh_takeRows_31 rfl
theorem a_Bh_takeRows_35 : dk_at b_Bh_takeRows 35 t_Bh_takeRows_35 := dk_go 3 a_Bh_takeRows_32 rfl
theorem a_Bh_takeRows_36 : dk_at b_Bh_takeRows 36 t_Bh_takeRows_36 := dk_go 1 a_Bh_takeRows_35 rfl
theorem a_Bh_takeRows_39 : dk_at b_Bh_takeRows 39 t_Bh_takeRows_39 := dk_go 3 a_Bh_takeRows_36 rfl
theorem a_Bh_takeRows_42 : dk_at b_Bh_takeRows 42 t_Bh_takeRows_42 := dk_go 3 a_Bh_takeRows_39 rfl
theorem a_Bh_takeRows_45 : dk_at b_Bh_takeRows 45 t_Bh_takeRows_45 := dk_go 3 a_Bh_takeRows_42 rfl
theorem d_Bh_takeRows_0 : decode b_Bh_takeRows 0 = .ok (.aload_n 0, 1) := dk_0 a_Bh_takeRows_0 (dko_42 _)
theorem d_Bh_takeRows_1 : decode b_Bh_takeRows 1 = .ok (.getfield 53, 3) := dk_U2 a_Bh_takeRows_1 (dko_180 _) rfl
theorem d_Bh_takeRows_4 : decode b_Bh_takeRows 4 = .ok (.getfield 174, 3) := dk_U2 a_Bh_takeRows_4 (dko_180 _) rfl
theorem d_Bh_takeRows_7 : decode b_Bh_takeRows 7 = .ok (.astore_n 1, 1) := dk_0 a_Bh_takeRows_7 (dko_76 _)
theorem d_Bh_takeRows_8 : decode b_Bh_takeRows 8 = .ok (.aload_n 0, 1) := dk_0 a_Bh_takeRows_8 (dko_42 _)
theorem d_Bh_takeRows_9 : decode b_Bh_takeRows 9 = .ok (.getfield 83, 3) := dk_U2 a_Bh_takeRows_9 (dko_180 _) rfl
theorem d_Bh_takeRows_12 : decode b_Bh_takeRows 12 = .ok (.aload_n 1, 1) := dk_0 a_Bh_takeRows_12 (dko_43 _)
theorem d_Bh_takeRows_13 : decode b_Bh_takeRows 13 = .ok (.getfield 177, 3) := dk_U2 a_Bh_takeRows_13 (dko_180 _) rfl
theorem d_Bh_takeRows_16 : decode b_Bh_takeRows 16 = .ok (.putfield 177, 3) := dk_U2 a_Bh_takeRows_16 (dko_181 _) rfl
theorem d_Bh_takeRows_19 : decode b_Bh_takeRows 19 = .ok (.aload_n 0, 1) := dk_0 a_Bh_takeRows_19 (dko_42 _)
theorem d_Bh_takeRows_20 : decode b_Bh_takeRows 20 = .ok (.getfield 53, 3) := dk_U2 a_Bh_takeRows_20 (dko_180 _) rfl
theorem d_Bh_takeRows_23 : decode b_Bh_takeRows 23 = .ok (.aload_n 0, 1) := dk_0 a_Bh_takeRows_23 (dko_42 _)
theorem d_Bh_takeRows_24 : decode b_Bh_takeRows 24 = .ok (.getfield 83, 3) := dk_U2 a_Bh_takeRows_24 (dko_180 _) rfl
theorem d_Bh_takeRows_27 : decode b_Bh_takeRows 27 = .ok (.putfield 174, 3) := dk_U2 a_Bh_takeRows_27 (dko_181 _) rfl
theorem d_Bh_takeRows_30 : decode b_Bh_takeRows 30 = .ok (.aload_n 0, 1) := dk_0 a_Bh_takeRows_30 (dko_42 _)
theorem d_Bh_takeRows_31 : decode b_Bh_takeRows 31 = .ok (.aload_n 1, 1) := dk_0 a_Bh_takeRows_31 (dko_43 _)
theorem d_Bh_takeRows_32 : decode b_Bh_takeRows 32 = .ok (.putfield 83, 3) := dk_U2 a_Bh_takeRows_32 (dko_181 _) rfl
theorem d_Bh_takeRows_35 : decode b_Bh_takeRows 35 = .ok (.aload_n 0, 1) := dk_0 a_Bh_takeRows_35 (dko_42 _)
theorem d_Bh_takeRows_36 : decode b_Bh_takeRows 36 = .ok (.getfield 53, 3) := dk_U2 a_Bh_takeRows_36 (dko_180 _) rfl
theorem d_Bh_takeRows_39 : decode b_Bh_takeRows 39 = .ok (.getfield 174, 3) := dk_U2 a_Bh_takeRows_39 (dko_180 _) rfl
theorem d_Bh_takeRows_42 : decode b_Bh_takeRows 42 = .ok (.getfield 180, 3) := dk_U2 a_Bh_takeRows_42 (dko_180 _) rfl
theorem d_Bh_takeRows_45 : decode b_Bh_takeRows 45 = .ok (.ireturn, 1) := dk_0 a_Bh_takeRows_45 (dko_172 _)
set_option maxHeartbeats 4000000 in
set_option maxRecDepth 100000 in
theorem c_Bh_takeRows (l : Launch) (dC : Nat → ClassId) (dI : Nat → Nat → Nat) (cI cB cZ cJ : ClassId) (oB : Nat) (oAc : Nat) (oR1 : Nat) (oR2 : Nat) (xb : List Value) (hb_acts : fx xb 5 (.ref oAc)) (hb_spareRows : fx xb 9 (.ref oR2)) (xc : List Value) (hac_rows : fx xc 3 (.ref oR1)) (xr : List Value) (hxr_conditions : fx xr 1 (.int 0)) (xu : List Value) (hxu_count : fx xu 0 (.int 0)) (hxu_conditions : fx xu 1 (.int 0)) (sz : Nat) : Met l y_Bh_takeRows w_Bh_takeRows ({ frames := 0, cells := 0, slots := 0, locals := 0 }) (va_Pc [.ref oB] (PW dC dI cI cB cZ cJ [(oB, .inr (0, xb)), (oAc, .inr (11, xc)), (oR1, .inr (7, xr)), (oR2, .inr (7, xu))] sz)) (va_Qi (fun (r : Int32) (_ : Unit) => r = 0) (fun _ _ => True) (va_A [(oB, .inr (0, xb)), (oAc, .inr (11, xc)), (oR1, .inr (7, xr)), (oR2, .inr (7, xu))] sz)) 0 0 (va_A [(oB, .inr (0, xb)), (oAc, .inr (11, xc)), (oR1, .inr (7, xr)), (oR2, .inr (7, xu))] sz) := by
  refine Met.ofW (cc := b_Bh_takeRows) (maxL := 2) (ret := (some .int)) (by decide) rfl ?_
  intro p e s m args below meth c s₁ B hml hv
  obtain ⟨rfl, hsz, hP, hK, hD⟩ := hv
  have hx := B.exec
  have hb := B.bytes
  have hr := B.returns
  have hts := atoms_spec (ws := w_Bh_takeRows) B.pre
  have hown : s.vm.findClass R_Bh = some m.cls := findClass_of_methodNamed B.named
  have hlocks := B.notSynchronized
  subst hsz
  have hD := hD.self (sz := s.heap.size)
  generalize hAe : va_A [(oB, .inr (0, xb)), (oAc, .inr (11, xc)), (oR1, .inr (7, xr)), (oR2, .inr (7, xu))] s.heap.size = A at hD ⊢
  have hA : ∀ q : Nat, s.heap.size ≤ q → A q := fun q h => by rw [← hAe]; exact Or.inr h
  have hS : va_S A s.heap s.heap [] := va_S.rf
  have hP : va_P (dC, dI) classes [(oB, .inr (0, xb)), (oAc, .inr (11, xc)), (oR1, .inr (7, xr)), (oR2, .inr (7, xu))] s.heap := hP
  have hl := lv_entry ([.ref oB]) (n := 2) (Nat.le_of_ble_eq_true rfl)
  rw [lg_entry_eq]
  generalize (lg_sl ([.ref oB]) ++ List.replicate (2 - (lg_sl ([.ref oB])).length) Slot.unset).toArray = ls at hl ⊢
  have hl : lv_has ls 2 [(0, .ref oB)] := hl
  refine lv_aload_n hx hb d_Bh_takeRows_0 rfl (lv_at hl 0 rfl) ?_
  refine va_get (D := (dC, dI)) (ci := 0) (v := .ref oAc) (C := R_Bh) (T := F_Bh) (N := 16) hx hb hts (fun w h => List.mem_cons_of_mem _ (in_Bh w h)) hown hK.1 hP 0 rfl rfl 5 (by decide) (hts _ (List.mem_cons_of_mem _ mw_689)) (fun _ h9 => h9) hb_acts d_Bh_takeRows_1 ?_
  refine va_get (D := (dC, dI)) (ci := 11) (v := .ref oR1) (C := R_Ac) (T := F_Ac) (N := 8) hx hb hts (fun w h => List.mem_cons_of_mem _ (in_Ac w h)) hown hK.1 hP 1 rfl rfl 3 (by decide) (hts _ (List.mem_cons_of_mem _ mw_394)) (fun _ h9 => h9) hac_rows d_Bh_takeRows_4 ?_
  refine lv_astore_n hx hb d_Bh_takeRows_7 rfl hl (by decide) rfl (fun ls hl => ?_)
  have hl : lv_has ls 2 [(1, .ref oR1), (0, .ref oB)] := hl
  refine lv_aload_n hx hb d_Bh_takeRows_8 rfl (lv_at hl 1 rfl) ?_
  refine va_get (D := (dC, dI)) (ci := 0) (v := .ref oR2) (C := R_Bh) (T := F_Bh) (N := 16) hx hb hts (fun w h => List.mem_cons_of_mem _ (in_Bh w h)) hown hK.1 hP 0 rfl rfl 9 (by decide) (hts _ (List.mem_cons_of_mem _ mw_693)) (fun _ h9 => h9) hb_spareRows d_Bh_takeRows_9 ?_
  refine lv_aload_n hx hb d_Bh_takeRows_12 rfl (lv_at hl 0 rfl) ?_
  refine va_get (D := (dC, dI)) (ci := 7) (v := .int 0) (C := R_Ro) (T := F_Ro) (N := 18) hx hb hts (fun w h => List.mem_cons_of_mem _ (in_Ro w h)) hown hK.1 hP 2 rfl rfl 1 (by decide) (hts _ (List.mem_cons_of_mem _ mw_332)) (fun _ h9 => h9) hxr_conditions d_Bh_takeRows_13 ?_
  refine va_put (D := (dC, dI)) (ci := 7) (v := .int 0) (ty := .int) (C := R_Ro) (T := F_Ro) (N := 18) hx hb hts (fun w h => List.mem_cons_of_mem _ (in_Ro w h)) t_Ro t_Ro_ok n_Ro hown hK.1 hP hD hS 3 rfl rfl 1 (by decide) (hts _ (List.mem_cons_of_mem _ mw_332)) (fun _ h9 => h9) rfl (by decide +kernel) rfl rfl (st_lt hxu_conditions) d_Bh_takeRows_16 (fun H locs hP hD hS => ?_)
  have g16_1 : fx (xu.set 1 (.int 0)) 1 (.int 0) := (st_eq hxu_conditions)
  have g16_0 : fx (xu.set 1 (.int 0)) 0 (.int 0) := (st_ne hxu_count (by decide))
  have hP : va_P (dC, dI) classes [(oB, .inr (0, xb)), (oAc, .inr (11, xc)), (oR1, .inr (7, xr)), (oR2, .inr (7, (xu.set 1 (.int 0))))] H := hP
  have hD : va_D A [(oB, .inr (0, xb)), (oAc, .inr (11, xc)), (oR1, .inr (7, xr)), (oR2, .inr (7, (xu.set 1 (.int 0))))] := hD
  refine lv_aload_n hx hb d_Bh_takeRows_19 rfl (lv_at hl 1 rfl) ?_
  refine va_get (D := (dC, dI)) (ci := 0) (v := .ref oAc) (C := R_Bh) (T := F_Bh) (N := 16) hx hb hts (fun w h => List.mem_cons_of_mem _ (in_Bh w h)) hown hK.1 hP 0 rfl rfl 5 (by decide) (hts _ (List.mem_cons_of_mem _ mw_689)) (fun _ h9 => h9) hb_acts d_Bh_takeRows_20 ?_
  refine lv_aload_n hx hb d_Bh_takeRows_23 rfl (lv_at hl 1 rfl) ?_
  refine va_get (D := (dC, dI)) (ci := 0) (v := .ref oR2) (C := R_Bh) (T := F_Bh) (N := 16) hx hb hts (fun w h => List.mem_cons_of_mem _ (in_Bh w h)) hown hK.1 hP 0 rfl rfl 9 (by decide) (hts _ (List.mem_cons_of_mem _ mw_693)) (fun _ h9 => h9) hb_spareRows d_Bh_takeRows_24 ?_
  refine va_put (D := (dC, dI)) (ci := 11) (v := .ref oR2) (ty := (.object "BreweryHouse$Rows")) (C := R_Ac) (T := F_Ac) (N := 8) hx hb hts (fun w h => List.mem_cons_of_mem _ (in_Ac w h)) t_Ac t_Ac_ok n_Ac hown hK.1 hP hD hS 1 rfl rfl 3 (by decide) (hts _ (List.mem_cons_of_mem _ mw_394)) (fun _ h9 => h9) rfl (by decide +kernel) rfl rfl (st_lt hac_rows) d_Bh_takeRows_27 (fun H locs hP hD hS => ?_)
  have g27_3 : fx (xc.set 3 (.ref oR2)) 3 (.ref oR2) := (st_eq hac_rows)
  have hP : va_P (dC, dI) classes [(oB, .inr (0, xb)), (oAc, .inr (11, (xc.set 3 (.ref oR2)))), (oR1, .inr (7, xr)), (oR2, .inr (7, (xu.set 1 (.int 0))))] H := hP
  have hD : va_D A [(oB, .inr (0, xb)), (oAc, .inr (11, (xc.set 3 (.ref oR2)))), (oR1, .inr (7, xr)), (oR2, .inr (7, (xu.set 1 (.int 0))))] := hD
  refine lv_aload_n hx hb d_Bh_takeRows_30 rfl (lv_at hl 1 rfl) ?_
  refine lv_aload_n hx hb d_Bh_takeRows_31 rfl (lv_at hl 0 rfl) ?_
  refine va_put (D := (dC, dI)) (ci := 0) (v := .ref oR1) (ty := (.object "BreweryHouse$Rows")) (C := R_Bh) (T := F_Bh) (N := 16) hx hb hts (fun w h => List.mem_cons_of_mem _ (in_Bh w h)) t_Bh t_Bh_ok n_Bh hown hK.1 hP hD hS 0 rfl rfl 9 (by decide) (hts _ (List.mem_cons_of_mem _ mw_693)) (fun _ h9 => h9) rfl (by decide +kernel) rfl rfl (st_lt hb_spareRows) d_Bh_takeRows_32 (fun H locs hP hD hS => ?_)
  have g32_5 : fx (xb.set 9 (.ref oR1)) 5 (.ref oAc) := (st_ne hb_acts (by decide))
  have g32_9 : fx (xb.set 9 (.ref oR1)) 9 (.ref oR1) := (st_eq hb_spareRows)
  have hP : va_P (dC, dI) classes [(oB, .inr (0, (xb.set 9 (.ref oR1)))), (oAc, .inr (11, (xc.set 3 (.ref oR2)))), (oR1, .inr (7, xr)), (oR2, .inr (7, (xu.set 1 (.int 0))))] H := hP
  have hD : va_D A [(oB, .inr (0, (xb.set 9 (.ref oR1)))), (oAc, .inr (11, (xc.set 3 (.ref oR2)))), (oR1, .inr (7, xr)), (oR2, .inr (7, (xu.set 1 (.int 0))))] := hD
  refine lv_aload_n hx hb d_Bh_takeRows_35 rfl (lv_at hl 1 rfl) ?_
  refine va_get (D := (dC, dI)) (ci := 0) (v := .ref oAc) (C := R_Bh) (T := F_Bh) (N := 16) hx hb hts (fun w h => List.mem_cons_of_mem _ (in_Bh w h)) hown hK.1 hP 0 rfl rfl 5 (by decide) (hts _ (List.mem_cons_of_mem _ mw_689)) (fun _ h9 => h9) g32_5 d_Bh_takeRows_36 ?_
  refine va_get (D := (dC, dI)) (ci := 11) (v := .ref oR2) (C := R_Ac) (T := F_Ac) (N := 8) hx hb hts (fun w h => List.mem_cons_of_mem _ (in_Ac w h)) hown hK.1 hP 1 rfl rfl 3 (by decide) (hts _ (List.mem_cons_of_mem _ mw_394)) (fun _ h9 => h9) g27_3 d_Bh_takeRows_39 ?_
  refine va_get (D := (dC, dI)) (ci := 7) (v := .int 0) (C := R_Ro) (T := F_Ro) (N := 18) hx hb hts (fun w h => List.mem_cons_of_mem _ (in_Ro w h)) hown hK.1 hP 3 rfl rfl 0 (by decide) (hts _ (List.mem_cons_of_mem _ mw_330)) (fun _ h9 => h9) g16_0 d_Bh_takeRows_42 ?_
  exact W.iret (v := 0) hx hb hr (fun t ht hW => ⟨⟨_, (), rfl, (rfl), trivial⟩, hS.F ht⟩) hS.2.2 d_Bh_takeRows_45
abbrev t_Ru_expandAll_139 : List UInt8 := 172 :: []
abbrev t_Ru_expandAll_138 : List UInt8 := 29 :: t_Ru_expandAll_139
abbrev t_Ru_expandAll_135 : List UInt8 := 167 :: 255 :: 132 :: t_Ru_expandAll_138
abbrev t_Ru_expandAll_132 : List UInt8 := 132 :: 6 :: 1 :: t_Ru_expandAll_135
abbrev t_Ru_expandAll_130 : List UInt8 := 54 :: 5 :: t_Ru_expandAll_132
abbrev t_Ru_expandAll_129 : List UInt8 := 46 :: t_Ru_expandAll_130
abbrev t_Ru_expandAll_127 : List UInt8 := 21 :: 5 :: t_Ru_expandAll_129
abbrev t_Ru_expandAll_124 : List UInt8 := 180 :: 0 :: 80 :: t_Ru_expandAll_127
abbrev t_Ru_expandAll_121 : List UInt8 := 180 :: 0 :: 12 :: t_Ru_expandAll_124
abbrev t_Ru_expandAll_120 : List UInt8 := 42 :: t_Ru_expandAll_121
abbrev t_Ru_expandAll_119 : List UInt8 := 79 :: t_Ru_expandAll_120
abbrev t_Ru_expandAll_116 : List UInt8 := 182 :: 0 :: 72 :: t_Ru_expandAll_119
abbrev t_Ru_expandAll_115 : List UInt8 := 96 :: t_Ru_expandAll_116
abbrev t_Ru_expandAll_114 : List UInt8 := 4 :: t_Ru_expandAll_115
abbrev t_Ru_expandAll_113 : List UInt8 := 28 :: t_Ru_expandAll_114
abbrev t_Ru_expandAll_110 : List UInt8 := 182 :: 0 :: 76 :: t_Ru_expandAll_113
abbrev t_Ru_expandAll_108 : List UInt8 := 21 :: 5 :: t_Ru_expandAll_110
abbrev t_Ru_expandAll_105 : List UInt8 := 180 :: 0 :: 12 :: t_Ru_expandAll_108
abbrev t_Ru_expandAll_104 : List UInt8 := 42 :: t_Ru_expandAll_105
abbrev t_Ru_expandAll_103 : List UInt8 := 42 :: t_Ru_expandAll_104
abbrev t_Ru_expandAll_101 : List UInt8 := 21 :: 7 :: t_Ru_expandAll_103
abbrev t_Ru_expandAll_98 : List UInt8 := 180 :: 0 :: 26 :: t_Ru_expandAll_101
abbrev t_Ru_expandAll_97 : List UInt8 := 42 :: t_Ru_expandAll_98
abbrev t_Ru_expandAll_95 : List UInt8 := 54 :: 4 :: t_Ru_expandAll_97
abbrev t_Ru_expandAll_93 : List UInt8 := 21 :: 7 :: t_Ru_expandAll_95
abbrev t_Ru_expandAll_92 : List UInt8 := 79 :: t_Ru_expandAll_93
abbrev t_Ru_expandAll_90 : List UInt8 := 21 :: 7 :: t_Ru_expandAll_92
abbrev t_Ru_expandAll_88 : List UInt8 := 21 :: 4 :: t_Ru_expandAll_90
abbrev t_Ru_expandAll_85 : List UInt8 := 180 :: 0 :: 29 :: t_Ru_expandAll_88
abbrev t_Ru_expandAll_84 : List UInt8 := 42 :: t_Ru_expandAll_85
abbrev t_Ru_expandAll_81 : List UInt8 := 167 :: 0 :: 12 :: t_Ru_expandAll_84
abbrev t_Ru_expandAll_80 : List UInt8 := 62 :: t_Ru_expandAll_81
abbrev t_Ru_expandAll_78 : List UInt8 := 21 :: 7 :: t_Ru_expandAll_80
abbrev t_Ru_expandAll_75 : List UInt8 := 156 :: 0 :: 9 :: t_Ru_expandAll_78
abbrev t_Ru_expandAll_73 : List UInt8 := 21 :: 4 :: t_Ru_expandAll_75
abbrev t_Ru_expandAll_72 : List UInt8 := 79 :: t_Ru_expandAll_73
abbrev t_Ru_expandAll_71 : List UInt8 := 2 :: t_Ru_expandAll_72
abbrev t_Ru_expandAll_69 : List UInt8 := 21 :: 7 :: t_Ru_expandAll_71
abbrev t_Ru_expandAll_66 : List UInt8 := 180 :: 0 :: 29 :: t_Ru_expandAll_69
abbrev t_Ru_expandAll_65 : List UInt8 := 42 :: t_Ru_expandAll_66
abbrev t_Ru_expandAll_64 : List UInt8 := 79 :: t_Ru_expandAll_65
abbrev t_Ru_expandAll_62 : List UInt8 := 21 :: 5 :: t_Ru_expandAll_64
abbrev t_Ru_expandAll_60 : List UInt8 := 21 :: 7 :: t_Ru_expandAll_62
abbrev t_Ru_expandAll_57 : List UInt8 := 180 :: 0 :: 22 :: t_Ru_expandAll_60
abbrev t_Ru_expandAll_56 : List UInt8 := 42 :: t_Ru_expandAll_57
abbrev t_Ru_expandAll_53 : List UInt8 := 181 :: 0 :: 66 :: t_Ru_expandAll_56
abbrev t_Ru_expandAll_52 : List UInt8 := 96 :: t_Ru_expandAll_53
abbrev t_Ru_expandAll_51 : List UInt8 := 4 :: t_Ru_expandAll_52
abbrev t_Ru_expandAll_48 : List UInt8 := 180 :: 0 :: 66 :: t_Ru_expandAll_51
abbrev t_Ru_expandAll_47 : List UInt8 := 89 :: t_Ru_expandAll_48
abbrev t_Ru_expandAll_46 : List UInt8 := 42 :: t_Ru_expandAll_47
abbrev t_Ru_expandAll_44 : List UInt8 := 54 :: 7 :: t_Ru_expandAll_46
abbrev t_Ru_expandAll_41 : List UInt8 := 180 :: 0 :: 66 :: t_Ru_expandAll_44
abbrev t_Ru_expandAll_40 : List UInt8 := 42 :: t_Ru_expandAll_41
abbrev t_Ru_expandAll_37 : List UInt8 := 162 :: 0 :: 101 :: t_Ru_expandAll_40
abbrev t_Ru_expandAll_35 : List UInt8 := 16 :: 100 :: t_Ru_expandAll_37
abbrev t_Ru_expandAll_34 : List UInt8 := 28 :: t_Ru_expandAll_35
abbrev t_Ru_expandAll_31 : List UInt8 := 163 :: 0 :: 107 :: t_Ru_expandAll_34
abbrev t_Ru_expandAll_28 : List UInt8 := 17 :: 1 :: 244 :: t_Ru_expandAll_31
abbrev t_Ru_expandAll_25 : List UInt8 := 180 :: 0 :: 66 :: t_Ru_expandAll_28
abbrev t_Ru_expandAll_24 : List UInt8 := 42 :: t_Ru_expandAll_25
abbrev t_Ru_expandAll_21 : List UInt8 := 155 :: 0 :: 117 :: t_Ru_expandAll_24
abbrev t_Ru_expandAll_19 : List UInt8 := 21 :: 5 :: t_Ru_expandAll_21
abbrev t_Ru_expandAll_16 : List UInt8 := 163 :: 0 :: 122 :: t_Ru_expandAll_19
abbrev t_Ru_expandAll_13 : List UInt8 := 17 :: 1 :: 244 :: t_Ru_expandAll_16
abbrev t_Ru_expandAll_11 : List UInt8 := 21 :: 6 :: t_Ru_expandAll_13
abbrev t_Ru_expandAll_9 : List UInt8 := 54 :: 6 :: t_Ru_expandAll_11
abbrev t_Ru_expandAll_8 : List UInt8 := 3 :: t_Ru_expandAll_9
abbrev t_Ru_expandAll_6 : List UInt8 := 54 :: 5 :: t_Ru_expandAll_8
abbrev t_Ru_expandAll_5 : List UInt8 := 27 :: t_Ru_expandAll_6
abbrev t_Ru_expandAll_3 : List UInt8 := 54 :: 4 :: t_Ru_expandAll_5
abbrev t_Ru_expandAll_2 : List UInt8 := 2 :: t_Ru_expandAll_3
abbrev t_Ru_expandAll_1 : List UInt8 := 62 :: t_Ru_expandAll_2
abbrev t_Ru_expandAll_0 : List UInt8 := 2 :: t_Ru_expandAll_1
theorem a_Ru_expandAll_0 : dk_at b_Ru_expandAll 0 t_Ru_expandAll_0 := dk_start (by decide +kernel)
theorem a_Ru_expandAll_1 : dk_at b_Ru_expandAll 1 t_Ru_expandAll_1 := dk_go 1 a_Ru_expandAll_0 rfl
theorem a_Ru_expandAll_2 : dk_at b_Ru_expandAll 2 t_Ru_expandAll_2 := dk_go 1 a_Ru_expandAll_1 rfl
theorem a_Ru_expandAll_3 : dk_at b_Ru_expandAll 3 t_Ru_expandAll_3 := dk_go 1 a_Ru_expandAll_2 rfl
theorem a_Ru_expandAll_5 : dk_at b_Ru_expandAll 5 t_Ru_expandAll_5 := dk_go 2 a_Ru_expandAll_3 rfl
theorem a_Ru_expandAll_6 : dk_at b_Ru_expandAll 6 t_Ru_expandAll_6 := dk_go 1 a_Ru_expandAll_5 rfl
theorem a_Ru_expandAll_8 : dk_at b_Ru_expandAll 8 t_Ru_expandAll_8 := dk_go 2 a_Ru_expandAll_6 rfl
theorem a_Ru_expandAll_9 : dk_at b_Ru_expandAll 9 t_Ru_expandAll_9 := dk_go 1 a_Ru_expandAll_8 rfl
theorem a_Ru_expandAll_11 : dk_at b_Ru_expandAll 11 t_Ru_expandAll_11 := dk_go 2 a_Ru_expandAll_9 rfl
theorem a_Ru_expandAll_13 : dk_at b_Ru_expandAll 13 t_Ru_expandAll_13 := dk_go 2 a_Ru_expandAll_11 rfl
theorem a_Ru_expandAll_16 : dk_at b_Ru_expandAll 16 t_Ru_expandAll_16 := dk_go 3 a_Ru_expandAll_13 rfl
theorem a_Ru_expandAll_19 : dk_at b_Ru_expandAll 19 t_Ru_expandAll_19 := dk_go 3 a_Ru_expandAll_16 rfl
theorem a_Ru_expandAll_21 : dk_at b_Ru_expandAll 21 t_Ru_expandAll_21 := dk_go 2 a_Ru_expandAll_19 rfl
theorem a_Ru_expandAll_24 : dk_at b_Ru_expandAll 24 t_Ru_expandAll_24 := dk_go 3 a_Ru_expandAll_21 rfl
theorem a_Ru_expandAll_25 : dk_at b_Ru_expandAll 25 t_Ru_expandAll_25 := dk_go 1 a_Ru_expandAll_24 rfl
theorem a_Ru_expandAll_28 : dk_at b_Ru_expandAll 28 t_Ru_expandAll_28 := dk_go 3 a_Ru_expandAll_25 rfl
theorem a_Ru_expandAll_31 : dk_at b_Ru_expandAll 31 t_Ru_expandAll_31 := dk_go 3 a_Ru_expandAll_28 rfl
theorem a_Ru_expandAll_34 : dk_at b_Ru_expandAll 34 t_Ru_expandAll_34 := dk_go 3 a_Ru_expandAll_31 rfl
theorem a_Ru_expandAll_35 : dk_at b_Ru_expandAll 35 t_Ru_expandAll_35 := dk_go 1 a_Ru_expandAll_34 rfl
theorem a_Ru_expandAll_37 : dk_at b_Ru_expandAll 37 t_Ru_expandAll_37 := dk_go 2 a_Ru_expandAll_35 rfl
theorem a_Ru_expandAll_40 : dk_at b_Ru_expandAll 40 t_Ru_expandAll_40 := dk_go 3 a_Ru_expandAll_37 rfl
theorem a_Ru_expandAll_41 : dk_at b_Ru_expandAll 41 t_Ru_expandAll_41 := dk_go 1 a_Ru_expandAll_40 rfl
theorem a_Ru_expandAll_44 : dk_at b_Ru_expandAll 44 t_Ru_expandAll_44 := dk_go 3 a_Ru_expandAll_41 rfl
theorem a_Ru_expandAll_46 : dk_at b_Ru_expandAll 46 t_Ru_expandAll_46 := dk_go 2 a_Ru_expandAll_44 rfl
theorem a_Ru_expandAll_47 : dk_at b_Ru_expandAll 47 t_Ru_expandAll_47 := dk_go 1 a_Ru_expandAll_46 rfl
theorem a_Ru_expandAll_48 : dk_at b_Ru_expandAll 48 t_Ru_expandAll_48 := dk_go 1 a_Ru_expandAll_47 rfl
theorem a_Ru_expandAll_51 : dk_at b_Ru_expandAll 51 t_Ru_expandAll_51 := dk_go 3 a_Ru_expandAll_48 rfl
theorem a_Ru_expandAll_52 : dk_at b_Ru_expandAll 52 t_Ru_expandAll_52 := dk_go 1 a_Ru_expandAll_51 rfl
theorem a_Ru_expandAll_53 : dk_at b_Ru_expandAll 53 t_Ru_expandAll_53 := dk_go 1 a_Ru_expandAll_52 rfl
theorem a_Ru_expandAll_56 : dk_at b_Ru_expandAll 56 t_Ru_expandAll_56 := dk_go 3 a_Ru_expandAll_53 rfl
theorem a_Ru_expandAll_57 : dk_at b_Ru_expandAll 57 t_Ru_expandAll_57 := dk_go 1 a_Ru_expandAll_56 rfl
theorem a_Ru_expandAll_60 : dk_at b_Ru_expandAll 60 t_Ru_expandAll_60 := dk_go 3 a_Ru_expandAll_57 rfl
theorem a_Ru_expandAll_62 : dk_at b_Ru_expandAll 62 t_Ru_expandAll_62 := dk_go 2 a_Ru_expandAll_60 rfl
theorem a_Ru_expandAll_64 : dk_at b_Ru_expandAll 64 t_Ru_expandAll_64 := dk_go 2 a_Ru_expandAll_62 rfl
theorem a_Ru_expandAll_65 : dk_at b_Ru_expandAll 65 t_Ru_expandAll_65 := dk_go 1 a_Ru_expandAll_64 rfl
theorem a_Ru_expandAll_66 : dk_at b_Ru_expandAll 66 t_Ru_expandAll_66 := dk_go 1 a_Ru_expandAll_65 rfl
theorem a_Ru_expandAll_69 : dk_at b_Ru_expandAll 69 t_Ru_expandAll_69 := dk_go 3 a_Ru_expandAll_66 rfl
theorem a_Ru_expandAll_71 : dk_at b_Ru_expandAll 71 t_Ru_expandAll_71 := dk_go 2 a_Ru_expandAll_69 rfl
theorem a_Ru_expandAll_72 : dk_at b_Ru_expandAll 72 t_Ru_expandAll_72 := dk_go 1 a_Ru_expandAll_71 rfl
theorem a_Ru_expandAll_73 : dk_at b_Ru_expandAll 73 t_Ru_expandAll_73 := dk_go 1 a_Ru_expandAll_72 rfl
theorem a_Ru_expandAll_75 : dk_at b_Ru_expandAll 75 t_Ru_expandAll_75 := dk_go 2 a_Ru_expandAll_73 rfl
theorem a_Ru_expandAll_78 : dk_at b_Ru_expandAll 78 t_Ru_expandAll_78 := dk_go 3 a_Ru_expandAll_75 rfl
theorem a_Ru_expandAll_80 : dk_at b_Ru_expandAll 80 t_Ru_expandAll_80 := dk_go 2 a_Ru_expandAll_78 rfl
theorem a_Ru_expandAll_81 : dk_at b_Ru_expandAll 81 t_Ru_expandAll_81 := dk_go 1 a_Ru_expandAll_80 rfl
theorem a_Ru_expandAll_84 : dk_at b_Ru_expandAll 84 t_Ru_expandAll_84 := dk_go 3 a_Ru_expandAll_81 rfl
theorem a_Ru_expandAll_85 : dk_at b_Ru_expandAll 85 t_Ru_expandAll_85 := dk_go 1 a_Ru_expandAll_84 rfl
theorem a_Ru_expandAll_88 : dk_at b_Ru_expandAll 88 t_Ru_expandAll_88 := dk_go 3 a_Ru_expandAll_85 rfl
theorem a_Ru_expandAll_90 : dk_at b_Ru_expandAll 90 t_Ru_expandAll_90 := dk_go 2 a_Ru_expandAll_88 rfl
theorem a_Ru_expandAll_92 : dk_at b_Ru_expandAll 92 t_Ru_expandAll_92 := dk_go 2 a_Ru_expandAll_90 rfl
theorem a_Ru_expandAll_93 : dk_at b_Ru_expandAll 93 t_Ru_expandAll_93 := dk_go 1 a_Ru_expandAll_92 rfl
theorem a_Ru_expandAll_95 : dk_at b_Ru_expandAll 95 t_Ru_expandAll_95 := dk_go 2 a_Ru_expandAll_93 rfl
theorem a_Ru_expandAll_97 : dk_at b_Ru_expandAll 97 t_Ru_expandAll_97 := dk_go 2 a_Ru_expandAll_95 rfl
theorem a_Ru_expandAll_98 : dk_at b_Ru_expandAll 98 t_Ru_expandAll_98 := dk_go 1 a_Ru_expandAll_97 rfl
theorem a_Ru_expandAll_101 : dk_at b_Ru_expandAll 101 t_Ru_expandAll_101 := dk_go 3 a_Ru_expandAll_98 rfl
theorem a_Ru_expandAll_103 : dk_at b_Ru_expandAll 103 t_Ru_expandAll_103 := dk_go 2 a_Ru_expandAll_101 rfl
theorem a_Ru_expandAll_104 : dk_at b_Ru_expandAll 104 t_Ru_expandAll_104 := dk_go 1 a_Ru_expandAll_103 rfl
theorem a_Ru_expandAll_105 : dk_at b_Ru_expandAll 105 t_Ru_expandAll_105 := dk_go 1 a_Ru_expandAll_104 rfl
theorem a_Ru_expandAll_108 : dk_at b_Ru_expandAll 108 t_Ru_expandAll_108 := dk_go 3 a_Ru_expandAll_105 rfl
theorem a_Ru_expandAll_110 : dk_at b_Ru_expandAll 110 t_Ru_expandAll_110 := dk_go 2 a_Ru_expandAll_108 rfl
theorem a_Ru_expandAll_113 : dk_at b_Ru_expandAll 113 t_Ru_expandAll_113 := dk_go 3 a_Ru_expandAll_110 rfl
theorem a_Ru_expandAll_114 : dk_at b_Ru_expandAll 114 t_Ru_expandAll_114 := dk_go 1 a_Ru_expandAll_113 rfl
theorem a_Ru_expandAll_115 : dk_at b_Ru_expandAll 115 t_Ru_expandAll_115 := dk_go 1 a_Ru_expandAll_114 rfl
theorem a_Ru_expandAll_116 : dk_at b_Ru_expandAll 116 t_Ru_expandAll_116 := dk_go 1 a_Ru_expandAll_115 rfl
theorem a_Ru_expandAll_119 : dk_at b_Ru_expandAll 119 t_Ru_expandAll_119 := dk_go 3 a_Ru_expandAll_116 rfl
theorem a_Ru_expandAll_120 : dk_at b_Ru_expandAll 120 t_Ru_expandAll_120 := dk_go 1 a_Ru_expandAll_119 rfl
theorem a_Ru_expandAll_121 : dk_at b_Ru_expandAll 121 t_Ru_expandAll_121 := dk_go 1 a_Ru_expandAll_120 rfl
theorem a_Ru_expandAll_124 : dk_at b_Ru_expandAll 124 t_Ru_expandAll_124 := dk_go 3 a_Ru_expandAll_121 rfl
theorem a_Ru_expandAll_127 : dk_at b_Ru_expandAll 127 t_Ru_expandAll_127 := dk_go 3 a_Ru_expandAll_124 rfl
theorem a_Ru_expandAll_129 : dk_at b_Ru_expandAll 129 t_Ru_expandAll_129 := dk_go 2 a_Ru_expandAll_127 rfl
theorem a_Ru_expandAll_130 : dk_at b_Ru_expandAll 130 t_Ru_expandAll_130 := dk_go 1 a_Ru_expandAll_129 rfl
theorem a_Ru_expandAll_132 : dk_at b_Ru_expandAll 132 t_Ru_expandAll_132 := dk_go 2 a_Ru_expandAll_130 rfl
theorem a_Ru_expandAll_135 : dk_at b_Ru_expandAll 135 t_Ru_expandAll_135 := dk_go 3 a_Ru_expandAll_132 rfl
theorem a_Ru_expandAll_138 : dk_at b_Ru_expandAll 138 t_Ru_expandAll_138 := dk_go 3 a_Ru_expandAll_135 rfl
theorem a_Ru_expandAll_139 : dk_at b_Ru_expandAll 139 t_Ru_expandAll_139 := dk_go 1 a_Ru_expandAll_138 rfl
theorem d_Ru_expandAll_0 : decode b_Ru_expandAll 0 = .ok (.iconst (-1), 1) := dk_0 a_Ru_expandAll_0 (dko_2 _)
theorem d_Ru_expandAll_1 : decode b_Ru_expandAll 1 = .ok (.istore_n 3, 1) := dk_0 a_Ru_expandAll_1 (dko_62 _)
theorem d_Ru_expandAll_2 : decode b_Ru_expandAll 2 = .ok (.iconst (-1), 1) := dk_0 a_Ru_expandAll_2 (dko_2 _)
theorem d_Ru_expandAll_3 : decode b_Ru_expandAll 3 = .ok (.istore 4, 2) := dk_U1 a_Ru_expandAll_3 (dko_54 _) rfl
theorem d_Ru_expandAll_5 : decode b_Ru_expandAll 5 = .ok (.iload_n 1, 1) := dk_0 a_Ru_expandAll_5 (dko_27 _)
theorem d_Ru_expandAll_6 : decode b_Ru_expandAll 6 = .ok (.istore 5, 2) := dk_U1 a_Ru_expandAll_6 (dko_54 _) rfl
theorem d_Ru_expandAll_8 : decode b_Ru_expandAll 8 = .ok (.iconst 0, 1) := dk_0 a_Ru_expandAll_8 (dko_3 _)
theorem d_Ru_expandAll_9 : decode b_Ru_expandAll 9 = .ok (.istore 6, 2) := dk_U1 a_Ru_expandAll_9 (dko_54 _) rfl
theorem d_Ru_expandAll_11 : decode b_Ru_expandAll 11 = .ok (.iload 6, 2) := dk_U1 a_Ru_expandAll_11 (dko_21 _) rfl
theorem d_Ru_expandAll_13 : decode b_Ru_expandAll 13 = .ok (.sipush 500, 3) := dk_S2 a_Ru_expandAll_13 (dko_17 _) (by decide +kernel)
theorem d_Ru_expandAll_16 : decode b_Ru_expandAll 16 = .ok (.if_icmp .gt 122, 3) := dk_S2 a_Ru_expandAll_16 (dko_163 _) (by decide +kernel)
theorem d_Ru_expandAll_19 : decode b_Ru_expandAll 19 = .ok (.iload 5, 2) := dk_U1 a_Ru_expandAll_19 (dko_21 _) rfl
theorem d_Ru_expandAll_21 : decode b_Ru_expandAll 21 = .ok (.ifCond .lt 117, 3) := dk_S2 a_Ru_expandAll_21 (dko_155 _) (by decide +kernel)
theorem d_Ru_expandAll_138 : decode b_Ru_expandAll 138 = .ok (.iload_n 3, 1) := dk_0 a_Ru_expandAll_138 (dko_29 _)
theorem d_Ru_expandAll_139 : decode b_Ru_expandAll 139 = .ok (.ireturn, 1) := dk_0 a_Ru_expandAll_139 (dko_172 _)
set_option maxHeartbeats 4000000 in
set_option maxRecDepth 100000 in
theorem c_Ru_expandAll (l : Launch) (dC : Nat → ClassId) (dI : Nat → Nat → Nat) (cI cB cZ cJ : ClassId) (oRu : Nat) (xn : List Value) (sz : Nat) : Met l y_Ru_expandAll w_Ru_expandAll ({ frames := 0, cells := 0, slots := 0, locals := 0 }) (va_Pc [.ref oRu, .int (-1), .int 0] (PW dC dI cI cB cZ cJ [(oRu, .inr (10, xn))] sz)) (va_Qi (fun (r : Int32) (_ : Unit) => r = (-1)) (fun _ _ => True) (va_A [] sz)) 0 0 (va_A [] sz) := by
  refine Met.ofW (cc := b_Ru_expandAll) (maxL := 8) (ret := (some .int)) (by decide) rfl ?_
  intro p e s m args below meth c s₁ B hml hv
  obtain ⟨rfl, hsz, hP, hK, hD⟩ := hv
  have hx := B.exec
  have hb := B.bytes
  have hr := B.returns
  have hts := atoms_spec (ws := w_Ru_expandAll) B.pre
  have hown : s.vm.findClass R_Ru = some m.cls := findClass_of_methodNamed B.named
  have hlocks := B.notSynchronized
  subst hsz
  generalize hAe : va_A [] s.heap.size = A at ⊢
  have hA : ∀ q : Nat, s.heap.size ≤ q → A q := fun q h => by rw [← hAe]; exact Or.inr h
  have hS : va_S A s.heap s.heap [] := va_S.rf
  have hP : va_P (dC, dI) classes [(oRu, .inr (10, xn))] s.heap := hP
  have hl := lv_entry ([.ref oRu, .int (-1), .int 0]) (n := 8) (Nat.le_of_ble_eq_true rfl)
  rw [lg_entry_eq]
  generalize (lg_sl ([.ref oRu, .int (-1), .int 0]) ++ List.replicate (8 - (lg_sl ([.ref oRu, .int (-1), .int 0])).length) Slot.unset).toArray = ls at hl ⊢
  have hl : lv_has ls 8 [(0, .ref oRu), (1, .int (-1)), (2, .int 0)] := hl
  refine lv_iconst (v := (-1)) hx hb d_Ru_expandAll_0 (by decide) ?_
  refine lv_istore_n hx hb d_Ru_expandAll_1 rfl hl (by decide) rfl (fun ls hl => ?_)
  have hl : lv_has ls 8 [(3, .int (-1)), (0, .ref oRu), (1, .int (-1)), (2, .int 0)] := hl
  refine lv_iconst (v := (-1)) hx hb d_Ru_expandAll_2 (by decide) ?_
  refine lv_istore hx hb d_Ru_expandAll_3 hl (by decide) rfl (fun ls hl => ?_)
  have hl : lv_has ls 8 [(4, .int (-1)), (3, .int (-1)), (0, .ref oRu), (1, .int (-1)), (2, .int 0)] := hl
  refine lv_iload_n hx hb d_Ru_expandAll_5 rfl (lv_at hl 3 rfl) ?_
  refine lv_istore hx hb d_Ru_expandAll_6 hl (by decide) rfl (fun ls hl => ?_)
  have hl : lv_has ls 8 [(5, .int (-1)), (4, .int (-1)), (3, .int (-1)), (0, .ref oRu), (1, .int (-1)), (2, .int 0)] := hl
  refine lv_iconst (v := 0) hx hb d_Ru_expandAll_8 (by decide) ?_
  refine lv_istore hx hb d_Ru_expandAll_9 hl (by decide) rfl (fun ls hl => ?_)
  have hl : lv_has ls 8 [(6, .int 0), (5, .int (-1)), (4, .int (-1)), (3, .int (-1)), (0, .ref oRu), (1, .int (-1)), (2, .int 0)] := hl
  refine lv_iload hx hb d_Ru_expandAll_11 (lv_at hl 0 rfl) ?_
  refine lv_sipush (v := 500) hx hb d_Ru_expandAll_13 (by decide) ?_
  refine lv_icmp_gt (tgt := 138) hx hb d_Ru_expandAll_16 (by decide) (fun h => absurd h (by decide)) (fun _ => ?_)
  refine lv_iload hx hb d_Ru_expandAll_19 (lv_at hl 1 rfl) ?_
  refine lv_if_lt (tgt := 138) hx hb d_Ru_expandAll_21 (by decide) (fun _ => ?_) (fun h => absurd (by decide) h)
  refine lv_iload_n hx hb d_Ru_expandAll_138 rfl (lv_at hl 3 rfl) ?_
  exact W.iret (v := (-1)) hx hb hr (fun t ht hW => ⟨⟨_, (), rfl, (rfl), trivial⟩, hS.F ht⟩) hS.2.2 d_Ru_expandAll_139
abbrev t_Ru_take_47 : List UInt8 := 177 :: []
abbrev t_Ru_take_46 : List UInt8 := 79 :: t_Ru_take_47
abbrev t_Ru_take_45 : List UInt8 := 2 :: t_Ru_take_46
abbrev t_Ru_take_44 : List UInt8 := 3 :: t_Ru_take_45
abbrev t_Ru_take_41 : List UInt8 := 180 :: 0 :: 29 :: t_Ru_take_44
abbrev t_Ru_take_40 : List UInt8 := 42 :: t_Ru_take_41
abbrev t_Ru_take_39 : List UInt8 := 79 :: t_Ru_take_40
abbrev t_Ru_take_36 : List UInt8 := 182 :: 0 :: 72 :: t_Ru_take_39
abbrev t_Ru_take_35 : List UInt8 := 3 :: t_Ru_take_36
abbrev t_Ru_take_32 : List UInt8 := 180 :: 0 :: 69 :: t_Ru_take_35
abbrev t_Ru_take_29 : List UInt8 := 180 :: 0 :: 12 :: t_Ru_take_32
abbrev t_Ru_take_28 : List UInt8 := 42 :: t_Ru_take_29
abbrev t_Ru_take_27 : List UInt8 := 42 :: t_Ru_take_28
abbrev t_Ru_take_26 : List UInt8 := 3 :: t_Ru_take_27
abbrev t_Ru_take_23 : List UInt8 := 180 :: 0 :: 26 :: t_Ru_take_26
abbrev t_Ru_take_22 : List UInt8 := 42 :: t_Ru_take_23
abbrev t_Ru_take_21 : List UInt8 := 79 :: t_Ru_take_22
abbrev t_Ru_take_20 : List UInt8 := 2 :: t_Ru_take_21
abbrev t_Ru_take_19 : List UInt8 := 3 :: t_Ru_take_20
abbrev t_Ru_take_16 : List UInt8 := 180 :: 0 :: 22 :: t_Ru_take_19
abbrev t_Ru_take_15 : List UInt8 := 42 :: t_Ru_take_16
abbrev t_Ru_take_12 : List UInt8 := 181 :: 0 :: 66 :: t_Ru_take_15
abbrev t_Ru_take_11 : List UInt8 := 4 :: t_Ru_take_12
abbrev t_Ru_take_10 : List UInt8 := 42 :: t_Ru_take_11
abbrev t_Ru_take_7 : List UInt8 := 181 :: 0 :: 18 :: t_Ru_take_10
abbrev t_Ru_take_6 : List UInt8 := 7 :: t_Ru_take_7
abbrev t_Ru_take_5 : List UInt8 := 42 :: t_Ru_take_6
abbrev t_Ru_take_2 : List UInt8 := 181 :: 0 :: 12 :: t_Ru_take_5
abbrev t_Ru_take_1 : List UInt8 := 43 :: t_Ru_take_2
abbrev t_Ru_take_0 : List UInt8 := 42 :: t_Ru_take_1
theorem a_Ru_take_0 : dk_at b_Ru_take 0 t_Ru_take_0 := dk_start (by decide +kernel)
theorem a_Ru_take_1 : dk_at b_Ru_take 1 t_Ru_take_1 := dk_go 1 a_Ru_take_0 rfl
theorem a_Ru_take_2 : dk_at b_Ru_take 2 t_Ru_take_2 := dk_go 1 a_Ru_take_1 rfl
theorem a_Ru_take_5 : dk_at b_Ru_take 5 t_Ru_take_5 := dk_go 3 a_Ru_take_2 rfl
theorem a_Ru_take_6 : dk_at b_Ru_take 6 t_Ru_take_6 := dk_go 1 a_Ru_take_5 rfl
theorem a_Ru_take_7 : dk_at b_Ru_take 7 t_Ru_take_7 := dk_go 1 a_Ru_take_6 rfl
theorem a_Ru_take_10 : dk_at b_Ru_take 10 t_Ru_take_10 := dk_go 3 a_Ru_take_7 rfl
theorem a_Ru_take_11 : dk_at b_Ru_take 11 t_Ru_take_11 := dk_go 1 a_Ru_take_10 rfl
theorem a_Ru_take_12 : dk_at b_Ru_take 12 t_Ru_take_12 := dk_go 1 a_Ru_take_11 rfl
theorem a_Ru_take_15 : dk_at b_Ru_take 15 t_Ru_take_15 := dk_go 3 a_Ru_take_12 rfl
theorem a_Ru_take_16 : dk_at b_Ru_take 16 t_Ru_take_16 := dk_go 1 a_Ru_take_15 rfl
theorem a_Ru_take_19 : dk_at b_Ru_take 19 t_Ru_take_19 := dk_go 3 a_Ru_take_16 rfl
theorem a_Ru_take_20 : dk_at b_Ru_take 20 t_Ru_take_20 := dk_go 1 a_Ru_take_19 rfl
theorem a_Ru_take_21 : dk_at b_Ru_take 21 t_Ru_take_21 := dk_go 1 a_Ru_take_20 rfl
theorem a_Ru_take_22 : dk_at b_Ru_take 22 t_Ru_take_22 := dk_go 1 a_Ru_take_21 rfl
theorem a_Ru_take_23 : dk_at b_Ru_take 23 t_Ru_take_23 := dk_go 1 a_Ru_take_22 rfl
theorem a_Ru_take_26 : dk_at b_Ru_take 26 t_Ru_take_26 := dk_go 3 a_Ru_take_23 rfl
theorem a_Ru_take_27 : dk_at b_Ru_take 27 t_Ru_take_27 := dk_go 1 a_Ru_take_26 rfl
theorem a_Ru_take_28 : dk_at b_Ru_take 28 t_Ru_take_28 := dk_go 1 a_Ru_take_27 rfl
theorem a_Ru_take_29 : dk_at b_Ru_take 29 t_Ru_take_29 := dk_go 1 a_Ru_take_28 rfl
theorem a_Ru_take_32 : dk_at b_Ru_take 32 t_Ru_take_32 := dk_go 3 a_Ru_take_29 rfl
theorem a_Ru_take_35 : dk_at b_Ru_take 35 t_Ru_take_35 := dk_go 3 a_Ru_take_32 rfl
theorem a_Ru_take_36 : dk_at b_Ru_take 36 t_Ru_take_36 := dk_go 1 a_Ru_take_35 rfl
theorem a_Ru_take_39 : dk_at b_Ru_take 39 t_Ru_take_39 := dk_go 3 a_Ru_take_36 rfl
theorem a_Ru_take_40 : dk_at b_Ru_take 40 t_Ru_take_40 := dk_go 1 a_Ru_take_39 rfl
theorem a_Ru_take_41 : dk_at b_Ru_take 41 t_Ru_take_41 := dk_go 1 a_Ru_take_40 rfl
theorem a_Ru_take_44 : dk_at b_Ru_take 44 t_Ru_take_44 := dk_go 3 a_Ru_take_41 rfl
theorem a_Ru_take_45 : dk_at b_Ru_take 45 t_Ru_take_45 := dk_go 1 a_Ru_take_44 rfl
theorem a_Ru_take_46 : dk_at b_Ru_take 46 t_Ru_take_46 := dk_go 1 a_Ru_take_45 rfl
theorem a_Ru_take_47 : dk_at b_Ru_take 47 t_Ru_take_47 := dk_go 1 a_Ru_take_46 rfl
theorem d_Ru_take_0 : decode b_Ru_take 0 = .ok (.aload_n 0, 1) := dk_0 a_Ru_take_0 (dko_42 _)
theorem d_Ru_take_1 : decode b_Ru_take 1 = .ok (.aload_n 1, 1) := dk_0 a_Ru_take_1 (dko_43 _)
theorem d_Ru_take_2 : decode b_Ru_take 2 = .ok (.putfield 12, 3) := dk_U2 a_Ru_take_2 (dko_181 _) rfl
theorem d_Ru_take_5 : decode b_Ru_take 5 = .ok (.aload_n 0, 1) := dk_0 a_Ru_take_5 (dko_42 _)
theorem d_Ru_take_6 : decode b_Ru_take 6 = .ok (.iconst 4, 1) := dk_0 a_Ru_take_6 (dko_7 _)
theorem d_Ru_take_7 : decode b_Ru_take 7 = .ok (.putfield 18, 3) := dk_U2 a_Ru_take_7 (dko_181 _) rfl
theorem d_Ru_take_10 : decode b_Ru_take 10 = .ok (.aload_n 0, 1) := dk_0 a_Ru_take_10 (dko_42 _)
theorem d_Ru_take_11 : decode b_Ru_take 11 = .ok (.iconst 1, 1) := dk_0 a_Ru_take_11 (dko_4 _)
theorem d_Ru_take_12 : decode b_Ru_take 12 = .ok (.putfield 66, 3) := dk_U2 a_Ru_take_12 (dko_181 _) rfl
theorem d_Ru_take_15 : decode b_Ru_take 15 = .ok (.aload_n 0, 1) := dk_0 a_Ru_take_15 (dko_42 _)
theorem d_Ru_take_16 : decode b_Ru_take 16 = .ok (.getfield 22, 3) := dk_U2 a_Ru_take_16 (dko_180 _) rfl
theorem d_Ru_take_19 : decode b_Ru_take 19 = .ok (.iconst 0, 1) := dk_0 a_Ru_take_19 (dko_3 _)
theorem d_Ru_take_20 : decode b_Ru_take 20 = .ok (.iconst (-1), 1) := dk_0 a_Ru_take_20 (dko_2 _)
theorem d_Ru_take_21 : decode b_Ru_take 21 = .ok (.iastore, 1) := dk_0 a_Ru_take_21 (dko_79 _)
theorem d_Ru_take_22 : decode b_Ru_take 22 = .ok (.aload_n 0, 1) := dk_0 a_Ru_take_22 (dko_42 _)
theorem d_Ru_take_23 : decode b_Ru_take 23 = .ok (.getfield 26, 3) := dk_U2 a_Ru_take_23 (dko_180 _) rfl
theorem d_Ru_take_26 : decode b_Ru_take 26 = .ok (.iconst 0, 1) := dk_0 a_Ru_take_26 (dko_3 _)
theorem d_Ru_take_27 : decode b_Ru_take 27 = .ok (.aload_n 0, 1) := dk_0 a_Ru_take_27 (dko_42 _)
theorem d_Ru_take_28 : decode b_Ru_take 28 = .ok (.aload_n 0, 1) := dk_0 a_Ru_take_28 (dko_42 _)
theorem d_Ru_take_29 : decode b_Ru_take 29 = .ok (.getfield 12, 3) := dk_U2 a_Ru_take_29 (dko_180 _) rfl
theorem d_Ru_take_32 : decode b_Ru_take 32 = .ok (.getfield 69, 3) := dk_U2 a_Ru_take_32 (dko_180 _) rfl
theorem d_Ru_take_35 : decode b_Ru_take 35 = .ok (.iconst 0, 1) := dk_0 a_Ru_take_35 (dko_3 _)
theorem d_Ru_take_36 : decode b_Ru_take 36 = .ok (.invokevirtual 72, 3) := dk_U2 a_Ru_take_36 (dko_182 _) rfl
theorem d_Ru_take_39 : decode b_Ru_take 39 = .ok (.iastore, 1) := dk_0 a_Ru_take_39 (dko_79 _)
theorem d_Ru_take_40 : decode b_Ru_take 40 = .ok (.aload_n 0, 1) := dk_0 a_Ru_take_40 (dko_42 _)
theorem d_Ru_take_41 : decode b_Ru_take 41 = .ok (.getfield 29, 3) := dk_U2 a_Ru_take_41 (dko_180 _) rfl
theorem d_Ru_take_44 : decode b_Ru_take 44 = .ok (.iconst 0, 1) := dk_0 a_Ru_take_44 (dko_3 _)
theorem d_Ru_take_45 : decode b_Ru_take 45 = .ok (.iconst (-1), 1) := dk_0 a_Ru_take_45 (dko_2 _)
theorem d_Ru_take_46 : decode b_Ru_take 46 = .ok (.iastore, 1) := dk_0 a_Ru_take_46 (dko_79 _)
theorem d_Ru_take_47 : decode b_Ru_take 47 = .ok (.return_, 1) := dk_0 a_Ru_take_47 (dko_177 _)
set_option maxHeartbeats 4000000 in
set_option maxRecDepth 100000 in
theorem c_Ru_take (l : Launch) (dC : Nat → ClassId) (dI : Nat → Nat → Nat) (cI cB cZ cJ : ClassId) (oRu : Nat) (xn_node : Nat) (oG2 : Nat) (xn_first : Nat) (xn_next : Nat) (oG1 : Nat) (xn : List Value) (hru_program : fx xn 3 (.ref oG1)) (hru_state : fx xn 4 (.int 4)) (hru_parts : fx xn 5 (.int 0)) (hru_node : fx xn 6 (.ref xn_node)) (hru_first : fx xn 7 (.ref xn_first)) (hru_next : fx xn 8 (.ref xn_next)) (xh : List Value) (hxh_opening : fx xh 2 (.int (-1))) (sz : Nat) : Met l y_Ru_take w_Ru_take ({ frames := 1, cells := 0, slots := 0, locals := 27 }) (va_Pc [.ref oRu, .ref oG2] (PW dC dI cI cB cZ cJ [(oRu, .inr (10, xn)), (xn_node, .inl (cI, 501, .inl (fun _ => 0))), (oG2, .inr (8, xh)), (xn_first, .inl (cI, 501, .inl (fun _ => 0))), (xn_next, .inl (cI, 501, .inl (fun _ => 0)))] sz)) (va_Qv (fun _ : Unit => True) (fun (_ : Unit) (t : State) => ∃ (n_xn : List Value) (n_xn_node : Nat → Int32) (n_xn_first : Nat → Int32) (n_xn_next : Nat → Int32), fx n_xn 3 (.ref oG2) ∧ fx n_xn 4 (.int 4) ∧ fx n_xn 5 (.int 1) ∧ fx n_xn 6 (.ref xn_node) ∧ fx n_xn 7 (.ref xn_first) ∧ fx n_xn 8 (.ref xn_next) ∧ fx xh 2 (.int (-1)) ∧ va_P (dC, dI) classes [(oRu, .inr (10, n_xn)), (xn_node, .inl (cI, 501, .inl n_xn_node)), (oG2, .inr (8, xh)), (xn_first, .inl (cI, 501, .inl n_xn_first)), (xn_next, .inl (cI, 501, .inl n_xn_next))] t.heap ∧ va_D (va_A [(oRu, .inr (10, xn)), (xn_node, .inl (cI, 501, .inl (fun _ => 0))), (oG2, .inr (8, xh)), (xn_first, .inl (cI, 501, .inl (fun _ => 0))), (xn_next, .inl (cI, 501, .inl (fun _ => 0)))] sz) [(oRu, .inr (10, n_xn)), (xn_node, .inl (cI, 501, .inl n_xn_node)), (oG2, .inr (8, xh)), (xn_first, .inl (cI, 501, .inl n_xn_first)), (xn_next, .inl (cI, 501, .inl n_xn_next))]) (va_A [(oRu, .inr (10, xn)), (xn_node, .inl (cI, 501, .inl (fun _ => 0))), (oG2, .inr (8, xh)), (xn_first, .inl (cI, 501, .inl (fun _ => 0))), (xn_next, .inl (cI, 501, .inl (fun _ => 0)))] sz)) 0 0 (va_A [(oRu, .inr (10, xn)), (xn_node, .inl (cI, 501, .inl (fun _ => 0))), (oG2, .inr (8, xh)), (xn_first, .inl (cI, 501, .inl (fun _ => 0))), (xn_next, .inl (cI, 501, .inl (fun _ => 0)))] sz) := by
  refine Met.ofW (cc := b_Ru_take) (maxL := 2) (ret := none) (by decide) rfl ?_
  intro p e s m args below meth c s₁ B hml hv
  obtain ⟨rfl, hsz, hP, hK, hD⟩ := hv
  have hx := B.exec
  have hb := B.bytes
  have hr := B.returns
  have hts := atoms_spec (ws := w_Ru_take) B.pre
  have hown : s.vm.findClass R_Ru = some m.cls := findClass_of_methodNamed B.named
  have hlocks := B.notSynchronized
  subst hsz
  have hD := hD.self (sz := s.heap.size)
  generalize hAe : va_A [(oRu, .inr (10, xn)), (xn_node, .inl (cI, 501, .inl (fun _ => 0))), (oG2, .inr (8, xh)), (xn_first, .inl (cI, 501, .inl (fun _ => 0))), (xn_next, .inl (cI, 501, .inl (fun _ => 0)))] s.heap.size = A at hD ⊢
  have hA : ∀ q : Nat, s.heap.size ≤ q → A q := fun q h => by rw [← hAe]; exact Or.inr h
  have hS : va_S A s.heap s.heap [] := va_S.rf
  have hP : va_P (dC, dI) classes [(oRu, .inr (10, xn)), (xn_node, .inl (cI, 501, .inl (fun _ => 0))), (oG2, .inr (8, xh)), (xn_first, .inl (cI, 501, .inl (fun _ => 0))), (xn_next, .inl (cI, 501, .inl (fun _ => 0)))] s.heap := hP
  have hl := lv_entry ([.ref oRu, .ref oG2]) (n := 2) (Nat.le_of_ble_eq_true rfl)
  rw [lg_entry_eq]
  generalize (lg_sl ([.ref oRu, .ref oG2]) ++ List.replicate (2 - (lg_sl ([.ref oRu, .ref oG2])).length) Slot.unset).toArray = ls at hl ⊢
  have hl : lv_has ls 2 [(0, .ref oRu), (1, .ref oG2)] := hl
  refine lv_aload_n hx hb d_Ru_take_0 rfl (lv_at hl 0 rfl) ?_
  refine lv_aload_n hx hb d_Ru_take_1 rfl (lv_at hl 1 rfl) ?_
  refine va_put (D := (dC, dI)) (ci := 10) (v := .ref oG2) (ty := (.object "BreweryHouse$Program")) (C := R_Ru) (T := F_Ru) (N := 21) hx hb hts (fun w h => List.mem_cons_of_mem _ (in_Ru w h)) t_Ru t_Ru_ok n_Ru hown hK.1 hP hD hS 0 rfl rfl 3 (by decide) (hts _ (List.mem_cons_of_mem _ mw_514)) (fun _ h9 => h9) rfl (by decide +kernel) rfl rfl (st_lt hru_program) d_Ru_take_2 (fun H locs hP hD hS => ?_)
  have g2_7 : fx (xn.set 3 (.ref oG2)) 7 (.ref xn_first) := (st_ne hru_first (by decide))
  have g2_8 : fx (xn.set 3 (.ref oG2)) 8 (.ref xn_next) := (st_ne hru_next (by decide))
  have g2_6 : fx (xn.set 3 (.ref oG2)) 6 (.ref xn_node) := (st_ne hru_node (by decide))
  have g2_5 : fx (xn.set 3 (.ref oG2)) 5 (.int 0) := (st_ne hru_parts (by decide))
  have g2_3 : fx (xn.set 3 (.ref oG2)) 3 (.ref oG2) := (st_eq hru_program)
  have g2_4 : fx (xn.set 3 (.ref oG2)) 4 (.int 4) := (st_ne hru_state (by decide))
  have hP : va_P (dC, dI) classes [(oRu, .inr (10, (xn.set 3 (.ref oG2)))), (xn_node, .inl (cI, 501, .inl (fun _ => 0))), (oG2, .inr (8, xh)), (xn_first, .inl (cI, 501, .inl (fun _ => 0))), (xn_next, .inl (cI, 501, .inl (fun _ => 0)))] H := hP
  have hD : va_D A [(oRu, .inr (10, (xn.set 3 (.ref oG2)))), (xn_node, .inl (cI, 501, .inl (fun _ => 0))), (oG2, .inr (8, xh)), (xn_first, .inl (cI, 501, .inl (fun _ => 0))), (xn_next, .inl (cI, 501, .inl (fun _ => 0)))] := hD
  refine lv_aload_n hx hb d_Ru_take_5 rfl (lv_at hl 0 rfl) ?_
  refine lv_iconst (v := 4) hx hb d_Ru_take_6 (by decide) ?_
  refine va_put (D := (dC, dI)) (ci := 10) (v := .int 4) (ty := .int) (C := R_Ru) (T := F_Ru) (N := 21) hx hb hts (fun w h => List.mem_cons_of_mem _ (in_Ru w h)) t_Ru t_Ru_ok n_Ru hown hK.1 hP hD hS 0 rfl rfl 4 (by decide) (hts _ (List.mem_cons_of_mem _ mw_516)) (fun _ h9 => h9) rfl (by decide +kernel) rfl rfl (st_lt g2_4) d_Ru_take_7 (fun H locs hP hD hS => ?_)
  have g7_7 : fx ((xn.set 3 (.ref oG2)).set 4 (.int 4)) 7 (.ref xn_first) := (st_ne g2_7 (by decide))
  have g7_8 : fx ((xn.set 3 (.ref oG2)).set 4 (.int 4)) 8 (.ref xn_next) := (st_ne g2_8 (by decide))
  have g7_6 : fx ((xn.set 3 (.ref oG2)).set 4 (.int 4)) 6 (.ref xn_node) := (st_ne g2_6 (by decide))
  have g7_5 : fx ((xn.set 3 (.ref oG2)).set 4 (.int 4)) 5 (.int 0) := (st_ne g2_5 (by decide))
  have g7_3 : fx ((xn.set 3 (.ref oG2)).set 4 (.int 4)) 3 (.ref oG2) := (st_ne g2_3 (by decide))
  have g7_4 : fx ((xn.set 3 (.ref oG2)).set 4 (.int 4)) 4 (.int 4) := (st_eq g2_4)
  have hP : va_P (dC, dI) classes [(oRu, .inr (10, ((xn.set 3 (.ref oG2)).set 4 (.int 4)))), (xn_node, .inl (cI, 501, .inl (fun _ => 0))), (oG2, .inr (8, xh)), (xn_first, .inl (cI, 501, .inl (fun _ => 0))), (xn_next, .inl (cI, 501, .inl (fun _ => 0)))] H := hP
  have hD : va_D A [(oRu, .inr (10, ((xn.set 3 (.ref oG2)).set 4 (.int 4)))), (xn_node, .inl (cI, 501, .inl (fun _ => 0))), (oG2, .inr (8, xh)), (xn_first, .inl (cI, 501, .inl (fun _ => 0))), (xn_next, .inl (cI, 501, .inl (fun _ => 0)))] := hD
  refine lv_aload_n hx hb d_Ru_take_10 rfl (lv_at hl 0 rfl) ?_
  refine lv_iconst (v := 1) hx hb d_Ru_take_11 (by decide) ?_
  refine va_put (D := (dC, dI)) (ci := 10) (v := .int 1) (ty := .int) (C := R_Ru) (T := F_Ru) (N := 21) hx hb hts (fun w h => List.mem_cons_of_mem _ (in_Ru w h)) t_Ru t_Ru_ok n_Ru hown hK.1 hP hD hS 0 rfl rfl 5 (by decide) (hts _ (List.mem_cons_of_mem _ mw_518)) (fun _ h9 => h9) rfl (by decide +kernel) rfl rfl (st_lt g7_5) d_Ru_take_12 (fun H locs hP hD hS => ?_)
  have g12_7 : fx (((xn.set 3 (.ref oG2)).set 4 (.int 4)).set 5 (.int 1)) 7 (.ref xn_first) := (st_ne g7_7 (by decide))
  have g12_8 : fx (((xn.set 3 (.ref oG2)).set 4 (.int 4)).set 5 (.int 1)) 8 (.ref xn_next) := (st_ne g7_8 (by decide))
  have g12_6 : fx (((xn.set 3 (.ref oG2)).set 4 (.int 4)).set 5 (.int 1)) 6 (.ref xn_node) := (st_ne g7_6 (by decide))
  have g12_5 : fx (((xn.set 3 (.ref oG2)).set 4 (.int 4)).set 5 (.int 1)) 5 (.int 1) := (st_eq g7_5)
  have g12_3 : fx (((xn.set 3 (.ref oG2)).set 4 (.int 4)).set 5 (.int 1)) 3 (.ref oG2) := (st_ne g7_3 (by decide))
  have g12_4 : fx (((xn.set 3 (.ref oG2)).set 4 (.int 4)).set 5 (.int 1)) 4 (.int 4) := (st_ne g7_4 (by decide))
  have hP : va_P (dC, dI) classes [(oRu, .inr (10, (((xn.set 3 (.ref oG2)).set 4 (.int 4)).set 5 (.int 1)))), (xn_node, .inl (cI, 501, .inl (fun _ => 0))), (oG2, .inr (8, xh)), (xn_first, .inl (cI, 501, .inl (fun _ => 0))), (xn_next, .inl (cI, 501, .inl (fun _ => 0)))] H := hP
  have hD : va_D A [(oRu, .inr (10, (((xn.set 3 (.ref oG2)).set 4 (.int 4)).set 5 (.int 1)))), (xn_node, .inl (cI, 501, .inl (fun _ => 0))), (oG2, .inr (8, xh)), (xn_first, .inl (cI, 501, .inl (fun _ => 0))), (xn_next, .inl (cI, 501, .inl (fun _ => 0)))] := hD
  refine lv_aload_n hx hb d_Ru_take_15 rfl (lv_at hl 0 rfl) ?_
  refine va_get (D := (dC, dI)) (ci := 10) (v := .ref xn_node) (C := R_Ru) (T := F_Ru) (N := 21) hx hb hts (fun w h => List.mem_cons_of_mem _ (in_Ru w h)) hown hK.1 hP 0 rfl rfl 6 (by decide) (hts _ (List.mem_cons_of_mem _ mw_519)) (fun _ h9 => h9) g12_6 d_Ru_take_16 ?_
  refine lv_iconst (v := 0) hx hb d_Ru_take_19 (by decide) ?_
  refine lv_iconst (v := (-1)) hx hb d_Ru_take_20 (by decide) ?_
  refine va_iast hx hb hK.1 hP hD hS 1 0 rfl rfl (vp_in_iff.mpr (by decide)) d_Ru_take_21 (fun H locs hP hD hS => ?_)
  have hP : va_P (dC, dI) classes [(oRu, .inr (10, (((xn.set 3 (.ref oG2)).set 4 (.int 4)).set 5 (.int 1)))), (xn_node, .inl (cI, 501, .inl ((upd (fun _ => 0) (0 : Int32).toNatClampNeg (-1))))), (oG2, .inr (8, xh)), (xn_first, .inl (cI, 501, .inl (fun _ => 0))), (xn_next, .inl (cI, 501, .inl (fun _ => 0)))] H := hP
  have hD : va_D A [(oRu, .inr (10, (((xn.set 3 (.ref oG2)).set 4 (.int 4)).set 5 (.int 1)))), (xn_node, .inl (cI, 501, .inl ((upd (fun _ => 0) (0 : Int32).toNatClampNeg (-1))))), (oG2, .inr (8, xh)), (xn_first, .inl (cI, 501, .inl (fun _ => 0))), (xn_next, .inl (cI, 501, .inl (fun _ => 0)))] := hD
  generalize (upd (fun _ => 0) (0 : Int32).toNatClampNeg (-1)) = f21_4 at hP hD
  refine lv_aload_n hx hb d_Ru_take_22 rfl (lv_at hl 0 rfl) ?_
  refine va_get (D := (dC, dI)) (ci := 10) (v := .ref xn_first) (C := R_Ru) (T := F_Ru) (N := 21) hx hb hts (fun w h => List.mem_cons_of_mem _ (in_Ru w h)) hown hK.1 hP 0 rfl rfl 7 (by decide) (hts _ (List.mem_cons_of_mem _ mw_520)) (fun _ h9 => h9) g12_7 d_Ru_take_23 ?_
  refine lv_iconst (v := 0) hx hb d_Ru_take_26 (by decide) ?_
  refine lv_aload_n hx hb d_Ru_take_27 rfl (lv_at hl 0 rfl) ?_
  refine lv_aload_n hx hb d_Ru_take_28 rfl (lv_at hl 0 rfl) ?_
  refine va_get (D := (dC, dI)) (ci := 10) (v := .ref oG2) (C := R_Ru) (T := F_Ru) (N := 21) hx hb hts (fun w h => List.mem_cons_of_mem _ (in_Ru w h)) hown hK.1 hP 0 rfl rfl 3 (by decide) (hts _ (List.mem_cons_of_mem _ mw_514)) (fun _ h9 => h9) g12_3 d_Ru_take_29 ?_
  refine va_get (D := (dC, dI)) (ci := 8) (v := .int (-1)) (C := R_Pr) (T := F_Pr) (N := 18) hx hb hts (fun w h => List.mem_cons_of_mem _ (in_Pr w h)) hown hK.1 hP 2 rfl rfl 2 (by decide) (hts _ (List.mem_cons_of_mem _ mw_435)) (fun _ h9 => h9) hxh_opening d_Ru_take_32 ?_
  refine lv_iconst (v := 0) hx hb d_Ru_take_35 (by decide) ?_
  have hPc := hP.sub (ws' := [(oRu, .inr (10, (((xn.set 3 (.ref oG2)).set 4 (.int 4)).set 5 (.int 1))))]) [0] rfl
  have hDc := hD.sub (ws' := [(oRu, .inr (10, (((xn.set 3 (.ref oG2)).set 4 (.int 4)).set 5 (.int 1))))]) [0] (by decide) rfl
  have hFc := pu_free hS hA
  refine va_calli (va_runV (C := R_Ru) (As := [.int (-1), .int 0]) (rest := [.int 0, .ref xn_first]) ⟨hx, hb, hml, hown, hts⟩ (c_Ru_expandAll l dC dI cI cB cZ cJ oRu ((((xn.set 3 (.ref oG2)).set 4 (.int 4)).set 5 (.int 1))) H.size) (cwV 2 hts (tb_V mw_1055 mw_1057 sl_45 mw_11 mw_1058) rfl rfl rfl ⟨rfl, by decide +kernel, by decide +kernel, by decide +kernel⟩ ⟨(Nat.le_of_ble_eq_true rfl), (Nat.le_of_ble_eq_true rfl)⟩) ⟨pw_blind, va_recv (q := (R_Ru, F_Ru, 21)) hK.1 hP (ci := 10) (q0 := 0) rfl rfl, pw_pre hPc hK hDc⟩ rfl rfl hl.1 rfl (lv_room (Nat.le_of_ble_eq_true rfl)) d_Ru_take_36 ⟨(Nat.le_of_ble_eq_true rfl), (Nat.le_of_ble_eq_true rfl)⟩) hS (fun q _ h => hFc q h) hFc (fun r u t H locs ht hvm hw hB hz1 hk1 hS => ?_)
  have hP := pu_kept hP hk1
  obtain rfl : r = (-1) := hw
  refine va_iast hx hb hK.1 hP hD hS 3 0 rfl rfl (vp_in_iff.mpr (by decide)) d_Ru_take_39 (fun H locs hP hD hS => ?_)
  have hP : va_P (dC, dI) classes [(oRu, .inr (10, (((xn.set 3 (.ref oG2)).set 4 (.int 4)).set 5 (.int 1)))), (xn_node, .inl (cI, 501, .inl f21_4)), (oG2, .inr (8, xh)), (xn_first, .inl (cI, 501, .inl ((upd (fun _ => 0) (0 : Int32).toNatClampNeg (-1))))), (xn_next, .inl (cI, 501, .inl (fun _ => 0)))] H := hP
  have hD : va_D A [(oRu, .inr (10, (((xn.set 3 (.ref oG2)).set 4 (.int 4)).set 5 (.int 1)))), (xn_node, .inl (cI, 501, .inl f21_4)), (oG2, .inr (8, xh)), (xn_first, .inl (cI, 501, .inl ((upd (fun _ => 0) (0 : Int32).toNatClampNeg (-1))))), (xn_next, .inl (cI, 501, .inl (fun _ => 0)))] := hD
  generalize (upd (fun _ => 0) (0 : Int32).toNatClampNeg (-1)) = f39_5 at hP hD
  refine lv_aload_n hx hb d_Ru_take_40 rfl (lv_at hl 0 rfl) ?_
  refine va_get (D := (dC, dI)) (ci := 10) (v := .ref xn_next) (C := R_Ru) (T := F_Ru) (N := 21) hx hb hts (fun w h => List.mem_cons_of_mem _ (in_Ru w h)) hown hK.1 hP 0 rfl rfl 8 (by decide) (hts _ (List.mem_cons_of_mem _ mw_521)) (fun _ h9 => h9) g12_8 d_Ru_take_41 ?_
  refine lv_iconst (v := 0) hx hb d_Ru_take_44 (by decide) ?_
  refine lv_iconst (v := (-1)) hx hb d_Ru_take_45 (by decide) ?_
  refine va_iast hx hb hK.1 hP hD hS 4 0 rfl rfl (vp_in_iff.mpr (by decide)) d_Ru_take_46 (fun H locs hP hD hS => ?_)
  have hP : va_P (dC, dI) classes [(oRu, .inr (10, (((xn.set 3 (.ref oG2)).set 4 (.int 4)).set 5 (.int 1)))), (xn_node, .inl (cI, 501, .inl f21_4)), (oG2, .inr (8, xh)), (xn_first, .inl (cI, 501, .inl f39_5)), (xn_next, .inl (cI, 501, .inl ((upd (fun _ => 0) (0 : Int32).toNatClampNeg (-1)))))] H := hP
  have hD : va_D A [(oRu, .inr (10, (((xn.set 3 (.ref oG2)).set 4 (.int 4)).set 5 (.int 1)))), (xn_node, .inl (cI, 501, .inl f21_4)), (oG2, .inr (8, xh)), (xn_first, .inl (cI, 501, .inl f39_5)), (xn_next, .inl (cI, 501, .inl ((upd (fun _ => 0) (0 : Int32).toNatClampNeg (-1)))))] := hD
  generalize (upd (fun _ => 0) (0 : Int32).toNatClampNeg (-1)) = f46_6 at hP hD
  exact W.vret hx hb hr (fun t ht hW => ⟨⟨(), rfl, trivial, ⟨(((xn.set 3 (.ref oG2)).set 4 (.int 4)).set 5 (.int 1)), f21_4, f39_5, f46_6, g12_3, g12_4, g12_5, g12_6, g12_7, g12_8, hxh_opening, by rw [ht]; exact hP, hD⟩⟩, hS.F ht⟩) hS.2.2 d_Ru_take_47
abbrev t_Bh_takeProgram_41 : List UInt8 := 172 :: []
abbrev t_Bh_takeProgram_38 : List UInt8 := 180 :: 0 :: 193 :: t_Bh_takeProgram_41
abbrev t_Bh_takeProgram_35 : List UInt8 := 180 :: 0 :: 183 :: t_Bh_takeProgram_38
abbrev t_Bh_takeProgram_32 : List UInt8 := 180 :: 0 :: 62 :: t_Bh_takeProgram_35
abbrev t_Bh_takeProgram_31 : List UInt8 := 42 :: t_Bh_takeProgram_32
abbrev t_Bh_takeProgram_28 : List UInt8 := 182 :: 0 :: 190 :: t_Bh_takeProgram_31
abbrev t_Bh_takeProgram_25 : List UInt8 := 180 :: 0 :: 35 :: t_Bh_takeProgram_28
abbrev t_Bh_takeProgram_24 : List UInt8 := 42 :: t_Bh_takeProgram_25
abbrev t_Bh_takeProgram_21 : List UInt8 := 181 :: 0 :: 90 :: t_Bh_takeProgram_24
abbrev t_Bh_takeProgram_20 : List UInt8 := 43 :: t_Bh_takeProgram_21
abbrev t_Bh_takeProgram_19 : List UInt8 := 42 :: t_Bh_takeProgram_20
abbrev t_Bh_takeProgram_16 : List UInt8 := 182 :: 0 :: 186 :: t_Bh_takeProgram_19
abbrev t_Bh_takeProgram_13 : List UInt8 := 180 :: 0 :: 90 :: t_Bh_takeProgram_16
abbrev t_Bh_takeProgram_12 : List UInt8 := 42 :: t_Bh_takeProgram_13
abbrev t_Bh_takeProgram_9 : List UInt8 := 180 :: 0 :: 62 :: t_Bh_takeProgram_12
abbrev t_Bh_takeProgram_8 : List UInt8 := 42 :: t_Bh_takeProgram_9
abbrev t_Bh_takeProgram_7 : List UInt8 := 76 :: t_Bh_takeProgram_8
abbrev t_Bh_takeProgram_4 : List UInt8 := 180 :: 0 :: 183 :: t_Bh_takeProgram_7
abbrev t_Bh_takeProgram_1 : List UInt8 := 180 :: 0 :: 62 :: t_Bh_takeProgram_4
abbrev t_Bh_takeProgram_0 : List UInt8 := 42 :: t_Bh_takeProgram_1
theorem a_Bh_takeProgram_0 : dk_at b_Bh_takeProgram 0 t_Bh_takeProgram_0 := dk_start (by decide +kernel)
theorem a_Bh_takeProgram_1 : dk_at b_Bh_takeProgram 1 t_Bh_takeProgram_1 := dk_go 1 a_Bh_takeProgram_0 rfl
theorem a_Bh_takeProgram_4 : dk_at b_Bh_takeProgram 4 t_Bh_takeProgram_4 := dk_go 3 a_Bh_takeProgram_1 rfl
theorem a_Bh_takeProgram_7 : dk_at b_Bh_takeProgram 7 t_Bh_takeProgram_7 := dk_go 3 a_Bh_takeProgram_4 rfl
theorem a_Bh_takeProgram_8 : dk_at b_Bh_takeProgram 8 t_Bh_takeProgram_8 := dk_go 1 a_Bh_takeProgram_7 rfl
theorem a_Bh_takeProgram_9 : dk_at b_Bh_takeProgram 9 t_Bh_takeProgram_9 := dk_go 1 a_Bh_takeProgram_8 rfl
theorem a_Bh_takeProgram_12 : dk_at b_Bh_takeProgram 12 t_Bh_takeProgram_12 := dk_go 3 a_Bh_takeProgram_9 rfl
theorem a_Bh_takeProgram_13 : dk_at b_Bh_takeProgram 13 t_Bh_takeProgram_13 := dk_go 1 a_Bh_takeProgram_12 rfl
theorem a_Bh_takeProgram_16 : dk_at b_Bh_takeProgram 16 t_Bh_takeProgram_16 := dk_go 3 a_Bh_takeProgram_13 rfl
theorem a_Bh_takeProgram_19 : dk_at b_Bh_takeProgram 19 t_Bh_takeProgram_19 := dk_go 3 a_Bh_takeProgram_16 rfl
theorem a_Bh_takeProgram_20 : dk_at b_Bh_takeProgram 20 t_Bh_takeProgram_20 := dk_go 1 a_Bh_takeProgram_19 rfl
theorem a_Bh_takeProgram_21 : dk_at b_Bh_takeProgram 21 t_Bh_takeProgram_21 := dk_go 1 a_Bh_takeProgram_20 rfl
theorem a_Bh_takeProgram_24 : dk_at b_Bh_takeProgram 24 t_Bh_takeProgram_24 := dk_go 3 a_Bh_takeProgram_21 rfl
theorem a_Bh_takeProgram_25 : dk_at b_Bh_takeProgram 25 t_Bh_takeProgram_25 := dk_go 1 a_Bh_takeProgram_24 rfl
theorem a_Bh_takeProgram_28 : dk_at b_Bh_takeProgram 28 t_Bh_takeProgram_28 := dk_go 3 a_Bh_takeProgram_25 rfl
theorem a_Bh_takeProgram_31 : dk_at b_Bh_takeProgram 31 t_Bh_takeProgram_31 := dk_go 3 a_Bh_takeProgram_28 rfl
theorem a_Bh_takeProgram_32 : dk_at b_Bh_takeProgram 32 t_Bh_takeProgram_32 := dk_go 1 a_Bh_takeProgram_31 rfl
theorem a_Bh_takeProgram_35 : dk_at b_Bh_takeProgram 35 t_Bh_takeProgram_35 := dk_go 3 a_Bh_takeProgram_32 rfl
theorem a_Bh_takeProgram_38 : dk_at b_Bh_takeProgram 38 t_Bh_takeProgram_38 := dk_go 3 a_Bh_takeProgram_35 rfl
theorem a_Bh_takeProgram_41 : dk_at b_Bh_takeProgram 41 t_Bh_takeProgram_41 := dk_go 3 a_Bh_takeProgram_38 rfl
theorem d_Bh_takeProgram_0 : decode b_Bh_takeProgram 0 = .ok (.aload_n 0, 1) := dk_0 a_Bh_takeProgram_0 (dko_42 _)
theorem d_Bh_takeProgram_1 : decode b_Bh_takeProgram 1 = .ok (.getfield 62, 3) := dk_U2 a_Bh_takeProgram_1 (dko_180 _) rfl
theorem d_Bh_takeProgram_4 : decode b_Bh_takeProgram 4 = .ok (.getfield 183, 3) := dk_U2 a_Bh_takeProgram_4 (dko_180 _) rfl
theorem d_Bh_takeProgram_7 : decode b_Bh_takeProgram 7 = .ok (.astore_n 1, 1) := dk_0 a_Bh_takeProgram_7 (dko_76 _)
theorem d_Bh_takeProgram_8 : decode b_Bh_takeProgram 8 = .ok (.aload_n 0, 1) := dk_0 a_Bh_takeProgram_8 (dko_42 _)
theorem d_Bh_takeProgram_9 : decode b_Bh_takeProgram 9 = .ok (.getfield 62, 3) := dk_U2 a_Bh_takeProgram_9 (dko_180 _) rfl
theorem d_Bh_takeProgram_12 : decode b_Bh_takeProgram 12 = .ok (.aload_n 0, 1) := dk_0 a_Bh_takeProgram_12 (dko_42 _)
theorem d_Bh_takeProgram_13 : decode b_Bh_takeProgram 13 = .ok (.getfield 90, 3) := dk_U2 a_Bh_takeProgram_13 (dko_180 _) rfl
theorem d_Bh_takeProgram_16 : decode b_Bh_takeProgram 16 = .ok (.invokevirtual 186, 3) := dk_U2 a_Bh_takeProgram_16 (dko_182 _) rfl
theorem d_Bh_takeProgram_19 : decode b_Bh_takeProgram 19 = .ok (.aload_n 0, 1) := dk_0 a_Bh_takeProgram_19 (dko_42 _)
theorem d_Bh_takeProgram_20 : decode b_Bh_takeProgram 20 = .ok (.aload_n 1, 1) := dk_0 a_Bh_takeProgram_20 (dko_43 _)
theorem d_Bh_takeProgram_21 : decode b_Bh_takeProgram 21 = .ok (.putfield 90, 3) := dk_U2 a_Bh_takeProgram_21 (dko_181 _) rfl
theorem d_Bh_takeProgram_24 : decode b_Bh_takeProgram 24 = .ok (.aload_n 0, 1) := dk_0 a_Bh_takeProgram_24 (dko_42 _)
theorem d_Bh_takeProgram_25 : decode b_Bh_takeProgram 25 = .ok (.getfield 35, 3) := dk_U2 a_Bh_takeProgram_25 (dko_180 _) rfl
theorem d_Bh_takeProgram_28 : decode b_Bh_takeProgram 28 = .ok (.invokevirtual 190, 3) := dk_U2 a_Bh_takeProgram_28 (dko_182 _) rfl
theorem d_Bh_takeProgram_31 : decode b_Bh_takeProgram 31 = .ok (.aload_n 0, 1) := dk_0 a_Bh_takeProgram_31 (dko_42 _)
theorem d_Bh_takeProgram_32 : decode b_Bh_takeProgram 32 = .ok (.getfield 62, 3) := dk_U2 a_Bh_takeProgram_32 (dko_180 _) rfl
theorem d_Bh_takeProgram_35 : decode b_Bh_takeProgram 35 = .ok (.getfield 183, 3) := dk_U2 a_Bh_takeProgram_35 (dko_180 _) rfl
theorem d_Bh_takeProgram_38 : decode b_Bh_takeProgram 38 = .ok (.getfield 193, 3) := dk_U2 a_Bh_takeProgram_38 (dko_180 _) rfl
theorem d_Bh_takeProgram_41 : decode b_Bh_takeProgram 41 = .ok (.ireturn, 1) := dk_0 a_Bh_takeProgram_41 (dko_172 _)
set_option maxHeartbeats 4000000 in
set_option maxRecDepth 100000 in
theorem c_Bh_takeProgram (l : Launch) (dC : Nat → ClassId) (dI : Nat → Nat → Nat) (cI cB cZ cJ : ClassId) (oB : Nat) (oRu : Nat) (xn_node : Nat) (oG2 : Nat) (xn_first : Nat) (xn_next : Nat) (oWa : Nat) (oG1 : Nat) (xb : List Value) (hb_ways : fx xb 3 (.ref oWa)) (hb_run : fx xb 6 (.ref oRu)) (hb_spareProgram : fx xb 10 (.ref oG2)) (xn : List Value) (hru_program : fx xn 3 (.ref oG1)) (hru_state : fx xn 4 (.int 4)) (hru_parts : fx xn 5 (.int 0)) (hru_node : fx xn 6 (.ref xn_node)) (hru_first : fx xn 7 (.ref xn_first)) (hru_next : fx xn 8 (.ref xn_next)) (xh : List Value) (hxh_statements : fx xh 0 (.int 0)) (hxh_opening : fx xh 2 (.int (-1))) (xw : List Value) (hwa_count : fx xw 1 (.int 0)) (sz : Nat) : Met l y_Bh_takeProgram w_Bh_takeProgram ({ frames := 2, cells := 0, slots := 0, locals := 48 }) (va_Pc [.ref oB] (PW dC dI cI cB cZ cJ [(oB, .inr (0, xb)), (oRu, .inr (10, xn)), (xn_node, .inl (cI, 501, .inl (fun _ => 0))), (oG2, .inr (8, xh)), (xn_first, .inl (cI, 501, .inl (fun _ => 0))), (xn_next, .inl (cI, 501, .inl (fun _ => 0))), (oWa, .inr (5, xw))] sz)) (va_Qi (fun (r : Int32) (_ : Unit) => r = 0) (fun _ _ => True) (va_A [(oB, .inr (0, xb)), (oRu, .inr (10, xn)), (xn_node, .inl (cI, 501, .inl (fun _ => 0))), (oG2, .inr (8, xh)), (xn_first, .inl (cI, 501, .inl (fun _ => 0))), (xn_next, .inl (cI, 501, .inl (fun _ => 0))), (oWa, .inr (5, xw))] sz)) 0 0 (va_A [(oB, .inr (0, xb)), (oRu, .inr (10, xn)), (xn_node, .inl (cI, 501, .inl (fun _ => 0))), (oG2, .inr (8, xh)), (xn_first, .inl (cI, 501, .inl (fun _ => 0))), (xn_next, .inl (cI, 501, .inl (fun _ => 0))), (oWa, .inr (5, xw))] sz) := by
  refine Met.ofW (cc := b_Bh_takeProgram) (maxL := 2) (ret := (some .int)) (by decide) rfl ?_
  intro p e s m args below meth c s₁ B hml hv
  obtain ⟨rfl, hsz, hP, hK, hD⟩ := hv
  have hx := B.exec
  have hb := B.bytes
  have hr := B.returns
  have hts := atoms_spec (ws := w_Bh_takeProgram) B.pre
  have hown : s.vm.findClass R_Bh = some m.cls := findClass_of_methodNamed B.named
  have hlocks := B.notSynchronized
  subst hsz
  have hD := hD.self (sz := s.heap.size)
  generalize hAe : va_A [(oB, .inr (0, xb)), (oRu, .inr (10, xn)), (xn_node, .inl (cI, 501, .inl (fun _ => 0))), (oG2, .inr (8, xh)), (xn_first, .inl (cI, 501, .inl (fun _ => 0))), (xn_next, .inl (cI, 501, .inl (fun _ => 0))), (oWa, .inr (5, xw))] s.heap.size = A at hD ⊢
  have hA : ∀ q : Nat, s.heap.size ≤ q → A q := fun q h => by rw [← hAe]; exact Or.inr h
  have hS : va_S A s.heap s.heap [] := va_S.rf
  have hP : va_P (dC, dI) classes [(oB, .inr (0, xb)), (oRu, .inr (10, xn)), (xn_node, .inl (cI, 501, .inl (fun _ => 0))), (oG2, .inr (8, xh)), (xn_first, .inl (cI, 501, .inl (fun _ => 0))), (xn_next, .inl (cI, 501, .inl (fun _ => 0))), (oWa, .inr (5, xw))] s.heap := hP
  have hl := lv_entry ([.ref oB]) (n := 2) (Nat.le_of_ble_eq_true rfl)
  rw [lg_entry_eq]
  generalize (lg_sl ([.ref oB]) ++ List.replicate (2 - (lg_sl ([.ref oB])).length) Slot.unset).toArray = ls at hl ⊢
  have hl : lv_has ls 2 [(0, .ref oB)] := hl
  refine lv_aload_n hx hb d_Bh_takeProgram_0 rfl (lv_at hl 0 rfl) ?_
  refine va_get (D := (dC, dI)) (ci := 0) (v := .ref oRu) (C := R_Bh) (T := F_Bh) (N := 16) hx hb hts (fun w h => List.mem_cons_of_mem _ (in_Bh w h)) hown hK.1 hP 0 rfl rfl 6 (by decide) (hts _ (List.mem_cons_of_mem _ mw_690)) (fun _ h9 => h9) hb_run d_Bh_takeProgram_1 ?_
  refine va_get (D := (dC, dI)) (ci := 10) (v := .ref oG1) (C := R_Ru) (T := F_Ru) (N := 21) hx hb hts (fun w h => List.mem_cons_of_mem _ (in_Ru w h)) hown hK.1 hP 1 rfl rfl 3 (by decide) (hts _ (List.mem_cons_of_mem _ mw_515)) (fun _ h9 => h9) hru_program d_Bh_takeProgram_4 ?_
  refine lv_astore_n hx hb d_Bh_takeProgram_7 rfl hl (by decide) rfl (fun ls hl => ?_)
  have hl : lv_has ls 2 [(1, .ref oG1), (0, .ref oB)] := hl
  refine lv_aload_n hx hb d_Bh_takeProgram_8 rfl (lv_at hl 1 rfl) ?_
  refine va_get (D := (dC, dI)) (ci := 0) (v := .ref oRu) (C := R_Bh) (T := F_Bh) (N := 16) hx hb hts (fun w h => List.mem_cons_of_mem _ (in_Bh w h)) hown hK.1 hP 0 rfl rfl 6 (by decide) (hts _ (List.mem_cons_of_mem _ mw_690)) (fun _ h9 => h9) hb_run d_Bh_takeProgram_9 ?_
  refine lv_aload_n hx hb d_Bh_takeProgram_12 rfl (lv_at hl 1 rfl) ?_
  refine va_get (D := (dC, dI)) (ci := 0) (v := .ref oG2) (C := R_Bh) (T := F_Bh) (N := 16) hx hb hts (fun w h => List.mem_cons_of_mem _ (in_Bh w h)) hown hK.1 hP 0 rfl rfl 10 (by decide) (hts _ (List.mem_cons_of_mem _ mw_694)) (fun _ h9 => h9) hb_spareProgram d_Bh_takeProgram_13 ?_
  have hPc := hP.sub (ws' := [(oRu, .inr (10, xn)), (xn_node, .inl (cI, 501, .inl (fun _ => 0))), (oG2, .inr (8, xh)), (xn_first, .inl (cI, 501, .inl (fun _ => 0))), (xn_next, .inl (cI, 501, .inl (fun _ => 0)))]) [1, 2, 3, 4, 5] rfl
  have hDc := hD.sub (ws' := [(oRu, .inr (10, xn)), (xn_node, .inl (cI, 501, .inl (fun _ => 0))), (oG2, .inr (8, xh)), (xn_first, .inl (cI, 501, .inl (fun _ => 0))), (xn_next, .inl (cI, 501, .inl (fun _ => 0)))]) [1, 2, 3, 4, 5] (by decide) rfl
  have hFc := va_free (wc := [(oRu, .inr (10, xn)), (xn_node, .inl (cI, 501, .inl (fun _ => 0))), (oG2, .inr (8, xh)), (xn_first, .inl (cI, 501, .inl (fun _ => 0))), (xn_next, .inl (cI, 501, .inl (fun _ => 0)))]) hD hS hA [1, 2, 3, 4, 5] rfl
  refine va_callv (va_runV (C := R_Ru) (As := [.ref oG2]) (rest := []) ⟨hx, hb, hml, hown, hts⟩ (c_Ru_take l dC dI cI cB cZ cJ oRu xn_node oG2 xn_first xn_next oG1 xn hru_program hru_state hru_parts hru_node hru_first hru_next xh hxh_opening s.heap.size) (cwV 1 hts (tb_V mw_1051 mw_1052 mw_1053 mw_11 mw_1054) rfl rfl rfl ⟨rfl, by decide +kernel, by decide +kernel, by decide +kernel⟩ ⟨(Nat.le_of_ble_eq_true rfl), (Nat.le_of_ble_eq_true rfl)⟩) ⟨pw_blind, va_recv (q := (R_Ru, F_Ru, 21)) hK.1 hP (ci := 10) (q0 := 1) rfl rfl, pw_pre hPc hK hDc⟩ rfl rfl hl.1 rfl (lv_room (Nat.le_of_ble_eq_true rfl)) d_Bh_takeProgram_16 ⟨(Nat.le_of_ble_eq_true rfl), (Nat.le_of_ble_eq_true rfl)⟩) hS (fun q _ h => hFc q h) hFc (fun u t H locs ht hvm hw hB hz1 hk1 hS => ?_)
  obtain ⟨s16_1_oRu, f16_1_xn_node, f16_1_xn_first, f16_1_xn_next, k16_1_oRu_3, k16_1_oRu_4, k16_1_oRu_5, k16_1_oRu_6, k16_1_oRu_7, k16_1_oRu_8, k16_1_oG2_2, hP1, hD1⟩ := hB
  rw [ht] at hP1
  obtain ⟨hP, hD⟩ := va_join (wr := [(oB, .inr (0, xb)), (oWa, .inr (5, xw))]) (w1 := [(oRu, .inr (10, s16_1_oRu)), (xn_node, .inl (cI, 501, .inl f16_1_xn_node)), (oG2, .inr (8, xh)), (xn_first, .inl (cI, 501, .inl f16_1_xn_first)), (xn_next, .inl (cI, 501, .inl f16_1_xn_next))]) hP hD [1, 2, 3, 4, 5] [0, 6] rfl rfl (by decide) (by decide) hk1 hFc hP1 hD1
  have hP : va_P (dC, dI) classes [(oB, .inr (0, xb)), (oWa, .inr (5, xw)), (oRu, .inr (10, s16_1_oRu)), (xn_node, .inl (cI, 501, .inl f16_1_xn_node)), (oG2, .inr (8, xh)), (xn_first, .inl (cI, 501, .inl f16_1_xn_first)), (xn_next, .inl (cI, 501, .inl f16_1_xn_next))] H := hP
  have hD : va_D A [(oB, .inr (0, xb)), (oWa, .inr (5, xw)), (oRu, .inr (10, s16_1_oRu)), (xn_node, .inl (cI, 501, .inl f16_1_xn_node)), (oG2, .inr (8, xh)), (xn_first, .inl (cI, 501, .inl f16_1_xn_first)), (xn_next, .inl (cI, 501, .inl f16_1_xn_next))] := hD
  refine lv_aload_n hx hb d_Bh_takeProgram_19 rfl (lv_at hl 1 rfl) ?_
  refine lv_aload_n hx hb d_Bh_takeProgram_20 rfl (lv_at hl 0 rfl) ?_
  refine va_put (D := (dC, dI)) (ci := 0) (v := .ref oG1) (ty := (.object "BreweryHouse$Program")) (C := R_Bh) (T := F_Bh) (N := 16) hx hb hts (fun w h => List.mem_cons_of_mem _ (in_Bh w h)) t_Bh t_Bh_ok n_Bh hown hK.1 hP hD hS 0 rfl rfl 10 (by decide) (hts _ (List.mem_cons_of_mem _ mw_694)) (fun _ h9 => h9) rfl (by decide +kernel) rfl rfl (st_lt hb_spareProgram) d_Bh_takeProgram_21 (fun H locs hP hD hS => ?_)
  have g21_6 : fx (xb.set 10 (.ref oG1)) 6 (.ref oRu) := (st_ne hb_run (by decide))
  have g21_10 : fx (xb.set 10 (.ref oG1)) 10 (.ref oG1) := (st_eq hb_spareProgram)
  have g21_3 : fx (xb.set 10 (.ref oG1)) 3 (.ref oWa) := (st_ne hb_ways (by decide))
  have hP : va_P (dC, dI) classes [(oB, .inr (0, (xb.set 10 (.ref oG1)))), (oWa, .inr (5, xw)), (oRu, .inr (10, s16_1_oRu)), (xn_node, .inl (cI, 501, .inl f16_1_xn_node)), (oG2, .inr (8, xh)), (xn_first, .inl (cI, 501, .inl f16_1_xn_first)), (xn_next, .inl (cI, 501, .inl f16_1_xn_next))] H := hP
  have hD : va_D A [(oB, .inr (0, (xb.set 10 (.ref oG1)))), (oWa, .inr (5, xw)), (oRu, .inr (10, s16_1_oRu)), (xn_node, .inl (cI, 501, .inl f16_1_xn_node)), (oG2, .inr (8, xh)), (xn_first, .inl (cI, 501, .inl f16_1_xn_first)), (xn_next, .inl (cI, 501, .inl f16_1_xn_next))] := hD
  refine lv_aload_n hx hb d_Bh_takeProgram_24 rfl (lv_at hl 1 rfl) ?_
  refine va_get (D := (dC, dI)) (ci := 0) (v := .ref oWa) (C := R_Bh) (T := F_Bh) (N := 16) hx hb hts (fun w h => List.mem_cons_of_mem _ (in_Bh w h)) hown hK.1 hP 0 rfl rfl 3 (by decide) (hts _ (List.mem_cons_of_mem _ mw_687)) (fun _ h9 => h9) g21_3 d_Bh_takeProgram_25 ?_
  have hPc := hP.sub (ws' := [(oWa, .inr (5, xw))]) [1] rfl
  have hDc := hD.sub (ws' := [(oWa, .inr (5, xw))]) [1] (by decide) rfl
  have hFc := pu_free hS hA
  refine va_callv (va_runV (C := R_Wa) (As := []) (rest := []) ⟨hx, hb, hml, hown, hts⟩ (c_Wa_closeAll l dC dI cI cB cZ cJ oWa xw hwa_count H.size) (cwV 0 hts (tb_V mw_1063 mw_1064 mw_1065 mw_7 mw_1066) rfl rfl rfl ⟨rfl, by decide +kernel, by decide +kernel, by decide +kernel⟩ ⟨(Nat.le_of_ble_eq_true rfl), (Nat.le_of_ble_eq_true rfl)⟩) ⟨pw_blind, va_recv (q := (R_Wa, F_Wa, 18)) hK.1 hP (ci := 5) (q0 := 1) rfl rfl, pw_pre hPc hK hDc⟩ rfl rfl hl.1 rfl (lv_room (Nat.le_of_ble_eq_true rfl)) d_Bh_takeProgram_28 ⟨(Nat.le_of_ble_eq_true rfl), (Nat.le_of_ble_eq_true rfl)⟩) hS (fun q _ h => hFc q h) hFc (fun u t H locs ht hvm hw hB hz1 hk1 hS => ?_)
  have hP := pu_kept hP hk1
  refine lv_aload_n hx hb d_Bh_takeProgram_31 rfl (lv_at hl 1 rfl) ?_
  refine va_get (D := (dC, dI)) (ci := 0) (v := .ref oRu) (C := R_Bh) (T := F_Bh) (N := 16) hx hb hts (fun w h => List.mem_cons_of_mem _ (in_Bh w h)) hown hK.1 hP 0 rfl rfl 6 (by decide) (hts _ (List.mem_cons_of_mem _ mw_690)) (fun _ h9 => h9) g21_6 d_Bh_takeProgram_32 ?_
  refine va_get (D := (dC, dI)) (ci := 10) (v := .ref oG2) (C := R_Ru) (T := F_Ru) (N := 21) hx hb hts (fun w h => List.mem_cons_of_mem _ (in_Ru w h)) hown hK.1 hP 2 rfl rfl 3 (by decide) (hts _ (List.mem_cons_of_mem _ mw_515)) (fun _ h9 => h9) k16_1_oRu_3 d_Bh_takeProgram_35 ?_
  refine va_get (D := (dC, dI)) (ci := 8) (v := .int 0) (C := R_Pr) (T := F_Pr) (N := 18) hx hb hts (fun w h => List.mem_cons_of_mem _ (in_Pr w h)) hown hK.1 hP 4 rfl rfl 0 (by decide) (hts _ (List.mem_cons_of_mem _ mw_429)) (fun _ h9 => h9) hxh_statements d_Bh_takeProgram_38 ?_
  exact W.iret (v := 0) hx hb hr (fun t ht hW => ⟨⟨_, (), rfl, (rfl), trivial⟩, hS.F ht⟩) hS.2.2 d_Bh_takeProgram_41
abbrev t_Bh_end_169 : List UInt8 := 172 :: []
abbrev t_Bh_end_166 : List UInt8 := 182 :: 0 :: 148 :: t_Bh_end_169
abbrev t_Bh_end_165 : List UInt8 := 42 :: t_Bh_end_166
abbrev t_Bh_end_162 : List UInt8 := 167 :: 0 :: 7 :: t_Bh_end_165
abbrev t_Bh_end_159 : List UInt8 := 182 :: 0 :: 145 :: t_Bh_end_162
abbrev t_Bh_end_158 : List UInt8 := 42 :: t_Bh_end_159
abbrev t_Bh_end_155 : List UInt8 := 160 :: 0 :: 10 :: t_Bh_end_158
abbrev t_Bh_end_154 : List UInt8 := 4 :: t_Bh_end_155
abbrev t_Bh_end_153 : List UInt8 := 27 :: t_Bh_end_154
abbrev t_Bh_end_150 : List UInt8 := 167 :: 0 :: 19 :: t_Bh_end_153
abbrev t_Bh_end_147 : List UInt8 := 182 :: 0 :: 141 :: t_Bh_end_150
abbrev t_Bh_end_146 : List UInt8 := 42 :: t_Bh_end_147
abbrev t_Bh_end_143 : List UInt8 := 154 :: 0 :: 10 :: t_Bh_end_146
abbrev t_Bh_end_142 : List UInt8 := 27 :: t_Bh_end_143
abbrev t_Bh_end_141 : List UInt8 := 172 :: t_Bh_end_142
abbrev t_Bh_end_140 : List UInt8 := 100 :: t_Bh_end_141
abbrev t_Bh_end_138 : List UInt8 := 21 :: 4 :: t_Bh_end_140
abbrev t_Bh_end_136 : List UInt8 := 16 :: 253 :: t_Bh_end_138
abbrev t_Bh_end_133 : List UInt8 := 155 :: 0 :: 9 :: t_Bh_end_136
abbrev t_Bh_end_131 : List UInt8 := 21 :: 4 :: t_Bh_end_133
abbrev t_Bh_end_129 : List UInt8 := 54 :: 4 :: t_Bh_end_131
abbrev t_Bh_end_126 : List UInt8 := 182 :: 0 :: 138 :: t_Bh_end_129
abbrev t_Bh_end_123 : List UInt8 := 180 :: 0 :: 90 :: t_Bh_end_126
abbrev t_Bh_end_122 : List UInt8 := 42 :: t_Bh_end_123
abbrev t_Bh_end_119 : List UInt8 := 180 :: 0 :: 10 :: t_Bh_end_122
abbrev t_Bh_end_118 : List UInt8 := 42 :: t_Bh_end_119
abbrev t_Bh_end_115 : List UInt8 := 180 :: 0 :: 69 :: t_Bh_end_118
abbrev t_Bh_end_114 : List UInt8 := 42 :: t_Bh_end_115
abbrev t_Bh_end_111 : List UInt8 := 167 :: 0 :: 18 :: t_Bh_end_114
abbrev t_Bh_end_108 : List UInt8 := 182 :: 0 :: 137 :: t_Bh_end_111
abbrev t_Bh_end_105 : List UInt8 := 180 :: 0 :: 10 :: t_Bh_end_108
abbrev t_Bh_end_104 : List UInt8 := 42 :: t_Bh_end_105
abbrev t_Bh_end_101 : List UInt8 := 180 :: 0 :: 83 :: t_Bh_end_104
abbrev t_Bh_end_100 : List UInt8 := 42 :: t_Bh_end_101
abbrev t_Bh_end_97 : List UInt8 := 160 :: 0 :: 17 :: t_Bh_end_100
abbrev t_Bh_end_96 : List UInt8 := 4 :: t_Bh_end_97
abbrev t_Bh_end_95 : List UInt8 := 27 :: t_Bh_end_96
abbrev t_Bh_end_92 : List UInt8 := 167 :: 0 :: 37 :: t_Bh_end_95
abbrev t_Bh_end_89 : List UInt8 := 182 :: 0 :: 133 :: t_Bh_end_92
abbrev t_Bh_end_86 : List UInt8 := 180 :: 0 :: 10 :: t_Bh_end_89
abbrev t_Bh_end_85 : List UInt8 := 42 :: t_Bh_end_86
abbrev t_Bh_end_82 : List UInt8 := 180 :: 0 :: 76 :: t_Bh_end_85
abbrev t_Bh_end_81 : List UInt8 := 42 :: t_Bh_end_82
abbrev t_Bh_end_78 : List UInt8 := 154 :: 0 :: 17 :: t_Bh_end_81
abbrev t_Bh_end_77 : List UInt8 := 27 :: t_Bh_end_78
abbrev t_Bh_end_76 : List UInt8 := 172 :: t_Bh_end_77
abbrev t_Bh_end_75 : List UInt8 := 2 :: t_Bh_end_76
abbrev t_Bh_end_72 : List UInt8 := 154 :: 0 :: 5 :: t_Bh_end_75
abbrev t_Bh_end_69 : List UInt8 := 182 :: 0 :: 130 :: t_Bh_end_72
abbrev t_Bh_end_66 : List UInt8 := 180 :: 0 :: 10 :: t_Bh_end_69
abbrev t_Bh_end_65 : List UInt8 := 42 :: t_Bh_end_66
abbrev t_Bh_end_62 : List UInt8 := 153 :: 0 :: 13 :: t_Bh_end_65
abbrev t_Bh_end_61 : List UInt8 := 29 :: t_Bh_end_62
abbrev t_Bh_end_58 : List UInt8 := 181 :: 0 :: 127 :: t_Bh_end_61
abbrev t_Bh_end_57 : List UInt8 := 3 :: t_Bh_end_58
abbrev t_Bh_end_54 : List UInt8 := 167 :: 0 :: 4 :: t_Bh_end_57
abbrev t_Bh_end_53 : List UInt8 := 28 :: t_Bh_end_54
abbrev t_Bh_end_50 : List UInt8 := 153 :: 0 :: 7 :: t_Bh_end_53
abbrev t_Bh_end_49 : List UInt8 := 29 :: t_Bh_end_50
abbrev t_Bh_end_46 : List UInt8 := 180 :: 0 :: 10 :: t_Bh_end_49
abbrev t_Bh_end_45 : List UInt8 := 42 :: t_Bh_end_46
abbrev t_Bh_end_42 : List UInt8 := 181 :: 0 :: 123 :: t_Bh_end_45
abbrev t_Bh_end_41 : List UInt8 := 3 :: t_Bh_end_42
abbrev t_Bh_end_38 : List UInt8 := 180 :: 0 :: 10 :: t_Bh_end_41
abbrev t_Bh_end_37 : List UInt8 := 42 :: t_Bh_end_38
abbrev t_Bh_end_36 : List UInt8 := 62 :: t_Bh_end_37
abbrev t_Bh_end_35 : List UInt8 := 3 :: t_Bh_end_36
abbrev t_Bh_end_32 : List UInt8 := 167 :: 0 :: 4 :: t_Bh_end_35
abbrev t_Bh_end_31 : List UInt8 := 4 :: t_Bh_end_32
abbrev t_Bh_end_28 : List UInt8 := 163 :: 0 :: 7 :: t_Bh_end_31
abbrev t_Bh_end_25 : List UInt8 := 180 :: 0 :: 123 :: t_Bh_end_28
abbrev t_Bh_end_22 : List UInt8 := 180 :: 0 :: 10 :: t_Bh_end_25
abbrev t_Bh_end_21 : List UInt8 := 42 :: t_Bh_end_22
abbrev t_Bh_end_20 : List UInt8 := 28 :: t_Bh_end_21
abbrev t_Bh_end_17 : List UInt8 := 163 :: 0 :: 18 :: t_Bh_end_20
abbrev t_Bh_end_14 : List UInt8 := 17 :: 15 :: 160 :: t_Bh_end_17
abbrev t_Bh_end_13 : List UInt8 := 28 :: t_Bh_end_14
abbrev t_Bh_end_10 : List UInt8 := 155 :: 0 :: 25 :: t_Bh_end_13
abbrev t_Bh_end_9 : List UInt8 := 28 :: t_Bh_end_10
abbrev t_Bh_end_6 : List UInt8 := 163 :: 0 :: 29 :: t_Bh_end_9
abbrev t_Bh_end_5 : List UInt8 := 5 :: t_Bh_end_6
abbrev t_Bh_end_4 : List UInt8 := 27 :: t_Bh_end_5
abbrev t_Bh_end_1 : List UInt8 := 155 :: 0 :: 34 :: t_Bh_end_4
abbrev t_Bh_end_0 : List UInt8 := 27 :: t_Bh_end_1
theorem a_Bh_end_0 : dk_at b_Bh_end 0 t_Bh_end_0 := dk_start (by decide +kernel)
theorem a_Bh_end_1 : dk_at b_Bh_end 1 t_Bh_end_1 := dk_go 1 a_Bh_end_0 rfl
theorem a_Bh_end_4 : dk_at b_Bh_end 4 t_Bh_end_4 := dk_go 3 a_Bh_end_1 rfl
theorem a_Bh_end_5 : dk_at b_Bh_end 5 t_Bh_end_5 := dk_go 1 a_Bh_end_4 rfl
theorem a_Bh_end_6 : dk_at b_Bh_end 6 t_Bh_end_6 := dk_go 1 a_Bh_end_5 rfl
theorem a_Bh_end_9 : dk_at b_Bh_end 9 t_Bh_end_9 := dk_go 3 a_Bh_end_6 rfl
theorem a_Bh_end_10 : dk_at b_Bh_end 10 t_Bh_end_10 := dk_go 1 a_Bh_end_9 rfl
theorem a_Bh_end_13 : dk_at b_Bh_end 13 t_Bh_end_13 := dk_go 3 a_Bh_end_10 rfl
theorem a_Bh_end_14 : dk_at b_Bh_end 14 t_Bh_end_14 := dk_go 1 a_Bh_end_13 rfl
theorem a_Bh_end_17 : dk_at b_Bh_end 17 t_Bh_end_17 := dk_go 3 a_Bh_end_14 rfl
theorem a_Bh_end_20 : dk_at b_Bh_end 20 t_Bh_end_20 := dk_go 3 a_Bh_end_17 rfl
theorem a_Bh_end_21 : dk_at b_Bh_end 21 t_Bh_end_21 := dk_go 1 a_Bh_end_20 rfl
theorem a_Bh_end_22 : dk_at b_Bh_end 22 t_Bh_end_22 := dk_go 1 a_Bh_end_21 rfl
theorem a_Bh_end_25 : dk_at b_Bh_end 25 t_Bh_end_25 := dk_go 3 a_Bh_end_22 rfl
theorem a_Bh_end_28 : dk_at b_Bh_end 28 t_Bh_end_28 := dk_go 3 a_Bh_end_25 rfl
theorem a_Bh_end_31 : dk_at b_Bh_end 31 t_Bh_end_31 := dk_go 3 a_Bh_end_28 rfl
theorem a_Bh_end_32 : dk_at b_Bh_end 32 t_Bh_end_32 := dk_go 1 a_Bh_end_31 rfl
theorem a_Bh_end_35 : dk_at b_Bh_end 35 t_Bh_end_35 := dk_go 3 a_Bh_end_32 rfl
theorem a_Bh_end_36 : dk_at b_Bh_end 36 t_Bh_end_36 := dk_go 1 a_Bh_end_35 rfl
theorem a_Bh_end_37 : dk_at b_Bh_end 37 t_Bh_end_37 := dk_go 1 a_Bh_end_36 rfl
theorem a_Bh_end_38 : dk_at b_Bh_end 38 t_Bh_end_38 := dk_go 1 a_Bh_end_37 rfl
theorem a_Bh_end_41 : dk_at b_Bh_end 41 t_Bh_end_41 := dk_go 3 a_Bh_end_38 rfl
theorem a_Bh_end_42 : dk_at b_Bh_end 42 t_Bh_end_42 := dk_go 1 a_Bh_end_41 rfl
theorem a_Bh_end_45 : dk_at b_Bh_end 45 t_Bh_end_45 := dk_go 3 a_Bh_end_42 rfl
theorem a_Bh_end_46 : dk_at b_Bh_end 46 t_Bh_end_46 := dk_go 1 a_Bh_end_45 rfl
theorem a_Bh_end_49 : dk_at b_Bh_end 49 t_Bh_end_49 := dk_go 3 a_Bh_end_46 rfl
theorem a_Bh_end_50 : dk_at b_Bh_end 50 t_Bh_end_50 := dk_go 1 a_Bh_end_49 rfl
theorem a_Bh_end_53 : dk_at b_Bh_end 53 t_Bh_end_53 := dk_go 3 a_Bh_end_50 rfl
theorem a_Bh_end_54 : dk_at b_Bh_end 54 t_Bh_end_54 := dk_go 1 a_Bh_end_53 rfl
theorem a_Bh_end_57 : dk_at b_Bh_end 57 t_Bh_end_57 := dk_go 3 a_Bh_end_54 rfl
theorem a_Bh_end_58 : dk_at b_Bh_end 58 t_Bh_end_58 := dk_go 1 a_Bh_end_57 rfl
theorem a_Bh_end_61 : dk_at b_Bh_end 61 t_Bh_end_61 := dk_go 3 a_Bh_end_58 rfl
theorem a_Bh_end_62 : dk_at b_Bh_end 62 t_Bh_end_62 := dk_go 1 a_Bh_end_61 rfl
theorem a_Bh_end_65 : dk_at b_Bh_end 65 t_Bh_end_65 := dk_go 3 a_Bh_end_62 rfl
theorem a_Bh_end_66 : dk_at b_Bh_end 66 t_Bh_end_66 := dk_go 1 a_Bh_end_65 rfl
theorem a_Bh_end_69 : dk_at b_Bh_end 69 t_Bh_end_69 := dk_go 3 a_Bh_end_66 rfl
theorem a_Bh_end_72 : dk_at b_Bh_end 72 t_Bh_end_72 := dk_go 3 a_Bh_end_69 rfl
theorem a_Bh_end_75 : dk_at b_Bh_end 75 t_Bh_end_75 := dk_go 3 a_Bh_end_72 rfl
theorem a_Bh_end_76 : dk_at b_Bh_end 76 t_Bh_end_76 := dk_go 1 a_Bh_end_75 rfl
theorem a_Bh_end_77 : dk_at b_Bh_end 77 t_Bh_end_77 := dk_go 1 a_Bh_end_76 rfl
theorem a_Bh_end_78 : dk_at b_Bh_end 78 t_Bh_end_78 := dk_go 1 a_Bh_end_77 rfl
theorem a_Bh_end_81 : dk_at b_Bh_end 81 t_Bh_end_81 := dk_go 3 a_Bh_end_78 rfl
theorem a_Bh_end_82 : dk_at b_Bh_end 82 t_Bh_end_82 := dk_go 1 a_Bh_end_81 rfl
theorem a_Bh_end_85 : dk_at b_Bh_end 85 t_Bh_end_85 := dk_go 3 a_Bh_end_82 rfl
theorem a_Bh_end_86 : dk_at b_Bh_end 86 t_Bh_end_86 := dk_go 1 a_Bh_end_85 rfl
theorem a_Bh_end_89 : dk_at b_Bh_end 89 t_Bh_end_89 := dk_go 3 a_Bh_end_86 rfl
theorem a_Bh_end_92 : dk_at b_Bh_end 92 t_Bh_end_92 := dk_go 3 a_Bh_end_89 rfl
theorem a_Bh_end_95 : dk_at b_Bh_end 95 t_Bh_end_95 := dk_go 3 a_Bh_end_92 rfl
theorem a_Bh_end_96 : dk_at b_Bh_end 96 t_Bh_end_96 := dk_go 1 a_Bh_end_95 rfl
theorem a_Bh_end_97 : dk_at b_Bh_end 97 t_Bh_end_97 := dk_go 1 a_Bh_end_96 rfl
theorem a_Bh_end_100 : dk_at b_Bh_end 100 t_Bh_end_100 := dk_go 3 a_Bh_end_97 rfl
theorem a_Bh_end_101 : dk_at b_Bh_end 101 t_Bh_end_101 := dk_go 1 a_Bh_end_100 rfl
theorem a_Bh_end_104 : dk_at b_Bh_end 104 t_Bh_end_104 := dk_go 3 a_Bh_end_101 rfl
theorem a_Bh_end_105 : dk_at b_Bh_end 105 t_Bh_end_105 := dk_go 1 a_Bh_end_104 rfl
theorem a_Bh_end_108 : dk_at b_Bh_end 108 t_Bh_end_108 := dk_go 3 a_Bh_end_105 rfl
theorem a_Bh_end_111 : dk_at b_Bh_end 111 t_Bh_end_111 := dk_go 3 a_Bh_end_108 rfl
theorem a_Bh_end_114 : dk_at b_Bh_end 114 t_Bh_end_114 := dk_go 3 a_Bh_end_111 rfl
theorem a_Bh_end_115 : dk_at b_Bh_end 115 t_Bh_end_115 := dk_go 1 a_Bh_end_114 rfl
theorem a_Bh_end_118 : dk_at b_Bh_end 118 t_Bh_end_118 := dk_go 3 a_Bh_end_115 rfl
theorem a_Bh_end_119 : dk_at b_Bh_end 119 t_Bh_end_119 := dk_go 1 a_Bh_end_118 rfl
theorem a_Bh_end_122 : dk_at b_Bh_end 122 t_Bh_end_122 := dk_go 3 a_Bh_end_119 rfl
theorem a_Bh_end_123 : dk_at b_Bh_end 123 t_Bh_end_123 := dk_go 1 a_Bh_end_122 rfl
theorem a_Bh_end_126 : dk_at b_Bh_end 126 t_Bh_end_126 := dk_go 3 a_Bh_end_123 rfl
theorem a_Bh_end_129 : dk_at b_Bh_end 129 t_Bh_end_129 := dk_go 3 a_Bh_end_126 rfl
theorem a_Bh_end_131 : dk_at b_Bh_end 131 t_Bh_end_131 := dk_go 2 a_Bh_end_129 rfl
theorem a_Bh_end_133 : dk_at b_Bh_end 133 t_Bh_end_133 := dk_go 2 a_Bh_end_131 rfl
theorem a_Bh_end_136 : dk_at b_Bh_end 136 t_Bh_end_136 := dk_go 3 a_Bh_end_133 rfl
theorem a_Bh_end_138 : dk_at b_Bh_end 138 t_Bh_end_138 := dk_go 2 a_Bh_end_136 rfl
theorem a_Bh_end_140 : dk_at b_Bh_end 140 t_Bh_end_140 := dk_go 2 a_Bh_end_138 rfl
theorem a_Bh_end_141 : dk_at b_Bh_end 141 t_Bh_end_141 := dk_go 1 a_Bh_end_140 rfl
theorem a_Bh_end_142 : dk_at b_Bh_end 142 t_Bh_end_142 := dk_go 1 a_Bh_end_141 rfl
theorem a_Bh_end_143 : dk_at b_Bh_end 143 t_Bh_end_143 := dk_go 1 a_Bh_end_142 rfl
theorem a_Bh_end_146 : dk_at b_Bh_end 146 t_Bh_end_146 := dk_go 3 a_Bh_end_143 rfl
theorem a_Bh_end_147 : dk_at b_Bh_end 147 t_Bh_end_147 := dk_go 1 a_Bh_end_146 rfl
theorem a_Bh_end_150 : dk_at b_Bh_end 150 t_Bh_end_150 := dk_go 3 a_Bh_end_147 rfl
theorem a_Bh_end_153 : dk_at b_Bh_end 153 t_Bh_end_153 := dk_go 3 a_Bh_end_150 rfl
theorem a_Bh_end_154 : dk_at b_Bh_end 154 t_Bh_end_154 := dk_go 1 a_Bh_end_153 rfl
theorem a_Bh_end_155 : dk_at b_Bh_end 155 t_Bh_end_155 := dk_go 1 a_Bh_end_154 rfl
theorem a_Bh_end_158 : dk_at b_Bh_end 158 t_Bh_end_158 := dk_go 3 a_Bh_end_155 rfl
theorem a_Bh_end_159 : dk_at b_Bh_end 159 t_Bh_end_159 := dk_go 1 a_Bh_end_158 rfl
theorem a_Bh_end_162 : dk_at b_Bh_end 162 t_Bh_end_162 := dk_go 3 a_Bh_end_159 rfl
theorem a_Bh_end_165 : dk_at b_Bh_end 165 t_Bh_end_165 := dk_go 3 a_Bh_end_162 rfl
theorem a_Bh_end_166 : dk_at b_Bh_end 166 t_Bh_end_166 := dk_go 1 a_Bh_end_165 rfl
theorem a_Bh_end_169 : dk_at b_Bh_end 169 t_Bh_end_169 := dk_go 3 a_Bh_end_166 rfl
theorem d_Bh_end_0 : decode b_Bh_end 0 = .ok (.iload_n 1, 1) := dk_0 a_Bh_end_0 (dko_27 _)
theorem d_Bh_end_1 : decode b_Bh_end 1 = .ok (.ifCond .lt 34, 3) := dk_S2 a_Bh_end_1 (dko_155 _) (by decide +kernel)
theorem d_Bh_end_4 : decode b_Bh_end 4 = .ok (.iload_n 1, 1) := dk_0 a_Bh_end_4 (dko_27 _)
theorem d_Bh_end_5 : decode b_Bh_end 5 = .ok (.iconst 2, 1) := dk_0 a_Bh_end_5 (dko_5 _)
theorem d_Bh_end_6 : decode b_Bh_end 6 = .ok (.if_icmp .gt 29, 3) := dk_S2 a_Bh_end_6 (dko_163 _) (by decide +kernel)
theorem d_Bh_end_9 : decode b_Bh_end 9 = .ok (.iload_n 2, 1) := dk_0 a_Bh_end_9 (dko_28 _)
theorem d_Bh_end_10 : decode b_Bh_end 10 = .ok (.ifCond .lt 25, 3) := dk_S2 a_Bh_end_10 (dko_155 _) (by decide +kernel)
theorem d_Bh_end_13 : decode b_Bh_end 13 = .ok (.iload_n 2, 1) := dk_0 a_Bh_end_13 (dko_28 _)
theorem d_Bh_end_14 : decode b_Bh_end 14 = .ok (.sipush 4000, 3) := dk_S2 a_Bh_end_14 (dko_17 _) (by decide +kernel)
theorem d_Bh_end_17 : decode b_Bh_end 17 = .ok (.if_icmp .gt 18, 3) := dk_S2 a_Bh_end_17 (dko_163 _) (by decide +kernel)
theorem d_Bh_end_20 : decode b_Bh_end 20 = .ok (.iload_n 2, 1) := dk_0 a_Bh_end_20 (dko_28 _)
theorem d_Bh_end_21 : decode b_Bh_end 21 = .ok (.aload_n 0, 1) := dk_0 a_Bh_end_21 (dko_42 _)
theorem d_Bh_end_22 : decode b_Bh_end 22 = .ok (.getfield 10, 3) := dk_U2 a_Bh_end_22 (dko_180 _) rfl
theorem d_Bh_end_25 : decode b_Bh_end 25 = .ok (.getfield 123, 3) := dk_U2 a_Bh_end_25 (dko_180 _) rfl
theorem d_Bh_end_28 : decode b_Bh_end 28 = .ok (.if_icmp .gt 7, 3) := dk_S2 a_Bh_end_28 (dko_163 _) (by decide +kernel)
theorem d_Bh_end_31 : decode b_Bh_end 31 = .ok (.iconst 1, 1) := dk_0 a_Bh_end_31 (dko_4 _)
theorem d_Bh_end_32 : decode b_Bh_end 32 = .ok (.goto 4, 3) := dk_S2 a_Bh_end_32 (dko_167 _) (by decide +kernel)
theorem d_Bh_end_35 : decode b_Bh_end 35 = .ok (.iconst 0, 1) := dk_0 a_Bh_end_35 (dko_3 _)
theorem d_Bh_end_36 : decode b_Bh_end 36 = .ok (.istore_n 3, 1) := dk_0 a_Bh_end_36 (dko_62 _)
theorem d_Bh_end_37 : decode b_Bh_end 37 = .ok (.aload_n 0, 1) := dk_0 a_Bh_end_37 (dko_42 _)
theorem d_Bh_end_38 : decode b_Bh_end 38 = .ok (.getfield 10, 3) := dk_U2 a_Bh_end_38 (dko_180 _) rfl
theorem d_Bh_end_41 : decode b_Bh_end 41 = .ok (.iconst 0, 1) := dk_0 a_Bh_end_41 (dko_3 _)
theorem d_Bh_end_42 : decode b_Bh_end 42 = .ok (.putfield 123, 3) := dk_U2 a_Bh_end_42 (dko_181 _) rfl
theorem d_Bh_end_45 : decode b_Bh_end 45 = .ok (.aload_n 0, 1) := dk_0 a_Bh_end_45 (dko_42 _)
theorem d_Bh_end_46 : decode b_Bh_end 46 = .ok (.getfield 10, 3) := dk_U2 a_Bh_end_46 (dko_180 _) rfl
theorem d_Bh_end_49 : decode b_Bh_end 49 = .ok (.iload_n 3, 1) := dk_0 a_Bh_end_49 (dko_29 _)
theorem d_Bh_end_50 : decode b_Bh_end 50 = .ok (.ifCond .eq 7, 3) := dk_S2 a_Bh_end_50 (dko_153 _) (by decide +kernel)
theorem d_Bh_end_53 : decode b_Bh_end 53 = .ok (.iload_n 2, 1) := dk_0 a_Bh_end_53 (dko_28 _)
theorem d_Bh_end_54 : decode b_Bh_end 54 = .ok (.goto 4, 3) := dk_S2 a_Bh_end_54 (dko_167 _) (by decide +kernel)
theorem d_Bh_end_57 : decode b_Bh_end 57 = .ok (.iconst 0, 1) := dk_0 a_Bh_end_57 (dko_3 _)
theorem d_Bh_end_58 : decode b_Bh_end 58 = .ok (.putfield 127, 3) := dk_U2 a_Bh_end_58 (dko_181 _) rfl
theorem d_Bh_end_61 : decode b_Bh_end 61 = .ok (.iload_n 3, 1) := dk_0 a_Bh_end_61 (dko_29 _)
theorem d_Bh_end_62 : decode b_Bh_end 62 = .ok (.ifCond .eq 13, 3) := dk_S2 a_Bh_end_62 (dko_153 _) (by decide +kernel)
theorem d_Bh_end_65 : decode b_Bh_end 65 = .ok (.aload_n 0, 1) := dk_0 a_Bh_end_65 (dko_42 _)
theorem d_Bh_end_66 : decode b_Bh_end 66 = .ok (.getfield 10, 3) := dk_U2 a_Bh_end_66 (dko_180 _) rfl
theorem d_Bh_end_69 : decode b_Bh_end 69 = .ok (.invokevirtual 130, 3) := dk_U2 a_Bh_end_69 (dko_182 _) rfl
theorem d_Bh_end_72 : decode b_Bh_end 72 = .ok (.ifCond .ne 5, 3) := dk_S2 a_Bh_end_72 (dko_154 _) (by decide +kernel)
theorem d_Bh_end_75 : decode b_Bh_end 75 = .ok (.iconst (-1), 1) := dk_0 a_Bh_end_75 (dko_2 _)
theorem d_Bh_end_76 : decode b_Bh_end 76 = .ok (.ireturn, 1) := dk_0 a_Bh_end_76 (dko_172 _)
theorem d_Bh_end_77 : decode b_Bh_end 77 = .ok (.iload_n 1, 1) := dk_0 a_Bh_end_77 (dko_27 _)
theorem d_Bh_end_78 : decode b_Bh_end 78 = .ok (.ifCond .ne 17, 3) := dk_S2 a_Bh_end_78 (dko_154 _) (by decide +kernel)
theorem d_Bh_end_81 : decode b_Bh_end 81 = .ok (.aload_n 0, 1) := dk_0 a_Bh_end_81 (dko_42 _)
theorem d_Bh_end_82 : decode b_Bh_end 82 = .ok (.getfield 76, 3) := dk_U2 a_Bh_end_82 (dko_180 _) rfl
theorem d_Bh_end_85 : decode b_Bh_end 85 = .ok (.aload_n 0, 1) := dk_0 a_Bh_end_85 (dko_42 _)
theorem d_Bh_end_86 : decode b_Bh_end 86 = .ok (.getfield 10, 3) := dk_U2 a_Bh_end_86 (dko_180 _) rfl
theorem d_Bh_end_89 : decode b_Bh_end 89 = .ok (.invokevirtual 133, 3) := dk_U2 a_Bh_end_89 (dko_182 _) rfl
theorem d_Bh_end_92 : decode b_Bh_end 92 = .ok (.goto 37, 3) := dk_S2 a_Bh_end_92 (dko_167 _) (by decide +kernel)
theorem d_Bh_end_95 : decode b_Bh_end 95 = .ok (.iload_n 1, 1) := dk_0 a_Bh_end_95 (dko_27 _)
theorem d_Bh_end_96 : decode b_Bh_end 96 = .ok (.iconst 1, 1) := dk_0 a_Bh_end_96 (dko_4 _)
theorem d_Bh_end_97 : decode b_Bh_end 97 = .ok (.if_icmp .ne 17, 3) := dk_S2 a_Bh_end_97 (dko_160 _) (by decide +kernel)
theorem d_Bh_end_100 : decode b_Bh_end 100 = .ok (.aload_n 0, 1) := dk_0 a_Bh_end_100 (dko_42 _)
theorem d_Bh_end_101 : decode b_Bh_end 101 = .ok (.getfield 83, 3) := dk_U2 a_Bh_end_101 (dko_180 _) rfl
theorem d_Bh_end_104 : decode b_Bh_end 104 = .ok (.aload_n 0, 1) := dk_0 a_Bh_end_104 (dko_42 _)
theorem d_Bh_end_105 : decode b_Bh_end 105 = .ok (.getfield 10, 3) := dk_U2 a_Bh_end_105 (dko_180 _) rfl
theorem d_Bh_end_108 : decode b_Bh_end 108 = .ok (.invokevirtual 137, 3) := dk_U2 a_Bh_end_108 (dko_182 _) rfl
theorem d_Bh_end_111 : decode b_Bh_end 111 = .ok (.goto 18, 3) := dk_S2 a_Bh_end_111 (dko_167 _) (by decide +kernel)
theorem d_Bh_end_114 : decode b_Bh_end 114 = .ok (.aload_n 0, 1) := dk_0 a_Bh_end_114 (dko_42 _)
theorem d_Bh_end_115 : decode b_Bh_end 115 = .ok (.getfield 69, 3) := dk_U2 a_Bh_end_115 (dko_180 _) rfl
theorem d_Bh_end_118 : decode b_Bh_end 118 = .ok (.aload_n 0, 1) := dk_0 a_Bh_end_118 (dko_42 _)
theorem d_Bh_end_119 : decode b_Bh_end 119 = .ok (.getfield 10, 3) := dk_U2 a_Bh_end_119 (dko_180 _) rfl
theorem d_Bh_end_122 : decode b_Bh_end 122 = .ok (.aload_n 0, 1) := dk_0 a_Bh_end_122 (dko_42 _)
theorem d_Bh_end_123 : decode b_Bh_end 123 = .ok (.getfield 90, 3) := dk_U2 a_Bh_end_123 (dko_180 _) rfl
theorem d_Bh_end_126 : decode b_Bh_end 126 = .ok (.invokevirtual 138, 3) := dk_U2 a_Bh_end_126 (dko_182 _) rfl
theorem d_Bh_end_129 : decode b_Bh_end 129 = .ok (.istore 4, 2) := dk_U1 a_Bh_end_129 (dko_54 _) rfl
theorem d_Bh_end_131 : decode b_Bh_end 131 = .ok (.iload 4, 2) := dk_U1 a_Bh_end_131 (dko_21 _) rfl
theorem d_Bh_end_133 : decode b_Bh_end 133 = .ok (.ifCond .lt 9, 3) := dk_S2 a_Bh_end_133 (dko_155 _) (by decide +kernel)
theorem d_Bh_end_142 : decode b_Bh_end 142 = .ok (.iload_n 1, 1) := dk_0 a_Bh_end_142 (dko_27 _)
theorem d_Bh_end_143 : decode b_Bh_end 143 = .ok (.ifCond .ne 10, 3) := dk_S2 a_Bh_end_143 (dko_154 _) (by decide +kernel)
theorem d_Bh_end_146 : decode b_Bh_end 146 = .ok (.aload_n 0, 1) := dk_0 a_Bh_end_146 (dko_42 _)
theorem d_Bh_end_147 : decode b_Bh_end 147 = .ok (.invokevirtual 141, 3) := dk_U2 a_Bh_end_147 (dko_182 _) rfl
theorem d_Bh_end_150 : decode b_Bh_end 150 = .ok (.goto 19, 3) := dk_S2 a_Bh_end_150 (dko_167 _) (by decide +kernel)
theorem d_Bh_end_153 : decode b_Bh_end 153 = .ok (.iload_n 1, 1) := dk_0 a_Bh_end_153 (dko_27 _)
theorem d_Bh_end_154 : decode b_Bh_end 154 = .ok (.iconst 1, 1) := dk_0 a_Bh_end_154 (dko_4 _)
theorem d_Bh_end_155 : decode b_Bh_end 155 = .ok (.if_icmp .ne 10, 3) := dk_S2 a_Bh_end_155 (dko_160 _) (by decide +kernel)
theorem d_Bh_end_158 : decode b_Bh_end 158 = .ok (.aload_n 0, 1) := dk_0 a_Bh_end_158 (dko_42 _)
theorem d_Bh_end_159 : decode b_Bh_end 159 = .ok (.invokevirtual 145, 3) := dk_U2 a_Bh_end_159 (dko_182 _) rfl
theorem d_Bh_end_162 : decode b_Bh_end 162 = .ok (.goto 7, 3) := dk_S2 a_Bh_end_162 (dko_167 _) (by decide +kernel)
theorem d_Bh_end_165 : decode b_Bh_end 165 = .ok (.aload_n 0, 1) := dk_0 a_Bh_end_165 (dko_42 _)
theorem d_Bh_end_166 : decode b_Bh_end 166 = .ok (.invokevirtual 148, 3) := dk_U2 a_Bh_end_166 (dko_182 _) rfl
theorem d_Bh_end_169 : decode b_Bh_end 169 = .ok (.ireturn, 1) := dk_0 a_Bh_end_169 (dko_172 _)
def fn_Bh_end (kd : Int32) (nn : Int32) : Int32 := (if kd < 0 then (-1) else (if 2 < kd then (-1) else (if nn < 0 then (-1) else (if 4000 < nn then (-1) else (if 0 < nn then (-1) else (if kd = 0 then 0 else (if kd = 1 then 0 else 0)))))))
set_option maxHeartbeats 4000000 in
set_option maxRecDepth 100000 in
theorem c_Bh_end (l : Launch) (dC : Nat → ClassId) (dI : Nat → Nat → Nat) (cI cB cZ cJ : ClassId) (kd : Int32) (nn : Int32) (oB : Nat) (oTp : Nat) (oRd : Nat) (oG2 : Nat) (oRu : Nat) (xn_node : Nat) (xn_first : Nat) (xn_next : Nat) (oWa : Nat) (oR2 : Nat) (oAc : Nat) (oR1 : Nat) (oP2 : Nat) (oSt : Nat) (xst_position : Nat) (xst_liquid : Nat) (xst_amount : Nat) (xst_last : Nat) (xst_cleaned : Nat) (xst_litres : Nat) (xst_start : Nat) (xw_taken : Nat) (xw_over : Nat) (xb_plantText : Nat) (oG1 : Nat) (oP1 : Nat) (xb : List Value) (hb_tape : fx xb 0 (.ref oTp)) (hb_stock : fx xb 2 (.ref oSt)) (hb_ways : fx xb 3 (.ref oWa)) (hb_acts : fx xb 5 (.ref oAc)) (hb_run : fx xb 6 (.ref oRu)) (hb_reader : fx xb 7 (.ref oRd)) (hb_sparePlant : fx xb 8 (.ref oP2)) (hb_spareRows : fx xb 9 (.ref oR2)) (hb_spareProgram : fx xb 10 (.ref oG2)) (hb_plantText : fx xb 11 (.ref xb_plantText)) (hb_plantTextLength : fx xb 12 (.int 0)) (xt : List Value) (htp_length : fx xt 1 (.int 0)) (htp_end : fx xt 2 (.int 0)) (xd : List Value) (hrd_tape : fx xd 0 (.null)) (hrd_program : fx xd 1 (.null)) (hrd_at : fx xd 2 (.int 0)) (hrd_word : fx xd 3 (.int 0)) (hrd_place : fx xd 4 (.int 0)) (hrd_open : fx xd 8 (.int 0)) (hrd_wrong : fx xd 9 (.int 0)) (xh : List Value) (hxh_statements : fx xh 0 (.int 0)) (hxh_nodes : fx xh 1 (.int 0)) (hxh_opening : fx xh 2 (.int (-1))) (hxh_names : fx xh 10 (.int 0)) (xn : List Value) (hru_program : fx xn 3 (.ref oG1)) (hru_state : fx xn 4 (.int 4)) (hru_parts : fx xn 5 (.int 0)) (hru_node : fx xn 6 (.ref xn_node)) (hru_first : fx xn 7 (.ref xn_first)) (hru_next : fx xn 8 (.ref xn_next)) (xw : List Value) (hwa_count : fx xw 1 (.int 0)) (hwa_taken : fx xw 11 (.ref xw_taken)) (hwa_over : fx xw 12 (.ref xw_over)) (xu : List Value) (hxu_count : fx xu 0 (.int 0)) (hxu_conditions : fx xu 1 (.int 0)) (hxu_used : fx xu 10 (.int 0)) (hxu_tape : fx xu 11 (.null)) (hxu_wordAt : fx xu 12 (.int 0)) (hxu_wordEnd : fx xu 13 (.int 0)) (hxu_word : fx xu 14 (.int 0)) (hxu_open : fx xu 15 (.int 0)) (hxu_wrong : fx xu 17 (.int 0)) (xc : List Value) (hac_rows : fx xc 3 (.ref oR1)) (xr : List Value) (hxr_conditions : fx xr 1 (.int 0)) (xq : List Value) (hxq_things : fx xq 0 (.int 0)) (hxq_pipes : fx xq 1 (.int 0)) (hxq_tape : fx xq 9 (.null)) (hxq_at : fx xq 10 (.int 0)) (xs_ : List Value) (hst_plant : fx xs_ 0 (.ref oP1)) (hst_position : fx xs_ 2 (.ref xst_position)) (hst_liquid : fx xs_ 3 (.ref xst_liquid)) (hst_amount : fx xs_ 4 (.ref xst_amount)) (hst_last : fx xs_ 5 (.ref xst_last)) (hst_cleaned : fx xs_ 6 (.ref xst_cleaned)) (hst_litres : fx xs_ 7 (.ref xst_litres)) (hst_start : fx xs_ 8 (.ref xst_start)) (sz : Nat) : Met l y_Bh_end w_Bh_end ({ frames := 3, cells := 0, slots := 0, locals := 70 }) (va_Pc [.ref oB, .int kd, .int nn] (PW dC dI cI cB cZ cJ [(oB, .inr (0, xb)), (oTp, .inr (1, xt)), (oRd, .inr (9, xd)), (oG2, .inr (8, xh)), (oRu, .inr (10, xn)), (xn_node, .inl (cI, 501, .inl (fun _ => 0))), (xn_first, .inl (cI, 501, .inl (fun _ => 0))), (xn_next, .inl (cI, 501, .inl (fun _ => 0))), (oWa, .inr (5, xw)), (oR2, .inr (7, xu)), (oAc, .inr (11, xc)), (oR1, .inr (7, xr)), (oP2, .inr (3, xq)), (oSt, .inr (4, xs_)), (xst_position, .inl (cI, 20, .inl (fun _ => 0))), (xst_liquid, .inl (cI, 44, .inl (fun _ => 0))), (xst_amount, .inl (cI, 44, .inl (fun _ => 0))), (xst_last, .inl (cI, 44, .inl (fun _ => 0))), (xst_cleaned, .inl (cI, 264, .inl ((fun _ => (-1))))), (xst_litres, .inl (cJ, 96, .inr (.inl (fun _ => 0)))), (xst_start, .inl (cI, 24, .inl (fun _ => 0))), (xw_taken, .inl (cZ, 24, .inl (fun _ => 0))), (xw_over, .inl (cI, 20, .inl (fun _ => 0)))] sz)) (va_Qi (fun (r : Int32) (_ : Unit) => r = fn_Bh_end kd nn) (fun _ _ => True) (va_A [(oB, .inr (0, xb)), (oTp, .inr (1, xt)), (oRd, .inr (9, xd)), (oG2, .inr (8, xh)), (oRu, .inr (10, xn)), (xn_node, .inl (cI, 501, .inl (fun _ => 0))), (xn_first, .inl (cI, 501, .inl (fun _ => 0))), (xn_next, .inl (cI, 501, .inl (fun _ => 0))), (oWa, .inr (5, xw)), (oR2, .inr (7, xu)), (oAc, .inr (11, xc)), (oR1, .inr (7, xr)), (oP2, .inr (3, xq)), (oSt, .inr (4, xs_)), (xst_position, .inl (cI, 20, .inl (fun _ => 0))), (xst_liquid, .inl (cI, 44, .inl (fun _ => 0))), (xst_amount, .inl (cI, 44, .inl (fun _ => 0))), (xst_last, .inl (cI, 44, .inl (fun _ => 0))), (xst_cleaned, .inl (cI, 264, .inl ((fun _ => (-1))))), (xst_litres, .inl (cJ, 96, .inr (.inl (fun _ => 0)))), (xst_start, .inl (cI, 24, .inl (fun _ => 0))), (xw_taken, .inl (cZ, 24, .inl (fun _ => 0))), (xw_over, .inl (cI, 20, .inl (fun _ => 0)))] sz)) 0 0 (va_A [(oB, .inr (0, xb)), (oTp, .inr (1, xt)), (oRd, .inr (9, xd)), (oG2, .inr (8, xh)), (oRu, .inr (10, xn)), (xn_node, .inl (cI, 501, .inl (fun _ => 0))), (xn_first, .inl (cI, 501, .inl (fun _ => 0))), (xn_next, .inl (cI, 501, .inl (fun _ => 0))), (oWa, .inr (5, xw)), (oR2, .inr (7, xu)), (oAc, .inr (11, xc)), (oR1, .inr (7, xr)), (oP2, .inr (3, xq)), (oSt, .inr (4, xs_)), (xst_position, .inl (cI, 20, .inl (fun _ => 0))), (xst_liquid, .inl (cI, 44, .inl (fun _ => 0))), (xst_amount, .inl (cI, 44, .inl (fun _ => 0))), (xst_last, .inl (cI, 44, .inl (fun _ => 0))), (xst_cleaned, .inl (cI, 264, .inl ((fun _ => (-1))))), (xst_litres, .inl (cJ, 96, .inr (.inl (fun _ => 0)))), (xst_start, .inl (cI, 24, .inl (fun _ => 0))), (xw_taken, .inl (cZ, 24, .inl (fun _ => 0))), (xw_over, .inl (cI, 20, .inl (fun _ => 0)))] sz) := by
  refine Met.ofW (cc := b_Bh_end) (maxL := 5) (ret := (some .int)) (by decide) rfl ?_
  intro p e s m args below meth c s₁ B hml hv
  obtain ⟨rfl, hsz, hP, hK, hD⟩ := hv
  have hx := B.exec
  have hb := B.bytes
  have hr := B.returns
  have hts := atoms_spec (ws := w_Bh_end) B.pre
  have hown : s.vm.findClass R_Bh = some m.cls := findClass_of_methodNamed B.named
  have hlocks := B.notSynchronized
  subst hsz
  have hD := hD.self (sz := s.heap.size)
  generalize hAe : va_A [(oB, .inr (0, xb)), (oTp, .inr (1, xt)), (oRd, .inr (9, xd)), (oG2, .inr (8, xh)), (oRu, .inr (10, xn)), (xn_node, .inl (cI, 501, .inl (fun _ => 0))), (xn_first, .inl (cI, 501, .inl (fun _ => 0))), (xn_next, .inl (cI, 501, .inl (fun _ => 0))), (oWa, .inr (5, xw)), (oR2, .inr (7, xu)), (oAc, .inr (11, xc)), (oR1, .inr (7, xr)), (oP2, .inr (3, xq)), (oSt, .inr (4, xs_)), (xst_position, .inl (cI, 20, .inl (fun _ => 0))), (xst_liquid, .inl (cI, 44, .inl (fun _ => 0))), (xst_amount, .inl (cI, 44, .inl (fun _ => 0))), (xst_last, .inl (cI, 44, .inl (fun _ => 0))), (xst_cleaned, .inl (cI, 264, .inl ((fun _ => (-1))))), (xst_litres, .inl (cJ, 96, .inr (.inl (fun _ => 0)))), (xst_start, .inl (cI, 24, .inl (fun _ => 0))), (xw_taken, .inl (cZ, 24, .inl (fun _ => 0))), (xw_over, .inl (cI, 20, .inl (fun _ => 0)))] s.heap.size = A at hD ⊢
  have hA : ∀ q : Nat, s.heap.size ≤ q → A q := fun q h => by rw [← hAe]; exact Or.inr h
  have hS : va_S A s.heap s.heap [] := va_S.rf
  have hP : va_P (dC, dI) classes [(oB, .inr (0, xb)), (oTp, .inr (1, xt)), (oRd, .inr (9, xd)), (oG2, .inr (8, xh)), (oRu, .inr (10, xn)), (xn_node, .inl (cI, 501, .inl (fun _ => 0))), (xn_first, .inl (cI, 501, .inl (fun _ => 0))), (xn_next, .inl (cI, 501, .inl (fun _ => 0))), (oWa, .inr (5, xw)), (oR2, .inr (7, xu)), (oAc, .inr (11, xc)), (oR1, .inr (7, xr)), (oP2, .inr (3, xq)), (oSt, .inr (4, xs_)), (xst_position, .inl (cI, 20, .inl (fun _ => 0))), (xst_liquid, .inl (cI, 44, .inl (fun _ => 0))), (xst_amount, .inl (cI, 44, .inl (fun _ => 0))), (xst_last, .inl (cI, 44, .inl (fun _ => 0))), (xst_cleaned, .inl (cI, 264, .inl ((fun _ => (-1))))), (xst_litres, .inl (cJ, 96, .inr (.inl (fun _ => 0)))), (xst_start, .inl (cI, 24, .inl (fun _ => 0))), (xw_taken, .inl (cZ, 24, .inl (fun _ => 0))), (xw_over, .inl (cI, 20, .inl (fun _ => 0)))] s.heap := hP
  have hl := lv_entry ([.ref oB, .int kd, .int nn]) (n := 5) (Nat.le_of_ble_eq_true rfl)
  rw [lg_entry_eq]
  generalize (lg_sl ([.ref oB, .int kd, .int nn]) ++ List.replicate (5 - (lg_sl ([.ref oB, .int kd, .int nn])).length) Slot.unset).toArray = ls at hl ⊢
  have hl : lv_has ls 5 [(0, .ref oB), (1, .int kd), (2, .int nn)] := hl
  refine lv_iload_n hx hb d_Bh_end_0 rfl (lv_at hl 1 rfl) ?_
  refine lv_if_lt (tgt := 35) hx hb d_Bh_end_1 (by decide) (fun h1 => ?_) (fun h1 => ?_)
  · refine lv_iconst (v := 0) hx hb d_Bh_end_35 (by decide) ?_
    refine lv_istore_n hx hb d_Bh_end_36 rfl hl (by decide) rfl (fun ls hl => ?_)
    have hl : lv_has ls 5 [(3, .int 0), (0, .ref oB), (1, .int kd), (2, .int nn)] := hl
    refine lv_aload_n hx hb d_Bh_end_37 rfl (lv_at hl 1 rfl) ?_
    refine va_get (D := (dC, dI)) (ci := 0) (v := .ref oTp) (C := R_Bh) (T := F_Bh) (N := 16) hx hb hts (fun w h => List.mem_cons_of_mem _ (in_Bh w h)) hown hK.1 hP 0 rfl rfl 0 (by decide) (hts _ (List.mem_cons_of_mem _ mw_684)) (fun _ h9 => h9) hb_tape d_Bh_end_38 ?_
    refine lv_iconst (v := 0) hx hb d_Bh_end_41 (by decide) ?_
    refine va_put (D := (dC, dI)) (ci := 1) (v := .int 0) (ty := .int) (C := R_Tp) (T := F_Tp) (N := 3) hx hb hts (fun w h => List.mem_cons_of_mem _ (in_Tp w h)) t_Tp t_Tp_ok n_Tp hown hK.1 hP hD hS 1 rfl rfl 1 (by decide) (hts _ (List.mem_cons_of_mem _ mw_40)) (fun _ h9 => h9) rfl (by decide +kernel) rfl rfl (st_lt htp_length) d_Bh_end_42 (fun H locs hP hD hS => ?_)
    have g42_2 : fx (xt.set 1 (.int 0)) 2 (.int 0) := (st_ne htp_end (by decide))
    have g42_1 : fx (xt.set 1 (.int 0)) 1 (.int 0) := (st_eq htp_length)
    have hP : va_P (dC, dI) classes [(oB, .inr (0, xb)), (oTp, .inr (1, (xt.set 1 (.int 0)))), (oRd, .inr (9, xd)), (oG2, .inr (8, xh)), (oRu, .inr (10, xn)), (xn_node, .inl (cI, 501, .inl (fun _ => 0))), (xn_first, .inl (cI, 501, .inl (fun _ => 0))), (xn_next, .inl (cI, 501, .inl (fun _ => 0))), (oWa, .inr (5, xw)), (oR2, .inr (7, xu)), (oAc, .inr (11, xc)), (oR1, .inr (7, xr)), (oP2, .inr (3, xq)), (oSt, .inr (4, xs_)), (xst_position, .inl (cI, 20, .inl (fun _ => 0))), (xst_liquid, .inl (cI, 44, .inl (fun _ => 0))), (xst_amount, .inl (cI, 44, .inl (fun _ => 0))), (xst_last, .inl (cI, 44, .inl (fun _ => 0))), (xst_cleaned, .inl (cI, 264, .inl ((fun _ => (-1))))), (xst_litres, .inl (cJ, 96, .inr (.inl (fun _ => 0)))), (xst_start, .inl (cI, 24, .inl (fun _ => 0))), (xw_taken, .inl (cZ, 24, .inl (fun _ => 0))), (xw_over, .inl (cI, 20, .inl (fun _ => 0)))] H := hP
    have hD : va_D A [(oB, .inr (0, xb)), (oTp, .inr (1, (xt.set 1 (.int 0)))), (oRd, .inr (9, xd)), (oG2, .inr (8, xh)), (oRu, .inr (10, xn)), (xn_node, .inl (cI, 501, .inl (fun _ => 0))), (xn_first, .inl (cI, 501, .inl (fun _ => 0))), (xn_next, .inl (cI, 501, .inl (fun _ => 0))), (oWa, .inr (5, xw)), (oR2, .inr (7, xu)), (oAc, .inr (11, xc)), (oR1, .inr (7, xr)), (oP2, .inr (3, xq)), (oSt, .inr (4, xs_)), (xst_position, .inl (cI, 20, .inl (fun _ => 0))), (xst_liquid, .inl (cI, 44, .inl (fun _ => 0))), (xst_amount, .inl (cI, 44, .inl (fun _ => 0))), (xst_last, .inl (cI, 44, .inl (fun _ => 0))), (xst_cleaned, .inl (cI, 264, .inl ((fun _ => (-1))))), (xst_litres, .inl (cJ, 96, .inr (.inl (fun _ => 0)))), (xst_start, .inl (cI, 24, .inl (fun _ => 0))), (xw_taken, .inl (cZ, 24, .inl (fun _ => 0))), (xw_over, .inl (cI, 20, .inl (fun _ => 0)))] := hD
    refine lv_aload_n hx hb d_Bh_end_45 rfl (lv_at hl 1 rfl) ?_
    refine va_get (D := (dC, dI)) (ci := 0) (v := .ref oTp) (C := R_Bh) (T := F_Bh) (N := 16) hx hb hts (fun w h => List.mem_cons_of_mem _ (in_Bh w h)) hown hK.1 hP 0 rfl rfl 0 (by decide) (hts _ (List.mem_cons_of_mem _ mw_684)) (fun _ h9 => h9) hb_tape d_Bh_end_46 ?_
    refine lv_iload_n hx hb d_Bh_end_49 rfl (lv_at hl 0 rfl) ?_
    refine lv_if_eq (tgt := 57) hx hb d_Bh_end_50 (by decide) (fun _ => ?_) (fun h => absurd (by decide) h)
    refine lv_iconst (v := 0) hx hb d_Bh_end_57 (by decide) ?_
    refine va_put (D := (dC, dI)) (ci := 1) (v := .int 0) (ty := .int) (C := R_Tp) (T := F_Tp) (N := 3) hx hb hts (fun w h => List.mem_cons_of_mem _ (in_Tp w h)) t_Tp t_Tp_ok n_Tp hown hK.1 hP hD hS 1 rfl rfl 2 (by decide) (hts _ (List.mem_cons_of_mem _ mw_42)) (fun _ h9 => h9) rfl (by decide +kernel) rfl rfl (st_lt g42_2) d_Bh_end_58 (fun H locs hP hD hS => ?_)
    have g58_2 : fx ((xt.set 1 (.int 0)).set 2 (.int 0)) 2 (.int 0) := (st_eq g42_2)
    have g58_1 : fx ((xt.set 1 (.int 0)).set 2 (.int 0)) 1 (.int 0) := (st_ne g42_1 (by decide))
    have hP : va_P (dC, dI) classes [(oB, .inr (0, xb)), (oTp, .inr (1, ((xt.set 1 (.int 0)).set 2 (.int 0)))), (oRd, .inr (9, xd)), (oG2, .inr (8, xh)), (oRu, .inr (10, xn)), (xn_node, .inl (cI, 501, .inl (fun _ => 0))), (xn_first, .inl (cI, 501, .inl (fun _ => 0))), (xn_next, .inl (cI, 501, .inl (fun _ => 0))), (oWa, .inr (5, xw)), (oR2, .inr (7, xu)), (oAc, .inr (11, xc)), (oR1, .inr (7, xr)), (oP2, .inr (3, xq)), (oSt, .inr (4, xs_)), (xst_position, .inl (cI, 20, .inl (fun _ => 0))), (xst_liquid, .inl (cI, 44, .inl (fun _ => 0))), (xst_amount, .inl (cI, 44, .inl (fun _ => 0))), (xst_last, .inl (cI, 44, .inl (fun _ => 0))), (xst_cleaned, .inl (cI, 264, .inl ((fun _ => (-1))))), (xst_litres, .inl (cJ, 96, .inr (.inl (fun _ => 0)))), (xst_start, .inl (cI, 24, .inl (fun _ => 0))), (xw_taken, .inl (cZ, 24, .inl (fun _ => 0))), (xw_over, .inl (cI, 20, .inl (fun _ => 0)))] H := hP
    have hD : va_D A [(oB, .inr (0, xb)), (oTp, .inr (1, ((xt.set 1 (.int 0)).set 2 (.int 0)))), (oRd, .inr (9, xd)), (oG2, .inr (8, xh)), (oRu, .inr (10, xn)), (xn_node, .inl (cI, 501, .inl (fun _ => 0))), (xn_first, .inl (cI, 501, .inl (fun _ => 0))), (xn_next, .inl (cI, 501, .inl (fun _ => 0))), (oWa, .inr (5, xw)), (oR2, .inr (7, xu)), (oAc, .inr (11, xc)), (oR1, .inr (7, xr)), (oP2, .inr (3, xq)), (oSt, .inr (4, xs_)), (xst_position, .inl (cI, 20, .inl (fun _ => 0))), (xst_liquid, .inl (cI, 44, .inl (fun _ => 0))), (xst_amount, .inl (cI, 44, .inl (fun _ => 0))), (xst_last, .inl (cI, 44, .inl (fun _ => 0))), (xst_cleaned, .inl (cI, 264, .inl ((fun _ => (-1))))), (xst_litres, .inl (cJ, 96, .inr (.inl (fun _ => 0)))), (xst_start, .inl (cI, 24, .inl (fun _ => 0))), (xw_taken, .inl (cZ, 24, .inl (fun _ => 0))), (xw_over, .inl (cI, 20, .inl (fun _ => 0)))] := hD
    refine lv_iload_n hx hb d_Bh_end_61 rfl (lv_at hl 0 rfl) ?_
    refine lv_if_eq (tgt := 75) hx hb d_Bh_end_62 (by decide) (fun _ => ?_) (fun h => absurd (by decide) h)
    refine lv_iconst (v := (-1)) hx hb d_Bh_end_75 (by decide) ?_
    exact W.iret (v := (-1)) hx hb hr (fun t ht hW => ⟨⟨_, (), rfl, (by unfold fn_Bh_end; rw [if_pos h1]), trivial⟩, hS.F ht⟩) hS.2.2 d_Bh_end_76
  · refine lv_iload_n hx hb d_Bh_end_4 rfl (lv_at hl 1 rfl) ?_
    refine lv_iconst (v := 2) hx hb d_Bh_end_5 (by decide) ?_
    refine lv_icmp_gt (tgt := 35) hx hb d_Bh_end_6 (by decide) (fun h6 => ?_) (fun h6 => ?_)
    · refine lv_iconst (v := 0) hx hb d_Bh_end_35 (by decide) ?_
      refine lv_istore_n hx hb d_Bh_end_36 rfl hl (by decide) rfl (fun ls hl => ?_)
      have hl : lv_has ls 5 [(3, .int 0), (0, .ref oB), (1, .int kd), (2, .int nn)] := hl
      refine lv_aload_n hx hb d_Bh_end_37 rfl (lv_at hl 1 rfl) ?_
      refine va_get (D := (dC, dI)) (ci := 0) (v := .ref oTp) (C := R_Bh) (T := F_Bh) (N := 16) hx hb hts (fun w h => List.mem_cons_of_mem _ (in_Bh w h)) hown hK.1 hP 0 rfl rfl 0 (by decide) (hts _ (List.mem_cons_of_mem _ mw_684)) (fun _ h9 => h9) hb_tape d_Bh_end_38 ?_
      refine lv_iconst (v := 0) hx hb d_Bh_end_41 (by decide) ?_
      refine va_put (D := (dC, dI)) (ci := 1) (v := .int 0) (ty := .int) (C := R_Tp) (T := F_Tp) (N := 3) hx hb hts (fun w h => List.mem_cons_of_mem _ (in_Tp w h)) t_Tp t_Tp_ok n_Tp hown hK.1 hP hD hS 1 rfl rfl 1 (by decide) (hts _ (List.mem_cons_of_mem _ mw_40)) (fun _ h9 => h9) rfl (by decide +kernel) rfl rfl (st_lt htp_length) d_Bh_end_42 (fun H locs hP hD hS => ?_)
      have g42_2 : fx (xt.set 1 (.int 0)) 2 (.int 0) := (st_ne htp_end (by decide))
      have g42_1 : fx (xt.set 1 (.int 0)) 1 (.int 0) := (st_eq htp_length)
      have hP : va_P (dC, dI) classes [(oB, .inr (0, xb)), (oTp, .inr (1, (xt.set 1 (.int 0)))), (oRd, .inr (9, xd)), (oG2, .inr (8, xh)), (oRu, .inr (10, xn)), (xn_node, .inl (cI, 501, .inl (fun _ => 0))), (xn_first, .inl (cI, 501, .inl (fun _ => 0))), (xn_next, .inl (cI, 501, .inl (fun _ => 0))), (oWa, .inr (5, xw)), (oR2, .inr (7, xu)), (oAc, .inr (11, xc)), (oR1, .inr (7, xr)), (oP2, .inr (3, xq)), (oSt, .inr (4, xs_)), (xst_position, .inl (cI, 20, .inl (fun _ => 0))), (xst_liquid, .inl (cI, 44, .inl (fun _ => 0))), (xst_amount, .inl (cI, 44, .inl (fun _ => 0))), (xst_last, .inl (cI, 44, .inl (fun _ => 0))), (xst_cleaned, .inl (cI, 264, .inl ((fun _ => (-1))))), (xst_litres, .inl (cJ, 96, .inr (.inl (fun _ => 0)))), (xst_start, .inl (cI, 24, .inl (fun _ => 0))), (xw_taken, .inl (cZ, 24, .inl (fun _ => 0))), (xw_over, .inl (cI, 20, .inl (fun _ => 0)))] H := hP
      have hD : va_D A [(oB, .inr (0, xb)), (oTp, .inr (1, (xt.set 1 (.int 0)))), (oRd, .inr (9, xd)), (oG2, .inr (8, xh)), (oRu, .inr (10, xn)), (xn_node, .inl (cI, 501, .inl (fun _ => 0))), (xn_first, .inl (cI, 501, .inl (fun _ => 0))), (xn_next, .inl (cI, 501, .inl (fun _ => 0))), (oWa, .inr (5, xw)), (oR2, .inr (7, xu)), (oAc, .inr (11, xc)), (oR1, .inr (7, xr)), (oP2, .inr (3, xq)), (oSt, .inr (4, xs_)), (xst_position, .inl (cI, 20, .inl (fun _ => 0))), (xst_liquid, .inl (cI, 44, .inl (fun _ => 0))), (xst_amount, .inl (cI, 44, .inl (fun _ => 0))), (xst_last, .inl (cI, 44, .inl (fun _ => 0))), (xst_cleaned, .inl (cI, 264, .inl ((fun _ => (-1))))), (xst_litres, .inl (cJ, 96, .inr (.inl (fun _ => 0)))), (xst_start, .inl (cI, 24, .inl (fun _ => 0))), (xw_taken, .inl (cZ, 24, .inl (fun _ => 0))), (xw_over, .inl (cI, 20, .inl (fun _ => 0)))] := hD
      refine lv_aload_n hx hb d_Bh_end_45 rfl (lv_at hl 1 rfl) ?_
      refine va_get (D := (dC, dI)) (ci := 0) (v := .ref oTp) (C := R_Bh) (T := F_Bh) (N := 16) hx hb hts (fun w h => List.mem_cons_of_mem _ (in_Bh w h)) hown hK.1 hP 0 rfl rfl 0 (by decide) (hts _ (List.mem_cons_of_mem _ mw_684)) (fun _ h9 => h9) hb_tape d_Bh_end_46 ?_
      refine lv_iload_n hx hb d_Bh_end_49 rfl (lv_at hl 0 rfl) ?_
      refine lv_if_eq (tgt := 57) hx hb d_Bh_end_50 (by decide) (fun _ => ?_) (fun h => absurd (by decide) h)
      refine lv_iconst (v := 0) hx hb d_Bh_end_57 (by decide) ?_
      refine va_put (D := (dC, dI)) (ci := 1) (v := .int 0) (ty := .int) (C := R_Tp) (T := F_Tp) (N := 3) hx hb hts (fun w h => List.mem_cons_of_mem _ (in_Tp w h)) t_Tp t_Tp_ok n_Tp hown hK.1 hP hD hS 1 rfl rfl 2 (by decide) (hts _ (List.mem_cons_of_mem _ mw_42)) (fun _ h9 => h9) rfl (by decide +kernel) rfl rfl (st_lt g42_2) d_Bh_end_58 (fun H locs hP hD hS => ?_)
      have g58_2 : fx ((xt.set 1 (.int 0)).set 2 (.int 0)) 2 (.int 0) := (st_eq g42_2)
      have g58_1 : fx ((xt.set 1 (.int 0)).set 2 (.int 0)) 1 (.int 0) := (st_ne g42_1 (by decide))
      have hP : va_P (dC, dI) classes [(oB, .inr (0, xb)), (oTp, .inr (1, ((xt.set 1 (.int 0)).set 2 (.int 0)))), (oRd, .inr (9, xd)), (oG2, .inr (8, xh)), (oRu, .inr (10, xn)), (xn_node, .inl (cI, 501, .inl (fun _ => 0))), (xn_first, .inl (cI, 501, .inl (fun _ => 0))), (xn_next, .inl (cI, 501, .inl (fun _ => 0))), (oWa, .inr (5, xw)), (oR2, .inr (7, xu)), (oAc, .inr (11, xc)), (oR1, .inr (7, xr)), (oP2, .inr (3, xq)), (oSt, .inr (4, xs_)), (xst_position, .inl (cI, 20, .inl (fun _ => 0))), (xst_liquid, .inl (cI, 44, .inl (fun _ => 0))), (xst_amount, .inl (cI, 44, .inl (fun _ => 0))), (xst_last, .inl (cI, 44, .inl (fun _ => 0))), (xst_cleaned, .inl (cI, 264, .inl ((fun _ => (-1))))), (xst_litres, .inl (cJ, 96, .inr (.inl (fun _ => 0)))), (xst_start, .inl (cI, 24, .inl (fun _ => 0))), (xw_taken, .inl (cZ, 24, .inl (fun _ => 0))), (xw_over, .inl (cI, 20, .inl (fun _ => 0)))] H := hP
      have hD : va_D A [(oB, .inr (0, xb)), (oTp, .inr (1, ((xt.set 1 (.int 0)).set 2 (.int 0)))), (oRd, .inr (9, xd)), (oG2, .inr (8, xh)), (oRu, .inr (10, xn)), (xn_node, .inl (cI, 501, .inl (fun _ => 0))), (xn_first, .inl (cI, 501, .inl (fun _ => 0))), (xn_next, .inl (cI, 501, .inl (fun _ => 0))), (oWa, .inr (5, xw)), (oR2, .inr (7, xu)), (oAc, .inr (11, xc)), (oR1, .inr (7, xr)), (oP2, .inr (3, xq)), (oSt, .inr (4, xs_)), (xst_position, .inl (cI, 20, .inl (fun _ => 0))), (xst_liquid, .inl (cI, 44, .inl (fun _ => 0))), (xst_amount, .inl (cI, 44, .inl (fun _ => 0))), (xst_last, .inl (cI, 44, .inl (fun _ => 0))), (xst_cleaned, .inl (cI, 264, .inl ((fun _ => (-1))))), (xst_litres, .inl (cJ, 96, .inr (.inl (fun _ => 0)))), (xst_start, .inl (cI, 24, .inl (fun _ => 0))), (xw_taken, .inl (cZ, 24, .inl (fun _ => 0))), (xw_over, .inl (cI, 20, .inl (fun _ => 0)))] := hD
      refine lv_iload_n hx hb d_Bh_end_61 rfl (lv_at hl 0 rfl) ?_
      refine lv_if_eq (tgt := 75) hx hb d_Bh_end_62 (by decide) (fun _ => ?_) (fun h => absurd (by decide) h)
      refine lv_iconst (v := (-1)) hx hb d_Bh_end_75 (by decide) ?_
      exact W.iret (v := (-1)) hx hb hr (fun t ht hW => ⟨⟨_, (), rfl, (by unfold fn_Bh_end; rw [if_neg h1, if_pos h6]), trivial⟩, hS.F ht⟩) hS.2.2 d_Bh_end_76
    · refine lv_iload_n hx hb d_Bh_end_9 rfl (lv_at hl 2 rfl) ?_
      refine lv_if_lt (tgt := 35) hx hb d_Bh_end_10 (by decide) (fun h10 => ?_) (fun h10 => ?_)
      · refine lv_iconst (v := 0) hx hb d_Bh_end_35 (by decide) ?_
        refine lv_istore_n hx hb d_Bh_end_36 rfl hl (by decide) rfl (fun ls hl => ?_)
        have hl : lv_has ls 5 [(3, .int 0), (0, .ref oB), (1, .int kd), (2, .int nn)] := hl
        refine lv_aload_n hx hb d_Bh_end_37 rfl (lv_at hl 1 rfl) ?_
        refine va_get (D := (dC, dI)) (ci := 0) (v := .ref oTp) (C := R_Bh) (T := F_Bh) (N := 16) hx hb hts (fun w h => List.mem_cons_of_mem _ (in_Bh w h)) hown hK.1 hP 0 rfl rfl 0 (by decide) (hts _ (List.mem_cons_of_mem _ mw_684)) (fun _ h9 => h9) hb_tape d_Bh_end_38 ?_
        refine lv_iconst (v := 0) hx hb d_Bh_end_41 (by decide) ?_
        refine va_put (D := (dC, dI)) (ci := 1) (v := .int 0) (ty := .int) (C := R_Tp) (T := F_Tp) (N := 3) hx hb hts (fun w h => List.mem_cons_of_mem _ (in_Tp w h)) t_Tp t_Tp_ok n_Tp hown hK.1 hP hD hS 1 rfl rfl 1 (by decide) (hts _ (List.mem_cons_of_mem _ mw_40)) (fun _ h9 => h9) rfl (by decide +kernel) rfl rfl (st_lt htp_length) d_Bh_end_42 (fun H locs hP hD hS => ?_)
        have g42_2 : fx (xt.set 1 (.int 0)) 2 (.int 0) := (st_ne htp_end (by decide))
        have g42_1 : fx (xt.set 1 (.int 0)) 1 (.int 0) := (st_eq htp_length)
        have hP : va_P (dC, dI) classes [(oB, .inr (0, xb)), (oTp, .inr (1, (xt.set 1 (.int 0)))), (oRd, .inr (9, xd)), (oG2, .inr (8, xh)), (oRu, .inr (10, xn)), (xn_node, .inl (cI, 501, .inl (fun _ => 0))), (xn_first, .inl (cI, 501, .inl (fun _ => 0))), (xn_next, .inl (cI, 501, .inl (fun _ => 0))), (oWa, .inr (5, xw)), (oR2, .inr (7, xu)), (oAc, .inr (11, xc)), (oR1, .inr (7, xr)), (oP2, .inr (3, xq)), (oSt, .inr (4, xs_)), (xst_position, .inl (cI, 20, .inl (fun _ => 0))), (xst_liquid, .inl (cI, 44, .inl (fun _ => 0))), (xst_amount, .inl (cI, 44, .inl (fun _ => 0))), (xst_last, .inl (cI, 44, .inl (fun _ => 0))), (xst_cleaned, .inl (cI, 264, .inl ((fun _ => (-1))))), (xst_litres, .inl (cJ, 96, .inr (.inl (fun _ => 0)))), (xst_start, .inl (cI, 24, .inl (fun _ => 0))), (xw_taken, .inl (cZ, 24, .inl (fun _ => 0))), (xw_over, .inl (cI, 20, .inl (fun _ => 0)))] H := hP
        have hD : va_D A [(oB, .inr (0, xb)), (oTp, .inr (1, (xt.set 1 (.int 0)))), (oRd, .inr (9, xd)), (oG2, .inr (8, xh)), (oRu, .inr (10, xn)), (xn_node, .inl (cI, 501, .inl (fun _ => 0))), (xn_first, .inl (cI, 501, .inl (fun _ => 0))), (xn_next, .inl (cI, 501, .inl (fun _ => 0))), (oWa, .inr (5, xw)), (oR2, .inr (7, xu)), (oAc, .inr (11, xc)), (oR1, .inr (7, xr)), (oP2, .inr (3, xq)), (oSt, .inr (4, xs_)), (xst_position, .inl (cI, 20, .inl (fun _ => 0))), (xst_liquid, .inl (cI, 44, .inl (fun _ => 0))), (xst_amount, .inl (cI, 44, .inl (fun _ => 0))), (xst_last, .inl (cI, 44, .inl (fun _ => 0))), (xst_cleaned, .inl (cI, 264, .inl ((fun _ => (-1))))), (xst_litres, .inl (cJ, 96, .inr (.inl (fun _ => 0)))), (xst_start, .inl (cI, 24, .inl (fun _ => 0))), (xw_taken, .inl (cZ, 24, .inl (fun _ => 0))), (xw_over, .inl (cI, 20, .inl (fun _ => 0)))] := hD
        refine lv_aload_n hx hb d_Bh_end_45 rfl (lv_at hl 1 rfl) ?_
        refine va_get (D := (dC, dI)) (ci := 0) (v := .ref oTp) (C := R_Bh) (T := F_Bh) (N := 16) hx hb hts (fun w h => List.mem_cons_of_mem _ (in_Bh w h)) hown hK.1 hP 0 rfl rfl 0 (by decide) (hts _ (List.mem_cons_of_mem _ mw_684)) (fun _ h9 => h9) hb_tape d_Bh_end_46 ?_
        refine lv_iload_n hx hb d_Bh_end_49 rfl (lv_at hl 0 rfl) ?_
        refine lv_if_eq (tgt := 57) hx hb d_Bh_end_50 (by decide) (fun _ => ?_) (fun h => absurd (by decide) h)
        refine lv_iconst (v := 0) hx hb d_Bh_end_57 (by decide) ?_
        refine va_put (D := (dC, dI)) (ci := 1) (v := .int 0) (ty := .int) (C := R_Tp) (T := F_Tp) (N := 3) hx hb hts (fun w h => List.mem_cons_of_mem _ (in_Tp w h)) t_Tp t_Tp_ok n_Tp hown hK.1 hP hD hS 1 rfl rfl 2 (by decide) (hts _ (List.mem_cons_of_mem _ mw_42)) (fun _ h9 => h9) rfl (by decide +kernel) rfl rfl (st_lt g42_2) d_Bh_end_58 (fun H locs hP hD hS => ?_)
        have g58_2 : fx ((xt.set 1 (.int 0)).set 2 (.int 0)) 2 (.int 0) := (st_eq g42_2)
        have g58_1 : fx ((xt.set 1 (.int 0)).set 2 (.int 0)) 1 (.int 0) := (st_ne g42_1 (by decide))
        have hP : va_P (dC, dI) classes [(oB, .inr (0, xb)), (oTp, .inr (1, ((xt.set 1 (.int 0)).set 2 (.int 0)))), (oRd, .inr (9, xd)), (oG2, .inr (8, xh)), (oRu, .inr (10, xn)), (xn_node, .inl (cI, 501, .inl (fun _ => 0))), (xn_first, .inl (cI, 501, .inl (fun _ => 0))), (xn_next, .inl (cI, 501, .inl (fun _ => 0))), (oWa, .inr (5, xw)), (oR2, .inr (7, xu)), (oAc, .inr (11, xc)), (oR1, .inr (7, xr)), (oP2, .inr (3, xq)), (oSt, .inr (4, xs_)), (xst_position, .inl (cI, 20, .inl (fun _ => 0))), (xst_liquid, .inl (cI, 44, .inl (fun _ => 0))), (xst_amount, .inl (cI, 44, .inl (fun _ => 0))), (xst_last, .inl (cI, 44, .inl (fun _ => 0))), (xst_cleaned, .inl (cI, 264, .inl ((fun _ => (-1))))), (xst_litres, .inl (cJ, 96, .inr (.inl (fun _ => 0)))), (xst_start, .inl (cI, 24, .inl (fun _ => 0))), (xw_taken, .inl (cZ, 24, .inl (fun _ => 0))), (xw_over, .inl (cI, 20, .inl (fun _ => 0)))] H := hP
        have hD : va_D A [(oB, .inr (0, xb)), (oTp, .inr (1, ((xt.set 1 (.int 0)).set 2 (.int 0)))), (oRd, .inr (9, xd)), (oG2, .inr (8, xh)), (oRu, .inr (10, xn)), (xn_node, .inl (cI, 501, .inl (fun _ => 0))), (xn_first, .inl (cI, 501, .inl (fun _ => 0))), (xn_next, .inl (cI, 501, .inl (fun _ => 0))), (oWa, .inr (5, xw)), (oR2, .inr (7, xu)), (oAc, .inr (11, xc)), (oR1, .inr (7, xr)), (oP2, .inr (3, xq)), (oSt, .inr (4, xs_)), (xst_position, .inl (cI, 20, .inl (fun _ => 0))), (xst_liquid, .inl (cI, 44, .inl (fun _ => 0))), (xst_amount, .inl (cI, 44, .inl (fun _ => 0))), (xst_last, .inl (cI, 44, .inl (fun _ => 0))), (xst_cleaned, .inl (cI, 264, .inl ((fun _ => (-1))))), (xst_litres, .inl (cJ, 96, .inr (.inl (fun _ => 0)))), (xst_start, .inl (cI, 24, .inl (fun _ => 0))), (xw_taken, .inl (cZ, 24, .inl (fun _ => 0))), (xw_over, .inl (cI, 20, .inl (fun _ => 0)))] := hD
        refine lv_iload_n hx hb d_Bh_end_61 rfl (lv_at hl 0 rfl) ?_
        refine lv_if_eq (tgt := 75) hx hb d_Bh_end_62 (by decide) (fun _ => ?_) (fun h => absurd (by decide) h)
        refine lv_iconst (v := (-1)) hx hb d_Bh_end_75 (by decide) ?_
        exact W.iret (v := (-1)) hx hb hr (fun t ht hW => ⟨⟨_, (), rfl, (by unfold fn_Bh_end; rw [if_neg h1, if_neg h6, if_pos h10]), trivial⟩, hS.F ht⟩) hS.2.2 d_Bh_end_76
      · refine lv_iload_n hx hb d_Bh_end_13 rfl (lv_at hl 2 rfl) ?_
        refine lv_sipush (v := 4000) hx hb d_Bh_end_14 (by decide) ?_
        refine lv_icmp_gt (tgt := 35) hx hb d_Bh_end_17 (by decide) (fun h17 => ?_) (fun h17 => ?_)
        · refine lv_iconst (v := 0) hx hb d_Bh_end_35 (by decide) ?_
          refine lv_istore_n hx hb d_Bh_end_36 rfl hl (by decide) rfl (fun ls hl => ?_)
          have hl : lv_has ls 5 [(3, .int 0), (0, .ref oB), (1, .int kd), (2, .int nn)] := hl
          refine lv_aload_n hx hb d_Bh_end_37 rfl (lv_at hl 1 rfl) ?_
          refine va_get (D := (dC, dI)) (ci := 0) (v := .ref oTp) (C := R_Bh) (T := F_Bh) (N := 16) hx hb hts (fun w h => List.mem_cons_of_mem _ (in_Bh w h)) hown hK.1 hP 0 rfl rfl 0 (by decide) (hts _ (List.mem_cons_of_mem _ mw_684)) (fun _ h9 => h9) hb_tape d_Bh_end_38 ?_
          refine lv_iconst (v := 0) hx hb d_Bh_end_41 (by decide) ?_
          refine va_put (D := (dC, dI)) (ci := 1) (v := .int 0) (ty := .int) (C := R_Tp) (T := F_Tp) (N := 3) hx hb hts (fun w h => List.mem_cons_of_mem _ (in_Tp w h)) t_Tp t_Tp_ok n_Tp hown hK.1 hP hD hS 1 rfl rfl 1 (by decide) (hts _ (List.mem_cons_of_mem _ mw_40)) (fun _ h9 => h9) rfl (by decide +kernel) rfl rfl (st_lt htp_length) d_Bh_end_42 (fun H locs hP hD hS => ?_)
          have g42_2 : fx (xt.set 1 (.int 0)) 2 (.int 0) := (st_ne htp_end (by decide))
          have g42_1 : fx (xt.set 1 (.int 0)) 1 (.int 0) := (st_eq htp_length)
          have hP : va_P (dC, dI) classes [(oB, .inr (0, xb)), (oTp, .inr (1, (xt.set 1 (.int 0)))), (oRd, .inr (9, xd)), (oG2, .inr (8, xh)), (oRu, .inr (10, xn)), (xn_node, .inl (cI, 501, .inl (fun _ => 0))), (xn_first, .inl (cI, 501, .inl (fun _ => 0))), (xn_next, .inl (cI, 501, .inl (fun _ => 0))), (oWa, .inr (5, xw)), (oR2, .inr (7, xu)), (oAc, .inr (11, xc)), (oR1, .inr (7, xr)), (oP2, .inr (3, xq)), (oSt, .inr (4, xs_)), (xst_position, .inl (cI, 20, .inl (fun _ => 0))), (xst_liquid, .inl (cI, 44, .inl (fun _ => 0))), (xst_amount, .inl (cI, 44, .inl (fun _ => 0))), (xst_last, .inl (cI, 44, .inl (fun _ => 0))), (xst_cleaned, .inl (cI, 264, .inl ((fun _ => (-1))))), (xst_litres, .inl (cJ, 96, .inr (.inl (fun _ => 0)))), (xst_start, .inl (cI, 24, .inl (fun _ => 0))), (xw_taken, .inl (cZ, 24, .inl (fun _ => 0))), (xw_over, .inl (cI, 20, .inl (fun _ => 0)))] H := hP
          have hD : va_D A [(oB, .inr (0, xb)), (oTp, .inr (1, (xt.set 1 (.int 0)))), (oRd, .inr (9, xd)), (oG2, .inr (8, xh)), (oRu, .inr (10, xn)), (xn_node, .inl (cI, 501, .inl (fun _ => 0))), (xn_first, .inl (cI, 501, .inl (fun _ => 0))), (xn_next, .inl (cI, 501, .inl (fun _ => 0))), (oWa, .inr (5, xw)), (oR2, .inr (7, xu)), (oAc, .inr (11, xc)), (oR1, .inr (7, xr)), (oP2, .inr (3, xq)), (oSt, .inr (4, xs_)), (xst_position, .inl (cI, 20, .inl (fun _ => 0))), (xst_liquid, .inl (cI, 44, .inl (fun _ => 0))), (xst_amount, .inl (cI, 44, .inl (fun _ => 0))), (xst_last, .inl (cI, 44, .inl (fun _ => 0))), (xst_cleaned, .inl (cI, 264, .inl ((fun _ => (-1))))), (xst_litres, .inl (cJ, 96, .inr (.inl (fun _ => 0)))), (xst_start, .inl (cI, 24, .inl (fun _ => 0))), (xw_taken, .inl (cZ, 24, .inl (fun _ => 0))), (xw_over, .inl (cI, 20, .inl (fun _ => 0)))] := hD
          refine lv_aload_n hx hb d_Bh_end_45 rfl (lv_at hl 1 rfl) ?_
          refine va_get (D := (dC, dI)) (ci := 0) (v := .ref oTp) (C := R_Bh) (T := F_Bh) (N := 16) hx hb hts (fun w h => List.mem_cons_of_mem _ (in_Bh w h)) hown hK.1 hP 0 rfl rfl 0 (by decide) (hts _ (List.mem_cons_of_mem _ mw_684)) (fun _ h9 => h9) hb_tape d_Bh_end_46 ?_
          refine lv_iload_n hx hb d_Bh_end_49 rfl (lv_at hl 0 rfl) ?_
          refine lv_if_eq (tgt := 57) hx hb d_Bh_end_50 (by decide) (fun _ => ?_) (fun h => absurd (by decide) h)
          refine lv_iconst (v := 0) hx hb d_Bh_end_57 (by decide) ?_
          refine va_put (D := (dC, dI)) (ci := 1) (v := .int 0) (ty := .int) (C := R_Tp) (T := F_Tp) (N := 3) hx hb hts (fun w h => List.mem_cons_of_mem _ (in_Tp w h)) t_Tp t_Tp_ok n_Tp hown hK.1 hP hD hS 1 rfl rfl 2 (by decide) (hts _ (List.mem_cons_of_mem _ mw_42)) (fun _ h9 => h9) rfl (by decide +kernel) rfl rfl (st_lt g42_2) d_Bh_end_58 (fun H locs hP hD hS => ?_)
          have g58_2 : fx ((xt.set 1 (.int 0)).set 2 (.int 0)) 2 (.int 0) := (st_eq g42_2)
          have g58_1 : fx ((xt.set 1 (.int 0)).set 2 (.int 0)) 1 (.int 0) := (st_ne g42_1 (by decide))
          have hP : va_P (dC, dI) classes [(oB, .inr (0, xb)), (oTp, .inr (1, ((xt.set 1 (.int 0)).set 2 (.int 0)))), (oRd, .inr (9, xd)), (oG2, .inr (8, xh)), (oRu, .inr (10, xn)), (xn_node, .inl (cI, 501, .inl (fun _ => 0))), (xn_first, .inl (cI, 501, .inl (fun _ => 0))), (xn_next, .inl (cI, 501, .inl (fun _ => 0))), (oWa, .inr (5, xw)), (oR2, .inr (7, xu)), (oAc, .inr (11, xc)), (oR1, .inr (7, xr)), (oP2, .inr (3, xq)), (oSt, .inr (4, xs_)), (xst_position, .inl (cI, 20, .inl (fun _ => 0))), (xst_liquid, .inl (cI, 44, .inl (fun _ => 0))), (xst_amount, .inl (cI, 44, .inl (fun _ => 0))), (xst_last, .inl (cI, 44, .inl (fun _ => 0))), (xst_cleaned, .inl (cI, 264, .inl ((fun _ => (-1))))), (xst_litres, .inl (cJ, 96, .inr (.inl (fun _ => 0)))), (xst_start, .inl (cI, 24, .inl (fun _ => 0))), (xw_taken, .inl (cZ, 24, .inl (fun _ => 0))), (xw_over, .inl (cI, 20, .inl (fun _ => 0)))] H := hP
          have hD : va_D A [(oB, .inr (0, xb)), (oTp, .inr (1, ((xt.set 1 (.int 0)).set 2 (.int 0)))), (oRd, .inr (9, xd)), (oG2, .inr (8, xh)), (oRu, .inr (10, xn)), (xn_node, .inl (cI, 501, .inl (fun _ => 0))), (xn_first, .inl (cI, 501, .inl (fun _ => 0))), (xn_next, .inl (cI, 501, .inl (fun _ => 0))), (oWa, .inr (5, xw)), (oR2, .inr (7, xu)), (oAc, .inr (11, xc)), (oR1, .inr (7, xr)), (oP2, .inr (3, xq)), (oSt, .inr (4, xs_)), (xst_position, .inl (cI, 20, .inl (fun _ => 0))), (xst_liquid, .inl (cI, 44, .inl (fun _ => 0))), (xst_amount, .inl (cI, 44, .inl (fun _ => 0))), (xst_last, .inl (cI, 44, .inl (fun _ => 0))), (xst_cleaned, .inl (cI, 264, .inl ((fun _ => (-1))))), (xst_litres, .inl (cJ, 96, .inr (.inl (fun _ => 0)))), (xst_start, .inl (cI, 24, .inl (fun _ => 0))), (xw_taken, .inl (cZ, 24, .inl (fun _ => 0))), (xw_over, .inl (cI, 20, .inl (fun _ => 0)))] := hD
          refine lv_iload_n hx hb d_Bh_end_61 rfl (lv_at hl 0 rfl) ?_
          refine lv_if_eq (tgt := 75) hx hb d_Bh_end_62 (by decide) (fun _ => ?_) (fun h => absurd (by decide) h)
          refine lv_iconst (v := (-1)) hx hb d_Bh_end_75 (by decide) ?_
          exact W.iret (v := (-1)) hx hb hr (fun t ht hW => ⟨⟨_, (), rfl, (by unfold fn_Bh_end; rw [if_neg h1, if_neg h6, if_neg h10, if_pos h17]), trivial⟩, hS.F ht⟩) hS.2.2 d_Bh_end_76
        · refine lv_iload_n hx hb d_Bh_end_20 rfl (lv_at hl 2 rfl) ?_
          refine lv_aload_n hx hb d_Bh_end_21 rfl (lv_at hl 0 rfl) ?_
          refine va_get (D := (dC, dI)) (ci := 0) (v := .ref oTp) (C := R_Bh) (T := F_Bh) (N := 16) hx hb hts (fun w h => List.mem_cons_of_mem _ (in_Bh w h)) hown hK.1 hP 0 rfl rfl 0 (by decide) (hts _ (List.mem_cons_of_mem _ mw_684)) (fun _ h9 => h9) hb_tape d_Bh_end_22 ?_
          refine va_get (D := (dC, dI)) (ci := 1) (v := .int 0) (C := R_Tp) (T := F_Tp) (N := 3) hx hb hts (fun w h => List.mem_cons_of_mem _ (in_Tp w h)) hown hK.1 hP 1 rfl rfl 1 (by decide) (hts _ (List.mem_cons_of_mem _ mw_40)) (fun _ h9 => h9) htp_length d_Bh_end_25 ?_
          refine lv_icmp_gt (tgt := 35) hx hb d_Bh_end_28 (by decide) (fun h28 => ?_) (fun h28 => ?_)
          · refine lv_iconst (v := 0) hx hb d_Bh_end_35 (by decide) ?_
            refine lv_istore_n hx hb d_Bh_end_36 rfl hl (by decide) rfl (fun ls hl => ?_)
            have hl : lv_has ls 5 [(3, .int 0), (0, .ref oB), (1, .int kd), (2, .int nn)] := hl
            refine lv_aload_n hx hb d_Bh_end_37 rfl (lv_at hl 1 rfl) ?_
            refine va_get (D := (dC, dI)) (ci := 0) (v := .ref oTp) (C := R_Bh) (T := F_Bh) (N := 16) hx hb hts (fun w h => List.mem_cons_of_mem _ (in_Bh w h)) hown hK.1 hP 0 rfl rfl 0 (by decide) (hts _ (List.mem_cons_of_mem _ mw_684)) (fun _ h9 => h9) hb_tape d_Bh_end_38 ?_
            refine lv_iconst (v := 0) hx hb d_Bh_end_41 (by decide) ?_
            refine va_put (D := (dC, dI)) (ci := 1) (v := .int 0) (ty := .int) (C := R_Tp) (T := F_Tp) (N := 3) hx hb hts (fun w h => List.mem_cons_of_mem _ (in_Tp w h)) t_Tp t_Tp_ok n_Tp hown hK.1 hP hD hS 1 rfl rfl 1 (by decide) (hts _ (List.mem_cons_of_mem _ mw_40)) (fun _ h9 => h9) rfl (by decide +kernel) rfl rfl (st_lt htp_length) d_Bh_end_42 (fun H locs hP hD hS => ?_)
            have g42_2 : fx (xt.set 1 (.int 0)) 2 (.int 0) := (st_ne htp_end (by decide))
            have g42_1 : fx (xt.set 1 (.int 0)) 1 (.int 0) := (st_eq htp_length)
            have hP : va_P (dC, dI) classes [(oB, .inr (0, xb)), (oTp, .inr (1, (xt.set 1 (.int 0)))), (oRd, .inr (9, xd)), (oG2, .inr (8, xh)), (oRu, .inr (10, xn)), (xn_node, .inl (cI, 501, .inl (fun _ => 0))), (xn_first, .inl (cI, 501, .inl (fun _ => 0))), (xn_next, .inl (cI, 501, .inl (fun _ => 0))), (oWa, .inr (5, xw)), (oR2, .inr (7, xu)), (oAc, .inr (11, xc)), (oR1, .inr (7, xr)), (oP2, .inr (3, xq)), (oSt, .inr (4, xs_)), (xst_position, .inl (cI, 20, .inl (fun _ => 0))), (xst_liquid, .inl (cI, 44, .inl (fun _ => 0))), (xst_amount, .inl (cI, 44, .inl (fun _ => 0))), (xst_last, .inl (cI, 44, .inl (fun _ => 0))), (xst_cleaned, .inl (cI, 264, .inl ((fun _ => (-1))))), (xst_litres, .inl (cJ, 96, .inr (.inl (fun _ => 0)))), (xst_start, .inl (cI, 24, .inl (fun _ => 0))), (xw_taken, .inl (cZ, 24, .inl (fun _ => 0))), (xw_over, .inl (cI, 20, .inl (fun _ => 0)))] H := hP
            have hD : va_D A [(oB, .inr (0, xb)), (oTp, .inr (1, (xt.set 1 (.int 0)))), (oRd, .inr (9, xd)), (oG2, .inr (8, xh)), (oRu, .inr (10, xn)), (xn_node, .inl (cI, 501, .inl (fun _ => 0))), (xn_first, .inl (cI, 501, .inl (fun _ => 0))), (xn_next, .inl (cI, 501, .inl (fun _ => 0))), (oWa, .inr (5, xw)), (oR2, .inr (7, xu)), (oAc, .inr (11, xc)), (oR1, .inr (7, xr)), (oP2, .inr (3, xq)), (oSt, .inr (4, xs_)), (xst_position, .inl (cI, 20, .inl (fun _ => 0))), (xst_liquid, .inl (cI, 44, .inl (fun _ => 0))), (xst_amount, .inl (cI, 44, .inl (fun _ => 0))), (xst_last, .inl (cI, 44, .inl (fun _ => 0))), (xst_cleaned, .inl (cI, 264, .inl ((fun _ => (-1))))), (xst_litres, .inl (cJ, 96, .inr (.inl (fun _ => 0)))), (xst_start, .inl (cI, 24, .inl (fun _ => 0))), (xw_taken, .inl (cZ, 24, .inl (fun _ => 0))), (xw_over, .inl (cI, 20, .inl (fun _ => 0)))] := hD
            refine lv_aload_n hx hb d_Bh_end_45 rfl (lv_at hl 1 rfl) ?_
            refine va_get (D := (dC, dI)) (ci := 0) (v := .ref oTp) (C := R_Bh) (T := F_Bh) (N := 16) hx hb hts (fun w h => List.mem_cons_of_mem _ (in_Bh w h)) hown hK.1 hP 0 rfl rfl 0 (by decide) (hts _ (List.mem_cons_of_mem _ mw_684)) (fun _ h9 => h9) hb_tape d_Bh_end_46 ?_
            refine lv_iload_n hx hb d_Bh_end_49 rfl (lv_at hl 0 rfl) ?_
            refine lv_if_eq (tgt := 57) hx hb d_Bh_end_50 (by decide) (fun _ => ?_) (fun h => absurd (by decide) h)
            refine lv_iconst (v := 0) hx hb d_Bh_end_57 (by decide) ?_
            refine va_put (D := (dC, dI)) (ci := 1) (v := .int 0) (ty := .int) (C := R_Tp) (T := F_Tp) (N := 3) hx hb hts (fun w h => List.mem_cons_of_mem _ (in_Tp w h)) t_Tp t_Tp_ok n_Tp hown hK.1 hP hD hS 1 rfl rfl 2 (by decide) (hts _ (List.mem_cons_of_mem _ mw_42)) (fun _ h9 => h9) rfl (by decide +kernel) rfl rfl (st_lt g42_2) d_Bh_end_58 (fun H locs hP hD hS => ?_)
            have g58_2 : fx ((xt.set 1 (.int 0)).set 2 (.int 0)) 2 (.int 0) := (st_eq g42_2)
            have g58_1 : fx ((xt.set 1 (.int 0)).set 2 (.int 0)) 1 (.int 0) := (st_ne g42_1 (by decide))
            have hP : va_P (dC, dI) classes [(oB, .inr (0, xb)), (oTp, .inr (1, ((xt.set 1 (.int 0)).set 2 (.int 0)))), (oRd, .inr (9, xd)), (oG2, .inr (8, xh)), (oRu, .inr (10, xn)), (xn_node, .inl (cI, 501, .inl (fun _ => 0))), (xn_first, .inl (cI, 501, .inl (fun _ => 0))), (xn_next, .inl (cI, 501, .inl (fun _ => 0))), (oWa, .inr (5, xw)), (oR2, .inr (7, xu)), (oAc, .inr (11, xc)), (oR1, .inr (7, xr)), (oP2, .inr (3, xq)), (oSt, .inr (4, xs_)), (xst_position, .inl (cI, 20, .inl (fun _ => 0))), (xst_liquid, .inl (cI, 44, .inl (fun _ => 0))), (xst_amount, .inl (cI, 44, .inl (fun _ => 0))), (xst_last, .inl (cI, 44, .inl (fun _ => 0))), (xst_cleaned, .inl (cI, 264, .inl ((fun _ => (-1))))), (xst_litres, .inl (cJ, 96, .inr (.inl (fun _ => 0)))), (xst_start, .inl (cI, 24, .inl (fun _ => 0))), (xw_taken, .inl (cZ, 24, .inl (fun _ => 0))), (xw_over, .inl (cI, 20, .inl (fun _ => 0)))] H := hP
            have hD : va_D A [(oB, .inr (0, xb)), (oTp, .inr (1, ((xt.set 1 (.int 0)).set 2 (.int 0)))), (oRd, .inr (9, xd)), (oG2, .inr (8, xh)), (oRu, .inr (10, xn)), (xn_node, .inl (cI, 501, .inl (fun _ => 0))), (xn_first, .inl (cI, 501, .inl (fun _ => 0))), (xn_next, .inl (cI, 501, .inl (fun _ => 0))), (oWa, .inr (5, xw)), (oR2, .inr (7, xu)), (oAc, .inr (11, xc)), (oR1, .inr (7, xr)), (oP2, .inr (3, xq)), (oSt, .inr (4, xs_)), (xst_position, .inl (cI, 20, .inl (fun _ => 0))), (xst_liquid, .inl (cI, 44, .inl (fun _ => 0))), (xst_amount, .inl (cI, 44, .inl (fun _ => 0))), (xst_last, .inl (cI, 44, .inl (fun _ => 0))), (xst_cleaned, .inl (cI, 264, .inl ((fun _ => (-1))))), (xst_litres, .inl (cJ, 96, .inr (.inl (fun _ => 0)))), (xst_start, .inl (cI, 24, .inl (fun _ => 0))), (xw_taken, .inl (cZ, 24, .inl (fun _ => 0))), (xw_over, .inl (cI, 20, .inl (fun _ => 0)))] := hD
            refine lv_iload_n hx hb d_Bh_end_61 rfl (lv_at hl 0 rfl) ?_
            refine lv_if_eq (tgt := 75) hx hb d_Bh_end_62 (by decide) (fun _ => ?_) (fun h => absurd (by decide) h)
            refine lv_iconst (v := (-1)) hx hb d_Bh_end_75 (by decide) ?_
            exact W.iret (v := (-1)) hx hb hr (fun t ht hW => ⟨⟨_, (), rfl, (by unfold fn_Bh_end; rw [if_neg h1, if_neg h6, if_neg h10, if_neg h17, if_pos h28]), trivial⟩, hS.F ht⟩) hS.2.2 d_Bh_end_76
          · refine lv_iconst (v := 1) hx hb d_Bh_end_31 (by decide) ?_
            refine lv_goto (tgt := 36) hx hb d_Bh_end_32 (by decide) ?_
            refine lv_istore_n hx hb d_Bh_end_36 rfl hl (by decide) rfl (fun ls hl => ?_)
            have hl : lv_has ls 5 [(3, .int 1), (0, .ref oB), (1, .int kd), (2, .int nn)] := hl
            refine lv_aload_n hx hb d_Bh_end_37 rfl (lv_at hl 1 rfl) ?_
            refine va_get (D := (dC, dI)) (ci := 0) (v := .ref oTp) (C := R_Bh) (T := F_Bh) (N := 16) hx hb hts (fun w h => List.mem_cons_of_mem _ (in_Bh w h)) hown hK.1 hP 0 rfl rfl 0 (by decide) (hts _ (List.mem_cons_of_mem _ mw_684)) (fun _ h9 => h9) hb_tape d_Bh_end_38 ?_
            refine lv_iconst (v := 0) hx hb d_Bh_end_41 (by decide) ?_
            refine va_put (D := (dC, dI)) (ci := 1) (v := .int 0) (ty := .int) (C := R_Tp) (T := F_Tp) (N := 3) hx hb hts (fun w h => List.mem_cons_of_mem _ (in_Tp w h)) t_Tp t_Tp_ok n_Tp hown hK.1 hP hD hS 1 rfl rfl 1 (by decide) (hts _ (List.mem_cons_of_mem _ mw_40)) (fun _ h9 => h9) rfl (by decide +kernel) rfl rfl (st_lt htp_length) d_Bh_end_42 (fun H locs hP hD hS => ?_)
            have g42_2 : fx (xt.set 1 (.int 0)) 2 (.int 0) := (st_ne htp_end (by decide))
            have g42_1 : fx (xt.set 1 (.int 0)) 1 (.int 0) := (st_eq htp_length)
            have hP : va_P (dC, dI) classes [(oB, .inr (0, xb)), (oTp, .inr (1, (xt.set 1 (.int 0)))), (oRd, .inr (9, xd)), (oG2, .inr (8, xh)), (oRu, .inr (10, xn)), (xn_node, .inl (cI, 501, .inl (fun _ => 0))), (xn_first, .inl (cI, 501, .inl (fun _ => 0))), (xn_next, .inl (cI, 501, .inl (fun _ => 0))), (oWa, .inr (5, xw)), (oR2, .inr (7, xu)), (oAc, .inr (11, xc)), (oR1, .inr (7, xr)), (oP2, .inr (3, xq)), (oSt, .inr (4, xs_)), (xst_position, .inl (cI, 20, .inl (fun _ => 0))), (xst_liquid, .inl (cI, 44, .inl (fun _ => 0))), (xst_amount, .inl (cI, 44, .inl (fun _ => 0))), (xst_last, .inl (cI, 44, .inl (fun _ => 0))), (xst_cleaned, .inl (cI, 264, .inl ((fun _ => (-1))))), (xst_litres, .inl (cJ, 96, .inr (.inl (fun _ => 0)))), (xst_start, .inl (cI, 24, .inl (fun _ => 0))), (xw_taken, .inl (cZ, 24, .inl (fun _ => 0))), (xw_over, .inl (cI, 20, .inl (fun _ => 0)))] H := hP
            have hD : va_D A [(oB, .inr (0, xb)), (oTp, .inr (1, (xt.set 1 (.int 0)))), (oRd, .inr (9, xd)), (oG2, .inr (8, xh)), (oRu, .inr (10, xn)), (xn_node, .inl (cI, 501, .inl (fun _ => 0))), (xn_first, .inl (cI, 501, .inl (fun _ => 0))), (xn_next, .inl (cI, 501, .inl (fun _ => 0))), (oWa, .inr (5, xw)), (oR2, .inr (7, xu)), (oAc, .inr (11, xc)), (oR1, .inr (7, xr)), (oP2, .inr (3, xq)), (oSt, .inr (4, xs_)), (xst_position, .inl (cI, 20, .inl (fun _ => 0))), (xst_liquid, .inl (cI, 44, .inl (fun _ => 0))), (xst_amount, .inl (cI, 44, .inl (fun _ => 0))), (xst_last, .inl (cI, 44, .inl (fun _ => 0))), (xst_cleaned, .inl (cI, 264, .inl ((fun _ => (-1))))), (xst_litres, .inl (cJ, 96, .inr (.inl (fun _ => 0)))), (xst_start, .inl (cI, 24, .inl (fun _ => 0))), (xw_taken, .inl (cZ, 24, .inl (fun _ => 0))), (xw_over, .inl (cI, 20, .inl (fun _ => 0)))] := hD
            refine lv_aload_n hx hb d_Bh_end_45 rfl (lv_at hl 1 rfl) ?_
            refine va_get (D := (dC, dI)) (ci := 0) (v := .ref oTp) (C := R_Bh) (T := F_Bh) (N := 16) hx hb hts (fun w h => List.mem_cons_of_mem _ (in_Bh w h)) hown hK.1 hP 0 rfl rfl 0 (by decide) (hts _ (List.mem_cons_of_mem _ mw_684)) (fun _ h9 => h9) hb_tape d_Bh_end_46 ?_
            refine lv_iload_n hx hb d_Bh_end_49 rfl (lv_at hl 0 rfl) ?_
            refine lv_if_eq (tgt := 57) hx hb d_Bh_end_50 (by decide) (fun h => absurd h (by decide)) (fun _ => ?_)
            refine lv_iload_n hx hb d_Bh_end_53 rfl (lv_at hl 3 rfl) ?_
            refine lv_goto (tgt := 58) hx hb d_Bh_end_54 (by decide) ?_
            refine va_put (D := (dC, dI)) (ci := 1) (v := .int nn) (ty := .int) (C := R_Tp) (T := F_Tp) (N := 3) hx hb hts (fun w h => List.mem_cons_of_mem _ (in_Tp w h)) t_Tp t_Tp_ok n_Tp hown hK.1 hP hD hS 1 rfl rfl 2 (by decide) (hts _ (List.mem_cons_of_mem _ mw_42)) (fun _ h9 => h9) rfl (by decide +kernel) rfl rfl (st_lt g42_2) d_Bh_end_58 (fun H locs hP hD hS => ?_)
            have g58_2 : fx ((xt.set 1 (.int 0)).set 2 (.int nn)) 2 (.int nn) := (st_eq g42_2)
            have g58_1 : fx ((xt.set 1 (.int 0)).set 2 (.int nn)) 1 (.int 0) := (st_ne g42_1 (by decide))
            have hP : va_P (dC, dI) classes [(oB, .inr (0, xb)), (oTp, .inr (1, ((xt.set 1 (.int 0)).set 2 (.int nn)))), (oRd, .inr (9, xd)), (oG2, .inr (8, xh)), (oRu, .inr (10, xn)), (xn_node, .inl (cI, 501, .inl (fun _ => 0))), (xn_first, .inl (cI, 501, .inl (fun _ => 0))), (xn_next, .inl (cI, 501, .inl (fun _ => 0))), (oWa, .inr (5, xw)), (oR2, .inr (7, xu)), (oAc, .inr (11, xc)), (oR1, .inr (7, xr)), (oP2, .inr (3, xq)), (oSt, .inr (4, xs_)), (xst_position, .inl (cI, 20, .inl (fun _ => 0))), (xst_liquid, .inl (cI, 44, .inl (fun _ => 0))), (xst_amount, .inl (cI, 44, .inl (fun _ => 0))), (xst_last, .inl (cI, 44, .inl (fun _ => 0))), (xst_cleaned, .inl (cI, 264, .inl ((fun _ => (-1))))), (xst_litres, .inl (cJ, 96, .inr (.inl (fun _ => 0)))), (xst_start, .inl (cI, 24, .inl (fun _ => 0))), (xw_taken, .inl (cZ, 24, .inl (fun _ => 0))), (xw_over, .inl (cI, 20, .inl (fun _ => 0)))] H := hP
            have hD : va_D A [(oB, .inr (0, xb)), (oTp, .inr (1, ((xt.set 1 (.int 0)).set 2 (.int nn)))), (oRd, .inr (9, xd)), (oG2, .inr (8, xh)), (oRu, .inr (10, xn)), (xn_node, .inl (cI, 501, .inl (fun _ => 0))), (xn_first, .inl (cI, 501, .inl (fun _ => 0))), (xn_next, .inl (cI, 501, .inl (fun _ => 0))), (oWa, .inr (5, xw)), (oR2, .inr (7, xu)), (oAc, .inr (11, xc)), (oR1, .inr (7, xr)), (oP2, .inr (3, xq)), (oSt, .inr (4, xs_)), (xst_position, .inl (cI, 20, .inl (fun _ => 0))), (xst_liquid, .inl (cI, 44, .inl (fun _ => 0))), (xst_amount, .inl (cI, 44, .inl (fun _ => 0))), (xst_last, .inl (cI, 44, .inl (fun _ => 0))), (xst_cleaned, .inl (cI, 264, .inl ((fun _ => (-1))))), (xst_litres, .inl (cJ, 96, .inr (.inl (fun _ => 0)))), (xst_start, .inl (cI, 24, .inl (fun _ => 0))), (xw_taken, .inl (cZ, 24, .inl (fun _ => 0))), (xw_over, .inl (cI, 20, .inl (fun _ => 0)))] := hD
            refine lv_iload_n hx hb d_Bh_end_61 rfl (lv_at hl 0 rfl) ?_
            refine lv_if_eq (tgt := 75) hx hb d_Bh_end_62 (by decide) (fun h => absurd h (by decide)) (fun _ => ?_)
            refine lv_aload_n hx hb d_Bh_end_65 rfl (lv_at hl 1 rfl) ?_
            refine va_get (D := (dC, dI)) (ci := 0) (v := .ref oTp) (C := R_Bh) (T := F_Bh) (N := 16) hx hb hts (fun w h => List.mem_cons_of_mem _ (in_Bh w h)) hown hK.1 hP 0 rfl rfl 0 (by decide) (hts _ (List.mem_cons_of_mem _ mw_684)) (fun _ h9 => h9) hb_tape d_Bh_end_66 ?_
            have hPc := hP.sub (ws' := [(oTp, .inr (1, ((xt.set 1 (.int 0)).set 2 (.int nn))))]) [1] rfl
            have hDc := hD.sub (ws' := [(oTp, .inr (1, ((xt.set 1 (.int 0)).set 2 (.int nn))))]) [1] (by decide) rfl
            have hFc := pu_free hS hA
            refine va_calli (va_runV (C := R_Tp) (As := []) (rest := []) ⟨hx, hb, hml, hown, hts⟩ (c_Tp_isText l dC dI cI cB cZ cJ nn h28 oTp (((xt.set 1 (.int 0)).set 2 (.int nn))) g58_2 H.size) (cwV 0 hts (tb_V mw_749 mw_750 mw_751 mw_2 mw_752) rfl rfl rfl ⟨rfl, by decide +kernel, by decide +kernel, by decide +kernel⟩ ⟨(Nat.le_of_ble_eq_true rfl), (Nat.le_of_ble_eq_true rfl)⟩) ⟨pw_blind, va_recv (q := (R_Tp, F_Tp, 3)) hK.1 hP (ci := 1) (q0 := 1) rfl rfl, pw_pre hPc hK hDc⟩ rfl rfl hl.1 rfl (lv_room (Nat.le_of_ble_eq_true rfl)) d_Bh_end_69 ⟨(Nat.le_of_ble_eq_true rfl), (Nat.le_of_ble_eq_true rfl)⟩) hS (fun q _ h => hFc q h) hFc (fun r u t H locs ht hvm hw hB hz1 hk1 hS => ?_)
            have hP := pu_kept hP hk1
            obtain rfl : r = 1 := hw
            refine lv_if_ne (tgt := 77) hx hb d_Bh_end_72 (by decide) (fun _ => ?_) (fun h => absurd h (by decide))
            refine lv_iload_n hx hb d_Bh_end_77 rfl (lv_at hl 2 rfl) ?_
            refine lv_if_ne (tgt := 95) hx hb d_Bh_end_78 (by decide) (fun h78 => ?_) (fun h78 => ?_)
            · refine lv_iload_n hx hb d_Bh_end_95 rfl (lv_at hl 2 rfl) ?_
              refine lv_iconst (v := 1) hx hb d_Bh_end_96 (by decide) ?_
              refine lv_icmp_ne (tgt := 114) hx hb d_Bh_end_97 (by decide) (fun h97 => ?_) (fun h97 => ?_)
              · refine lv_aload_n hx hb d_Bh_end_114 rfl (lv_at hl 1 rfl) ?_
                refine va_get (D := (dC, dI)) (ci := 0) (v := .ref oRd) (C := R_Bh) (T := F_Bh) (N := 16) hx hb hts (fun w h => List.mem_cons_of_mem _ (in_Bh w h)) hown hK.1 hP 0 rfl rfl 7 (by decide) (hts _ (List.mem_cons_of_mem _ mw_691)) (fun _ h9 => h9) hb_reader d_Bh_end_115 ?_
                refine lv_aload_n hx hb d_Bh_end_118 rfl (lv_at hl 1 rfl) ?_
                refine va_get (D := (dC, dI)) (ci := 0) (v := .ref oTp) (C := R_Bh) (T := F_Bh) (N := 16) hx hb hts (fun w h => List.mem_cons_of_mem _ (in_Bh w h)) hown hK.1 hP 0 rfl rfl 0 (by decide) (hts _ (List.mem_cons_of_mem _ mw_684)) (fun _ h9 => h9) hb_tape d_Bh_end_119 ?_
                refine lv_aload_n hx hb d_Bh_end_122 rfl (lv_at hl 1 rfl) ?_
                refine va_get (D := (dC, dI)) (ci := 0) (v := .ref oG2) (C := R_Bh) (T := F_Bh) (N := 16) hx hb hts (fun w h => List.mem_cons_of_mem _ (in_Bh w h)) hown hK.1 hP 0 rfl rfl 10 (by decide) (hts _ (List.mem_cons_of_mem _ mw_694)) (fun _ h9 => h9) hb_spareProgram d_Bh_end_123 ?_
                have hPc := hP.sub (ws' := [(oRd, .inr (9, xd)), (oG2, .inr (8, xh)), (oTp, .inr (1, ((xt.set 1 (.int 0)).set 2 (.int nn))))]) [2, 3, 1] rfl
                have hDc := hD.sub (ws' := [(oRd, .inr (9, xd)), (oG2, .inr (8, xh)), (oTp, .inr (1, ((xt.set 1 (.int 0)).set 2 (.int nn))))]) [2, 3, 1] (by decide) rfl
                have hFc := va_free (wc := [(oRd, .inr (9, xd)), (oG2, .inr (8, xh)), (oTp, .inr (1, ((xt.set 1 (.int 0)).set 2 (.int nn))))]) hD hS hA [2, 3, 1] rfl
                refine va_calli (va_runV (C := R_Rd) (As := [.ref oTp, .ref oG2]) (rest := []) ⟨hx, hb, hml, hown, hts⟩ (c_Rd_read l dC dI cI cB cZ cJ nn h28 oRd oG2 oTp xd hrd_tape hrd_program hrd_at hrd_word hrd_place hrd_open hrd_wrong xh hxh_statements hxh_nodes hxh_opening hxh_names (((xt.set 1 (.int 0)).set 2 (.int nn))) g58_2 H.size) (cwV 2 hts (tb_V mw_879 mw_880 mw_881 mw_13 mw_882) rfl rfl rfl ⟨rfl, by decide +kernel, by decide +kernel, by decide +kernel⟩ ⟨(Nat.le_of_ble_eq_true rfl), (Nat.le_of_ble_eq_true rfl)⟩) ⟨pw_blind, va_recv (q := (R_Rd, F_Rd, 13)) hK.1 hP (ci := 9) (q0 := 2) rfl rfl, pw_pre hPc hK hDc⟩ rfl rfl hl.1 rfl (lv_room (Nat.le_of_ble_eq_true rfl)) d_Bh_end_126 ⟨(Nat.le_of_ble_eq_true rfl), (Nat.le_of_ble_eq_true rfl)⟩) hS (fun q _ h => hFc q h) hFc (fun r u t H locs ht hvm hw hB hz1 hk1 hS => ?_)
                obtain ⟨s126_10_oRd, k126_10_oRd_0, k126_10_oRd_1, k126_10_oRd_2, k126_10_oRd_3, k126_10_oRd_4, k126_10_oRd_9, k126_10_oG2_0, k126_10_oG2_1, k126_10_oG2_2, k126_10_oG2_10, k126_10_oTp_2, hP1, hD1⟩ := hB
                rw [ht] at hP1
                obtain ⟨hP, hD⟩ := va_join (wr := [(oB, .inr (0, xb)), (oRu, .inr (10, xn)), (xn_node, .inl (cI, 501, .inl (fun _ => 0))), (xn_first, .inl (cI, 501, .inl (fun _ => 0))), (xn_next, .inl (cI, 501, .inl (fun _ => 0))), (oWa, .inr (5, xw)), (oR2, .inr (7, xu)), (oAc, .inr (11, xc)), (oR1, .inr (7, xr)), (oP2, .inr (3, xq)), (oSt, .inr (4, xs_)), (xst_position, .inl (cI, 20, .inl (fun _ => 0))), (xst_liquid, .inl (cI, 44, .inl (fun _ => 0))), (xst_amount, .inl (cI, 44, .inl (fun _ => 0))), (xst_last, .inl (cI, 44, .inl (fun _ => 0))), (xst_cleaned, .inl (cI, 264, .inl ((fun _ => (-1))))), (xst_litres, .inl (cJ, 96, .inr (.inl (fun _ => 0)))), (xst_start, .inl (cI, 24, .inl (fun _ => 0))), (xw_taken, .inl (cZ, 24, .inl (fun _ => 0))), (xw_over, .inl (cI, 20, .inl (fun _ => 0)))]) (w1 := [(oRd, .inr (9, s126_10_oRd)), (oG2, .inr (8, xh)), (oTp, .inr (1, ((xt.set 1 (.int 0)).set 2 (.int nn))))]) hP hD [2, 3, 1] [0, 4, 5, 6, 7, 8, 9, 10, 11, 12, 13, 14, 15, 16, 17, 18, 19, 20, 21, 22] rfl rfl (by decide) (by decide) hk1 hFc hP1 hD1
                have hP : va_P (dC, dI) classes [(oB, .inr (0, xb)), (oRu, .inr (10, xn)), (xn_node, .inl (cI, 501, .inl (fun _ => 0))), (xn_first, .inl (cI, 501, .inl (fun _ => 0))), (xn_next, .inl (cI, 501, .inl (fun _ => 0))), (oWa, .inr (5, xw)), (oR2, .inr (7, xu)), (oAc, .inr (11, xc)), (oR1, .inr (7, xr)), (oP2, .inr (3, xq)), (oSt, .inr (4, xs_)), (xst_position, .inl (cI, 20, .inl (fun _ => 0))), (xst_liquid, .inl (cI, 44, .inl (fun _ => 0))), (xst_amount, .inl (cI, 44, .inl (fun _ => 0))), (xst_last, .inl (cI, 44, .inl (fun _ => 0))), (xst_cleaned, .inl (cI, 264, .inl ((fun _ => (-1))))), (xst_litres, .inl (cJ, 96, .inr (.inl (fun _ => 0)))), (xst_start, .inl (cI, 24, .inl (fun _ => 0))), (xw_taken, .inl (cZ, 24, .inl (fun _ => 0))), (xw_over, .inl (cI, 20, .inl (fun _ => 0))), (oRd, .inr (9, s126_10_oRd)), (oG2, .inr (8, xh)), (oTp, .inr (1, ((xt.set 1 (.int 0)).set 2 (.int nn))))] H := hP
                have hD : va_D A [(oB, .inr (0, xb)), (oRu, .inr (10, xn)), (xn_node, .inl (cI, 501, .inl (fun _ => 0))), (xn_first, .inl (cI, 501, .inl (fun _ => 0))), (xn_next, .inl (cI, 501, .inl (fun _ => 0))), (oWa, .inr (5, xw)), (oR2, .inr (7, xu)), (oAc, .inr (11, xc)), (oR1, .inr (7, xr)), (oP2, .inr (3, xq)), (oSt, .inr (4, xs_)), (xst_position, .inl (cI, 20, .inl (fun _ => 0))), (xst_liquid, .inl (cI, 44, .inl (fun _ => 0))), (xst_amount, .inl (cI, 44, .inl (fun _ => 0))), (xst_last, .inl (cI, 44, .inl (fun _ => 0))), (xst_cleaned, .inl (cI, 264, .inl ((fun _ => (-1))))), (xst_litres, .inl (cJ, 96, .inr (.inl (fun _ => 0)))), (xst_start, .inl (cI, 24, .inl (fun _ => 0))), (xw_taken, .inl (cZ, 24, .inl (fun _ => 0))), (xw_over, .inl (cI, 20, .inl (fun _ => 0))), (oRd, .inr (9, s126_10_oRd)), (oG2, .inr (8, xh)), (oTp, .inr (1, ((xt.set 1 (.int 0)).set 2 (.int nn))))] := hD
                obtain rfl : r = (-1) := hw
                refine lv_istore hx hb d_Bh_end_129 hl (by decide) rfl (fun ls hl => ?_)
                have hl : lv_has ls 5 [(4, .int (-1)), (3, .int 1), (0, .ref oB), (1, .int kd), (2, .int nn)] := hl
                refine lv_iload hx hb d_Bh_end_131 (lv_at hl 0 rfl) ?_
                refine lv_if_lt (tgt := 142) hx hb d_Bh_end_133 (by decide) (fun _ => ?_) (fun h => absurd (by decide) h)
                refine lv_iload_n hx hb d_Bh_end_142 rfl (lv_at hl 3 rfl) ?_
                refine lv_if_ne (tgt := 153) hx hb d_Bh_end_143 (by decide) (fun _ => ?_) (fun h => absurd h h78)
                refine lv_iload_n hx hb d_Bh_end_153 rfl (lv_at hl 3 rfl) ?_
                refine lv_iconst (v := 1) hx hb d_Bh_end_154 (by decide) ?_
                refine lv_icmp_ne (tgt := 165) hx hb d_Bh_end_155 (by decide) (fun _ => ?_) (fun h => absurd h h97)
                refine lv_aload_n hx hb d_Bh_end_165 rfl (lv_at hl 2 rfl) ?_
                have hPc := hP.sub (ws' := [(oB, .inr (0, xb)), (oRu, .inr (10, xn)), (xn_node, .inl (cI, 501, .inl (fun _ => 0))), (oG2, .inr (8, xh)), (xn_first, .inl (cI, 501, .inl (fun _ => 0))), (xn_next, .inl (cI, 501, .inl (fun _ => 0))), (oWa, .inr (5, xw))]) [0, 1, 2, 21, 3, 4, 5] rfl
                have hDc := hD.sub (ws' := [(oB, .inr (0, xb)), (oRu, .inr (10, xn)), (xn_node, .inl (cI, 501, .inl (fun _ => 0))), (oG2, .inr (8, xh)), (xn_first, .inl (cI, 501, .inl (fun _ => 0))), (xn_next, .inl (cI, 501, .inl (fun _ => 0))), (oWa, .inr (5, xw))]) [0, 1, 2, 21, 3, 4, 5] (by decide) rfl
                have hFc := va_free (wc := [(oB, .inr (0, xb)), (oRu, .inr (10, xn)), (xn_node, .inl (cI, 501, .inl (fun _ => 0))), (oG2, .inr (8, xh)), (xn_first, .inl (cI, 501, .inl (fun _ => 0))), (xn_next, .inl (cI, 501, .inl (fun _ => 0))), (oWa, .inr (5, xw))]) hD hS hA [0, 1, 2, 21, 3, 4, 5] rfl
                refine va_calli (va_runV (C := R_Bh) (As := []) (rest := []) ⟨hx, hb, hml, hown, hts⟩ (c_Bh_takeProgram l dC dI cI cB cZ cJ oB oRu xn_node oG2 xn_first xn_next oWa oG1 xb hb_ways hb_run hb_spareProgram xn hru_program hru_state hru_parts hru_node hru_first hru_next xh hxh_statements hxh_opening xw hwa_count H.size) (cwV 0 hts (tb_V mw_1047 mw_1049 sl_44 mw_1 mw_1050) rfl rfl rfl ⟨rfl, by decide +kernel, by decide +kernel, by decide +kernel⟩ ⟨(Nat.le_of_ble_eq_true rfl), (Nat.le_of_ble_eq_true rfl)⟩) ⟨pw_blind, va_recv (q := (R_Bh, F_Bh, 16)) hK.1 hP (ci := 0) (q0 := 0) rfl rfl, pw_pre hPc hK hDc⟩ rfl rfl hl.1 rfl (lv_room (Nat.le_of_ble_eq_true rfl)) d_Bh_end_166 ⟨(Nat.le_of_ble_eq_true rfl), (Nat.le_of_ble_eq_true rfl)⟩) hS (fun q _ h => hFc q h) hFc (fun r u t H locs ht hvm hw hB hz1 hk1 hS => ?_)
                obtain ⟨hP, hD⟩ := va_join (wr := [(oR2, .inr (7, xu)), (oAc, .inr (11, xc)), (oR1, .inr (7, xr)), (oP2, .inr (3, xq)), (oSt, .inr (4, xs_)), (xst_position, .inl (cI, 20, .inl (fun _ => 0))), (xst_liquid, .inl (cI, 44, .inl (fun _ => 0))), (xst_amount, .inl (cI, 44, .inl (fun _ => 0))), (xst_last, .inl (cI, 44, .inl (fun _ => 0))), (xst_cleaned, .inl (cI, 264, .inl ((fun _ => (-1))))), (xst_litres, .inl (cJ, 96, .inr (.inl (fun _ => 0)))), (xst_start, .inl (cI, 24, .inl (fun _ => 0))), (xw_taken, .inl (cZ, 24, .inl (fun _ => 0))), (xw_over, .inl (cI, 20, .inl (fun _ => 0))), (oRd, .inr (9, s126_10_oRd)), (oTp, .inr (1, ((xt.set 1 (.int 0)).set 2 (.int nn))))]) (w1 := []) hP hD [0, 1, 2, 21, 3, 4, 5] [6, 7, 8, 9, 10, 11, 12, 13, 14, 15, 16, 17, 18, 19, 20, 22] rfl rfl (by decide) (by decide) hk1 hFc wn_P wn_D
                have hP : va_P (dC, dI) classes [(oR2, .inr (7, xu)), (oAc, .inr (11, xc)), (oR1, .inr (7, xr)), (oP2, .inr (3, xq)), (oSt, .inr (4, xs_)), (xst_position, .inl (cI, 20, .inl (fun _ => 0))), (xst_liquid, .inl (cI, 44, .inl (fun _ => 0))), (xst_amount, .inl (cI, 44, .inl (fun _ => 0))), (xst_last, .inl (cI, 44, .inl (fun _ => 0))), (xst_cleaned, .inl (cI, 264, .inl ((fun _ => (-1))))), (xst_litres, .inl (cJ, 96, .inr (.inl (fun _ => 0)))), (xst_start, .inl (cI, 24, .inl (fun _ => 0))), (xw_taken, .inl (cZ, 24, .inl (fun _ => 0))), (xw_over, .inl (cI, 20, .inl (fun _ => 0))), (oRd, .inr (9, s126_10_oRd)), (oTp, .inr (1, ((xt.set 1 (.int 0)).set 2 (.int nn))))] H := hP
                have hD : va_D A [(oR2, .inr (7, xu)), (oAc, .inr (11, xc)), (oR1, .inr (7, xr)), (oP2, .inr (3, xq)), (oSt, .inr (4, xs_)), (xst_position, .inl (cI, 20, .inl (fun _ => 0))), (xst_liquid, .inl (cI, 44, .inl (fun _ => 0))), (xst_amount, .inl (cI, 44, .inl (fun _ => 0))), (xst_last, .inl (cI, 44, .inl (fun _ => 0))), (xst_cleaned, .inl (cI, 264, .inl ((fun _ => (-1))))), (xst_litres, .inl (cJ, 96, .inr (.inl (fun _ => 0)))), (xst_start, .inl (cI, 24, .inl (fun _ => 0))), (xw_taken, .inl (cZ, 24, .inl (fun _ => 0))), (xw_over, .inl (cI, 20, .inl (fun _ => 0))), (oRd, .inr (9, s126_10_oRd)), (oTp, .inr (1, ((xt.set 1 (.int 0)).set 2 (.int nn))))] := hD
                obtain rfl : r = 0 := hw
                exact W.iret (v := 0) hx hb hr (fun t ht hW => ⟨⟨_, (), rfl, (by unfold fn_Bh_end; rw [if_neg h1, if_neg h6, if_neg h10, if_neg h17, if_neg h28, if_neg h78, if_neg h97]), trivial⟩, hS.F ht⟩) hS.2.2 d_Bh_end_169
              · refine lv_aload_n hx hb d_Bh_end_100 rfl (lv_at hl 1 rfl) ?_
                refine va_get (D := (dC, dI)) (ci := 0) (v := .ref oR2) (C := R_Bh) (T := F_Bh) (N := 16) hx hb hts (fun w h => List.mem_cons_of_mem _ (in_Bh w h)) hown hK.1 hP 0 rfl rfl 9 (by decide) (hts _ (List.mem_cons_of_mem _ mw_693)) (fun _ h9 => h9) hb_spareRows d_Bh_end_101 ?_
                refine lv_aload_n hx hb d_Bh_end_104 rfl (lv_at hl 1 rfl) ?_
                refine va_get (D := (dC, dI)) (ci := 0) (v := .ref oTp) (C := R_Bh) (T := F_Bh) (N := 16) hx hb hts (fun w h => List.mem_cons_of_mem _ (in_Bh w h)) hown hK.1 hP 0 rfl rfl 0 (by decide) (hts _ (List.mem_cons_of_mem _ mw_684)) (fun _ h9 => h9) hb_tape d_Bh_end_105 ?_
                have hPc := hP.sub (ws' := [(oR2, .inr (7, xu)), (oTp, .inr (1, ((xt.set 1 (.int 0)).set 2 (.int nn))))]) [9, 1] rfl
                have hDc := hD.sub (ws' := [(oR2, .inr (7, xu)), (oTp, .inr (1, ((xt.set 1 (.int 0)).set 2 (.int nn))))]) [9, 1] (by decide) rfl
                have hFc := va_free (wc := [(oR2, .inr (7, xu)), (oTp, .inr (1, ((xt.set 1 (.int 0)).set 2 (.int nn))))]) hD hS hA [9, 1] rfl
                refine va_calli (va_runV (C := R_Ro) (As := [.ref oTp]) (rest := []) ⟨hx, hb, hml, hown, hts⟩ (c_Ro_read l dC dI cI cB cZ cJ nn h28 oR2 oTp xu hxu_count hxu_conditions hxu_used hxu_tape hxu_wordAt hxu_wordEnd hxu_word hxu_open hxu_wrong (((xt.set 1 (.int 0)).set 2 (.int nn))) g58_2 H.size) (cwV 1 hts (tb_V mw_811 mw_812 mw_813 mw_10 mw_814) rfl rfl rfl ⟨rfl, by decide +kernel, by decide +kernel, by decide +kernel⟩ ⟨(Nat.le_of_ble_eq_true rfl), (Nat.le_of_ble_eq_true rfl)⟩) ⟨pw_blind, va_recv (q := (R_Ro, F_Ro, 18)) hK.1 hP (ci := 7) (q0 := 9) rfl rfl, pw_pre hPc hK hDc⟩ rfl rfl hl.1 rfl (lv_room (Nat.le_of_ble_eq_true rfl)) d_Bh_end_108 ⟨(Nat.le_of_ble_eq_true rfl), (Nat.le_of_ble_eq_true rfl)⟩) hS (fun q _ h => hFc q h) hFc (fun r u t H locs ht hvm hw hB hz1 hk1 hS => ?_)
                obtain ⟨s108_10_oR2, k108_10_oR2_0, k108_10_oR2_1, k108_10_oR2_11, k108_10_oR2_12, k108_10_oR2_13, k108_10_oR2_14, k108_10_oR2_17, k108_10_oTp_2, hP1, hD1⟩ := hB
                rw [ht] at hP1
                obtain ⟨hP, hD⟩ := va_join (wr := [(oB, .inr (0, xb)), (oRd, .inr (9, xd)), (oG2, .inr (8, xh)), (oRu, .inr (10, xn)), (xn_node, .inl (cI, 501, .inl (fun _ => 0))), (xn_first, .inl (cI, 501, .inl (fun _ => 0))), (xn_next, .inl (cI, 501, .inl (fun _ => 0))), (oWa, .inr (5, xw)), (oAc, .inr (11, xc)), (oR1, .inr (7, xr)), (oP2, .inr (3, xq)), (oSt, .inr (4, xs_)), (xst_position, .inl (cI, 20, .inl (fun _ => 0))), (xst_liquid, .inl (cI, 44, .inl (fun _ => 0))), (xst_amount, .inl (cI, 44, .inl (fun _ => 0))), (xst_last, .inl (cI, 44, .inl (fun _ => 0))), (xst_cleaned, .inl (cI, 264, .inl ((fun _ => (-1))))), (xst_litres, .inl (cJ, 96, .inr (.inl (fun _ => 0)))), (xst_start, .inl (cI, 24, .inl (fun _ => 0))), (xw_taken, .inl (cZ, 24, .inl (fun _ => 0))), (xw_over, .inl (cI, 20, .inl (fun _ => 0)))]) (w1 := [(oR2, .inr (7, s108_10_oR2)), (oTp, .inr (1, ((xt.set 1 (.int 0)).set 2 (.int nn))))]) hP hD [9, 1] [0, 2, 3, 4, 5, 6, 7, 8, 10, 11, 12, 13, 14, 15, 16, 17, 18, 19, 20, 21, 22] rfl rfl (by decide) (by decide) hk1 hFc hP1 hD1
                have hP : va_P (dC, dI) classes [(oB, .inr (0, xb)), (oRd, .inr (9, xd)), (oG2, .inr (8, xh)), (oRu, .inr (10, xn)), (xn_node, .inl (cI, 501, .inl (fun _ => 0))), (xn_first, .inl (cI, 501, .inl (fun _ => 0))), (xn_next, .inl (cI, 501, .inl (fun _ => 0))), (oWa, .inr (5, xw)), (oAc, .inr (11, xc)), (oR1, .inr (7, xr)), (oP2, .inr (3, xq)), (oSt, .inr (4, xs_)), (xst_position, .inl (cI, 20, .inl (fun _ => 0))), (xst_liquid, .inl (cI, 44, .inl (fun _ => 0))), (xst_amount, .inl (cI, 44, .inl (fun _ => 0))), (xst_last, .inl (cI, 44, .inl (fun _ => 0))), (xst_cleaned, .inl (cI, 264, .inl ((fun _ => (-1))))), (xst_litres, .inl (cJ, 96, .inr (.inl (fun _ => 0)))), (xst_start, .inl (cI, 24, .inl (fun _ => 0))), (xw_taken, .inl (cZ, 24, .inl (fun _ => 0))), (xw_over, .inl (cI, 20, .inl (fun _ => 0))), (oR2, .inr (7, s108_10_oR2)), (oTp, .inr (1, ((xt.set 1 (.int 0)).set 2 (.int nn))))] H := hP
                have hD : va_D A [(oB, .inr (0, xb)), (oRd, .inr (9, xd)), (oG2, .inr (8, xh)), (oRu, .inr (10, xn)), (xn_node, .inl (cI, 501, .inl (fun _ => 0))), (xn_first, .inl (cI, 501, .inl (fun _ => 0))), (xn_next, .inl (cI, 501, .inl (fun _ => 0))), (oWa, .inr (5, xw)), (oAc, .inr (11, xc)), (oR1, .inr (7, xr)), (oP2, .inr (3, xq)), (oSt, .inr (4, xs_)), (xst_position, .inl (cI, 20, .inl (fun _ => 0))), (xst_liquid, .inl (cI, 44, .inl (fun _ => 0))), (xst_amount, .inl (cI, 44, .inl (fun _ => 0))), (xst_last, .inl (cI, 44, .inl (fun _ => 0))), (xst_cleaned, .inl (cI, 264, .inl ((fun _ => (-1))))), (xst_litres, .inl (cJ, 96, .inr (.inl (fun _ => 0)))), (xst_start, .inl (cI, 24, .inl (fun _ => 0))), (xw_taken, .inl (cZ, 24, .inl (fun _ => 0))), (xw_over, .inl (cI, 20, .inl (fun _ => 0))), (oR2, .inr (7, s108_10_oR2)), (oTp, .inr (1, ((xt.set 1 (.int 0)).set 2 (.int nn))))] := hD
                obtain rfl : r = (-1) := hw
                refine lv_goto (tgt := 129) hx hb d_Bh_end_111 (by decide) ?_
                refine lv_istore hx hb d_Bh_end_129 hl (by decide) rfl (fun ls hl => ?_)
                have hl : lv_has ls 5 [(4, .int (-1)), (3, .int 1), (0, .ref oB), (1, .int kd), (2, .int nn)] := hl
                refine lv_iload hx hb d_Bh_end_131 (lv_at hl 0 rfl) ?_
                refine lv_if_lt (tgt := 142) hx hb d_Bh_end_133 (by decide) (fun _ => ?_) (fun h => absurd (by decide) h)
                refine lv_iload_n hx hb d_Bh_end_142 rfl (lv_at hl 3 rfl) ?_
                refine lv_if_ne (tgt := 153) hx hb d_Bh_end_143 (by decide) (fun _ => ?_) (fun h => absurd h h78)
                refine lv_iload_n hx hb d_Bh_end_153 rfl (lv_at hl 3 rfl) ?_
                refine lv_iconst (v := 1) hx hb d_Bh_end_154 (by decide) ?_
                refine lv_icmp_ne (tgt := 165) hx hb d_Bh_end_155 (by decide) (fun h => absurd h97 h) (fun _ => ?_)
                refine lv_aload_n hx hb d_Bh_end_158 rfl (lv_at hl 2 rfl) ?_
                have hPc := hP.sub (ws' := [(oB, .inr (0, xb)), (oAc, .inr (11, xc)), (oR1, .inr (7, xr)), (oR2, .inr (7, s108_10_oR2))]) [0, 8, 9, 21] rfl
                have hDc := hD.sub (ws' := [(oB, .inr (0, xb)), (oAc, .inr (11, xc)), (oR1, .inr (7, xr)), (oR2, .inr (7, s108_10_oR2))]) [0, 8, 9, 21] (by decide) rfl
                have hFc := va_free (wc := [(oB, .inr (0, xb)), (oAc, .inr (11, xc)), (oR1, .inr (7, xr)), (oR2, .inr (7, s108_10_oR2))]) hD hS hA [0, 8, 9, 21] rfl
                refine va_calli (va_runV (C := R_Bh) (As := []) (rest := []) ⟨hx, hb, hml, hown, hts⟩ (c_Bh_takeRows l dC dI cI cB cZ cJ oB oAc oR1 oR2 xb hb_acts hb_spareRows xc hac_rows xr hxr_conditions s108_10_oR2 k108_10_oR2_0 k108_10_oR2_1 H.size) (cwV 0 hts (tb_V mw_1043 mw_1045 sl_43 mw_1 mw_1046) rfl rfl rfl ⟨rfl, by decide +kernel, by decide +kernel, by decide +kernel⟩ ⟨(Nat.le_of_ble_eq_true rfl), (Nat.le_of_ble_eq_true rfl)⟩) ⟨pw_blind, va_recv (q := (R_Bh, F_Bh, 16)) hK.1 hP (ci := 0) (q0 := 0) rfl rfl, pw_pre hPc hK hDc⟩ rfl rfl hl.1 rfl (lv_room (Nat.le_of_ble_eq_true rfl)) d_Bh_end_159 ⟨(Nat.le_of_ble_eq_true rfl), (Nat.le_of_ble_eq_true rfl)⟩) hS (fun q _ h => hFc q h) hFc (fun r u t H locs ht hvm hw hB hz1 hk1 hS => ?_)
                obtain ⟨hP, hD⟩ := va_join (wr := [(oRd, .inr (9, xd)), (oG2, .inr (8, xh)), (oRu, .inr (10, xn)), (xn_node, .inl (cI, 501, .inl (fun _ => 0))), (xn_first, .inl (cI, 501, .inl (fun _ => 0))), (xn_next, .inl (cI, 501, .inl (fun _ => 0))), (oWa, .inr (5, xw)), (oP2, .inr (3, xq)), (oSt, .inr (4, xs_)), (xst_position, .inl (cI, 20, .inl (fun _ => 0))), (xst_liquid, .inl (cI, 44, .inl (fun _ => 0))), (xst_amount, .inl (cI, 44, .inl (fun _ => 0))), (xst_last, .inl (cI, 44, .inl (fun _ => 0))), (xst_cleaned, .inl (cI, 264, .inl ((fun _ => (-1))))), (xst_litres, .inl (cJ, 96, .inr (.inl (fun _ => 0)))), (xst_start, .inl (cI, 24, .inl (fun _ => 0))), (xw_taken, .inl (cZ, 24, .inl (fun _ => 0))), (xw_over, .inl (cI, 20, .inl (fun _ => 0))), (oTp, .inr (1, ((xt.set 1 (.int 0)).set 2 (.int nn))))]) (w1 := []) hP hD [0, 8, 9, 21] [1, 2, 3, 4, 5, 6, 7, 10, 11, 12, 13, 14, 15, 16, 17, 18, 19, 20, 22] rfl rfl (by decide) (by decide) hk1 hFc wn_P wn_D
                have hP : va_P (dC, dI) classes [(oRd, .inr (9, xd)), (oG2, .inr (8, xh)), (oRu, .inr (10, xn)), (xn_node, .inl (cI, 501, .inl (fun _ => 0))), (xn_first, .inl (cI, 501, .inl (fun _ => 0))), (xn_next, .inl (cI, 501, .inl (fun _ => 0))), (oWa, .inr (5, xw)), (oP2, .inr (3, xq)), (oSt, .inr (4, xs_)), (xst_position, .inl (cI, 20, .inl (fun _ => 0))), (xst_liquid, .inl (cI, 44, .inl (fun _ => 0))), (xst_amount, .inl (cI, 44, .inl (fun _ => 0))), (xst_last, .inl (cI, 44, .inl (fun _ => 0))), (xst_cleaned, .inl (cI, 264, .inl ((fun _ => (-1))))), (xst_litres, .inl (cJ, 96, .inr (.inl (fun _ => 0)))), (xst_start, .inl (cI, 24, .inl (fun _ => 0))), (xw_taken, .inl (cZ, 24, .inl (fun _ => 0))), (xw_over, .inl (cI, 20, .inl (fun _ => 0))), (oTp, .inr (1, ((xt.set 1 (.int 0)).set 2 (.int nn))))] H := hP
                have hD : va_D A [(oRd, .inr (9, xd)), (oG2, .inr (8, xh)), (oRu, .inr (10, xn)), (xn_node, .inl (cI, 501, .inl (fun _ => 0))), (xn_first, .inl (cI, 501, .inl (fun _ => 0))), (xn_next, .inl (cI, 501, .inl (fun _ => 0))), (oWa, .inr (5, xw)), (oP2, .inr (3, xq)), (oSt, .inr (4, xs_)), (xst_position, .inl (cI, 20, .inl (fun _ => 0))), (xst_liquid, .inl (cI, 44, .inl (fun _ => 0))), (xst_amount, .inl (cI, 44, .inl (fun _ => 0))), (xst_last, .inl (cI, 44, .inl (fun _ => 0))), (xst_cleaned, .inl (cI, 264, .inl ((fun _ => (-1))))), (xst_litres, .inl (cJ, 96, .inr (.inl (fun _ => 0)))), (xst_start, .inl (cI, 24, .inl (fun _ => 0))), (xw_taken, .inl (cZ, 24, .inl (fun _ => 0))), (xw_over, .inl (cI, 20, .inl (fun _ => 0))), (oTp, .inr (1, ((xt.set 1 (.int 0)).set 2 (.int nn))))] := hD
                obtain rfl : r = 0 := hw
                refine lv_goto (tgt := 169) hx hb d_Bh_end_162 (by decide) ?_
                exact W.iret (v := 0) hx hb hr (fun t ht hW => ⟨⟨_, (), rfl, (by unfold fn_Bh_end; rw [if_neg h1, if_neg h6, if_neg h10, if_neg h17, if_neg h28, if_neg h78, if_pos h97]), trivial⟩, hS.F ht⟩) hS.2.2 d_Bh_end_169
            · refine lv_aload_n hx hb d_Bh_end_81 rfl (lv_at hl 1 rfl) ?_
              refine va_get (D := (dC, dI)) (ci := 0) (v := .ref oP2) (C := R_Bh) (T := F_Bh) (N := 16) hx hb hts (fun w h => List.mem_cons_of_mem _ (in_Bh w h)) hown hK.1 hP 0 rfl rfl 8 (by decide) (hts _ (List.mem_cons_of_mem _ mw_692)) (fun _ h9 => h9) hb_sparePlant d_Bh_end_82 ?_
              refine lv_aload_n hx hb d_Bh_end_85 rfl (lv_at hl 1 rfl) ?_
              refine va_get (D := (dC, dI)) (ci := 0) (v := .ref oTp) (C := R_Bh) (T := F_Bh) (N := 16) hx hb hts (fun w h => List.mem_cons_of_mem _ (in_Bh w h)) hown hK.1 hP 0 rfl rfl 0 (by decide) (hts _ (List.mem_cons_of_mem _ mw_684)) (fun _ h9 => h9) hb_tape d_Bh_end_86 ?_
              have hPc := hP.sub (ws' := [(oP2, .inr (3, xq)), (oTp, .inr (1, ((xt.set 1 (.int 0)).set 2 (.int nn))))]) [12, 1] rfl
              have hDc := hD.sub (ws' := [(oP2, .inr (3, xq)), (oTp, .inr (1, ((xt.set 1 (.int 0)).set 2 (.int nn))))]) [12, 1] (by decide) rfl
              have hFc := va_free (wc := [(oP2, .inr (3, xq)), (oTp, .inr (1, ((xt.set 1 (.int 0)).set 2 (.int nn))))]) hD hS hA [12, 1] rfl
              refine va_calli (va_runV (C := R_Pl) (As := [.ref oTp]) (rest := []) ⟨hx, hb, hml, hown, hts⟩ (c_Pl_read l dC dI cI cB cZ cJ nn h28 oP2 oTp xq hxq_things hxq_pipes hxq_tape hxq_at (((xt.set 1 (.int 0)).set 2 (.int nn))) g58_2 H.size) (cwV 1 hts (tb_V mw_757 mw_758 mw_759 mw_5 mw_760) rfl rfl rfl ⟨rfl, by decide +kernel, by decide +kernel, by decide +kernel⟩ ⟨(Nat.le_of_ble_eq_true rfl), (Nat.le_of_ble_eq_true rfl)⟩) ⟨pw_blind, va_recv (q := (R_Pl, F_Pl, 12)) hK.1 hP (ci := 3) (q0 := 12) rfl rfl, pw_pre hPc hK hDc⟩ rfl rfl hl.1 rfl (lv_room (Nat.le_of_ble_eq_true rfl)) d_Bh_end_89 ⟨(Nat.le_of_ble_eq_true rfl), (Nat.le_of_ble_eq_true rfl)⟩) hS (fun q _ h => hFc q h) hFc (fun r u t H locs ht hvm hw hB hz1 hk1 hS => ?_)
              obtain ⟨s89_9_oP2, k89_9_oP2_0, k89_9_oP2_1, k89_9_oP2_9, k89_9_oP2_10, k89_9_oTp_2, hP1, hD1⟩ := hB
              rw [ht] at hP1
              obtain ⟨hP, hD⟩ := va_join (wr := [(oB, .inr (0, xb)), (oRd, .inr (9, xd)), (oG2, .inr (8, xh)), (oRu, .inr (10, xn)), (xn_node, .inl (cI, 501, .inl (fun _ => 0))), (xn_first, .inl (cI, 501, .inl (fun _ => 0))), (xn_next, .inl (cI, 501, .inl (fun _ => 0))), (oWa, .inr (5, xw)), (oR2, .inr (7, xu)), (oAc, .inr (11, xc)), (oR1, .inr (7, xr)), (oSt, .inr (4, xs_)), (xst_position, .inl (cI, 20, .inl (fun _ => 0))), (xst_liquid, .inl (cI, 44, .inl (fun _ => 0))), (xst_amount, .inl (cI, 44, .inl (fun _ => 0))), (xst_last, .inl (cI, 44, .inl (fun _ => 0))), (xst_cleaned, .inl (cI, 264, .inl ((fun _ => (-1))))), (xst_litres, .inl (cJ, 96, .inr (.inl (fun _ => 0)))), (xst_start, .inl (cI, 24, .inl (fun _ => 0))), (xw_taken, .inl (cZ, 24, .inl (fun _ => 0))), (xw_over, .inl (cI, 20, .inl (fun _ => 0)))]) (w1 := [(oP2, .inr (3, s89_9_oP2)), (oTp, .inr (1, ((xt.set 1 (.int 0)).set 2 (.int nn))))]) hP hD [12, 1] [0, 2, 3, 4, 5, 6, 7, 8, 9, 10, 11, 13, 14, 15, 16, 17, 18, 19, 20, 21, 22] rfl rfl (by decide) (by decide) hk1 hFc hP1 hD1
              have hP : va_P (dC, dI) classes [(oB, .inr (0, xb)), (oRd, .inr (9, xd)), (oG2, .inr (8, xh)), (oRu, .inr (10, xn)), (xn_node, .inl (cI, 501, .inl (fun _ => 0))), (xn_first, .inl (cI, 501, .inl (fun _ => 0))), (xn_next, .inl (cI, 501, .inl (fun _ => 0))), (oWa, .inr (5, xw)), (oR2, .inr (7, xu)), (oAc, .inr (11, xc)), (oR1, .inr (7, xr)), (oSt, .inr (4, xs_)), (xst_position, .inl (cI, 20, .inl (fun _ => 0))), (xst_liquid, .inl (cI, 44, .inl (fun _ => 0))), (xst_amount, .inl (cI, 44, .inl (fun _ => 0))), (xst_last, .inl (cI, 44, .inl (fun _ => 0))), (xst_cleaned, .inl (cI, 264, .inl ((fun _ => (-1))))), (xst_litres, .inl (cJ, 96, .inr (.inl (fun _ => 0)))), (xst_start, .inl (cI, 24, .inl (fun _ => 0))), (xw_taken, .inl (cZ, 24, .inl (fun _ => 0))), (xw_over, .inl (cI, 20, .inl (fun _ => 0))), (oP2, .inr (3, s89_9_oP2)), (oTp, .inr (1, ((xt.set 1 (.int 0)).set 2 (.int nn))))] H := hP
              have hD : va_D A [(oB, .inr (0, xb)), (oRd, .inr (9, xd)), (oG2, .inr (8, xh)), (oRu, .inr (10, xn)), (xn_node, .inl (cI, 501, .inl (fun _ => 0))), (xn_first, .inl (cI, 501, .inl (fun _ => 0))), (xn_next, .inl (cI, 501, .inl (fun _ => 0))), (oWa, .inr (5, xw)), (oR2, .inr (7, xu)), (oAc, .inr (11, xc)), (oR1, .inr (7, xr)), (oSt, .inr (4, xs_)), (xst_position, .inl (cI, 20, .inl (fun _ => 0))), (xst_liquid, .inl (cI, 44, .inl (fun _ => 0))), (xst_amount, .inl (cI, 44, .inl (fun _ => 0))), (xst_last, .inl (cI, 44, .inl (fun _ => 0))), (xst_cleaned, .inl (cI, 264, .inl ((fun _ => (-1))))), (xst_litres, .inl (cJ, 96, .inr (.inl (fun _ => 0)))), (xst_start, .inl (cI, 24, .inl (fun _ => 0))), (xw_taken, .inl (cZ, 24, .inl (fun _ => 0))), (xw_over, .inl (cI, 20, .inl (fun _ => 0))), (oP2, .inr (3, s89_9_oP2)), (oTp, .inr (1, ((xt.set 1 (.int 0)).set 2 (.int nn))))] := hD
              obtain rfl : r = (-1) := hw
              refine lv_goto (tgt := 129) hx hb d_Bh_end_92 (by decide) ?_
              refine lv_istore hx hb d_Bh_end_129 hl (by decide) rfl (fun ls hl => ?_)
              have hl : lv_has ls 5 [(4, .int (-1)), (3, .int 1), (0, .ref oB), (1, .int kd), (2, .int nn)] := hl
              refine lv_iload hx hb d_Bh_end_131 (lv_at hl 0 rfl) ?_
              refine lv_if_lt (tgt := 142) hx hb d_Bh_end_133 (by decide) (fun _ => ?_) (fun h => absurd (by decide) h)
              refine lv_iload_n hx hb d_Bh_end_142 rfl (lv_at hl 3 rfl) ?_
              refine lv_if_ne (tgt := 153) hx hb d_Bh_end_143 (by decide) (fun h => absurd h78 h) (fun _ => ?_)
              refine lv_aload_n hx hb d_Bh_end_146 rfl (lv_at hl 2 rfl) ?_
              have hPc := hP.sub (ws' := [(oB, .inr (0, xb)), (oSt, .inr (4, xs_)), (xst_position, .inl (cI, 20, .inl (fun _ => 0))), (xst_liquid, .inl (cI, 44, .inl (fun _ => 0))), (xst_amount, .inl (cI, 44, .inl (fun _ => 0))), (xst_last, .inl (cI, 44, .inl (fun _ => 0))), (xst_cleaned, .inl (cI, 264, .inl ((fun _ => (-1))))), (xst_litres, .inl (cJ, 96, .inr (.inl (fun _ => 0)))), (xst_start, .inl (cI, 24, .inl (fun _ => 0))), (oWa, .inr (5, xw)), (xw_taken, .inl (cZ, 24, .inl (fun _ => 0))), (xw_over, .inl (cI, 20, .inl (fun _ => 0))), (oRu, .inr (10, xn)), (oP2, .inr (3, s89_9_oP2))]) [0, 11, 12, 13, 14, 15, 16, 17, 18, 7, 19, 20, 3, 21] rfl
              have hDc := hD.sub (ws' := [(oB, .inr (0, xb)), (oSt, .inr (4, xs_)), (xst_position, .inl (cI, 20, .inl (fun _ => 0))), (xst_liquid, .inl (cI, 44, .inl (fun _ => 0))), (xst_amount, .inl (cI, 44, .inl (fun _ => 0))), (xst_last, .inl (cI, 44, .inl (fun _ => 0))), (xst_cleaned, .inl (cI, 264, .inl ((fun _ => (-1))))), (xst_litres, .inl (cJ, 96, .inr (.inl (fun _ => 0)))), (xst_start, .inl (cI, 24, .inl (fun _ => 0))), (oWa, .inr (5, xw)), (xw_taken, .inl (cZ, 24, .inl (fun _ => 0))), (xw_over, .inl (cI, 20, .inl (fun _ => 0))), (oRu, .inr (10, xn)), (oP2, .inr (3, s89_9_oP2))]) [0, 11, 12, 13, 14, 15, 16, 17, 18, 7, 19, 20, 3, 21] (by decide) rfl
              have hFc := va_free (wc := [(oB, .inr (0, xb)), (oSt, .inr (4, xs_)), (xst_position, .inl (cI, 20, .inl (fun _ => 0))), (xst_liquid, .inl (cI, 44, .inl (fun _ => 0))), (xst_amount, .inl (cI, 44, .inl (fun _ => 0))), (xst_last, .inl (cI, 44, .inl (fun _ => 0))), (xst_cleaned, .inl (cI, 264, .inl ((fun _ => (-1))))), (xst_litres, .inl (cJ, 96, .inr (.inl (fun _ => 0)))), (xst_start, .inl (cI, 24, .inl (fun _ => 0))), (oWa, .inr (5, xw)), (xw_taken, .inl (cZ, 24, .inl (fun _ => 0))), (xw_over, .inl (cI, 20, .inl (fun _ => 0))), (oRu, .inr (10, xn)), (oP2, .inr (3, s89_9_oP2))]) hD hS hA [0, 11, 12, 13, 14, 15, 16, 17, 18, 7, 19, 20, 3, 21] rfl
              refine va_calli (va_runV (C := R_Bh) (As := []) (rest := []) ⟨hx, hb, hml, hown, hts⟩ (c_Bh_takePlant l dC dI cI cB cZ cJ oB oSt xst_position xst_liquid xst_amount xst_last xst_cleaned xst_litres xst_start oWa xw_taken xw_over oRu oP2 xb_plantText oP1 xb hb_stock hb_ways hb_run hb_sparePlant hb_plantText hb_plantTextLength xs_ hst_plant hst_position hst_liquid hst_amount hst_last hst_cleaned hst_litres hst_start xw hwa_count hwa_taken hwa_over xn hru_state s89_9_oP2 k89_9_oP2_0 k89_9_oP2_1 H.size) (cwV 0 hts (tb_V mw_1012 mw_1014 sl_42 mw_1 mw_1015) rfl rfl rfl ⟨rfl, by decide +kernel, by decide +kernel, by decide +kernel⟩ ⟨(Nat.le_of_ble_eq_true rfl), (Nat.le_of_ble_eq_true rfl)⟩) ⟨pw_blind, va_recv (q := (R_Bh, F_Bh, 16)) hK.1 hP (ci := 0) (q0 := 0) rfl rfl, pw_pre hPc hK hDc⟩ rfl rfl hl.1 rfl (lv_room (Nat.le_of_ble_eq_true rfl)) d_Bh_end_147 ⟨(Nat.le_of_ble_eq_true rfl), (Nat.le_of_ble_eq_true rfl)⟩) hS (fun q _ h => hFc q h) hFc (fun r u t H locs ht hvm hw hB hz1 hk1 hS => ?_)
              obtain ⟨hP, hD⟩ := va_join (wr := [(oRd, .inr (9, xd)), (oG2, .inr (8, xh)), (xn_node, .inl (cI, 501, .inl (fun _ => 0))), (xn_first, .inl (cI, 501, .inl (fun _ => 0))), (xn_next, .inl (cI, 501, .inl (fun _ => 0))), (oR2, .inr (7, xu)), (oAc, .inr (11, xc)), (oR1, .inr (7, xr)), (oTp, .inr (1, ((xt.set 1 (.int 0)).set 2 (.int nn))))]) (w1 := []) hP hD [0, 11, 12, 13, 14, 15, 16, 17, 18, 7, 19, 20, 3, 21] [1, 2, 4, 5, 6, 8, 9, 10, 22] rfl rfl (by decide) (by decide) hk1 hFc wn_P wn_D
              have hP : va_P (dC, dI) classes [(oRd, .inr (9, xd)), (oG2, .inr (8, xh)), (xn_node, .inl (cI, 501, .inl (fun _ => 0))), (xn_first, .inl (cI, 501, .inl (fun _ => 0))), (xn_next, .inl (cI, 501, .inl (fun _ => 0))), (oR2, .inr (7, xu)), (oAc, .inr (11, xc)), (oR1, .inr (7, xr)), (oTp, .inr (1, ((xt.set 1 (.int 0)).set 2 (.int nn))))] H := hP
              have hD : va_D A [(oRd, .inr (9, xd)), (oG2, .inr (8, xh)), (xn_node, .inl (cI, 501, .inl (fun _ => 0))), (xn_first, .inl (cI, 501, .inl (fun _ => 0))), (xn_next, .inl (cI, 501, .inl (fun _ => 0))), (oR2, .inr (7, xu)), (oAc, .inr (11, xc)), (oR1, .inr (7, xr)), (oTp, .inr (1, ((xt.set 1 (.int 0)).set 2 (.int nn))))] := hD
              obtain rfl : r = 0 := hw
              refine lv_goto (tgt := 169) hx hb d_Bh_end_150 (by decide) ?_
              exact W.iret (v := 0) hx hb hr (fun t ht hW => ⟨⟨_, (), rfl, (by unfold fn_Bh_end; rw [if_neg h1, if_neg h6, if_neg h10, if_neg h17, if_neg h28, if_pos h78]), trivial⟩, hS.F ht⟩) hS.2.2 d_Bh_end_169
