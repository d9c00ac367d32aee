abbrev b_Bh_second : ByteArray := prog_1_method_37_code
def y_Bh_second : MethodName := ⟨R_Bh, "second", "()I"⟩
abbrev w_Bh_second : List Cond := .code y_Bh_second b_Bh_second 1 (some .int) :: lw_gd
abbrev b_Bh_state : ByteArray := prog_1_method_29_code
def y_Bh_state : MethodName := ⟨R_Bh, "state", "()I"⟩
abbrev w_Bh_state : List Cond := .code y_Bh_state b_Bh_state 1 (some .int) :: lw_gd
abbrev b_St_isTank : ByteArray := prog_10_method_3_code
def y_St_isTank : MethodName := ⟨R_St, "isTank", "(I)Z"⟩
abbrev w_St_isTank : List Cond := .code y_St_isTank b_St_isTank 2 (some .boolean) :: lw_gd
abbrev b_St_isValve : ByteArray := prog_10_method_4_code
def y_St_isValve : MethodName := ⟨R_St, "isValve", "(I)Z"⟩
abbrev w_St_isValve : List Cond := .code y_St_isValve b_St_isValve 2 (some .boolean) :: lw_gd
abbrev b_St_isPipe : ByteArray := prog_10_method_5_code
def y_St_isPipe : MethodName := ⟨R_St, "isPipe", "(I)Z"⟩
abbrev w_St_isPipe : List Cond := .code y_St_isPipe b_St_isPipe 2 (some .boolean) :: lw_gd
abbrev b_St_isHolder : ByteArray := prog_10_method_6_code
def y_St_isHolder : MethodName := ⟨R_St, "isHolder", "(I)Z"⟩
abbrev w_St_isHolder : List Cond := .code y_St_isHolder b_St_isHolder 2 (some .boolean) :: lw_gd
abbrev b_Pr_isSignal : ByteArray := prog_5_method_6_code
def y_Pr_isSignal : MethodName := ⟨R_Pr, "isSignal", "(I)Z"⟩
abbrev w_Pr_isSignal : List Cond := .code y_Pr_isSignal b_Pr_isSignal 2 (some .boolean) :: lw_gd
abbrev b_Pr_hasValue : ByteArray := prog_5_method_5_code
def y_Pr_hasValue : MethodName := ⟨R_Pr, "hasValue", "(I)Z"⟩
abbrev w_Pr_hasValue : List Cond := .code y_Pr_hasValue b_Pr_hasValue 2 (some .boolean) :: lw_gd
abbrev b_Bh_sense : ByteArray := prog_1_method_12_code
def y_Bh_sense : MethodName := ⟨R_Bh, "sense", "(III)Z"⟩
abbrev w_Bh_sense : List Cond := .code y_Bh_sense b_Bh_sense 4 (some .boolean) :: lw_gd
abbrev b_Bh_signal : ByteArray := prog_1_method_14_code
def y_Bh_signal : MethodName := ⟨R_Bh, "signal", "(IJ)Z"⟩
abbrev w_Bh_signal : List Cond := .code y_Bh_signal b_Bh_signal 4 (some .boolean) :: lw_gd
abbrev b_Bh_value : ByteArray := prog_1_method_30_code
def y_Bh_value : MethodName := ⟨R_Bh, "value", "(I)J"⟩
abbrev w_Bh_value : List Cond := .code y_Bh_value b_Bh_value 2 (some .long) :: lw_gd
abbrev b_Bh_fill : ByteArray := prog_1_method_7_code
def y_Bh_fill : MethodName := ⟨R_Bh, "fill", "(IIJ)Z"⟩
abbrev w_Bh_fill : List Cond := .code y_Bh_fill b_Bh_fill 7 (some .boolean) :: lw_gd
abbrev b_Bh_space : ByteArray := prog_1_method_34_code
def y_Bh_space : MethodName := ⟨R_Bh, "space", "(II)I"⟩
abbrev w_Bh_space : List Cond := .code y_Bh_space b_Bh_space 3 (some .int) :: lw_gd
abbrev b_Wa_get : ByteArray := prog_12_method_3_code
def y_Wa_get : MethodName := ⟨R_Wa, "get", "(II)I"⟩
abbrev w_Wa_get : List Cond := .code y_Wa_get b_Wa_get 5 (some .int) :: lw_gd
abbrev b_Bh_way : ByteArray := prog_1_method_33_code
def y_Bh_way : MethodName := ⟨R_Bh, "way", "(II)I"⟩
abbrev w_Bh_way : List Cond := .code y_Bh_way b_Bh_way 3 (some .int) :: lw_gd
abbrev b_Al_get : ByteArray := prog_3_method_3_code
def y_Al_get : MethodName := ⟨R_Al, "get", "(II)I"⟩
abbrev w_Al_get : List Cond := .code y_Al_get b_Al_get 3 (some .int) :: lw_gd
abbrev b_Bh_alarm : ByteArray := prog_1_method_32_code
def y_Bh_alarm : MethodName := ⟨R_Bh, "alarm", "(II)I"⟩
abbrev w_Bh_alarm : List Cond := .code y_Bh_alarm b_Bh_alarm 3 (some .int) :: lw_gd
abbrev b_Bh_hold : ByteArray := prog_1_method_22_code
def y_Bh_hold : MethodName := ⟨R_Bh, "hold", "(Z)Z"⟩
abbrev w_Bh_hold : List Cond := .code y_Bh_hold b_Bh_hold 2 (some .boolean) :: lw_gd
abbrev b_Ru_isAlive : ByteArray := prog_8_method_2_code
def y_Ru_isAlive : MethodName := ⟨R_Ru, "isAlive", "()Z"⟩
abbrev w_Ru_isAlive : List Cond := .code y_Ru_isAlive b_Ru_isAlive 1 (some .boolean) :: lw_gd
abbrev b_Bh_stop : ByteArray := prog_1_method_23_code
def y_Bh_stop : MethodName := ⟨R_Bh, "stop", "()Z"⟩
abbrev w_Bh_stop : List Cond := .code y_Bh_stop b_Bh_stop 1 (some .boolean) :: lw_gd
abbrev b_Bh_start : ByteArray := prog_1_method_17_code
def y_Bh_start : MethodName := ⟨R_Bh, "start", "()Z"⟩
abbrev w_Bh_start : List Cond := .code y_Bh_start b_Bh_start 1 (some .boolean) :: lw_gd
abbrev b_Ro_has : ByteArray := prog_7_method_2_code
def y_Ro_has : MethodName := ⟨R_Ro, "has", "(I)Z"⟩
abbrev w_Ro_has : List Cond := .code y_Ro_has b_Ro_has 2 (some .boolean) :: lw_gd
abbrev b_Bh_pass : ByteArray := prog_1_method_24_code
def y_Bh_pass : MethodName := ⟨R_Bh, "pass", "(IIII)I"⟩
abbrev w_Bh_pass : List Cond := .code y_Bh_pass b_Bh_pass 5 (some .int) :: lw_gd
abbrev b_Bh_reset : ByteArray := prog_1_method_26_code
def y_Bh_reset : MethodName := ⟨R_Bh, "reset", "(I)Z"⟩
abbrev w_Bh_reset : List Cond := .code y_Bh_reset b_Bh_reset 3 (some .boolean) :: lw_gd
abbrev b_Bh_row : ByteArray := prog_1_method_28_code
def y_Bh_row : MethodName := ⟨R_Bh, "row", "(II)I"⟩
abbrev w_Bh_row : List Cond := .code y_Bh_row b_Bh_row 4 (some .int) :: lw_gd
abbrev b_Ac_isAct : ByteArray := prog_2_method_2_code
def y_Ac_isAct : MethodName := ⟨R_Ac, "isAct", "(I)Z"⟩
abbrev w_Ac_isAct : List Cond := .code y_Ac_isAct b_Ac_isAct 1 (some .boolean) :: lw_gd
abbrev b_Ro_barring : ByteArray := prog_7_method_5_code
def y_Ro_barring : MethodName := ⟨R_Ro, "barring", "(I)I"⟩
abbrev w_Ro_barring : List Cond := .code y_Ro_barring b_Ro_barring 4 (some .int) :: lw_gd
abbrev b_Bh_write : ByteArray := prog_1_method_36_code
def y_Bh_write : MethodName := ⟨R_Bh, "write", "(I)I"⟩
abbrev w_Bh_write : List Cond := .code y_Bh_write b_Bh_write 2 (some .int) :: lw_gd
theorem mw_3 : (.initialized "BreweryHouse$Alarms" : Cond) ∈ lw_gd := tb_mem (i := 3) (by decide +kernel) (by decide +kernel)
theorem mw_4 : (.initialized "BreweryHouse$Stock" : Cond) ∈ lw_gd := tb_mem (i := 4) (by decide +kernel) (by decide +kernel)
theorem mw_7 : (.initialized "BreweryHouse$Ways" : Cond) ∈ lw_gd := tb_mem (i := 7) (by decide +kernel) (by decide +kernel)
theorem mw_10 : (.initialized "BreweryHouse$Rows" : Cond) ∈ lw_gd := tb_mem (i := 10) (by decide +kernel) (by decide +kernel)
theorem mw_11 : (.initialized "BreweryHouse$Run" : Cond) ∈ lw_gd := tb_mem (i := 11) (by decide +kernel) (by decide +kernel)
theorem mw_12 : (.initialized "BreweryHouse$Program" : Cond) ∈ lw_gd := tb_mem (i := 12) (by decide +kernel) (by decide +kernel)
theorem mw_60 : (.fieldLink "BreweryHouse$Alarms" 21 "BreweryHouse$Alarms" "count" "I" : Cond) ∈ lw_gd := tb_mem (i := 60) (by decide +kernel) (by decide +kernel)
theorem mw_88 : (.fieldLink "BreweryHouse$Stock" 60 "BreweryHouse$Plant" "things" "I" : Cond) ∈ lw_gd := tb_mem (i := 88) (by decide +kernel) (by decide +kernel)
theorem mw_94 : (.fieldLink "BreweryHouse$Stock" 67 "BreweryHouse$Plant" "pipes" "I" : Cond) ∈ lw_gd := tb_mem (i := 94) (by decide +kernel) (by decide +kernel)
theorem mw_149 : (.fieldLink "BreweryHouse$Stock" 12 "BreweryHouse$Stock" "plant" "LBreweryHouse$Plant;" : Cond) ∈ lw_gd := tb_mem (i := 149) (by decide +kernel) (by decide +kernel)
theorem mw_156 : (.fieldLink "BreweryHouse" 261 "BreweryHouse$Stock" "now" "I" : Cond) ∈ lw_gd := tb_mem (i := 156) (by decide +kernel) (by decide +kernel)
theorem mw_218 : (.fieldLink "BreweryHouse$Ways" 65 "BreweryHouse$Ways" "count" "I" : Cond) ∈ lw_gd := tb_mem (i := 218) (by decide +kernel) (by decide +kernel)
theorem mw_329 : (.fieldLink "BreweryHouse$Rows" 37 "BreweryHouse$Rows" "count" "I" : Cond) ∈ lw_gd := tb_mem (i := 329) (by decide +kernel) (by decide +kernel)
theorem mw_394 : (.fieldLink "BreweryHouse" 174 "BreweryHouse$Acts" "rows" "LBreweryHouse$Rows;" : Cond) ∈ lw_gd := tb_mem (i := 394) (by decide +kernel) (by decide +kernel)
theorem mw_436 : (.fieldLink "BreweryHouse" 267 "BreweryHouse$Program" "opening" "I" : Cond) ∈ lw_gd := tb_mem (i := 436) (by decide +kernel) (by decide +kernel)
theorem mw_457 : (.fieldLink "BreweryHouse$Program" 65 "BreweryHouse$Program" "names" "I" : Cond) ∈ lw_gd := tb_mem (i := 457) (by decide +kernel) (by decide +kernel)
theorem mw_515 : (.fieldLink "BreweryHouse" 183 "BreweryHouse$Run" "program" "LBreweryHouse$Program;" : Cond) ∈ lw_gd := tb_mem (i := 515) (by decide +kernel) (by decide +kernel)
theorem mw_516 : (.fieldLink "BreweryHouse$Run" 18 "BreweryHouse$Run" "state" "I" : Cond) ∈ lw_gd := tb_mem (i := 516) (by decide +kernel) (by decide +kernel)
theorem mw_517 : (.fieldLink "BreweryHouse" 161 "BreweryHouse$Run" "state" "I" : Cond) ∈ lw_gd := tb_mem (i := 517) (by decide +kernel) (by decide +kernel)
theorem mw_685 : (.fieldLink "BreweryHouse" 19 "BreweryHouse" "alarms" "LBreweryHouse$Alarms;" : Cond) ∈ lw_gd := tb_mem (i := 685) (by decide +kernel) (by decide +kernel)
theorem mw_686 : (.fieldLink "BreweryHouse" 26 "BreweryHouse" "stock" "LBreweryHouse$Stock;" : Cond) ∈ lw_gd := tb_mem (i := 686) (by decide +kernel) (by decide +kernel)
theorem mw_687 : (.fieldLink "BreweryHouse" 35 "BreweryHouse" "ways" "LBreweryHouse$Ways;" : Cond) ∈ lw_gd := tb_mem (i := 687) (by decide +kernel) (by decide +kernel)
theorem mw_689 : (.fieldLink "BreweryHouse" 53 "BreweryHouse" "acts" "LBreweryHouse$Acts;" : Cond) ∈ lw_gd := tb_mem (i := 689) (by decide +kernel) (by decide +kernel)
theorem mw_690 : (.fieldLink "BreweryHouse" 62 "BreweryHouse" "run" "LBreweryHouse$Run;" : Cond) ∈ lw_gd := tb_mem (i := 690) (by decide +kernel) (by decide +kernel)
theorem mw_696 : (.fieldLink "BreweryHouse" 168 "BreweryHouse" "plantTextLength" "I" : Cond) ∈ lw_gd := tb_mem (i := 696) (by decide +kernel) (by decide +kernel)
theorem mw_952 : (.instanceMethod y_Pr_hasValue : Cond) ∈ lw_gd := tb_mem (i := 952) (by decide +kernel) (by decide +kernel)
theorem mw_953 : (.selects "BreweryHouse$Program" y_Pr_hasValue y_Pr_hasValue : Cond) ∈ lw_gd := tb_mem (i := 953) (by decide +kernel) (by decide +kernel)
theorem mw_954 : (.code y_Pr_hasValue b_Pr_hasValue 2 (some .boolean) : Cond) ∈ lw_gd := tb_mem (i := 954) (by decide +kernel) (by decide +kernel)
theorem mw_1075 : (.methodLink "BreweryHouse" 196 y_St_isTank : Cond) ∈ lw_gd := tb_mem (i := 1075) (by decide +kernel) (by decide +kernel)
theorem mw_1076 : (.instanceMethod y_St_isTank : Cond) ∈ lw_gd := tb_mem (i := 1076) (by decide +kernel) (by decide +kernel)
theorem mw_1077 : (.selects "BreweryHouse$Stock" y_St_isTank y_St_isTank : Cond) ∈ lw_gd := tb_mem (i := 1077) (by decide +kernel) (by decide +kernel)
theorem mw_1078 : (.code y_St_isTank b_St_isTank 2 (some .boolean) : Cond) ∈ lw_gd := tb_mem (i := 1078) (by decide +kernel) (by decide +kernel)
theorem mw_1158 : (.methodLink "BreweryHouse" 238 y_Pr_isSignal : Cond) ∈ lw_gd := tb_mem (i := 1158) (by decide +kernel) (by decide +kernel)
theorem mw_1159 : (.instanceMethod y_Pr_isSignal : Cond) ∈ lw_gd := tb_mem (i := 1159) (by decide +kernel) (by decide +kernel)
theorem mw_1160 : (.selects "BreweryHouse$Program" y_Pr_isSignal y_Pr_isSignal : Cond) ∈ lw_gd := tb_mem (i := 1160) (by decide +kernel) (by decide +kernel)
theorem mw_1161 : (.code y_Pr_isSignal b_Pr_isSignal 2 (some .boolean) : Cond) ∈ lw_gd := tb_mem (i := 1161) (by decide +kernel) (by decide +kernel)
theorem mw_1196 : (.instanceMethod y_St_isValve : Cond) ∈ lw_gd := tb_mem (i := 1196) (by decide +kernel) (by decide +kernel)
theorem mw_1197 : (.selects "BreweryHouse$Stock" y_St_isValve y_St_isValve : Cond) ∈ lw_gd := tb_mem (i := 1197) (by decide +kernel) (by decide +kernel)
theorem mw_1198 : (.code y_St_isValve b_St_isValve 2 (some .boolean) : Cond) ∈ lw_gd := tb_mem (i := 1198) (by decide +kernel) (by decide +kernel)
theorem mw_1200 : (.instanceMethod y_St_isHolder : Cond) ∈ lw_gd := tb_mem (i := 1200) (by decide +kernel) (by decide +kernel)
theorem mw_1201 : (.selects "BreweryHouse$Stock" y_St_isHolder y_St_isHolder : Cond) ∈ lw_gd := tb_mem (i := 1201) (by decide +kernel) (by decide +kernel)
theorem mw_1202 : (.code y_St_isHolder b_St_isHolder 2 (some .boolean) : Cond) ∈ lw_gd := tb_mem (i := 1202) (by decide +kernel) (by decide +kernel)
theorem mw_1203 : (.methodLink "BreweryHouse$Stock" 70 y_St_isTank : Cond) ∈ lw_gd := tb_mem (i := 1203) (by decide +kernel) (by decide +kernel)
theorem mw_1204 : (.methodLink "BreweryHouse$Stock" 74 y_St_isPipe : Cond) ∈ lw_gd := tb_mem (i := 1204) (by decide +kernel) (by decide +kernel)
theorem mw_1205 : (.instanceMethod y_St_isPipe : Cond) ∈ lw_gd := tb_mem (i := 1205) (by decide +kernel) (by decide +kernel)
theorem mw_1206 : (.selects "BreweryHouse$Stock" y_St_isPipe y_St_isPipe : Cond) ∈ lw_gd := tb_mem (i := 1206) (by decide +kernel) (by decide +kernel)
theorem mw_1207 : (.code y_St_isPipe b_St_isPipe 2 (some .boolean) : Cond) ∈ lw_gd := tb_mem (i := 1207) (by decide +kernel) (by decide +kernel)
theorem mw_1297 : (.methodLink "BreweryHouse" 270 y_Ru_isAlive : Cond) ∈ lw_gd := tb_mem (i := 1297) (by decide +kernel) (by decide +kernel)
theorem mw_1298 : (.instanceMethod y_Ru_isAlive : Cond) ∈ lw_gd := tb_mem (i := 1298) (by decide +kernel) (by decide +kernel)
theorem mw_1299 : (.selects "BreweryHouse$Run" y_Ru_isAlive y_Ru_isAlive : Cond) ∈ lw_gd := tb_mem (i := 1299) (by decide +kernel) (by decide +kernel)
theorem mw_1300 : (.code y_Ru_isAlive b_Ru_isAlive 1 (some .boolean) : Cond) ∈ lw_gd := tb_mem (i := 1300) (by decide +kernel) (by decide +kernel)
theorem mw_1332 : (.methodLink "BreweryHouse" 306 y_St_isHolder : Cond) ∈ lw_gd := tb_mem (i := 1332) (by decide +kernel) (by decide +kernel)
theorem mw_1333 : (.methodLink "BreweryHouse" 309 y_St_isValve : Cond) ∈ lw_gd := tb_mem (i := 1333) (by decide +kernel) (by decide +kernel)
theorem mw_1492 : (.methodLink "BreweryHouse" 320 y_Ro_has : Cond) ∈ lw_gd := tb_mem (i := 1492) (by decide +kernel) (by decide +kernel)
theorem mw_1493 : (.instanceMethod y_Ro_has : Cond) ∈ lw_gd := tb_mem (i := 1493) (by decide +kernel) (by decide +kernel)
theorem mw_1494 : (.selects "BreweryHouse$Rows" y_Ro_has y_Ro_has : Cond) ∈ lw_gd := tb_mem (i := 1494) (by decide +kernel) (by decide +kernel)
theorem mw_1495 : (.code y_Ro_has b_Ro_has 2 (some .boolean) : Cond) ∈ lw_gd := tb_mem (i := 1495) (by decide +kernel) (by decide +kernel)
theorem mw_1521 : (.methodLink "BreweryHouse" 342 y_Pr_hasValue : Cond) ∈ lw_gd := tb_mem (i := 1521) (by decide +kernel) (by decide +kernel)
theorem mw_1535 : (.methodLink "BreweryHouse" 348 y_Al_get : Cond) ∈ lw_gd := tb_mem (i := 1535) (by decide +kernel) (by decide +kernel)
theorem mw_1536 : (.instanceMethod y_Al_get : Cond) ∈ lw_gd := tb_mem (i := 1536) (by decide +kernel) (by decide +kernel)
theorem mw_1537 : (.selects "BreweryHouse$Alarms" y_Al_get y_Al_get : Cond) ∈ lw_gd := tb_mem (i := 1537) (by decide +kernel) (by decide +kernel)
theorem mw_1538 : (.code y_Al_get b_Al_get 3 (some .int) : Cond) ∈ lw_gd := tb_mem (i := 1538) (by decide +kernel) (by decide +kernel)
theorem mw_1543 : (.methodLink "BreweryHouse" 352 y_Wa_get : Cond) ∈ lw_gd := tb_mem (i := 1543) (by decide +kernel) (by decide +kernel)
theorem mw_1544 : (.instanceMethod y_Wa_get : Cond) ∈ lw_gd := tb_mem (i := 1544) (by decide +kernel) (by decide +kernel)
theorem mw_1545 : (.selects "BreweryHouse$Ways" y_Wa_get y_Wa_get : Cond) ∈ lw_gd := tb_mem (i := 1545) (by decide +kernel) (by decide +kernel)
theorem mw_1546 : (.code y_Wa_get b_Wa_get 5 (some .int) : Cond) ∈ lw_gd := tb_mem (i := 1546) (by decide +kernel) (by decide +kernel)
abbrev t_Bh_second_7 : List UInt8 := 172 :: []
abbrev t_Bh_second_4 : List UInt8 := 180 :: 1 :: 5 :: t_Bh_second_7
abbrev t_Bh_second_1 : List UInt8 := 180 :: 0 :: 26 :: t_Bh_second_4
abbrev t_Bh_second_0 : List UInt8 := 42 :: t_Bh_second_1
theorem a_Bh_second_0 : dk_at b_Bh_second 0 t_Bh_second_0 := dk_start (by decide +kernel)
theorem a_Bh_second_1 : dk_at b_Bh_second 1 t_Bh_second_1 := dk_go 1 a_Bh_second_0 rfl
theorem a_Bh_second_4 : dk_at b_Bh_second 4 t_Bh_second_4 := dk_go 3 a_Bh_second_1 rfl
theorem a_Bh_second_7 : dk_at b_Bh_second 7 t_Bh_second_7 := dk_go 3 a_Bh_second_4 rfl
theorem d_Bh_second_0 : decode b_Bh_second 0 = .ok (.aload_n 0, 1) := dk_0 a_Bh_second_0 (dko_42 _)
theorem d_Bh_second_1 : decode b_Bh_second 1 = .ok (.getfield 26, 3) := dk_U2 a_Bh_second_1 (dko_180 _) rfl
theorem d_Bh_second_4 : decode b_Bh_second 4 = .ok (.getfield 261, 3) := dk_U2 a_Bh_second_4 (dko_180 _) rfl
theorem d_Bh_second_7 : decode b_Bh_second 7 = .ok (.ireturn, 1) := dk_0 a_Bh_second_7 (dko_172 _)
set_option maxHeartbeats 4000000 in
set_option maxRecDepth 100000 in
theorem c_Bh_second (l : Launch) (dC : Nat → ClassId) (dI : Nat → Nat → Nat) (cI cB cZ cJ : ClassId) (oB : Nat) (oSt : Nat) (xb : List Value) (hb_stock : fx xb 2 (.ref oSt)) (xs_ : List Value) (hst_now : fx xs_ 1 (.int 0)) (sz : Nat) : Met l y_Bh_second w_Bh_second ({ frames := 0, cells := 0, slots := 0, locals := 0 }) (va_Pc [.ref oB] (PW dC dI cI cB cZ cJ [(oB, .inr (0, xb)), (oSt, .inr (4, xs_))] sz)) (va_Qi (fun (r : Int32) (_ : Unit) => r = 0) (fun _ _ => True) (va_A [] sz)) 0 0 (va_A [] sz) := by
  refine Met.ofW (cc := b_Bh_second) (maxL := 1) (ret := (some .int)) (by decide) rfl ?_
  intro p e s m args below meth c s₁ B hml hv
  obtain ⟨rfl, hsz, hP, hK, hD⟩ := hv
  have hx := B.exec
  have hb := B.bytes
  have hr := B.returns
  have hts := atoms_spec (ws := w_Bh_second) B.pre
  have hown : s.vm.findClass R_Bh = some m.cls := findClass_of_methodNamed B.named
  have hlocks := B.notSynchronized
  subst hsz
  generalize hAe : va_A [] s.heap.size = A at ⊢
  have hA : ∀ q : Nat, s.heap.size ≤ q → A q := fun q h => by rw [← hAe]; exact Or.inr h
  have hS : va_S A s.heap s.heap [] := va_S.rf
  have hP : va_P (dC, dI) classes [(oB, .inr (0, xb)), (oSt, .inr (4, xs_))] s.heap := hP
  have hl := lv_entry ([.ref oB]) (n := 1) (Nat.le_of_ble_eq_true rfl)
  rw [lg_entry_eq]
  generalize (lg_sl ([.ref oB]) ++ List.replicate (1 - (lg_sl ([.ref oB])).length) Slot.unset).toArray = ls at hl ⊢
  have hl : lv_has ls 1 [(0, .ref oB)] := hl
  refine lv_aload_n hx hb d_Bh_second_0 rfl (lv_at hl 0 rfl) ?_
  refine va_get (D := (dC, dI)) (ci := 0) (v := .ref oSt) (C := R_Bh) (T := F_Bh) (N := 16) hx hb hts (fun w h => List.mem_cons_of_mem _ (in_Bh w h)) hown hK.1 hP 0 rfl rfl 2 (by decide) (hts _ (List.mem_cons_of_mem _ mw_686)) (fun _ h9 => h9) hb_stock d_Bh_second_1 ?_
  refine va_get (D := (dC, dI)) (ci := 4) (v := .int 0) (C := R_St) (T := F_St) (N := 12) hx hb hts (fun w h => List.mem_cons_of_mem _ (in_St w h)) hown hK.1 hP 1 rfl rfl 1 (by decide) (hts _ (List.mem_cons_of_mem _ mw_156)) (fun _ h9 => h9) hst_now d_Bh_second_4 ?_
  exact W.iret (v := 0) hx hb hr (fun t ht hW => ⟨⟨_, (), rfl, (rfl), trivial⟩, hS.F ht⟩) hS.2.2 d_Bh_second_7
abbrev t_Bh_state_7 : List UInt8 := 172 :: []
abbrev t_Bh_state_4 : List UInt8 := 180 :: 0 :: 161 :: t_Bh_state_7
abbrev t_Bh_state_1 : List UInt8 := 180 :: 0 :: 62 :: t_Bh_state_4
abbrev t_Bh_state_0 : List UInt8 := 42 :: t_Bh_state_1
theorem a_Bh_state_0 : dk_at b_Bh_state 0 t_Bh_state_0 := dk_start (by decide +kernel)
theorem a_Bh_state_1 : dk_at b_Bh_state 1 t_Bh_state_1 := dk_go 1 a_Bh_state_0 rfl
theorem a_Bh_state_4 : dk_at b_Bh_state 4 t_Bh_state_4 := dk_go 3 a_Bh_state_1 rfl
theorem a_Bh_state_7 : dk_at b_Bh_state 7 t_Bh_state_7 := dk_go 3 a_Bh_state_4 rfl
theorem d_Bh_state_0 : decode b_Bh_state 0 = .ok (.aload_n 0, 1) := dk_0 a_Bh_state_0 (dko_42 _)
theorem d_Bh_state_1 : decode b_Bh_state 1 = .ok (.getfield 62, 3) := dk_U2 a_Bh_state_1 (dko_180 _) rfl
theorem d_Bh_state_4 : decode b_Bh_state 4 = .ok (.getfield 161, 3) := dk_U2 a_Bh_state_4 (dko_180 _) rfl
theorem d_Bh_state_7 : decode b_Bh_state 7 = .ok (.ireturn, 1) := dk_0 a_Bh_state_7 (dko_172 _)
set_option maxHeartbeats 4000000 in
set_option maxRecDepth 100000 in
theorem c_Bh_state (l : Launch) (dC : Nat → ClassId) (dI : Nat → Nat → Nat) (cI cB cZ cJ : ClassId) (oB : Nat) (oRu : Nat) (xb : List Value) (hb_run : fx xb 6 (.ref oRu)) (xn : List Value) (hru_state : fx xn 4 (.int 4)) (sz : Nat) : Met l y_Bh_state w_Bh_state ({ frames := 0, cells := 0, slots := 0, locals := 0 }) (va_Pc [.ref oB] (PW dC dI cI cB cZ cJ [(oB, .inr (0, xb)), (oRu, .inr (10, xn))] sz)) (va_Qi (fun (r : Int32) (_ : Unit) => r = 4) (fun _ _ => True) (va_A [] sz)) 0 0 (va_A [] sz) := by
  refine Met.ofW (cc := b_Bh_state) (maxL := 1) (ret := (some .int)) (by decide) rfl ?_
  intro p e s m args below meth c s₁ B hml hv
  obtain ⟨rfl, hsz, hP, hK, hD⟩ := hv
  have hx := B.exec
  have hb := B.bytes
  have hr := B.returns
  have hts := atoms_spec (ws := w_Bh_state) B.pre
  have hown : s.vm.findClass R_Bh = some m.cls := findClass_of_methodNamed B.named
  have hlocks := B.notSynchronized
  subst hsz
  generalize hAe : va_A [] s.heap.size = A at ⊢
  have hA : ∀ q : Nat, s.heap.size ≤ q → A q := fun q h => by rw [← hAe]; exact Or.inr h
  have hS : va_S A s.heap s.heap [] := va_S.rf
  have hP : va_P (dC, dI) classes [(oB, .inr (0, xb)), (oRu, .inr (10, xn))] s.heap := hP
  have hl := lv_entry ([.ref oB]) (n := 1) (Nat.le_of_ble_eq_true rfl)
  rw [lg_entry_eq]
  generalize (lg_sl ([.ref oB]) ++ List.replicate (1 - (lg_sl ([.ref oB])).length) Slot.unset).toArray = ls at hl ⊢
  have hl : lv_has ls 1 [(0, .ref oB)] := hl
  refine lv_aload_n hx hb d_Bh_state_0 rfl (lv_at hl 0 rfl) ?_
  refine va_get (D := (dC, dI)) (ci := 0) (v := .ref oRu) (C := R_Bh) (T := F_Bh) (N := 16) hx hb hts (fun w h => List.mem_cons_of_mem _ (in_Bh w h)) hown hK.1 hP 0 rfl rfl 6 (by decide) (hts _ (List.mem_cons_of_mem _ mw_690)) (fun _ h9 => h9) hb_run d_Bh_state_1 ?_
  refine va_get (D := (dC, dI)) (ci := 10) (v := .int 4) (C := R_Ru) (T := F_Ru) (N := 21) hx hb hts (fun w h => List.mem_cons_of_mem _ (in_Ru w h)) hown hK.1 hP 1 rfl rfl 4 (by decide) (hts _ (List.mem_cons_of_mem _ mw_517)) (fun _ h9 => h9) hru_state d_Bh_state_4 ?_
  exact W.iret (v := 4) hx hb hr (fun t ht hW => ⟨⟨_, (), rfl, (rfl), trivial⟩, hS.F ht⟩) hS.2.2 d_Bh_state_7
abbrev t_St_isTank_34 : List UInt8 := 172 :: []
abbrev t_St_isTank_33 : List UInt8 := 3 :: t_St_isTank_34
abbrev t_St_isTank_30 : List UInt8 := 167 :: 0 :: 4 :: t_St_isTank_33
abbrev t_St_isTank_29 : List UInt8 := 4 :: t_St_isTank_30
abbrev t_St_isTank_26 : List UInt8 := 160 :: 0 :: 7 :: t_St_isTank_29
abbrev t_St_isTank_24 : List UInt8 := 16 :: 9 :: t_St_isTank_26
abbrev t_St_isTank_23 : List UInt8 := 46 :: t_St_isTank_24
abbrev t_St_isTank_22 : List UInt8 := 27 :: t_St_isTank_23
abbrev t_St_isTank_19 : List UInt8 := 180 :: 0 :: 64 :: t_St_isTank_22
abbrev t_St_isTank_16 : List UInt8 := 180 :: 0 :: 12 :: t_St_isTank_19
abbrev t_St_isTank_15 : List UInt8 := 42 :: t_St_isTank_16
abbrev t_St_isTank_12 : List UInt8 := 162 :: 0 :: 21 :: t_St_isTank_15
abbrev t_St_isTank_9 : List UInt8 := 180 :: 0 :: 60 :: t_St_isTank_12
abbrev t_St_isTank_6 : List UInt8 := 180 :: 0 :: 12 :: t_St_isTank_9
abbrev t_St_isTank_5 : List UInt8 := 42 :: t_St_isTank_6
abbrev t_St_isTank_4 : List UInt8 := 27 :: t_St_isTank_5
abbrev t_St_isTank_1 : List UInt8 := 155 :: 0 :: 32 :: t_St_isTank_4
abbrev t_St_isTank_0 : List UInt8 := 27 :: t_St_isTank_1
theorem a_St_isTank_0 : dk_at b_St_isTank 0 t_St_isTank_0 := dk_start (by decide +kernel)
theorem a_St_isTank_1 : dk_at b_St_isTank 1 t_St_isTank_1 := dk_go 1 a_St_isTank_0 rfl
theorem a_St_isTank_4 : dk_at b_St_isTank 4 t_St_isTank_4 := dk_go 3 a_St_isTank_1 rfl
theorem a_St_isTank_5 : dk_at b_St_isTank 5 t_St_isTank_5 := dk_go 1 a_St_isTank_4 rfl
theorem a_St_isTank_6 : dk_at b_St_isTank 6 t_St_isTank_6 := dk_go 1 a_St_isTank_5 rfl
theorem a_St_isTank_9 : dk_at b_St_isTank 9 t_St_isTank_9 := dk_go 3 a_St_isTank_6 rfl
theorem a_St_isTank_12 : dk_at b_St_isTank 12 t_St_isTank_12 := dk_go 3 a_St_isTank_9 rfl
theorem a_St_isTank_15 : dk_at b_St_isTank 15 t_St_isTank_15 := dk_go 3 a_St_isTank_12 rfl
theorem a_St_isTank_16 : dk_at b_St_isTank 16 t_St_isTank_16 := dk_go 1 a_St_isTank_15 rfl
theorem a_St_isTank_19 : dk_at b_St_isTank 19 t_St_isTank_19 := dk_go 3 a_St_isTank_16 rfl
theorem a_St_isTank_22 : dk_at b_St_isTank 22 t_St_isTank_22 := dk_go 3 a_St_isTank_19 rfl
theorem a_St_isTank_23 : dk_at b_St_isTank 23 t_St_isTank_23 := dk_go 1 a_St_isTank_22 rfl
theorem a_St_isTank_24 : dk_at b_St_isTank 24 t_St_isTank_24 := dk_go 1 a_St_isTank_23 rfl
theorem a_St_isTank_26 : dk_at b_St_isTank 26 t_St_isTank_26 := dk_go 2 a_St_isTank_24 rfl
theorem a_St_isTank_29 : dk_at b_St_isTank 29 t_St_isTank_29 := dk_go 3 a_St_isTank_26 rfl
theorem a_St_isTank_30 : dk_at b_St_isTank 30 t_St_isTank_30 := dk_go 1 a_St_isTank_29 rfl
theorem a_St_isTank_33 : dk_at b_St_isTank 33 t_St_isTank_33 := dk_go 3 a_St_isTank_30 rfl
theorem a_St_isTank_34 : dk_at b_St_isTank 34 t_St_isTank_34 := dk_go 1 a_St_isTank_33 rfl
theorem d_St_isTank_0 : decode b_St_isTank 0 = .ok (.iload_n 1, 1) := dk_0 a_St_isTank_0 (dko_27 _)
theorem d_St_isTank_1 : decode b_St_isTank 1 = .ok (.ifCond .lt 32, 3) := dk_S2 a_St_isTank_1 (dko_155 _) (by decide +kernel)
theorem d_St_isTank_4 : decode b_St_isTank 4 = .ok (.iload_n 1, 1) := dk_0 a_St_isTank_4 (dko_27 _)
theorem d_St_isTank_5 : decode b_St_isTank 5 = .ok (.aload_n 0, 1) := dk_0 a_St_isTank_5 (dko_42 _)
theorem d_St_isTank_6 : decode b_St_isTank 6 = .ok (.getfield 12, 3) := dk_U2 a_St_isTank_6 (dko_180 _) rfl
theorem d_St_isTank_9 : decode b_St_isTank 9 = .ok (.getfield 60, 3) := dk_U2 a_St_isTank_9 (dko_180 _) rfl
theorem d_St_isTank_12 : decode b_St_isTank 12 = .ok (.if_icmp .ge 21, 3) := dk_S2 a_St_isTank_12 (dko_162 _) (by decide +kernel)
theorem d_St_isTank_33 : decode b_St_isTank 33 = .ok (.iconst 0, 1) := dk_0 a_St_isTank_33 (dko_3 _)
theorem d_St_isTank_34 : decode b_St_isTank 34 = .ok (.ireturn, 1) := dk_0 a_St_isTank_34 (dko_172 _)
set_option maxHeartbeats 4000000 in
set_option maxRecDepth 100000 in
theorem c_St_isTank (l : Launch) (dC : Nat → ClassId) (dI : Nat → Nat → Nat) (cI cB cZ cJ : ClassId) (th : Int32) (oSt : Nat) (oP1 : Nat) (xs_ : List Value) (hst_plant : fx xs_ 0 (.ref oP1)) (xp : List Value) (hxp_things : fx xp 0 (.int 0)) (sz : Nat) : Met l y_St_isTank w_St_isTank ({ frames := 0, cells := 0, slots := 0, locals := 0 }) (va_Pc [.ref oSt, .int th] (PW dC dI cI cB cZ cJ [(oSt, .inr (4, xs_)), (oP1, .inr (3, xp))] sz)) (va_Qi (fun (r : Int32) (_ : Unit) => r = 0) (fun _ _ => True) (va_A [] sz)) 0 0 (va_A [] sz) := by
  refine Met.ofW (cc := b_St_isTank) (maxL := 2) (ret := (some .boolean)) (by decide) rfl ?_
  intro p e s m args below meth c s₁ B hml hv
  obtain ⟨rfl, hsz, hP, hK, hD⟩ := hv
  have hx := B.exec
  have hb := B.bytes
  have hr := B.returns
  have hts := atoms_spec (ws := w_St_isTank) B.pre
  have hown : s.vm.findClass R_St = some m.cls := findClass_of_methodNamed B.named
  have hlocks := B.notSynchronized
  subst hsz
  generalize hAe : va_A [] s.heap.size = A at ⊢
  have hA : ∀ q : Nat, s.heap.size ≤ q → A q := fun q h => by rw [← hAe]; exact Or.inr h
  have hS : va_S A s.heap s.heap [] := va_S.rf
  have hP : va_P (dC, dI) classes [(oSt, .inr (4, xs_)), (oP1, .inr (3, xp))] s.heap := hP
  have hl := lv_entry ([.ref oSt, .int th]) (n := 2) (Nat.le_of_ble_eq_true rfl)
  rw [lg_entry_eq]
  generalize (lg_sl ([.ref oSt, .int th]) ++ List.replicate (2 - (lg_sl ([.ref oSt, .int th])).length) Slot.unset).toArray = ls at hl ⊢
  have hl : lv_has ls 2 [(0, .ref oSt), (1, .int th)] := hl
  refine lv_iload_n hx hb d_St_isTank_0 rfl (lv_at hl 1 rfl) ?_
  refine lv_if_lt (tgt := 33) hx hb d_St_isTank_1 (by decide) (fun h1 => ?_) (fun h1 => ?_)
  · refine lv_iconst (v := 0) hx hb d_St_isTank_33 (by decide) ?_
    exact W.zret (v := 0) (ty := .boolean) hx hb hr (by decide) (fun t ht hW => ⟨⟨_, (), rfl, (rfl), trivial⟩, hS.F ht⟩) hS.2.2 d_St_isTank_34
  · refine lv_iload_n hx hb d_St_isTank_4 rfl (lv_at hl 1 rfl) ?_
    refine lv_aload_n hx hb d_St_isTank_5 rfl (lv_at hl 0 rfl) ?_
    refine va_get (D := (dC, dI)) (ci := 4) (v := .ref oP1) (C := R_St) (T := F_St) (N := 12) hx hb hts (fun w h => List.mem_cons_of_mem _ (in_St w h)) hown hK.1 hP 0 rfl rfl 0 (by decide) (hts _ (List.mem_cons_of_mem _ mw_149)) (fun _ h9 => h9) hst_plant d_St_isTank_6 ?_
    refine va_get (D := (dC, dI)) (ci := 3) (v := .int 0) (C := R_Pl) (T := F_Pl) (N := 12) hx hb hts (fun w h => List.mem_cons_of_mem _ (in_Pl w h)) hown hK.1 hP 1 rfl rfl 0 (by decide) (hts _ (List.mem_cons_of_mem _ mw_88)) (fun _ h9 => h9) hxp_things d_St_isTank_9 ?_
    refine lv_icmp_ge (tgt := 33) hx hb d_St_isTank_12 (by decide) (fun _ => ?_) (fun h => absurd (nd_le h1 (by decide)) h)
    refine lv_iconst (v := 0) hx hb d_St_isTank_33 (by decide) ?_
    exact W.zret (v := 0) (ty := .boolean) hx hb hr (by decide) (fun t ht hW => ⟨⟨_, (), rfl, (rfl), trivial⟩, hS.F ht⟩) hS.2.2 d_St_isTank_34
abbrev t_St_isValve_34 : List UInt8 := 172 :: []
abbrev t_St_isValve_33 : List UInt8 := 3 :: t_St_isValve_34
abbrev t_St_isValve_30 : List UInt8 := 167 :: 0 :: 4 :: t_St_isValve_33
abbrev t_St_isValve_29 : List UInt8 := 4 :: t_St_isValve_30
abbrev t_St_isValve_26 : List UInt8 := 162 :: 0 :: 7 :: t_St_isValve_29
abbrev t_St_isValve_24 : List UInt8 := 16 :: 8 :: t_St_isValve_26
abbrev t_St_isValve_23 : List UInt8 := 46 :: t_St_isValve_24
abbrev t_St_isValve_22 : List UInt8 := 27 :: t_St_isValve_23
abbrev t_St_isValve_19 : List UInt8 := 180 :: 0 :: 64 :: t_St_isValve_22
abbrev t_St_isValve_16 : List UInt8 := 180 :: 0 :: 12 :: t_St_isValve_19
abbrev t_St_isValve_15 : List UInt8 := 42 :: t_St_isValve_16
abbrev t_St_isValve_12 : List UInt8 := 162 :: 0 :: 21 :: t_St_isValve_15
abbrev t_St_isValve_9 : List UInt8 := 180 :: 0 :: 60 :: t_St_isValve_12
abbrev t_St_isValve_6 : List UInt8 := 180 :: 0 :: 12 :: t_St_isValve_9
abbrev t_St_isValve_5 : List UInt8 := 42 :: t_St_isValve_6
abbrev t_St_isValve_4 : List UInt8 := 27 :: t_St_isValve_5
abbrev t_St_isValve_1 : List UInt8 := 155 :: 0 :: 32 :: t_St_isValve_4
abbrev t_St_isValve_0 : List UInt8 := 27 :: t_St_isValve_1
theorem a_St_isValve_0 : dk_at b_St_isValve 0 t_St_isValve_0 := dk_start (by decide +kernel)
theorem a_St_isValve_1 : dk_at b_St_isValve 1 t_St_isValve_1 := dk_go 1 a_St_isValve_0 rfl
theorem a_St_isValve_4 : dk_at b_St_isValve 4 t_St_isValve_4 := dk_go 3 a_St_isValve_1 rfl
theorem a_St_isValve_5 : dk_at b_St_isValve 5 t_St_isValve_5 := dk_go 1 a_St_isValve_4 rfl
theorem a_St_isValve_6 : dk_at b_St_isValve 6 t_St_isValve_6 := dk_go 1 a_St_isValve_5 rfl
theorem a_St_isValve_9 : dk_at b_St_isValve 9 t_St_isValve_9 := dk_go 3 a_St_isValve_6 rfl
theorem a_St_isValve_12 : dk_at b_St_isValve 12 t_St_isValve_12 := dk_go 3 a_St_isValve_9 rfl
theorem a_St_isValve_15 : dk_at b_St_isValve 15 t_St_isValve_15 := dk_go 3 a_St_isValve_12 rfl
theorem a_St_isValve_16 : dk_at b_St_isValve 16 t_St_isValve_16 := dk_go 1 a_St_isValve_15 rfl
theorem a_St_isValve_19 : dk_at b_St_isValve 19 t_St_isValve_19 := dk_go 3 a_St_isValve_16 rfl
theorem a_St_isValve_22 : dk_at b_St_isValve 22 t_St_isValve_22 := dk_go 3 a_St_isValve_19 rfl
theorem a_St_isValve_23 : dk_at b_St_isValve 23 t_St_isValve_23 := dk_go 1 a_St_isValve_22 rfl
theorem a_St_isValve_24 : dk_at b_St_isValve 24 t_St_isValve_24 := dk_go 1 a_St_isValve_23 rfl
theorem a_St_isValve_26 : dk_at b_St_isValve 26 t_St_isValve_26 := dk_go 2 a_St_isValve_24 rfl
theorem a_St_isValve_29 : dk_at b_St_isValve 29 t_St_isValve_29 := dk_go 3 a_St_isValve_26 rfl
theorem a_St_isValve_30 : dk_at b_St_isValve 30 t_St_isValve_30 := dk_go 1 a_St_isValve_29 rfl
theorem a_St_isValve_33 : dk_at b_St_isValve 33 t_St_isValve_33 := dk_go 3 a_St_isValve_30 rfl
theorem a_St_isValve_34 : dk_at b_St_isValve 34 t_St_isValve_34 := dk_go 1 a_St_isValve_33 rfl
theorem d_St_isValve_0 : decode b_St_isValve 0 = .ok (.iload_n 1, 1) := dk_0 a_St_isValve_0 (dko_27 _)
theorem d_St_isValve_1 : decode b_St_isValve 1 = .ok (.ifCond .lt 32, 3) := dk_S2 a_St_isValve_1 (dko_155 _) (by decide +kernel)
theorem d_St_isValve_4 : decode b_St_isValve 4 = .ok (.iload_n 1, 1) := dk_0 a_St_isValve_4 (dko_27 _)
theorem d_St_isValve_5 : decode b_St_isValve 5 = .ok (.aload_n 0, 1) := dk_0 a_St_isValve_5 (dko_42 _)
theorem d_St_isValve_6 : decode b_St_isValve 6 = .ok (.getfield 12, 3) := dk_U2 a_St_isValve_6 (dko_180 _) rfl
theorem d_St_isValve_9 : decode b_St_isValve 9 = .ok (.getfield 60, 3) := dk_U2 a_St_isValve_9 (dko_180 _) rfl
theorem d_St_isValve_12 : decode b_St_isValve 12 = .ok (.if_icmp .ge 21, 3) := dk_S2 a_St_isValve_12 (dko_162 _) (by decide +kernel)
theorem d_St_isValve_33 : decode b_St_isValve 33 = .ok (.iconst 0, 1) := dk_0 a_St_isValve_33 (dko_3 _)
theorem d_St_isValve_34 : decode b_St_isValve 34 = .ok (.ireturn, 1) := dk_0 a_St_isValve_34 (dko_172 _)
set_option maxHeartbeats 4000000 in
set_option maxRecDepth 100000 in
theorem c_St_isValve (l : Launch) (dC : Nat → ClassId) (dI : Nat → Nat → Nat) (cI cB cZ cJ : ClassId) (th : Int32) (oSt : Nat) (oP1 : Nat) (xs_ : List Value) (hst_plant : fx xs_ 0 (.ref oP1)) (xp : List Value) (hxp_things : fx xp 0 (.int 0)) (sz : Nat) : Met l y_St_isValve w_St_isValve ({ frames := 0, cells := 0, slots := 0, locals := 0 }) (va_Pc [.ref oSt, .int th] (PW dC dI cI cB cZ cJ [(oSt, .inr (4, xs_)), (oP1, .inr (3, xp))] sz)) (va_Qi (fun (r : Int32) (_ : Unit) => r = 0) (fun _ _ => True) (va_A [] sz)) 0 0 (va_A [] sz) := by
  refine Met.ofW (cc := b_St_isValve) (maxL := 2) (ret := (some .boolean)) (by decide) rfl ?_
  intro p e s m args below meth c s₁ B hml hv
  obtain ⟨rfl, hsz, hP, hK, hD⟩ := hv
  have hx := B.exec
  have hb := B.bytes
  have hr := B.returns
  have hts := atoms_spec (ws := w_St_isValve) B.pre
  have hown : s.vm.findClass R_St = some m.cls := findClass_of_methodNamed B.named
  have hlocks := B.notSynchronized
  subst hsz
  generalize hAe : va_A [] s.heap.size = A at ⊢
  have hA : ∀ q : Nat, s.heap.size ≤ q → A q := fun q h => by rw [← hAe]; exact Or.inr h
  have hS : va_S A s.heap s.heap [] := va_S.rf
  have hP : va_P (dC, dI) classes [(oSt, .inr (4, xs_)), (oP1, .inr (3, xp))] s.heap := hP
  have hl := lv_entry ([.ref oSt, .int th]) (n := 2) (Nat.le_of_ble_eq_true rfl)
  rw [lg_entry_eq]
  generalize (lg_sl ([.ref oSt, .int th]) ++ List.replicate (2 - (lg_sl ([.ref oSt, .int th])).length) Slot.unset).toArray = ls at hl ⊢
  have hl : lv_has ls 2 [(0, .ref oSt), (1, .int th)] := hl
  refine lv_iload_n hx hb d_St_isValve_0 rfl (lv_at hl 1 rfl) ?_
  refine lv_if_lt (tgt := 33) hx hb d_St_isValve_1 (by decide) (fun h1 => ?_) (fun h1 => ?_)
  · refine lv_iconst (v := 0) hx hb d_St_isValve_33 (by decide) ?_
    exact W.zret (v := 0) (ty := .boolean) hx hb hr (by decide) (fun t ht hW => ⟨⟨_, (), rfl, (rfl), trivial⟩, hS.F ht⟩) hS.2.2 d_St_isValve_34
  · refine lv_iload_n hx hb d_St_isValve_4 rfl (lv_at hl 1 rfl) ?_
    refine lv_aload_n hx hb d_St_isValve_5 rfl (lv_at hl 0 rfl) ?_
    refine va_get (D := (dC, dI)) (ci := 4) (v := .ref oP1) (C := R_St) (T := F_St) (N := 12) hx hb hts (fun w h => List.mem_cons_of_mem _ (in_St w h)) hown hK.1 hP 0 rfl rfl 0 (by decide) (hts _ (List.mem_cons_of_mem _ mw_149)) (fun _ h9 => h9) hst_plant d_St_isValve_6 ?_
    refine va_get (D := (dC, dI)) (ci := 3) (v := .int 0) (C := R_Pl) (T := F_Pl) (N := 12) hx hb hts (fun w h => List.mem_cons_of_mem _ (in_Pl w h)) hown hK.1 hP 1 rfl rfl 0 (by decide) (hts _ (List.mem_cons_of_mem _ mw_88)) (fun _ h9 => h9) hxp_things d_St_isValve_9 ?_
    refine lv_icmp_ge (tgt := 33) hx hb d_St_isValve_12 (by decide) (fun _ => ?_) (fun h => absurd (nd_le h1 (by decide)) h)
    refine lv_iconst (v := 0) hx hb d_St_isValve_33 (by decide) ?_
    exact W.zret (v := 0) (ty := .boolean) hx hb hr (by decide) (fun t ht hW => ⟨⟨_, (), rfl, (rfl), trivial⟩, hS.F ht⟩) hS.2.2 d_St_isValve_34
abbrev t_St_isPipe_35 : List UInt8 := 172 :: []
abbrev t_St_isPipe_34 : List UInt8 := 3 :: t_St_isPipe_35
abbrev t_St_isPipe_31 : List UInt8 := 167 :: 0 :: 4 :: t_St_isPipe_34
abbrev t_St_isPipe_30 : List UInt8 := 4 :: t_St_isPipe_31
abbrev t_St_isPipe_27 : List UInt8 := 162 :: 0 :: 7 :: t_St_isPipe_30
abbrev t_St_isPipe_26 : List UInt8 := 96 :: t_St_isPipe_27
abbrev t_St_isPipe_23 : List UInt8 := 180 :: 0 :: 67 :: t_St_isPipe_26
abbrev t_St_isPipe_20 : List UInt8 := 180 :: 0 :: 12 :: t_St_isPipe_23
abbrev t_St_isPipe_19 : List UInt8 := 42 :: t_St_isPipe_20
abbrev t_St_isPipe_16 : List UInt8 := 180 :: 0 :: 60 :: t_St_isPipe_19
abbrev t_St_isPipe_13 : List UInt8 := 180 :: 0 :: 12 :: t_St_isPipe_16
abbrev t_St_isPipe_12 : List UInt8 := 42 :: t_St_isPipe_13
abbrev t_St_isPipe_11 : List UInt8 := 27 :: t_St_isPipe_12
abbrev t_St_isPipe_8 : List UInt8 := 161 :: 0 :: 26 :: t_St_isPipe_11
abbrev t_St_isPipe_5 : List UInt8 := 180 :: 0 :: 60 :: t_St_isPipe_8
abbrev t_St_isPipe_2 : List UInt8 := 180 :: 0 :: 12 :: t_St_isPipe_5
abbrev t_St_isPipe_1 : List UInt8 := 42 :: t_St_isPipe_2
abbrev t_St_isPipe_0 : List UInt8 := 27 :: t_St_isPipe_1
theorem a_St_isPipe_0 : dk_at b_St_isPipe 0 t_St_isPipe_0 := dk_start (by decide +kernel)
theorem a_St_isPipe_1 : dk_at b_St_isPipe 1 t_St_isPipe_1 := dk_go 1 a_St_isPipe_0 rfl
theorem a_St_isPipe_2 : dk_at b_St_isPipe 2 t_St_isPipe_2 := dk_go 1 a_St_isPipe_1 rfl
theorem a_St_isPipe_5 : dk_at b_St_isPipe 5 t_St_isPipe_5 := dk_go 3 a_St_isPipe_2 rfl
theorem a_St_isPipe_8 : dk_at b_St_isPipe 8 t_St_isPipe_8 := dk_go 3 a_St_isPipe_5 rfl
theorem a_St_isPipe_11 : dk_at b_St_isPipe 11 t_St_isPipe_11 := dk_go 3 a_St_isPipe_8 rfl
theorem a_St_isPipe_12 : dk_at b_St_isPipe 12 t_St_isPipe_12 := dk_go 1 a_St_isPipe_11 rfl
theorem a_St_isPipe_13 : dk_at b_St_isPipe 13 t_St_isPipe_13 := dk_go 1 a_St_isPipe_12 rfl
theorem a_St_isPipe_16 : dk_at b_St_isPipe 16 t_St_isPipe_16 := dk_go 3 a_St_isPipe_13 rfl
theorem a_St_isPipe_19 : dk_at b_St_isPipe 19 t_St_isPipe_19 := dk_go 3 a_St_isPipe_16 rfl
theorem a_St_isPipe_20 : dk_at b_St_isPipe 20 t_St_isPipe_20 := dk_go 1 a_St_isPipe_19 rfl
theorem a_St_isPipe_23 : dk_at b_St_isPipe 23 t_St_isPipe_23 := dk_go 3 a_St_isPipe_20 rfl
theorem a_St_isPipe_26 : dk_at b_St_isPipe 26 t_St_isPipe_26 := dk_go 3 a_St_isPipe_23 rfl
theorem a_St_isPipe_27 : dk_at b_St_isPipe 27 t_St_isPipe_27 := dk_go 1 a_St_isPipe_26 rfl
theorem a_St_isPipe_30 : dk_at b_St_isPipe 30 t_St_isPipe_30 := dk_go 3 a_St_isPipe_27 rfl
theorem a_St_isPipe_31 : dk_at b_St_isPipe 31 t_St_isPipe_31 := dk_go 1 a_St_isPipe_30 rfl
theorem a_St_isPipe_34 : dk_at b_St_isPipe 34 t_St_isPipe_34 := dk_go 3 a_St_isPipe_31 rfl
theorem a_St_isPipe_35 : dk_at b_St_isPipe 35 t_St_isPipe_35 := dk_go 1 a_St_isPipe_34 rfl
theorem d_St_isPipe_0 : decode b_St_isPipe 0 = .ok (.iload_n 1, 1) := dk_0 a_St_isPipe_0 (dko_27 _)
theorem d_St_isPipe_1 : decode b_St_isPipe 1 = .ok (.aload_n 0, 1) := dk_0 a_St_isPipe_1 (dko_42 _)
theorem d_St_isPipe_2 : decode b_St_isPipe 2 = .ok (.getfield 12, 3) := dk_U2 a_St_isPipe_2 (dko_180 _) rfl
theorem d_St_isPipe_5 : decode b_St_isPipe 5 = .ok (.getfield 60, 3) := dk_U2 a_St_isPipe_5 (dko_180 _) rfl
theorem d_St_isPipe_8 : decode b_St_isPipe 8 = .ok (.if_icmp .lt 26, 3) := dk_S2 a_St_isPipe_8 (dko_161 _) (by decide +kernel)
theorem d_St_isPipe_11 : decode b_St_isPipe 11 = .ok (.iload_n 1, 1) := dk_0 a_St_isPipe_11 (dko_27 _)
theorem d_St_isPipe_12 : decode b_St_isPipe 12 = .ok (.aload_n 0, 1) := dk_0 a_St_isPipe_12 (dko_42 _)
theorem d_St_isPipe_13 : decode b_St_isPipe 13 = .ok (.getfield 12, 3) := dk_U2 a_St_isPipe_13 (dko_180 _) rfl
theorem d_St_isPipe_16 : decode b_St_isPipe 16 = .ok (.getfield 60, 3) := dk_U2 a_St_isPipe_16 (dko_180 _) rfl
theorem d_St_isPipe_19 : decode b_St_isPipe 19 = .ok (.aload_n 0, 1) := dk_0 a_St_isPipe_19 (dko_42 _)
theorem d_St_isPipe_20 : decode b_St_isPipe 20 = .ok (.getfield 12, 3) := dk_U2 a_St_isPipe_20 (dko_180 _) rfl
theorem d_St_isPipe_23 : decode b_St_isPipe 23 = .ok (.getfield 67, 3) := dk_U2 a_St_isPipe_23 (dko_180 _) rfl
theorem d_St_isPipe_26 : decode b_St_isPipe 26 = .ok (.iadd, 1) := dk_0 a_St_isPipe_26 (dko_96 _)
theorem d_St_isPipe_27 : decode b_St_isPipe 27 = .ok (.if_icmp .ge 7, 3) := dk_S2 a_St_isPipe_27 (dko_162 _) (by decide +kernel)
theorem d_St_isPipe_34 : decode b_St_isPipe 34 = .ok (.iconst 0, 1) := dk_0 a_St_isPipe_34 (dko_3 _)
theorem d_St_isPipe_35 : decode b_St_isPipe 35 = .ok (.ireturn, 1) := dk_0 a_St_isPipe_35 (dko_172 _)
set_option maxHeartbeats 4000000 in
set_option maxRecDepth 100000 in
theorem c_St_isPipe (l : Launch) (dC : Nat → ClassId) (dI : Nat → Nat → Nat) (cI cB cZ cJ : ClassId) (th : Int32) (oSt : Nat) (oP1 : Nat) (xs_ : List Value) (hst_plant : fx xs_ 0 (.ref oP1)) (xp : List Value) (hxp_things : fx xp 0 (.int 0)) (hxp_pipes : fx xp 1 (.int 0)) (sz : Nat) : Met l y_St_isPipe w_St_isPipe ({ frames := 0, cells := 0, slots := 0, locals := 0 }) (va_Pc [.ref oSt, .int th] (PW dC dI cI cB cZ cJ [(oSt, .inr (4, xs_)), (oP1, .inr (3, xp))] sz)) (va_Qi (fun (r : Int32) (_ : Unit) => r = 0) (fun _ _ => True) (va_A [] sz)) 0 0 (va_A [] sz) := by
  refine Met.ofW (cc := b_St_isPipe) (maxL := 2) (ret := (some .boolean)) (by decide) rfl ?_
  intro p e s m args below meth c s₁ B hml hv
  obtain ⟨rfl, hsz, hP, hK, hD⟩ := hv
  have hx := B.exec
  have hb := B.bytes
  have hr := B.returns
  have hts := atoms_spec (ws := w_St_isPipe) B.pre
  have hown : s.vm.findClass R_St = some m.cls := findClass_of_methodNamed B.named
  have hlocks := B.notSynchronized
  subst hsz
  generalize hAe : va_A [] s.heap.size = A at ⊢
  have hA : ∀ q : Nat, s.heap.size ≤ q → A q := fun q h => by rw [← hAe]; exact Or.inr h
  have hS : va_S A s.heap s.heap [] := va_S.rf
  have hP : va_P (dC, dI) classes [(oSt, .inr (4, xs_)), (oP1, .inr (3, xp))] s.heap := hP
  have hl := lv_entry ([.ref oSt, .int th]) (n := 2) (Nat.le_of_ble_eq_true rfl)
  rw [lg_entry_eq]
  generalize (lg_sl ([.ref oSt, .int th]) ++ List.replicate (2 - (lg_sl ([.ref oSt, .int th])).length) Slot.unset).toArray = ls at hl ⊢
  have hl : lv_has ls 2 [(0, .ref oSt), (1, .int th)] := hl
  refine lv_iload_n hx hb d_St_isPipe_0 rfl (lv_at hl 1 rfl) ?_
  refine lv_aload_n hx hb d_St_isPipe_1 rfl (lv_at hl 0 rfl) ?_
  refine va_get (D := (dC, dI)) (ci := 4) (v := .ref oP1) (C := R_St) (T := F_St) (N := 12) hx hb hts (fun w h => List.mem_cons_of_mem _ (in_St w h)) hown hK.1 hP 0 rfl rfl 0 (by decide) (hts _ (List.mem_cons_of_mem _ mw_149)) (fun _ h9 => h9) hst_plant d_St_isPipe_2 ?_
  refine va_get (D := (dC, dI)) (ci := 3) (v := .int 0) (C := R_Pl) (T := F_Pl) (N := 12) hx hb hts (fun w h => List.mem_cons_of_mem _ (in_Pl w h)) hown hK.1 hP 1 rfl rfl 0 (by decide) (hts _ (List.mem_cons_of_mem _ mw_88)) (fun _ h9 => h9) hxp_things d_St_isPipe_5 ?_
  refine lv_icmp_lt (tgt := 34) hx hb d_St_isPipe_8 (by decide) (fun h8 => ?_) (fun h8 => ?_)
  · refine lv_iconst (v := 0) hx hb d_St_isPipe_34 (by decide) ?_
    exact W.zret (v := 0) (ty := .boolean) hx hb hr (by decide) (fun t ht hW => ⟨⟨_, (), rfl, (rfl), trivial⟩, hS.F ht⟩) hS.2.2 d_St_isPipe_35
  · refine lv_iload_n hx hb d_St_isPipe_11 rfl (lv_at hl 1 rfl) ?_
    refine lv_aload_n hx hb d_St_isPipe_12 rfl (lv_at hl 0 rfl) ?_
    refine va_get (D := (dC, dI)) (ci := 4) (v := .ref oP1) (C := R_St) (T := F_St) (N := 12) hx hb hts (fun w h => List.mem_cons_of_mem _ (in_St w h)) hown hK.1 hP 0 rfl rfl 0 (by decide) (hts _ (List.mem_cons_of_mem _ mw_149)) (fun _ h9 => h9) hst_plant d_St_isPipe_13 ?_
    refine va_get (D := (dC, dI)) (ci := 3) (v := .int 0) (C := R_Pl) (T := F_Pl) (N := 12) hx hb hts (fun w h => List.mem_cons_of_mem _ (in_Pl w h)) hown hK.1 hP 1 rfl rfl 0 (by decide) (hts _ (List.mem_cons_of_mem _ mw_88)) (fun _ h9 => h9) hxp_things d_St_isPipe_16 ?_
    refine lv_aload_n hx hb d_St_isPipe_19 rfl (lv_at hl 0 rfl) ?_
    refine va_get (D := (dC, dI)) (ci := 4) (v := .ref oP1) (C := R_St) (T := F_St) (N := 12) hx hb hts (fun w h => List.mem_cons_of_mem _ (in_St w h)) hown hK.1 hP 0 rfl rfl 0 (by decide) (hts _ (List.mem_cons_of_mem _ mw_149)) (fun _ h9 => h9) hst_plant d_St_isPipe_20 ?_
    refine va_get (D := (dC, dI)) (ci := 3) (v := .int 0) (C := R_Pl) (T := F_Pl) (N := 12) hx hb hts (fun w h => List.mem_cons_of_mem _ (in_Pl w h)) hown hK.1 hP 1 rfl rfl 1 (by decide) (hts _ (List.mem_cons_of_mem _ mw_94)) (fun _ h9 => h9) hxp_pipes d_St_isPipe_23 ?_
    refine lv_iadd hx hb d_St_isPipe_26 ?_
    refine lv_topi (fun x0 e0 => ?_)
    obtain rfl : x0 = 0 := e0.trans (by decide)
    refine lv_icmp_ge (tgt := 34) hx hb d_St_isPipe_27 (by decide) (fun _ => ?_) (fun h => absurd (nd_le h8 (by decide)) h)
    refine lv_iconst (v := 0) hx hb d_St_isPipe_34 (by decide) ?_
    exact W.zret (v := 0) (ty := .boolean) hx hb hr (by decide) (fun t ht hW => ⟨⟨_, (), rfl, (rfl), trivial⟩, hS.F ht⟩) hS.2.2 d_St_isPipe_35
abbrev t_St_isHolder_21 : List UInt8 := 172 :: []
abbrev t_St_isHolder_20 : List UInt8 := 3 :: t_St_isHolder_21
abbrev t_St_isHolder_17 : List UInt8 := 167 :: 0 :: 4 :: t_St_isHolder_20
abbrev t_St_isHolder_16 : List UInt8 := 4 :: t_St_isHolder_17
abbrev t_St_isHolder_13 : List UInt8 := 153 :: 0 :: 7 :: t_St_isHolder_16
abbrev t_St_isHolder_10 : List UInt8 := 182 :: 0 :: 74 :: t_St_isHolder_13
abbrev t_St_isHolder_9 : List UInt8 := 27 :: t_St_isHolder_10
abbrev t_St_isHolder_8 : List UInt8 := 42 :: t_St_isHolder_9
abbrev t_St_isHolder_5 : List UInt8 := 154 :: 0 :: 11 :: t_St_isHolder_8
abbrev t_St_isHolder_2 : List UInt8 := 182 :: 0 :: 70 :: t_St_isHolder_5
abbrev t_St_isHolder_1 : List UInt8 := 27 :: t_St_isHolder_2
abbrev t_St_isHolder_0 : List UInt8 := 42 :: t_St_isHolder_1
theorem a_St_isHolder_0 : dk_at b_St_isHolder 0 t_St_isHolder_0 := dk_start (by decide +kernel)
theorem a_St_isHolder_1 : dk_at b_St_isHolder 1 t_St_isHolder_1 := dk_go 1 a_St_isHolder_0 rfl
theorem a_St_isHolder_2 : dk_at b_St_isHolder 2 t_St_isHolder_2 := dk_go 1 a_St_isHolder_1 rfl
theorem a_St_isHolder_5 : dk_at b_St_isHolder 5 t_St_isHolder_5 := dk_go 3 a_St_isHolder_2 rfl
theorem a_St_isHolder_8 : dk_at b_St_isHolder 8 t_St_isHolder_8 := dk_go 3 a_St_isHolder_5 rfl
theorem a_St_isHolder_9 : dk_at b_St_isHolder 9 t_St_isHolder_9 := dk_go 1 a_St_isHolder_8 rfl
theorem a_St_isHolder_10 : dk_at b_St_isHolder 10 t_St_isHolder_10 := dk_go 1 a_St_isHolder_9 rfl
theorem a_St_isHolder_13 : dk_at b_St_isHolder 13 t_St_isHolder_13 := dk_go 3 a_St_isHolder_10 rfl
theorem a_St_isHolder_16 : dk_at b_St_isHolder 16 t_St_isHolder_16 := dk_go 3 a_St_isHolder_13 rfl
theorem a_St_isHolder_17 : dk_at b_St_isHolder 17 t_St_isHolder_17 := dk_go 1 a_St_isHolder_16 rfl
theorem a_St_isHolder_20 : dk_at b_St_isHolder 20 t_St_isHolder_20 := dk_go 3 a_St_isHolder_17 rfl
theorem a_St_isHolder_21 : dk_at b_St_isHolder 21 t_St_isHolder_21 := dk_go 1 a_St_isHolder_20 rfl
theorem d_St_isHolder_0 : decode b_St_isHolder 0 = .ok (.aload_n 0, 1) := dk_0 a_St_isHolder_0 (dko_42 _)
theorem d_St_isHolder_1 : decode b_St_isHolder 1 = .ok (.iload_n 1, 1) := dk_0 a_St_isHolder_1 (dko_27 _)
theorem d_St_isHolder_2 : decode b_St_isHolder 2 = .ok (.invokevirtual 70, 3) := dk_U2 a_St_isHolder_2 (dko_182 _) rfl
theorem d_St_isHolder_5 : decode b_St_isHolder 5 = .ok (.ifCond .ne 11, 3) := dk_S2 a_St_isHolder_5 (dko_154 _) (by decide +kernel)
theorem d_St_isHolder_8 : decode b_St_isHolder 8 = .ok (.aload_n 0, 1) := dk_0 a_St_isHolder_8 (dko_42 _)
theorem d_St_isHolder_9 : decode b_St_isHolder 9 = .ok (.iload_n 1, 1) := dk_0 a_St_isHolder_9 (dko_27 _)
theorem d_St_isHolder_10 : decode b_St_isHolder 10 = .ok (.invokevirtual 74, 3) := dk_U2 a_St_isHolder_10 (dko_182 _) rfl
theorem d_St_isHolder_13 : decode b_St_isHolder 13 = .ok (.ifCond .eq 7, 3) := dk_S2 a_St_isHolder_13 (dko_153 _) (by decide +kernel)
theorem d_St_isHolder_20 : decode b_St_isHolder 20 = .ok (.iconst 0, 1) := dk_0 a_St_isHolder_20 (dko_3 _)
theorem d_St_isHolder_21 : decode b_St_isHolder 21 = .ok (.ireturn, 1) := dk_0 a_St_isHolder_21 (dko_172 _)
set_option maxHeartbeats 4000000 in
set_option maxRecDepth 100000 in
theorem c_St_isHolder (l : Launch) (dC : Nat → ClassId) (dI : Nat → Nat → Nat) (cI cB cZ cJ : ClassId) (th : Int32) (oSt : Nat) (oP1 : Nat) (xs_ : List Value) (hst_plant : fx xs_ 0 (.ref oP1)) (xp : List Value) (hxp_things : fx xp 0 (.int 0)) (hxp_pipes : fx xp 1 (.int 0)) (sz : Nat) : Met l y_St_isHolder w_St_isHolder ({ frames := 1, cells := 0, slots := 0, locals := 21 }) (va_Pc [.ref oSt, .int th] (PW dC dI cI cB cZ cJ [(oSt, .inr (4, xs_)), (oP1, .inr (3, xp))] sz)) (va_Qi (fun (r : Int32) (_ : Unit) => r = 0) (fun _ _ => True) (va_A [] sz)) 0 0 (va_A [] sz) := by
  refine Met.ofW (cc := b_St_isHolder) (maxL := 2) (ret := (some .boolean)) (by decide) rfl ?_
  intro p e s m args below meth c s₁ B hml hv
  obtain ⟨rfl, hsz, hP, hK, hD⟩ := hv
  have hx := B.exec
  have hb := B.bytes
  have hr := B.returns
  have hts := atoms_spec (ws := w_St_isHolder) B.pre
  have hown : s.vm.findClass R_St = some m.cls := findClass_of_methodNamed B.named
  have hlocks := B.notSynchronized
  subst hsz
  generalize hAe : va_A [] s.heap.size = A at ⊢
  have hA : ∀ q : Nat, s.heap.size ≤ q → A q := fun q h => by rw [← hAe]; exact Or.inr h
  have hS : va_S A s.heap s.heap [] := va_S.rf
  have hP : va_P (dC, dI) classes [(oSt, .inr (4, xs_)), (oP1, .inr (3, xp))] s.heap := hP
  have hl := lv_entry ([.ref oSt, .int th]) (n := 2) (Nat.le_of_ble_eq_true rfl)
  rw [lg_entry_eq]
  generalize (lg_sl ([.ref oSt, .int th]) ++ List.replicate (2 - (lg_sl ([.ref oSt, .int th])).length) Slot.unset).toArray = ls at hl ⊢
  have hl : lv_has ls 2 [(0, .ref oSt), (1, .int th)] := hl
  refine lv_aload_n hx hb d_St_isHolder_0 rfl (lv_at hl 0 rfl) ?_
  refine lv_iload_n hx hb d_St_isHolder_1 rfl (lv_at hl 1 rfl) ?_
  have hPc := hP.sub (ws' := [(oSt, .inr (4, xs_)), (oP1, .inr (3, xp))]) [0, 1] rfl
  have hDc := hD.sub (ws' := [(oSt, .inr (4, xs_)), (oP1, .inr (3, xp))]) [0, 1] (by decide) rfl
  have hFc := pu_free hS hA
  refine va_calli (va_runV (C := R_St) (As := [.int th]) (rest := []) ⟨hx, hb, hml, hown, hts⟩ (c_St_isTank l dC dI cI cB cZ cJ th oSt oP1 xs_ hst_plant xp hxp_things s.heap.size) (cwV 1 hts (tb_V mw_1203 mw_1076 mw_1077 mw_4 mw_1078) rfl rfl rfl ⟨rfl, by decide +kernel, by decide +kernel, by decide +kernel⟩ ⟨(Nat.le_of_ble_eq_true rfl), (Nat.le_of_ble_eq_true rfl)⟩) ⟨pw_blind, va_recv (q := (R_St, F_St, 12)) hK.1 hP (ci := 4) (q0 := 0) rfl rfl, pw_pre hPc hK hDc⟩ rfl rfl hl.1 rfl (lv_room (Nat.le_of_ble_eq_true rfl)) d_St_isHolder_2 ⟨(Nat.le_of_ble_eq_true rfl), (Nat.le_of_ble_eq_true rfl)⟩) hS (fun q _ h => hFc q h) hFc (fun r u t H locs ht hvm hw hB hz1 hk1 hS => ?_)
  have hP := pu_kept hP hk1
  obtain rfl : r = 0 := hw
  refine lv_if_ne (tgt := 16) hx hb d_St_isHolder_5 (by decide) (fun h => absurd rfl h) (fun _ => ?_)
  refine lv_aload_n hx hb d_St_isHolder_8 rfl (lv_at hl 0 rfl) ?_
  refine lv_iload_n hx hb d_St_isHolder_9 rfl (lv_at hl 1 rfl) ?_
  have hPc := hP.sub (ws' := [(oSt, .inr (4, xs_)), (oP1, .inr (3, xp))]) [0, 1] rfl
  have hDc := hD.sub (ws' := [(oSt, .inr (4, xs_)), (oP1, .inr (3, xp))]) [0, 1] (by decide) rfl
  have hFc := pu_free hS hA
  refine va_calli (va_runV (C := R_St) (As := [.int th]) (rest := []) ⟨hx, hb, hml, hown, hts⟩ (c_St_isPipe l dC dI cI cB cZ cJ th oSt oP1 xs_ hst_plant xp hxp_things hxp_pipes H.size) (cwV 1 hts (tb_V mw_1204 mw_1205 mw_1206 mw_4 mw_1207) rfl rfl rfl ⟨rfl, by decide +kernel, by decide +kernel, by decide +kernel⟩ ⟨(Nat.le_of_ble_eq_true rfl), (Nat.le_of_ble_eq_true rfl)⟩) ⟨pw_blind, va_recv (q := (R_St, F_St, 12)) hK.1 hP (ci := 4) (q0 := 0) rfl rfl, pw_pre hPc hK hDc⟩ rfl rfl hl.1 rfl (lv_room (Nat.le_of_ble_eq_true rfl)) d_St_isHolder_10 ⟨(Nat.le_of_ble_eq_true rfl), (Nat.le_of_ble_eq_true rfl)⟩) hS (fun q _ h => hFc q h) hFc (fun r u t H locs ht hvm hw hB hz1 hk1 hS => ?_)
  have hP := pu_kept hP hk1
  obtain rfl : r = 0 := hw
  refine lv_if_eq (tgt := 20) hx hb d_St_isHolder_13 (by decide) (fun _ => ?_) (fun h => absurd (by decide) h)
  refine lv_iconst (v := 0) hx hb d_St_isHolder_20 (by decide) ?_
  exact W.zret (v := 0) (ty := .boolean) hx hb hr (by decide) (fun t ht hW => ⟨⟨_, (), rfl, (rfl), trivial⟩, hS.F ht⟩) hS.2.2 d_St_isHolder_21
abbrev t_Pr_isSignal_28 : List UInt8 := 172 :: []
abbrev t_Pr_isSignal_27 : List UInt8 := 3 :: t_Pr_isSignal_28
abbrev t_Pr_isSignal_24 : List UInt8 := 167 :: 0 :: 4 :: t_Pr_isSignal_27
abbrev t_Pr_isSignal_23 : List UInt8 := 4 :: t_Pr_isSignal_24
abbrev t_Pr_isSignal_20 : List UInt8 := 160 :: 0 :: 7 :: t_Pr_isSignal_23
abbrev t_Pr_isSignal_18 : List UInt8 := 16 :: 8 :: t_Pr_isSignal_20
abbrev t_Pr_isSignal_17 : List UInt8 := 46 :: t_Pr_isSignal_18
abbrev t_Pr_isSignal_16 : List UInt8 := 27 :: t_Pr_isSignal_17
abbrev t_Pr_isSignal_13 : List UInt8 := 180 :: 0 :: 41 :: t_Pr_isSignal_16
abbrev t_Pr_isSignal_12 : List UInt8 := 42 :: t_Pr_isSignal_13
abbrev t_Pr_isSignal_9 : List UInt8 := 162 :: 0 :: 18 :: t_Pr_isSignal_12
abbrev t_Pr_isSignal_6 : List UInt8 := 180 :: 0 :: 65 :: t_Pr_isSignal_9
abbrev t_Pr_isSignal_5 : List UInt8 := 42 :: t_Pr_isSignal_6
abbrev t_Pr_isSignal_4 : List UInt8 := 27 :: t_Pr_isSignal_5
abbrev t_Pr_isSignal_1 : List UInt8 := 155 :: 0 :: 26 :: t_Pr_isSignal_4
abbrev t_Pr_isSignal_0 : List UInt8 := 27 :: t_Pr_isSignal_1
theorem a_Pr_isSignal_0 : dk_at b_Pr_isSignal 0 t_Pr_isSignal_0 := dk_start (by decide +kernel)
theorem a_Pr_isSignal_1 : dk_at b_Pr_isSignal 1 t_Pr_isSignal_1 := dk_go 1 a_Pr_isSignal_0 rfl
theorem a_Pr_isSignal_4 : dk_at b_Pr_isSignal 4 t_Pr_isSignal_4 := dk_go 3 a_Pr_isSignal_1 rfl
theorem a_Pr_isSignal_5 : dk_at b_Pr_isSignal 5 t_Pr_isSignal_5 := dk_go 1 a_Pr_isSignal_4 rfl
theorem a_Pr_isSignal_6 : dk_at b_Pr_isSignal 6 t_Pr_isSignal_6 := dk_go 1 a_Pr_isSignal_5 rfl
theorem a_Pr_isSignal_9 : dk_at b_Pr_isSignal 9 t_Pr_isSignal_9 := dk_go 3 a_Pr_isSignal_6 rfl
theorem a_Pr_isSignal_12 : dk_at b_Pr_isSignal 12 t_Pr_isSignal_12 := dk_go 3 a_Pr_isSignal_9 rfl
theorem a_Pr_isSignal_13 : dk_at b_Pr_isSignal 13 t_Pr_isSignal_13 := dk_go 1 a_Pr_isSignal_12 rfl
theorem a_Pr_isSignal_16 : dk_at b_Pr_isSignal 16 t_Pr_isSignal_16 := dk_go 3 a_Pr_isSignal_13 rfl
theorem a_Pr_isSignal_17 : dk_at b_Pr_isSignal 17 t_Pr_isSignal_17 := dk_go 1 a_Pr_isSignal_16 rfl
theorem a_Pr_isSignal_18 : dk_at b_Pr_isSignal 18 t_Pr_isSignal_18 := dk_go 1 a_Pr_isSignal_17 rfl
theorem a_Pr_isSignal_20 : dk_at b_Pr_isSignal 20 t_Pr_isSignal_20 := dk_go 2 a_Pr_isSignal_18 rfl
theorem a_Pr_isSignal_23 : dk_at b_Pr_isSignal 23 t_Pr_isSignal_23 := dk_go 3 a_Pr_isSignal_20 rfl
theorem a_Pr_isSignal_24 : dk_at b_Pr_isSignal 24 t_Pr_isSignal_24 := dk_go 1 a_Pr_isSignal_23 rfl
theorem a_Pr_isSignal_27 : dk_at b_Pr_isSignal 27 t_Pr_isSignal_27 := dk_go 3 a_Pr_isSignal_24 rfl
theorem a_Pr_isSignal_28 : dk_at b_Pr_isSignal 28 t_Pr_isSignal_28 := dk_go 1 a_Pr_isSignal_27 rfl
theorem d_Pr_isSignal_0 : decode b_Pr_isSignal 0 = .ok (.iload_n 1, 1) := dk_0 a_Pr_isSignal_0 (dko_27 _)
theorem d_Pr_isSignal_1 : decode b_Pr_isSignal 1 = .ok (.ifCond .lt 26, 3) := dk_S2 a_Pr_isSignal_1 (dko_155 _) (by decide +kernel)
theorem d_Pr_isSignal_4 : decode b_Pr_isSignal 4 = .ok (.iload_n 1, 1) := dk_0 a_Pr_isSignal_4 (dko_27 _)
theorem d_Pr_isSignal_5 : decode b_Pr_isSignal 5 = .ok (.aload_n 0, 1) := dk_0 a_Pr_isSignal_5 (dko_42 _)
theorem d_Pr_isSignal_6 : decode b_Pr_isSignal 6 = .ok (.getfield 65, 3) := dk_U2 a_Pr_isSignal_6 (dko_180 _) rfl
theorem d_Pr_isSignal_9 : decode b_Pr_isSignal 9 = .ok (.if_icmp .ge 18, 3) := dk_S2 a_Pr_isSignal_9 (dko_162 _) (by decide +kernel)
theorem d_Pr_isSignal_27 : decode b_Pr_isSignal 27 = .ok (.iconst 0, 1) := dk_0 a_Pr_isSignal_27 (dko_3 _)
theorem d_Pr_isSignal_28 : decode b_Pr_isSignal 28 = .ok (.ireturn, 1) := dk_0 a_Pr_isSignal_28 (dko_172 _)
set_option maxHeartbeats 4000000 in
set_option maxRecDepth 100000 in
theorem c_Pr_isSignal (l : Launch) (dC : Nat → ClassId) (dI : Nat → Nat → Nat) (cI cB cZ cJ : ClassId) (na : Int32) (oG1 : Nat) (xg : List Value) (hxg_names : fx xg 10 (.int 0)) (sz : Nat) : Met l y_Pr_isSignal w_Pr_isSignal ({ frames := 0, cells := 0, slots := 0, locals := 0 }) (va_Pc [.ref oG1, .int na] (PW dC dI cI cB cZ cJ [(oG1, .inr (8, xg))] sz)) (va_Qi (fun (r : Int32) (_ : Unit) => r = 0) (fun _ _ => True) (va_A [] sz)) 0 0 (va_A [] sz) := by
  refine Met.ofW (cc := b_Pr_isSignal) (maxL := 2) (ret := (some .boolean)) (by decide) rfl ?_
  intro p e s m args below meth c s₁ B hml hv
  obtain ⟨rfl, hsz, hP, hK, hD⟩ := hv
  have hx := B.exec
  have hb := B.bytes
  have hr := B.returns
  have hts := atoms_spec (ws := w_Pr_isSignal) B.pre
  have hown : s.vm.findClass R_Pr = some m.cls := findClass_of_methodNamed B.named
  have hlocks := B.notSynchronized
  subst hsz
  generalize hAe : va_A [] s.heap.size = A at ⊢
  have hA : ∀ q : Nat, s.heap.size ≤ q → A q := fun q h => by rw [← hAe]; exact Or.inr h
  have hS : va_S A s.heap s.heap [] := va_S.rf
  have hP : va_P (dC, dI) classes [(oG1, .inr (8, xg))] s.heap := hP
  have hl := lv_entry ([.ref oG1, .int na]) (n := 2) (Nat.le_of_ble_eq_true rfl)
  rw [lg_entry_eq]
  generalize (lg_sl ([.ref oG1, .int na]) ++ List.replicate (2 - (lg_sl ([.ref oG1, .int na])).length) Slot.unset).toArray = ls at hl ⊢
  have hl : lv_has ls 2 [(0, .ref oG1), (1, .int na)] := hl
  refine lv_iload_n hx hb d_Pr_isSignal_0 rfl (lv_at hl 1 rfl) ?_
  refine lv_if_lt (tgt := 27) hx hb d_Pr_isSignal_1 (by decide) (fun h1 => ?_) (fun h1 => ?_)
  · refine lv_iconst (v := 0) hx hb d_Pr_isSignal_27 (by decide) ?_
    exact W.zret (v := 0) (ty := .boolean) hx hb hr (by decide) (fun t ht hW => ⟨⟨_, (), rfl, (rfl), trivial⟩, hS.F ht⟩) hS.2.2 d_Pr_isSignal_28
  · refine lv_iload_n hx hb d_Pr_isSignal_4 rfl (lv_at hl 1 rfl) ?_
    refine lv_aload_n hx hb d_Pr_isSignal_5 rfl (lv_at hl 0 rfl) ?_
    refine va_get (D := (dC, dI)) (ci := 8) (v := .int 0) (C := R_Pr) (T := F_Pr) (N := 18) hx hb hts (fun w h => List.mem_cons_of_mem _ (in_Pr w h)) hown hK.1 hP 0 rfl rfl 10 (by decide) (hts _ (List.mem_cons_of_mem _ mw_457)) (fun _ h9 => h9) hxg_names d_Pr_isSignal_6 ?_
    refine lv_icmp_ge (tgt := 27) hx hb d_Pr_isSignal_9 (by decide) (fun _ => ?_) (fun h => absurd (nd_le h1 (by decide)) h)
    refine lv_iconst (v := 0) hx hb d_Pr_isSignal_27 (by decide) ?_
    exact W.zret (v := 0) (ty := .boolean) hx hb hr (by decide) (fun t ht hW => ⟨⟨_, (), rfl, (rfl), trivial⟩, hS.F ht⟩) hS.2.2 d_Pr_isSignal_28
abbrev t_Pr_hasValue_28 : List UInt8 := 172 :: []
abbrev t_Pr_hasValue_27 : List UInt8 := 3 :: t_Pr_hasValue_28
abbrev t_Pr_hasValue_24 : List UInt8 := 167 :: 0 :: 4 :: t_Pr_hasValue_27
abbrev t_Pr_hasValue_23 : List UInt8 := 4 :: t_Pr_hasValue_24
abbrev t_Pr_hasValue_20 : List UInt8 := 159 :: 0 :: 7 :: t_Pr_hasValue_23
abbrev t_Pr_hasValue_18 : List UInt8 := 16 :: 10 :: t_Pr_hasValue_20
abbrev t_Pr_hasValue_17 : List UInt8 := 46 :: t_Pr_hasValue_18
abbrev t_Pr_hasValue_16 : List UInt8 := 27 :: t_Pr_hasValue_17
abbrev t_Pr_hasValue_13 : List UInt8 := 180 :: 0 :: 41 :: t_Pr_hasValue_16
abbrev t_Pr_hasValue_12 : List UInt8 := 42 :: t_Pr_hasValue_13
abbrev t_Pr_hasValue_9 : List UInt8 := 162 :: 0 :: 18 :: t_Pr_hasValue_12
abbrev t_Pr_hasValue_6 : List UInt8 := 180 :: 0 :: 65 :: t_Pr_hasValue_9
abbrev t_Pr_hasValue_5 : List UInt8 := 42 :: t_Pr_hasValue_6
abbrev t_Pr_hasValue_4 : List UInt8 := 27 :: t_Pr_hasValue_5
abbrev t_Pr_hasValue_1 : List UInt8 := 155 :: 0 :: 26 :: t_Pr_hasValue_4
abbrev t_Pr_hasValue_0 : List UInt8 := 27 :: t_Pr_hasValue_1
theorem a_Pr_hasValue_0 : dk_at b_Pr_hasValue 0 t_Pr_hasValue_0 := dk_start (by decide +kernel)
theorem a_Pr_hasValue_1 : dk_at b_Pr_hasValue 1 t_Pr_hasValue_1 := dk_go 1 a_Pr_hasValue_0 rfl
theorem a_Pr_hasValue_4 : dk_at b_Pr_hasValue 4 t_Pr_hasValue_4 := dk_go 3 a_Pr_hasValue_1 rfl
theorem a_Pr_hasValue_5 : dk_at b_Pr_hasValue 5 t_Pr_hasValue_5 := dk_go 1 a_Pr_hasValue_4 rfl
theorem a_Pr_hasValue_6 : dk_at b_Pr_hasValue 6 t_Pr_hasValue_6 := dk_go 1 a_Pr_hasValue_5 rfl
theorem a_Pr_hasValue_9 : dk_at b_Pr_hasValue 9 t_Pr_hasValue_9 := dk_go 3 a_Pr_hasValue_6 rfl
theorem a_Pr_hasValue_12 : dk_at b_Pr_hasValue 12 t_Pr_hasValue_12 := dk_go 3 a_Pr_hasValue_9 rfl
theorem a_Pr_hasValue_13 : dk_at b_Pr_hasValue 13 t_Pr_hasValue_13 := dk_go 1 a_Pr_hasValue_12 rfl
theorem a_Pr_hasValue_16 : dk_at b_Pr_hasValue 16 t_Pr_hasValue_16 := dk_go 3 a_Pr_hasValue_13 rfl
theorem a_Pr_hasValue_17 : dk_at b_Pr_hasValue 17 t_Pr_hasValue_17 := dk_go 1 a_Pr_hasValue_16 rfl
theorem a_Pr_hasValue_18 : dk_at b_Pr_hasValue 18 t_Pr_hasValue_18 := dk_go 1 a_Pr_hasValue_17 rfl
theorem a_Pr_hasValue_20 : dk_at b_Pr_hasValue 20 t_Pr_hasValue_20 := dk_go 2 a_Pr_hasValue_18 rfl
theorem a_Pr_hasValue_23 : dk_at b_Pr_hasValue 23 t_Pr_hasValue_23 := dk_go 3 a_Pr_hasValue_20 rfl
theorem a_Pr_hasValue_24 : dk_at b_Pr_hasValue 24 t_Pr_hasValue_24 := dk_go 1 a_Pr_hasValue_23 rfl
theorem a_Pr_hasValue_27 : dk_at b_Pr_hasValue 27 t_Pr_hasValue_27 := dk_go 3 a_Pr_hasValue_24 rfl
theorem a_Pr_hasValue_28 : dk_at b_Pr_hasValue 28 t_Pr_hasValue_28 := dk_go 1 a_Pr_hasValue_27 rfl
theorem d_Pr_hasValue_0 : decode b_Pr_hasValue 0 = .ok (.iload_n 1, 1) := dk_0 a_Pr_hasValue_0 (dko_27 _)
theorem d_Pr_hasValue_1 : decode b_Pr_hasValue 1 = .ok (.ifCond .lt 26, 3) := dk_S2 a_Pr_hasValue_1 (dko_155 _) (by decide +kernel)
theorem d_Pr_hasValue_4 : decode b_Pr_hasValue 4 = .ok (.iload_n 1, 1) := dk_0 a_Pr_hasValue_4 (dko_27 _)
theorem d_Pr_hasValue_5 : decode b_Pr_hasValue 5 = .ok (.aload_n 0, 1) := dk_0 a_Pr_hasValue_5 (dko_42 _)
theorem d_Pr_hasValue_6 : decode b_Pr_hasValue 6 = .ok (.getfield 65, 3) := dk_U2 a_Pr_hasValue_6 (dko_180 _) rfl
theorem d_Pr_hasValue_9 : decode b_Pr_hasValue 9 = .ok (.if_icmp .ge 18, 3) := dk_S2 a_Pr_hasValue_9 (dko_162 _) (by decide +kernel)
theorem d_Pr_hasValue_27 : decode b_Pr_hasValue 27 = .ok (.iconst 0, 1) := dk_0 a_Pr_hasValue_27 (dko_3 _)
theorem d_Pr_hasValue_28 : decode b_Pr_hasValue 28 = .ok (.ireturn, 1) := dk_0 a_Pr_hasValue_28 (dko_172 _)
set_option maxHeartbeats 4000000 in
set_option maxRecDepth 100000 in
theorem c_Pr_hasValue (l : Launch) (dC : Nat → ClassId) (dI : Nat → Nat → Nat) (cI cB cZ cJ : ClassId) (na : Int32) (oG1 : Nat) (xg : List Value) (hxg_names : fx xg 10 (.int 0)) (sz : Nat) : Met l y_Pr_hasValue w_Pr_hasValue ({ frames := 0, cells := 0, slots := 0, locals := 0 }) (va_Pc [.ref oG1, .int na] (PW dC dI cI cB cZ cJ [(oG1, .inr (8, xg))] sz)) (va_Qi (fun (r : Int32) (_ : Unit) => r = 0) (fun _ _ => True) (va_A [] sz)) 0 0 (va_A [] sz) := by
  refine Met.ofW (cc := b_Pr_hasValue) (maxL := 2) (ret := (some .boolean)) (by decide) rfl ?_
  intro p e s m args below meth c s₁ B hml hv
  obtain ⟨rfl, hsz, hP, hK, hD⟩ := hv
  have hx := B.exec
  have hb := B.bytes
  have hr := B.returns
  have hts := atoms_spec (ws := w_Pr_hasValue) B.pre
  have hown : s.vm.findClass R_Pr = some m.cls := findClass_of_methodNamed B.named
  have hlocks := B.notSynchronized
  subst hsz
  generalize hAe : va_A [] s.heap.size = A at ⊢
  have hA : ∀ q : Nat, s.heap.size ≤ q → A q := fun q h => by rw [← hAe]; exact Or.inr h
  have hS : va_S A s.heap s.heap [] := va_S.rf
  have hP : va_P (dC, dI) classes [(oG1, .inr (8, xg))] s.heap := hP
  have hl := lv_entry ([.ref oG1, .int na]) (n := 2) (Nat.le_of_ble_eq_true rfl)
  rw [lg_entry_eq]
  generalize (lg_sl ([.ref oG1, .int na]) ++ List.replicate (2 - (lg_sl ([.ref oG1, .int na])).length) Slot.unset).toArray = ls at hl ⊢
  have hl : lv_has ls 2 [(0, .ref oG1), (1, .int na)] := hl
  refine lv_iload_n hx hb d_Pr_hasValue_0 rfl (lv_at hl 1 rfl) ?_
  refine lv_if_lt (tgt := 27) hx hb d_Pr_hasValue_1 (by decide) (fun h1 => ?_) (fun h1 => ?_)
  · refine lv_iconst (v := 0) hx hb d_Pr_hasValue_27 (by decide) ?_
    exact W.zret (v := 0) (ty := .boolean) hx hb hr (by decide) (fun t ht hW => ⟨⟨_, (), rfl, (rfl), trivial⟩, hS.F ht⟩) hS.2.2 d_Pr_hasValue_28
  · refine lv_iload_n hx hb d_Pr_hasValue_4 rfl (lv_at hl 1 rfl) ?_
    refine lv_aload_n hx hb d_Pr_hasValue_5 rfl (lv_at hl 0 rfl) ?_
    refine va_get (D := (dC, dI)) (ci := 8) (v := .int 0) (C := R_Pr) (T := F_Pr) (N := 18) hx hb hts (fun w h => List.mem_cons_of_mem _ (in_Pr w h)) hown hK.1 hP 0 rfl rfl 10 (by decide) (hts _ (List.mem_cons_of_mem _ mw_457)) (fun _ h9 => h9) hxg_names d_Pr_hasValue_6 ?_
    refine lv_icmp_ge (tgt := 27) hx hb d_Pr_hasValue_9 (by decide) (fun _ => ?_) (fun h => absurd (nd_le h1 (by decide)) h)
    refine lv_iconst (v := 0) hx hb d_Pr_hasValue_27 (by decide) ?_
    exact W.zret (v := 0) (ty := .boolean) hx hb hr (by decide) (fun t ht hW => ⟨⟨_, (), rfl, (rfl), trivial⟩, hS.F ht⟩) hS.2.2 d_Pr_hasValue_28
abbrev t_Bh_sense_52 : List UInt8 := 172 :: []
abbrev t_Bh_sense_51 : List UInt8 := 4 :: t_Bh_sense_52
abbrev t_Bh_sense_50 : List UInt8 := 79 :: t_Bh_sense_51
abbrev t_Bh_sense_49 : List UInt8 := 29 :: t_Bh_sense_50
abbrev t_Bh_sense_48 : List UInt8 := 27 :: t_Bh_sense_49
abbrev t_Bh_sense_45 : List UInt8 := 180 :: 0 :: 244 :: t_Bh_sense_48
abbrev t_Bh_sense_42 : List UInt8 := 180 :: 0 :: 183 :: t_Bh_sense_45
abbrev t_Bh_sense_39 : List UInt8 := 180 :: 0 :: 62 :: t_Bh_sense_42
abbrev t_Bh_sense_38 : List UInt8 := 42 :: t_Bh_sense_39
abbrev t_Bh_sense_37 : List UInt8 := 79 :: t_Bh_sense_38
abbrev t_Bh_sense_36 : List UInt8 := 28 :: t_Bh_sense_37
abbrev t_Bh_sense_35 : List UInt8 := 27 :: t_Bh_sense_36
abbrev t_Bh_sense_32 : List UInt8 := 180 :: 0 :: 241 :: t_Bh_sense_35
abbrev t_Bh_sense_29 : List UInt8 := 180 :: 0 :: 183 :: t_Bh_sense_32
abbrev t_Bh_sense_26 : List UInt8 := 180 :: 0 :: 62 :: t_Bh_sense_29
abbrev t_Bh_sense_25 : List UInt8 := 42 :: t_Bh_sense_26
abbrev t_Bh_sense_24 : List UInt8 := 172 :: t_Bh_sense_25
abbrev t_Bh_sense_23 : List UInt8 := 3 :: t_Bh_sense_24
abbrev t_Bh_sense_20 : List UInt8 := 164 :: 0 :: 5 :: t_Bh_sense_23
abbrev t_Bh_sense_19 : List UInt8 := 8 :: t_Bh_sense_20
abbrev t_Bh_sense_18 : List UInt8 := 28 :: t_Bh_sense_19
abbrev t_Bh_sense_15 : List UInt8 := 155 :: 0 :: 8 :: t_Bh_sense_18
abbrev t_Bh_sense_14 : List UInt8 := 28 :: t_Bh_sense_15
abbrev t_Bh_sense_11 : List UInt8 := 153 :: 0 :: 12 :: t_Bh_sense_14
abbrev t_Bh_sense_8 : List UInt8 := 182 :: 0 :: 238 :: t_Bh_sense_11
abbrev t_Bh_sense_7 : List UInt8 := 27 :: t_Bh_sense_8
abbrev t_Bh_sense_4 : List UInt8 := 180 :: 0 :: 183 :: t_Bh_sense_7
abbrev t_Bh_sense_1 : List UInt8 := 180 :: 0 :: 62 :: t_Bh_sense_4
abbrev t_Bh_sense_0 : List UInt8 := 42 :: t_Bh_sense_1
theorem a_Bh_sense_0 : dk_at b_Bh_sense 0 t_Bh_sense_0 := dk_start (by decide +kernel)
theorem a_Bh_sense_1 : dk_at b_Bh_sense 1 t_Bh_sense_1 := dk_go 1 a_Bh_sense_0 rfl
theorem a_Bh_sense_4 : dk_at b_Bh_sense 4 t_Bh_sense_4 := dk_go 3 a_Bh_sense_1 rfl
theorem a_Bh_sense_7 : dk_at b_Bh_sense 7 t_Bh_sense_7 := dk_go 3 a_Bh_sense_4 rfl
theorem a_Bh_sense_8 : dk_at b_Bh_sense 8 t_Bh_sense_8 := dk_go 1 a_Bh_sense_7 rfl
theorem a_Bh_sense_11 : dk_at b_Bh_sense 11 t_Bh_sense_11 := dk_go 3 a_Bh_sense_8 rfl
theorem a_Bh_sense_14 : dk_at b_Bh_sense 14 t_Bh_sense_14 := dk_go 3 a_Bh_sense_11 rfl
theorem a_Bh_sense_15 : dk_at b_Bh_sense 15 t_Bh_sense_15 := dk_go 1 a_Bh_sense_14 rfl
theorem a_Bh_sense_18 : dk_at b_Bh_sense 18 t_Bh_sense_18 := dk_go 3 a_Bh_sense_15 rfl
theorem a_Bh_sense_19 : dk_at b_Bh_sense 19 t_Bh_sense_19 := dk_go 1 a_Bh_sense_18 rfl
theorem a_Bh_sense_20 : dk_at b_Bh_sense 20 t_Bh_sense_20 := dk_go 1 a_Bh_sense_19 rfl
theorem a_Bh_sense_23 : dk_at b_Bh_sense 23 t_Bh_sense_23 := dk_go 3 a_Bh_sense_20 rfl
theorem a_Bh_sense_24 : dk_at b_Bh_sense 24 t_Bh_sense_24 := dk_go 1 a_Bh_sense_23 rfl
theorem a_Bh_sense_25 : dk_at b_Bh_sense 25 t_Bh_sense_25 := dk_go 1 a_Bh_sense_24 rfl
theorem a_Bh_sense_26 : dk_at b_Bh_sense 26 t_Bh_sense_26 := dk_go 1 a_Bh_sense_25 rfl
theorem a_Bh_sense_29 : dk_at b_Bh_sense 29 t_Bh_sense_29 := dk_go 3 a_Bh_sense_26 rfl
theorem a_Bh_sense_32 : dk_at b_Bh_sense 32 t_Bh_sense_32 := dk_go 3 a_Bh_sense_29 rfl
theorem a_Bh_sense_35 : dk_at b_Bh_sense 35 t_Bh_sense_35 := dk_go 3 a_Bh_sense_32 rfl
theorem a_Bh_sense_36 : dk_at b_Bh_sense 36 t_Bh_sense_36 := dk_go 1 a_Bh_sense_35 rfl
theorem a_Bh_sense_37 : dk_at b_Bh_sense 37 t_Bh_sense_37 := dk_go 1 a_Bh_sense_36 rfl
theorem a_Bh_sense_38 : dk_at b_Bh_sense 38 t_Bh_sense_38 := dk_go 1 a_Bh_sense_37 rfl
theorem a_Bh_sense_39 : dk_at b_Bh_sense 39 t_Bh_sense_39 := dk_go 1 a_Bh_sense_38 rfl
theorem a_Bh_sense_42 : dk_at b_Bh_sense 42 t_Bh_sense_42 := dk_go 3 a_Bh_sense_39 rfl
theorem a_Bh_sense_45 : dk_at b_Bh_sense 45 t_Bh_sense_45 := dk_go 3 a_Bh_sense_42 rfl
theorem a_Bh_sense_48 : dk_at b_Bh_sense 48 t_Bh_sense_48 := dk_go 3 a_Bh_sense_45 rfl
theorem a_Bh_sense_49 : dk_at b_Bh_sense 49 t_Bh_sense_49 := dk_go 1 a_Bh_sense_48 rfl
theorem a_Bh_sense_50 : dk_at b_Bh_sense 50 t_Bh_sense_50 := dk_go 1 a_Bh_sense_49 rfl
theorem a_Bh_sense_51 : dk_at b_Bh_sense 51 t_Bh_sense_51 := dk_go 1 a_Bh_sense_50 rfl
theorem a_Bh_sense_52 : dk_at b_Bh_sense 52 t_Bh_sense_52 := dk_go 1 a_Bh_sense_51 rfl
theorem d_Bh_sense_0 : decode b_Bh_sense 0 = .ok (.aload_n 0, 1) := dk_0 a_Bh_sense_0 (dko_42 _)
theorem d_Bh_sense_1 : decode b_Bh_sense 1 = .ok (.getfield 62, 3) := dk_U2 a_Bh_sense_1 (dko_180 _) rfl
theorem d_Bh_sense_4 : decode b_Bh_sense 4 = .ok (.getfield 183, 3) := dk_U2 a_Bh_sense_4 (dko_180 _) rfl
theorem d_Bh_sense_7 : decode b_Bh_sense 7 = .ok (.iload_n 1, 1) := dk_0 a_Bh_sense_7 (dko_27 _)
theorem d_Bh_sense_8 : decode b_Bh_sense 8 = .ok (.invokevirtual 238, 3) := dk_U2 a_Bh_sense_8 (dko_182 _) rfl
theorem d_Bh_sense_11 : decode b_Bh_sense 11 = .ok (.ifCond .eq 12, 3) := dk_S2 a_Bh_sense_11 (dko_153 _) (by decide +kernel)
theorem d_Bh_sense_23 : decode b_Bh_sense 23 = .ok (.iconst 0, 1) := dk_0 a_Bh_sense_23 (dko_3 _)
theorem d_Bh_sense_24 : decode b_Bh_sense 24 = .ok (.ireturn, 1) := dk_0 a_Bh_sense_24 (dko_172 _)
set_option maxHeartbeats 4000000 in
set_option maxRecDepth 100000 in
theorem c_Bh_sense (l : Launch) (dC : Nat → ClassId) (dI : Nat → Nat → Nat) (cI cB cZ cJ : ClassId) (na : Int32) (wh : Int32) (xx : Int32) (oB : Nat) (oRu : Nat) (oG1 : Nat) (xb : List Value) (hb_run : fx xb 6 (.ref oRu)) (xn : List Value) (hru_program : fx xn 3 (.ref oG1)) (xg : List Value) (hxg_names : fx xg 10 (.int 0)) (sz : Nat) : Met l y_Bh_sense w_Bh_sense ({ frames := 1, cells := 0, slots := 0, locals := 21 }) (va_Pc [.ref oB, .int na, .int wh, .int xx] (PW dC dI cI cB cZ cJ [(oB, .inr (0, xb)), (oRu, .inr (10, xn)), (oG1, .inr (8, xg))] sz)) (va_Qi (fun (r : Int32) (_ : Unit) => r = 0) (fun _ _ => True) (va_A [] sz)) 0 0 (va_A [] sz) := by
  refine Met.ofW (cc := b_Bh_sense) (maxL := 4) (ret := (some .boolean)) (by decide) rfl ?_
  intro p e s m args below meth c s₁ B hml hv
  obtain ⟨rfl, hsz, hP, hK, hD⟩ := hv
  have hx := B.exec
  have hb := B.bytes
  have hr := B.returns
  have hts := atoms_spec (ws := w_Bh_sense) B.pre
  have hown : s.vm.findClass R_Bh = some m.cls := findClass_of_methodNamed B.named
  have hlocks := B.notSynchronized
  subst hsz
  generalize hAe : va_A [] s.heap.size = A at ⊢
  have hA : ∀ q : Nat, s.heap.size ≤ q → A q := fun q h => by rw [← hAe]; exact Or.inr h
  have hS : va_S A s.heap s.heap [] := va_S.rf
  have hP : va_P (dC, dI) classes [(oB, .inr (0, xb)), (oRu, .inr (10, xn)), (oG1, .inr (8, xg))] s.heap := hP
  have hl := lv_entry ([.ref oB, .int na, .int wh, .int xx]) (n := 4) (Nat.le_of_ble_eq_true rfl)
  rw [lg_entry_eq]
  generalize (lg_sl ([.ref oB, .int na, .int wh, .int xx]) ++ List.replicate (4 - (lg_sl ([.ref oB, .int na, .int wh, .int xx])).length) Slot.unset).toArray = ls at hl ⊢
  have hl : lv_has ls 4 [(0, .ref oB), (1, .int na), (2, .int wh), (3, .int xx)] := hl
  refine lv_aload_n hx hb d_Bh_sense_0 rfl (lv_at hl 0 rfl) ?_
  refine va_get (D := (dC, dI)) (ci := 0) (v := .ref oRu) (C := R_Bh) (T := F_Bh) (N := 16) hx hb hts (fun w h => List.mem_cons_of_mem _ (in_Bh w h)) hown hK.1 hP 0 rfl rfl 6 (by decide) (hts _ (List.mem_cons_of_mem _ mw_690)) (fun _ h9 => h9) hb_run d_Bh_sense_1 ?_
  refine va_get (D := (dC, dI)) (ci := 10) (v := .ref oG1) (C := R_Ru) (T := F_Ru) (N := 21) hx hb hts (fun w h => List.mem_cons_of_mem _ (in_Ru w h)) hown hK.1 hP 1 rfl rfl 3 (by decide) (hts _ (List.mem_cons_of_mem _ mw_515)) (fun _ h9 => h9) hru_program d_Bh_sense_4 ?_
  refine lv_iload_n hx hb d_Bh_sense_7 rfl (lv_at hl 1 rfl) ?_
  have hPc := hP.sub (ws' := [(oG1, .inr (8, xg))]) [2] rfl
  have hDc := hD.sub (ws' := [(oG1, .inr (8, xg))]) [2] (by decide) rfl
  have hFc := pu_free hS hA
  refine va_calli (va_runV (C := R_Pr) (As := [.int na]) (rest := []) ⟨hx, hb, hml, hown, hts⟩ (c_Pr_isSignal l dC dI cI cB cZ cJ na oG1 xg hxg_names s.heap.size) (cwV 1 hts (tb_V mw_1158 mw_1159 mw_1160 mw_12 mw_1161) rfl rfl rfl ⟨rfl, by decide +kernel, by decide +kernel, by decide +kernel⟩ ⟨(Nat.le_of_ble_eq_true rfl), (Nat.le_of_ble_eq_true rfl)⟩) ⟨pw_blind, va_recv (q := (R_Pr, F_Pr, 18)) hK.1 hP (ci := 8) (q0 := 2) rfl rfl, pw_pre hPc hK hDc⟩ rfl rfl hl.1 rfl (lv_room (Nat.le_of_ble_eq_true rfl)) d_Bh_sense_8 ⟨(Nat.le_of_ble_eq_true rfl), (Nat.le_of_ble_eq_true rfl)⟩) hS (fun q _ h => hFc q h) hFc (fun r u t H locs ht hvm hw hB hz1 hk1 hS => ?_)
  have hP := pu_kept hP hk1
  obtain rfl : r = 0 := hw
  refine lv_if_eq (tgt := 23) hx hb d_Bh_sense_11 (by decide) (fun _ => ?_) (fun h => absurd (by decide) h)
  refine lv_iconst (v := 0) hx hb d_Bh_sense_23 (by decide) ?_
  exact W.zret (v := 0) (ty := .boolean) hx hb hr (by decide) (fun t ht hW => ⟨⟨_, (), rfl, (rfl), trivial⟩, hS.F ht⟩) hS.2.2 d_Bh_sense_24
abbrev t_Bh_signal_30 : List UInt8 := 172 :: []
abbrev t_Bh_signal_29 : List UInt8 := 4 :: t_Bh_signal_30
abbrev t_Bh_signal_28 : List UInt8 := 80 :: t_Bh_signal_29
abbrev t_Bh_signal_27 : List UInt8 := 32 :: t_Bh_signal_28
abbrev t_Bh_signal_26 : List UInt8 := 27 :: t_Bh_signal_27
abbrev t_Bh_signal_23 : List UInt8 := 180 :: 0 :: 247 :: t_Bh_signal_26
abbrev t_Bh_signal_20 : List UInt8 := 180 :: 0 :: 183 :: t_Bh_signal_23
abbrev t_Bh_signal_17 : List UInt8 := 180 :: 0 :: 62 :: t_Bh_signal_20
abbrev t_Bh_signal_16 : List UInt8 := 42 :: t_Bh_signal_17
abbrev t_Bh_signal_15 : List UInt8 := 172 :: t_Bh_signal_16
abbrev t_Bh_signal_14 : List UInt8 := 3 :: t_Bh_signal_15
abbrev t_Bh_signal_11 : List UInt8 := 154 :: 0 :: 5 :: t_Bh_signal_14
abbrev t_Bh_signal_8 : List UInt8 := 182 :: 0 :: 238 :: t_Bh_signal_11
abbrev t_Bh_signal_7 : List UInt8 := 27 :: t_Bh_signal_8
abbrev t_Bh_signal_4 : List UInt8 := 180 :: 0 :: 183 :: t_Bh_signal_7
abbrev t_Bh_signal_1 : List UInt8 := 180 :: 0 :: 62 :: t_Bh_signal_4
abbrev t_Bh_signal_0 : List UInt8 := 42 :: t_Bh_signal_1
theorem a_Bh_signal_0 : dk_at b_Bh_signal 0 t_Bh_signal_0 := dk_start (by decide +kernel)
theorem a_Bh_signal_1 : dk_at b_Bh_signal 1 t_Bh_signal_1 := dk_go 1 a_Bh_signal_0 rfl
theorem a_Bh_signal_4 : dk_at b_Bh_signal 4 t_Bh_signal_4 := dk_go 3 a_Bh_signal_1 rfl
theorem a_Bh_signal_7 : dk_at b_Bh_signal 7 t_Bh_signal_7 := dk_go 3 a_Bh_signal_4 rfl
theorem a_Bh_signal_8 : dk_at b_Bh_signal 8 t_Bh_signal_8 := dk_go 1 a_Bh_signal_7 rfl
theorem a_Bh_signal_11 : dk_at b_Bh_signal 11 t_Bh_signal_11 := dk_go 3 a_Bh_signal_8 rfl
theorem a_Bh_signal_14 : dk_at b_Bh_signal 14 t_Bh_signal_14 := dk_go 3 a_Bh_signal_11 rfl
theorem a_Bh_signal_15 : dk_at b_Bh_signal 15 t_Bh_signal_15 := dk_go 1 a_Bh_signal_14 rfl
theorem a_Bh_signal_16 : dk_at b_Bh_signal 16 t_Bh_signal_16 := dk_go 1 a_Bh_signal_15 rfl
theorem a_Bh_signal_17 : dk_at b_Bh_signal 17 t_Bh_signal_17 := dk_go 1 a_Bh_signal_16 rfl
theorem a_Bh_signal_20 : dk_at b_Bh_signal 20 t_Bh_signal_20 := dk_go 3 a_Bh_signal_17 rfl
theorem a_Bh_signal_23 : dk_at b_Bh_signal 23 t_Bh_signal_23 := dk_go 3 a_Bh_signal_20 rfl
theorem a_Bh_signal_26 : dk_at b_Bh_signal 26 t_Bh_signal_26 := dk_go 3 a_Bh_signal_23 rfl
theorem a_Bh_signal_27 : dk_at b_Bh_signal 27 t_Bh_signal_27 := dk_go 1 a_Bh_signal_26 rfl
theorem a_Bh_signal_28 : dk_at b_Bh_signal 28 t_Bh_signal_28 := dk_go 1 a_Bh_signal_27 rfl
theorem a_Bh_signal_29 : dk_at b_Bh_signal 29 t_Bh_signal_29 := dk_go 1 a_Bh_signal_28 rfl
theorem a_Bh_signal_30 : dk_at b_Bh_signal 30 t_Bh_signal_30 := dk_go 1 a_Bh_signal_29 rfl
theorem d_Bh_signal_0 : decode b_Bh_signal 0 = .ok (.aload_n 0, 1) := dk_0 a_Bh_signal_0 (dko_42 _)
theorem d_Bh_signal_1 : decode b_Bh_signal 1 = .ok (.getfield 62, 3) := dk_U2 a_Bh_signal_1 (dko_180 _) rfl
theorem d_Bh_signal_4 : decode b_Bh_signal 4 = .ok (.getfield 183, 3) := dk_U2 a_Bh_signal_4 (dko_180 _) rfl
theorem d_Bh_signal_7 : decode b_Bh_signal 7 = .ok (.iload_n 1, 1) := dk_0 a_Bh_signal_7 (dko_27 _)
theorem d_Bh_signal_8 : decode b_Bh_signal 8 = .ok (.invokevirtual 238, 3) := dk_U2 a_Bh_signal_8 (dko_182 _) rfl
theorem d_Bh_signal_11 : decode b_Bh_signal 11 = .ok (.ifCond .ne 5, 3) := dk_S2 a_Bh_signal_11 (dko_154 _) (by decide +kernel)
theorem d_Bh_signal_14 : decode b_Bh_signal 14 = .ok (.iconst 0, 1) := dk_0 a_Bh_signal_14 (dko_3 _)
theorem d_Bh_signal_15 : decode b_Bh_signal 15 = .ok (.ireturn, 1) := dk_0 a_Bh_signal_15 (dko_172 _)
set_option maxHeartbeats 4000000 in
set_option maxRecDepth 100000 in
theorem c_Bh_signal (l : Launch) (dC : Nat → ClassId) (dI : Nat → Nat → Nat) (cI cB cZ cJ : ClassId) (na : Int32) (vv : Int64) (oB : Nat) (oRu : Nat) (oG1 : Nat) (xb : List Value) (hb_run : fx xb 6 (.ref oRu)) (xn : List Value) (hru_program : fx xn 3 (.ref oG1)) (xg : List Value) (hxg_names : fx xg 10 (.int 0)) (sz : Nat) : Met l y_Bh_signal w_Bh_signal ({ frames := 1, cells := 0, slots := 0, locals := 21 }) (va_Pc [.ref oB, .int na, .long vv] (PW dC dI cI cB cZ cJ [(oB, .inr (0, xb)), (oRu, .inr (10, xn)), (oG1, .inr (8, xg))] sz)) (va_Qi (fun (r : Int32) (_ : Unit) => r = 0) (fun _ _ => True) (va_A [] sz)) 0 0 (va_A [] sz) := by
  refine Met.ofW (cc := b_Bh_signal) (maxL := 4) (ret := (some .boolean)) (by decide) rfl ?_
  intro p e s m args below meth c s₁ B hml hv
  obtain ⟨rfl, hsz, hP, hK, hD⟩ := hv
  have hx := B.exec
  have hb := B.bytes
  have hr := B.returns
  have hts := atoms_spec (ws := w_Bh_signal) B.pre
  have hown : s.vm.findClass R_Bh = some m.cls := findClass_of_methodNamed B.named
  have hlocks := B.notSynchronized
  subst hsz
  generalize hAe : va_A [] s.heap.size = A at ⊢
  have hA : ∀ q : Nat, s.heap.size ≤ q → A q := fun q h => by rw [← hAe]; exact Or.inr h
  have hS : va_S A s.heap s.heap [] := va_S.rf
  have hP : va_P (dC, dI) classes [(oB, .inr (0, xb)), (oRu, .inr (10, xn)), (oG1, .inr (8, xg))] s.heap := hP
  have hl := lv_entry ([.ref oB, .int na, .long vv]) (n := 4) (Nat.le_of_ble_eq_true rfl)
  rw [lg_entry_eq]
  generalize (lg_sl ([.ref oB, .int na, .long vv]) ++ List.replicate (4 - (lg_sl ([.ref oB, .int na, .long vv])).length) Slot.unset).toArray = ls at hl ⊢
  have hl : lv_has ls 4 [(0, .ref oB), (1, .int na), (2, .long vv)] := hl
  refine lv_aload_n hx hb d_Bh_signal_0 rfl (lv_at hl 0 rfl) ?_
  refine va_get (D := (dC, dI)) (ci := 0) (v := .ref oRu) (C := R_Bh) (T := F_Bh) (N := 16) hx hb hts (fun w h => List.mem_cons_of_mem _ (in_Bh w h)) hown hK.1 hP 0 rfl rfl 6 (by decide) (hts _ (List.mem_cons_of_mem _ mw_690)) (fun _ h9 => h9) hb_run d_Bh_signal_1 ?_
  refine va_get (D := (dC, dI)) (ci := 10) (v := .ref oG1) (C := R_Ru) (T := F_Ru) (N := 21) hx hb hts (fun w h => List.mem_cons_of_mem _ (in_Ru w h)) hown hK.1 hP 1 rfl rfl 3 (by decide) (hts _ (List.mem_cons_of_mem _ mw_515)) (fun _ h9 => h9) hru_program d_Bh_signal_4 ?_
  refine lv_iload_n hx hb d_Bh_signal_7 rfl (lv_at hl 1 rfl) ?_
  have hPc := hP.sub (ws' := [(oG1, .inr (8, xg))]) [2] rfl
  have hDc := hD.sub (ws' := [(oG1, .inr (8, xg))]) [2] (by decide) rfl
  have hFc := pu_free hS hA
  refine va_calli (va_runV (C := R_Pr) (As := [.int na]) (rest := []) ⟨hx, hb, hml, hown, hts⟩ (c_Pr_isSignal l dC dI cI cB cZ cJ na oG1 xg hxg_names s.heap.size) (cwV 1 hts (tb_V mw_1158 mw_1159 mw_1160 mw_12 mw_1161) rfl rfl rfl ⟨rfl, by decide +kernel, by decide +kernel, by decide +kernel⟩ ⟨(Nat.le_of_ble_eq_true rfl), (Nat.le_of_ble_eq_true rfl)⟩) ⟨pw_blind, va_recv (q := (R_Pr, F_Pr, 18)) hK.1 hP (ci := 8) (q0 := 2) rfl rfl, pw_pre hPc hK hDc⟩ rfl rfl hl.1 rfl (lv_room (Nat.le_of_ble_eq_true rfl)) d_Bh_signal_8 ⟨(Nat.le_of_ble_eq_true rfl), (Nat.le_of_ble_eq_true rfl)⟩) hS (fun q _ h => hFc q h) hFc (fun r u t H locs ht hvm hw hB hz1 hk1 hS => ?_)
  have hP := pu_kept hP hk1
  obtain rfl : r = 0 := hw
  refine lv_if_ne (tgt := 16) hx hb d_Bh_signal_11 (by decide) (fun h => absurd rfl h) (fun _ => ?_)
  refine lv_iconst (v := 0) hx hb d_Bh_signal_14 (by decide) ?_
  exact W.zret (v := 0) (ty := .boolean) hx hb hr (by decide) (fun t ht hW => ⟨⟨_, (), rfl, (rfl), trivial⟩, hS.F ht⟩) hS.2.2 d_Bh_signal_15
abbrev t_Bh_value_30 : List UInt8 := 173 :: []
abbrev t_Bh_value_29 : List UInt8 := 9 :: t_Bh_value_30
abbrev t_Bh_value_26 : List UInt8 := 167 :: 0 :: 4 :: t_Bh_value_29
abbrev t_Bh_value_25 : List UInt8 := 47 :: t_Bh_value_26
abbrev t_Bh_value_24 : List UInt8 := 27 :: t_Bh_value_25
abbrev t_Bh_value_21 : List UInt8 := 180 :: 0 :: 247 :: t_Bh_value_24
abbrev t_Bh_value_18 : List UInt8 := 180 :: 0 :: 183 :: t_Bh_value_21
abbrev t_Bh_value_15 : List UInt8 := 180 :: 0 :: 62 :: t_Bh_value_18
abbrev t_Bh_value_14 : List UInt8 := 42 :: t_Bh_value_15
abbrev t_Bh_value_11 : List UInt8 := 153 :: 0 :: 18 :: t_Bh_value_14
abbrev t_Bh_value_8 : List UInt8 := 182 :: 1 :: 86 :: t_Bh_value_11
abbrev t_Bh_value_7 : List UInt8 := 27 :: t_Bh_value_8
abbrev t_Bh_value_4 : List UInt8 := 180 :: 0 :: 183 :: t_Bh_value_7
abbrev t_Bh_value_1 : List UInt8 := 180 :: 0 :: 62 :: t_Bh_value_4
abbrev t_Bh_value_0 : List UInt8 := 42 :: t_Bh_value_1
theorem a_Bh_value_0 : dk_at b_Bh_value 0 t_Bh_value_0 := dk_start (by decide +kernel)
theorem a_Bh_value_1 : dk_at b_Bh_value 1 t_Bh_value_1 := dk_go 1 a_Bh_value_0 rfl
theorem a_Bh_value_4 : dk_at b_Bh_value 4 t_Bh_value_4 := dk_go 3 a_Bh_value_1 rfl
theorem a_Bh_value_7 : dk_at b_Bh_value 7 t_Bh_value_7 := dk_go 3 a_Bh_value_4 rfl
theorem a_Bh_value_8 : dk_at b_Bh_value 8 t_Bh_value_8 := dk_go 1 a_Bh_value_7 rfl
theorem a_Bh_value_11 : dk_at b_Bh_value 11 t_Bh_value_11 := dk_go 3 a_Bh_value_8 rfl
theorem a_Bh_value_14 : dk_at b_Bh_value 14 t_Bh_value_14 := dk_go 3 a_Bh_value_11 rfl
theorem a_Bh_value_15 : dk_at b_Bh_value 15 t_Bh_value_15 := dk_go 1 a_Bh_value_14 rfl
theorem a_Bh_value_18 : dk_at b_Bh_value 18 t_Bh_value_18 := dk_go 3 a_Bh_value_15 rfl
theorem a_Bh_value_21 : dk_at b_Bh_value 21 t_Bh_value_21 := dk_go 3 a_Bh_value_18 rfl
theorem a_Bh_value_24 : dk_at b_Bh_value 24 t_Bh_value_24 := dk_go 3 a_Bh_value_21 rfl
theorem a_Bh_value_25 : dk_at b_Bh_value 25 t_Bh_value_25 := dk_go 1 a_Bh_value_24 rfl
theorem a_Bh_value_26 : dk_at b_Bh_value 26 t_Bh_value_26 := dk_go 1 a_Bh_value_25 rfl
theorem a_Bh_value_29 : dk_at b_Bh_value 29 t_Bh_value_29 := dk_go 3 a_Bh_value_26 rfl
theorem a_Bh_value_30 : dk_at b_Bh_value 30 t_Bh_value_30 := dk_go 1 a_Bh_value_29 rfl
theorem d_Bh_value_0 : decode b_Bh_value 0 = .ok (.aload_n 0, 1) := dk_0 a_Bh_value_0 (dko_42 _)
theorem d_Bh_value_1 : decode b_Bh_value 1 = .ok (.getfield 62, 3) := dk_U2 a_Bh_value_1 (dko_180 _) rfl
theorem d_Bh_value_4 : decode b_Bh_value 4 = .ok (.getfield 183, 3) := dk_U2 a_Bh_value_4 (dko_180 _) rfl
theorem d_Bh_value_7 : decode b_Bh_value 7 = .ok (.iload_n 1, 1) := dk_0 a_Bh_value_7 (dko_27 _)
theorem d_Bh_value_8 : decode b_Bh_value 8 = .ok (.invokevirtual 342, 3) := dk_U2 a_Bh_value_8 (dko_182 _) rfl
theorem d_Bh_value_11 : decode b_Bh_value 11 = .ok (.ifCond .eq 18, 3) := dk_S2 a_Bh_value_11 (dko_153 _) (by decide +kernel)
theorem d_Bh_value_29 : decode b_Bh_value 29 = .ok (.lconst 0, 1) := dk_0 a_Bh_value_29 (dko_9 _)
theorem d_Bh_value_30 : decode b_Bh_value 30 = .ok (.lreturn, 1) := dk_0 a_Bh_value_30 (dko_173 _)
set_option maxHeartbeats 4000000 in
set_option maxRecDepth 100000 in
theorem c_Bh_value (l : Launch) (dC : Nat → ClassId) (dI : Nat → Nat → Nat) (cI cB cZ cJ : ClassId) (na : Int32) (oB : Nat) (oRu : Nat) (oG1 : Nat) (xb : List Value) (hb_run : fx xb 6 (.ref oRu)) (xn : List Value) (hru_program : fx xn 3 (.ref oG1)) (xg : List Value) (hxg_names : fx xg 10 (.int 0)) (sz : Nat) : Met l y_Bh_value w_Bh_value ({ frames := 1, cells := 0, slots := 0, locals := 21 }) (va_Pc [.ref oB, .int na] (PW dC dI cI cB cZ cJ [(oB, .inr (0, xb)), (oRu, .inr (10, xn)), (oG1, .inr (8, xg))] sz)) (va_Ql (fun (r : Int64) (_ : Unit) => r = 0) (fun _ _ => True) (va_A [] sz)) 0 0 (va_A [] sz) := by
  refine Met.ofW (cc := b_Bh_value) (maxL := 2) (ret := (some .long)) (by decide) rfl ?_
  intro p e s m args below meth c s₁ B hml hv
  obtain ⟨rfl, hsz, hP, hK, hD⟩ := hv
  have hx := B.exec
  have hb := B.bytes
  have hr := B.returns
  have hts := atoms_spec (ws := w_Bh_value) B.pre
  have hown : s.vm.findClass R_Bh = some m.cls := findClass_of_methodNamed B.named
  have hlocks := B.notSynchronized
  subst hsz
  generalize hAe : va_A [] s.heap.size = A at ⊢
  have hA : ∀ q : Nat, s.heap.size ≤ q → A q := fun q h => by rw [← hAe]; exact Or.inr h
  have hS : va_S A s.heap s.heap [] := va_S.rf
  have hP : va_P (dC, dI) classes [(oB, .inr (0, xb)), (oRu, .inr (10, xn)), (oG1, .inr (8, xg))] s.heap := hP
  have hl := lv_entry ([.ref oB, .int na]) (n := 2) (Nat.le_of_ble_eq_true rfl)
  rw [lg_entry_eq]
  generalize (lg_sl ([.ref oB, .int na]) ++ List.replicate (2 - (lg_sl ([.ref oB, .int na])).length) Slot.unset).toArray = ls at hl ⊢
  have hl : lv_has ls 2 [(0, .ref oB), (1, .int na)] := hl
  refine lv_aload_n hx hb d_Bh_value_0 rfl (lv_at hl 0 rfl) ?_
  refine va_get (D := (dC, dI)) (ci := 0) (v := .ref oRu) (C := R_Bh) (T := F_Bh) (N := 16) hx hb hts (fun w h => List.mem_cons_of_mem _ (in_Bh w h)) hown hK.1 hP 0 rfl rfl 6 (by decide) (hts _ (List.mem_cons_of_mem _ mw_690)) (fun _ h9 => h9) hb_run d_Bh_value_1 ?_
  refine va_get (D := (dC, dI)) (ci := 10) (v := .ref oG1) (C := R_Ru) (T := F_Ru) (N := 21) hx hb hts (fun w h => List.mem_cons_of_mem _ (in_Ru w h)) hown hK.1 hP 1 rfl rfl 3 (by decide) (hts _ (List.mem_cons_of_mem _ mw_515)) (fun _ h9 => h9) hru_program d_Bh_value_4 ?_
  refine lv_iload_n hx hb d_Bh_value_7 rfl (lv_at hl 1 rfl) ?_
  have hPc := hP.sub (ws' := [(oG1, .inr (8, xg))]) [2] rfl
  have hDc := hD.sub (ws' := [(oG1, .inr (8, xg))]) [2] (by decide) rfl
  have hFc := pu_free hS hA
  refine va_calli (va_runV (C := R_Pr) (As := [.int na]) (rest := []) ⟨hx, hb, hml, hown, hts⟩ (c_Pr_hasValue l dC dI cI cB cZ cJ na oG1 xg hxg_names s.heap.size) (cwV 1 hts (tb_V mw_1521 mw_952 mw_953 mw_12 mw_954) rfl rfl rfl ⟨rfl, by decide +kernel, by decide +kernel, by decide +kernel⟩ ⟨(Nat.le_of_ble_eq_true rfl), (Nat.le_of_ble_eq_true rfl)⟩) ⟨pw_blind, va_recv (q := (R_Pr, F_Pr, 18)) hK.1 hP (ci := 8) (q0 := 2) rfl rfl, pw_pre hPc hK hDc⟩ rfl rfl hl.1 rfl (lv_room (Nat.le_of_ble_eq_true rfl)) d_Bh_value_8 ⟨(Nat.le_of_ble_eq_true rfl), (Nat.le_of_ble_eq_true rfl)⟩) hS (fun q _ h => hFc q h) hFc (fun r u t H locs ht hvm hw hB hz1 hk1 hS => ?_)
  have hP := pu_kept hP hk1
  obtain rfl : r = 0 := hw
  refine lv_if_eq (tgt := 29) hx hb d_Bh_value_11 (by decide) (fun _ => ?_) (fun h => absurd (by decide) h)
  refine lv_lconst (v := 0) hx hb d_Bh_value_29 (by decide) ?_
  exact W.lret (v := 0) hx hb hr (fun t ht hW => ⟨⟨_, (), rfl, (rfl), trivial⟩, hS.F ht⟩) hS.2.2 d_Bh_value_30
abbrev t_Bh_fill_135 : List UInt8 := 172 :: []
abbrev t_Bh_fill_133 : List UInt8 := 21 :: 6 :: t_Bh_fill_135
abbrev t_Bh_fill_130 : List UInt8 := 182 :: 0 :: 221 :: t_Bh_fill_133
abbrev t_Bh_fill_129 : List UInt8 := 136 :: t_Bh_fill_130
abbrev t_Bh_fill_128 : List UInt8 := 33 :: t_Bh_fill_129
abbrev t_Bh_fill_127 : List UInt8 := 28 :: t_Bh_fill_128
abbrev t_Bh_fill_126 : List UInt8 := 27 :: t_Bh_fill_127
abbrev t_Bh_fill_123 : List UInt8 := 180 :: 0 :: 26 :: t_Bh_fill_126
abbrev t_Bh_fill_122 : List UInt8 := 42 :: t_Bh_fill_123
abbrev t_Bh_fill_119 : List UInt8 := 153 :: 0 :: 14 :: t_Bh_fill_122
abbrev t_Bh_fill_117 : List UInt8 := 21 :: 6 :: t_Bh_fill_119
abbrev t_Bh_fill_116 : List UInt8 := 79 :: t_Bh_fill_117
abbrev t_Bh_fill_114 : List UInt8 := 21 :: 5 :: t_Bh_fill_116
abbrev t_Bh_fill_113 : List UInt8 := 27 :: t_Bh_fill_114
abbrev t_Bh_fill_110 : List UInt8 := 180 :: 0 :: 215 :: t_Bh_fill_113
abbrev t_Bh_fill_107 : List UInt8 := 180 :: 0 :: 26 :: t_Bh_fill_110
abbrev t_Bh_fill_106 : List UInt8 := 42 :: t_Bh_fill_107
abbrev t_Bh_fill_104 : List UInt8 := 54 :: 6 :: t_Bh_fill_106
abbrev t_Bh_fill_101 : List UInt8 := 182 :: 0 :: 218 :: t_Bh_fill_104
abbrev t_Bh_fill_98 : List UInt8 := 180 :: 0 :: 44 :: t_Bh_fill_101
abbrev t_Bh_fill_97 : List UInt8 := 42 :: t_Bh_fill_98
abbrev t_Bh_fill_96 : List UInt8 := 79 :: t_Bh_fill_97
abbrev t_Bh_fill_95 : List UInt8 := 28 :: t_Bh_fill_96
abbrev t_Bh_fill_94 : List UInt8 := 27 :: t_Bh_fill_95
abbrev t_Bh_fill_91 : List UInt8 := 180 :: 0 :: 215 :: t_Bh_fill_94
abbrev t_Bh_fill_88 : List UInt8 := 180 :: 0 :: 26 :: t_Bh_fill_91
abbrev t_Bh_fill_87 : List UInt8 := 42 :: t_Bh_fill_88
abbrev t_Bh_fill_85 : List UInt8 := 54 :: 5 :: t_Bh_fill_87
abbrev t_Bh_fill_84 : List UInt8 := 46 :: t_Bh_fill_85
abbrev t_Bh_fill_83 : List UInt8 := 27 :: t_Bh_fill_84
abbrev t_Bh_fill_80 : List UInt8 := 180 :: 0 :: 215 :: t_Bh_fill_83
abbrev t_Bh_fill_77 : List UInt8 := 180 :: 0 :: 26 :: t_Bh_fill_80
abbrev t_Bh_fill_76 : List UInt8 := 42 :: t_Bh_fill_77
abbrev t_Bh_fill_75 : List UInt8 := 172 :: t_Bh_fill_76
abbrev t_Bh_fill_74 : List UInt8 := 3 :: t_Bh_fill_75
abbrev t_Bh_fill_71 : List UInt8 := 154 :: 0 :: 5 :: t_Bh_fill_74
abbrev t_Bh_fill_68 : List UInt8 := 182 :: 0 :: 211 :: t_Bh_fill_71
abbrev t_Bh_fill_67 : List UInt8 := 28 :: t_Bh_fill_68
abbrev t_Bh_fill_66 : List UInt8 := 27 :: t_Bh_fill_67
abbrev t_Bh_fill_63 : List UInt8 := 180 :: 0 :: 26 :: t_Bh_fill_66
abbrev t_Bh_fill_62 : List UInt8 := 42 :: t_Bh_fill_63
abbrev t_Bh_fill_59 : List UInt8 := 157 :: 0 :: 15 :: t_Bh_fill_62
abbrev t_Bh_fill_58 : List UInt8 := 148 :: t_Bh_fill_59
abbrev t_Bh_fill_57 : List UInt8 := 133 :: t_Bh_fill_58
abbrev t_Bh_fill_56 : List UInt8 := 100 :: t_Bh_fill_57
abbrev t_Bh_fill_55 : List UInt8 := 46 :: t_Bh_fill_56
abbrev t_Bh_fill_54 : List UInt8 := 27 :: t_Bh_fill_55
abbrev t_Bh_fill_51 : List UInt8 := 180 :: 0 :: 208 :: t_Bh_fill_54
abbrev t_Bh_fill_48 : List UInt8 := 180 :: 0 :: 26 :: t_Bh_fill_51
abbrev t_Bh_fill_47 : List UInt8 := 42 :: t_Bh_fill_48
abbrev t_Bh_fill_46 : List UInt8 := 46 :: t_Bh_fill_47
abbrev t_Bh_fill_45 : List UInt8 := 27 :: t_Bh_fill_46
abbrev t_Bh_fill_42 : List UInt8 := 180 :: 0 :: 205 :: t_Bh_fill_45
abbrev t_Bh_fill_39 : List UInt8 := 180 :: 0 :: 151 :: t_Bh_fill_42
abbrev t_Bh_fill_36 : List UInt8 := 180 :: 0 :: 26 :: t_Bh_fill_39
abbrev t_Bh_fill_35 : List UInt8 := 42 :: t_Bh_fill_36
abbrev t_Bh_fill_34 : List UInt8 := 33 :: t_Bh_fill_35
abbrev t_Bh_fill_33 : List UInt8 := 172 :: t_Bh_fill_34
abbrev t_Bh_fill_32 : List UInt8 := 3 :: t_Bh_fill_33
abbrev t_Bh_fill_29 : List UInt8 := 158 :: 0 :: 5 :: t_Bh_fill_32
abbrev t_Bh_fill_28 : List UInt8 := 148 :: t_Bh_fill_29
abbrev t_Bh_fill_25 : List UInt8 := 20 :: 0 :: 203 :: t_Bh_fill_28
abbrev t_Bh_fill_24 : List UInt8 := 33 :: t_Bh_fill_25
abbrev t_Bh_fill_21 : List UInt8 := 155 :: 0 :: 11 :: t_Bh_fill_24
abbrev t_Bh_fill_20 : List UInt8 := 148 :: t_Bh_fill_21
abbrev t_Bh_fill_19 : List UInt8 := 10 :: t_Bh_fill_20
abbrev t_Bh_fill_18 : List UInt8 := 33 :: t_Bh_fill_19
abbrev t_Bh_fill_15 : List UInt8 := 153 :: 0 :: 17 :: t_Bh_fill_18
abbrev t_Bh_fill_12 : List UInt8 := 184 :: 0 :: 200 :: t_Bh_fill_15
abbrev t_Bh_fill_11 : List UInt8 := 28 :: t_Bh_fill_12
abbrev t_Bh_fill_8 : List UInt8 := 153 :: 0 :: 24 :: t_Bh_fill_11
abbrev t_Bh_fill_5 : List UInt8 := 182 :: 0 :: 196 :: t_Bh_fill_8
abbrev t_Bh_fill_4 : List UInt8 := 27 :: t_Bh_fill_5
abbrev t_Bh_fill_1 : List UInt8 := 180 :: 0 :: 26 :: t_Bh_fill_4
abbrev t_Bh_fill_0 : List UInt8 := 42 :: t_Bh_fill_1
theorem a_Bh_fill_0 : dk_at b_Bh_fill 0 t_Bh_fill_0 := dk_start (by decide +kernel)
theorem a_Bh_fill_1 : dk_at b_Bh_fill 1 t_Bh_fill_1 := dk_go 1 a_Bh_fill_0 rfl
theorem a_Bh_fill_4 : dk_at b_Bh_fill 4 t_Bh_fill_4 := dk_go 3 a_Bh_fill_1 rfl
theorem a_Bh_fill_5 : dk_at b_Bh_fill 5 t_Bh_fill_5 := dk_go 1 a_Bh_fill_4 rfl
theorem a_Bh_fill_8 : dk_at b_Bh_fill 8 t_Bh_fill_8 := dk_go 3 a_Bh_fill_5 rfl
theorem a_Bh_fill_11 : dk_at b_Bh_fill 11 t_Bh_fill_11 := dk_go 3 a_Bh_fill_8 rfl
theorem a_Bh_fill_12 : dk_at b_Bh_fill 12 t_Bh_fill_12 := dk_go 1 a_Bh_fill_11 rfl
theorem a_Bh_fill_15 : dk_at b_Bh_fill 15 t_Bh_fill_15 := dk_go 3 a_Bh_fill_12 rfl
theorem a_Bh_fill_18 : dk_at b_Bh_fill 18 t_Bh_fill_18 := dk_go 3 a_Bh_fill_15 rfl
theorem a_Bh_fill_19 : dk_at b_Bh_fill 19 t_Bh_fill_19 := dk_go 1 a_Bh_fill_18 rfl
theorem a_Bh_fill_20 : dk_at b_Bh_fill 20 t_Bh_fill_20 := dk_go 1 a_Bh_fill_19 rfl
theorem a_Bh_fill_21 : dk_at b_Bh_fill 21 t_Bh_fill_21 := dk_go 1 a_Bh_fill_20 rfl
theorem a_Bh_fill_24 : dk_at b_Bh_fill 24 t_Bh_fill_24 := dk_go 3 a_Bh_fill_21 rfl
theorem a_Bh_fill_25 : dk_at b_Bh_fill 25 t_Bh_fill_25 := dk_go 1 a_Bh_fill_24 rfl
theorem a_Bh_fill_28 : dk_at b_Bh_fill 28 t_Bh_fill_28 := dk_go 3 a_Bh_fill_25 rfl
theorem a_Bh_fill_29 : dk_at b_Bh_fill 29 t_Bh_fill_29 := dk_go 1 a_Bh_fill_28 rfl
theorem a_Bh_fill_32 : dk_at b_Bh_fill 32 t_Bh_fill_32 := dk_go 3 a_Bh_fill_29 rfl
theorem a_Bh_fill_33 : dk_at b_Bh_fill 33 t_Bh_fill_33 := dk_go 1 a_Bh_fill_32 rfl
theorem a_Bh_fill_34 : dk_at b_Bh_fill 34 t_Bh_fill_34 := dk_go 1 a_Bh_fill_33 rfl
theorem a_Bh_fill_35 : dk_at b_Bh_fill 35 t_Bh_fill_35 := dk_go 1 a_Bh_fill_34 rfl
theorem a_Bh_fill_36 : dk_at b_Bh_fill 36 t_Bh_fill_36 := dk_go 1 a_Bh_fill_35 rfl
theorem a_Bh_fill_39 : dk_at b_Bh_fill 39 t_Bh_fill_39 := dk_go 3 a_Bh_fill_36 rfl
theorem a_Bh_fill_42 : dk_at b_Bh_fill 42 t_Bh_fill_42 := dk_go 3 a_Bh_fill_39 rfl
theorem a_Bh_fill_45 : dk_at b_Bh_fill 45 t_Bh_fill_45 := dk_go 3 a_Bh_fill_42 rfl
theorem a_Bh_fill_46 : dk_at b_Bh_fill 46 t_Bh_fill_46 := dk_go 1 a_Bh_fill_45 rfl
theorem a_Bh_fill_47 : dk_at b_Bh_fill 47 t_Bh_fill_47 := dk_go 1 a_Bh_fill_46 rfl
theorem a_Bh_fill_48 : dk_at b_Bh_fill 48 t_Bh_fill_48 := dk_go 1 a_Bh_fill_47 rfl
theorem a_Bh_fill_51 : dk_at b_Bh_fill 51 t_Bh_fill_51 := dk_go 3 a_Bh_fill_48 rfl
theorem a_Bh_fill_54 : dk_at b_Bh_fill 54 t_Bh_fill_54 := dk_go 3 a_Bh_fill_51 rfl
theorem a_Bh_fill_55 : dk_at b_Bh_fill 55 t_Bh_fill_55 := dk_go 1 a_Bh_fill_54 rfl
theorem a_Bh_fill_56 : dk_at b_Bh_fill 56 t_Bh_fill_56 := dk_go 1 a_Bh_fill_55 rfl
theorem a_Bh_fill_57 : dk_at b_Bh_fill 57 t_Bh_fill_57 := dk_go 1 a_Bh_fill_56 rfl
theorem a_Bh_fill_58 : dk_at b_Bh_fill 58 t_Bh_fill_58 := dk_go 1 a_Bh_fill_57 rfl
theorem a_Bh_fill_59 : dk_at b_Bh_fill 59 t_Bh_fill_59 := dk_go 1 a_Bh_fill_58 rfl
theorem a_Bh_fill_62 : dk_at b_Bh_fill 62 t_Bh_fill_62 := dk_go 3 a_Bh_fill_59 rfl
theorem a_Bh_fill_63 : dk_at b_Bh_fill 63 t_Bh_fill_63 := dk_go 1 a_Bh_fill_62 rfl
theorem a_Bh_fill_66 : dk_at b_Bh_fill 66 t_Bh_fill_66 := dk_go 3 a_Bh_fill_63 rfl
theorem a_Bh_fill_67 : dk_at b_Bh_fill 67 t_Bh_fill_67 := dk_go 1 a_Bh_fill_66 rfl
theorem a_Bh_fill_68 : dk_at b_Bh_fill 68 t_Bh_fill_68 := dk_go 1 a_Bh_fill_67 rfl
theorem a_Bh_fill_71 : dk_at b_Bh_fill 71 t_Bh_fill_71 := dk_go 3 a_Bh_fill_68 rfl
theorem a_Bh_fill_74 : dk_at b_Bh_fill 74 t_Bh_fill_74 := dk_go 3 a_Bh_fill_71 rfl
theorem a_Bh_fill_75 : dk_at b_Bh_fill 75 t_Bh_fill_75 := dk_go 1 a_Bh_fill_74 rfl
theorem a_Bh_fill_76 : dk_at b_Bh_fill 76 t_Bh_fill_76 := dk_go 1 a_Bh_fill_75 rfl
theorem a_Bh_fill_77 : dk_at b_Bh_fill 77 t_Bh_fill_77 := dk_go 1 a_Bh_fill_76 rfl
theorem a_Bh_fill_80 : dk_at b_Bh_fill 80 t_Bh_fill_80 := dk_go 3 a_Bh_fill_77 rfl
theorem a_Bh_fill_83 : dk_at b_Bh_fill 83 t_Bh_fill_83 := dk_go 3 a_Bh_fill_80 rfl
theorem a_Bh_fill_84 : dk_at b_Bh_fill 84 t_Bh_fill_84 := dk_go 1 a_Bh_fill_83 rfl
theorem a_Bh_fill_85 : dk_at b_Bh_fill 85 t_Bh_fill_85 := dk_go 1 a_Bh_fill_84 rfl
theorem a_Bh_fill_87 : dk_at b_Bh_fill 87 t_Bh_fill_87 := dk_go 2 a_Bh_fill_85 rfl
theorem a_Bh_fill_88 : dk_at b_Bh_fill 88 t_Bh_fill_88 := dk_go 1 a_Bh_fill_87 rfl
theorem a_Bh_fill_91 : dk_at b_Bh_fill 91 t_Bh_fill_91 := dk_go 3 a_Bh_fill_88 rfl
theorem a_Bh_fill_94 : dk_at b_Bh_fill 94 t_Bh_fill_94 := dk_go 3 a_Bh_fill_91 rfl
theorem a_Bh_fill_95 : dk_at b_Bh_fill 95 t_Bh_fill_95 := dk_go 1 a_Bh_fill_94 rfl
theorem a_Bh_fill_96 : dk_at b_Bh_fill 96 t_Bh_fill_96 := dk_go 1 a_Bh_fill_95 rfl
theorem a_Bh_fill_97 : dk_at b_Bh_fill 97 t_Bh_fill_97 := dk_go 1 a_Bh_fill_96 rfl
theorem a_Bh_fill_98 : dk_at b_Bh_fill 98 t_Bh_fill_98 := dk_go 1 a_Bh_fill_97 rfl
theorem a_Bh_fill_101 : dk_at b_Bh_fill 101 t_Bh_fill_101 := dk_go 3 a_Bh_fill_98 rfl
theorem a_Bh_fill_104 : dk_at b_Bh_fill 104 t_Bh_fill_104 := dk_go 3 a_Bh_fill_101 rfl
theorem a_Bh_fill_106 : dk_at b_Bh_fill 106 t_Bh_fill_106 := dk_go 2 a_Bh_fill_104 rfl
theorem a_Bh_fill_107 : dk_at b_Bh_fill 107 t_Bh_fill_107 := dk_go 1 a_Bh_fill_106 rfl
theorem a_Bh_fill_110 : dk_at b_Bh_fill 110 t_Bh_fill_110 := dk_go 3 a_Bh_fill_107 rfl
theorem a_Bh_fill_113 : dk_at b_Bh_fill 113 t_Bh_fill_113 := dk_go 3 a_Bh_fill_110 rfl
theorem a_Bh_fill_114 : dk_at b_Bh_fill 114 t_Bh_fill_114 := dk_go 1 a_Bh_fill_113 rfl
theorem a_Bh_fill_116 : dk_at b_Bh_fill 116 t_Bh_fill_116 := dk_go 2 a_Bh_fill_114 rfl
theorem a_Bh_fill_117 : dk_at b_Bh_fill 117 t_Bh_fill_117 := dk_go 1 a_Bh_fill_116 rfl
theorem a_Bh_fill_119 : dk_at b_Bh_fill 119 t_Bh_fill_119 := dk_go 2 a_Bh_fill_117 rfl
theorem a_Bh_fill_122 : dk_at b_Bh_fill 122 t_Bh_fill_122 := dk_go 3 a_Bh_fill_119 rfl
theorem a_Bh_fill_123 : dk_at b_Bh_fill 123 t_Bh_fill_123 := dk_go 1 a_Bh_fill_122 rfl
theorem a_Bh_fill_126 : dk_at b_Bh_fill 126 t_Bh_fill_126 := dk_go 3 a_Bh_fill_123 rfl
theorem a_Bh_fill_127 : dk_at b_Bh_fill 127 t_Bh_fill_127 := dk_go 1 a_Bh_fill_126 rfl
theorem a_Bh_fill_128 : dk_at b_Bh_fill 128 t_Bh_fill_128 := dk_go 1 a_Bh_fill_127 rfl
theorem a_Bh_fill_129 : dk_at b_Bh_fill 129 t_Bh_fill_129 := dk_go 1 a_Bh_fill_128 rfl
theorem a_Bh_fill_130 : dk_at b_Bh_fill 130 t_Bh_fill_130 := dk_go 1 a_Bh_fill_129 rfl
theorem a_Bh_fill_133 : dk_at b_Bh_fill 133 t_Bh_fill_133 := dk_go 3 a_Bh_fill_130 rfl
theorem a_Bh_fill_135 : dk_at b_Bh_fill 135 t_Bh_fill_135 := dk_go 2 a_Bh_fill_133 rfl
theorem d_Bh_fill_0 : decode b_Bh_fill 0 = .ok (.aload_n 0, 1) := dk_0 a_Bh_fill_0 (dko_42 _)
theorem d_Bh_fill_1 : decode b_Bh_fill 1 = .ok (.getfield 26, 3) := dk_U2 a_Bh_fill_1 (dko_180 _) rfl
theorem d_Bh_fill_4 : decode b_Bh_fill 4 = .ok (.iload_n 1, 1) := dk_0 a_Bh_fill_4 (dko_27 _)
theorem d_Bh_fill_5 : decode b_Bh_fill 5 = .ok (.invokevirtual 196, 3) := dk_U2 a_Bh_fill_5 (dko_182 _) rfl
theorem d_Bh_fill_8 : decode b_Bh_fill 8 = .ok (.ifCond .eq 24, 3) := dk_S2 a_Bh_fill_8 (dko_153 _) (by decide +kernel)
theorem d_Bh_fill_32 : decode b_Bh_fill 32 = .ok (.iconst 0, 1) := dk_0 a_Bh_fill_32 (dko_3 _)
theorem d_Bh_fill_33 : decode b_Bh_fill 33 = .ok (.ireturn, 1) := dk_0 a_Bh_fill_33 (dko_172 _)
set_option maxHeartbeats 4000000 in
set_option maxRecDepth 100000 in
theorem c_Bh_fill (l : Launch) (dC : Nat → ClassId) (dI : Nat → Nat → Nat) (cI cB cZ cJ : ClassId) (ta : Int32) (li : Int32) (nn : Int64) (oB : Nat) (oSt : Nat) (oP1 : Nat) (xb : List Value) (hb_stock : fx xb 2 (.ref oSt)) (xs_ : List Value) (hst_plant : fx xs_ 0 (.ref oP1)) (xp : List Value) (hxp_things : fx xp 0 (.int 0)) (sz : Nat) : Met l y_Bh_fill w_Bh_fill ({ frames := 1, cells := 0, slots := 0, locals := 21 }) (va_Pc [.ref oB, .int ta, .int li, .long nn] (PW dC dI cI cB cZ cJ [(oB, .inr (0, xb)), (oSt, .inr (4, xs_)), (oP1, .inr (3, xp))] sz)) (va_Qi (fun (r : Int32) (_ : Unit) => r = 0) (fun _ _ => True) (va_A [] sz)) 0 0 (va_A [] sz) := by
  refine Met.ofW (cc := b_Bh_fill) (maxL := 7) (ret := (some .boolean)) (by decide) rfl ?_
  intro p e s m args below meth c s₁ B hml hv
  obtain ⟨rfl, hsz, hP, hK, hD⟩ := hv
  have hx := B.exec
  have hb := B.bytes
  have hr := B.returns
  have hts := atoms_spec (ws := w_Bh_fill) B.pre
  have hown : s.vm.findClass R_Bh = some m.cls := findClass_of_methodNamed B.named
  have hlocks := B.notSynchronized
  subst hsz
  generalize hAe : va_A [] s.heap.size = A at ⊢
  have hA : ∀ q : Nat, s.heap.size ≤ q → A q := fun q h => by rw [← hAe]; exact Or.inr h
  have hS : va_S A s.heap s.heap [] := va_S.rf
  have hP : va_P (dC, dI) classes [(oB, .inr (0, xb)), (oSt, .inr (4, xs_)), (oP1, .inr (3, xp))] s.heap := hP
  have hl := lv_entry ([.ref oB, .int ta, .int li, .long nn]) (n := 7) (Nat.le_of_ble_eq_true rfl)
  rw [lg_entry_eq]
  generalize (lg_sl ([.ref oB, .int ta, .int li, .long nn]) ++ List.replicate (7 - (lg_sl ([.ref oB, .int ta, .int li, .long nn])).length) Slot.unset).toArray = ls at hl ⊢
  have hl : lv_has ls 7 [(0, .ref oB), (1, .int ta), (2, .int li), (3, .long nn)] := hl
  refine lv_aload_n hx hb d_Bh_fill_0 rfl (lv_at hl 0 rfl) ?_
  refine va_get (D := (dC, dI)) (ci := 0) (v := .ref oSt) (C := R_Bh) (T := F_Bh) (N := 16) hx hb hts (fun w h => List.mem_cons_of_mem _ (in_Bh w h)) hown hK.1 hP 0 rfl rfl 2 (by decide) (hts _ (List.mem_cons_of_mem _ mw_686)) (fun _ h9 => h9) hb_stock d_Bh_fill_1 ?_
  refine lv_iload_n hx hb d_Bh_fill_4 rfl (lv_at hl 1 rfl) ?_
  have hPc := hP.sub (ws' := [(oSt, .inr (4, xs_)), (oP1, .inr (3, xp))]) [1, 2] rfl
  have hDc := hD.sub (ws' := [(oSt, .inr (4, xs_)), (oP1, .inr (3, xp))]) [1, 2] (by decide) rfl
  have hFc := pu_free hS hA
  refine va_calli (va_runV (C := R_St) (As := [.int ta]) (rest := []) ⟨hx, hb, hml, hown, hts⟩ (c_St_isTank l dC dI cI cB cZ cJ ta oSt oP1 xs_ hst_plant xp hxp_things s.heap.size) (cwV 1 hts (tb_V mw_1075 mw_1076 mw_1077 mw_4 mw_1078) rfl rfl rfl ⟨rfl, by decide +kernel, by decide +kernel, by decide +kernel⟩ ⟨(Nat.le_of_ble_eq_true rfl), (Nat.le_of_ble_eq_true rfl)⟩) ⟨pw_blind, va_recv (q := (R_St, F_St, 12)) hK.1 hP (ci := 4) (q0 := 1) rfl rfl, pw_pre hPc hK hDc⟩ rfl rfl hl.1 rfl (lv_room (Nat.le_of_ble_eq_true rfl)) d_Bh_fill_5 ⟨(Nat.le_of_ble_eq_true rfl), (Nat.le_of_ble_eq_true rfl)⟩) hS (fun q _ h => hFc q h) hFc (fun r u t H locs ht hvm hw hB hz1 hk1 hS => ?_)
  have hP := pu_kept hP hk1
  obtain rfl : r = 0 := hw
  refine lv_if_eq (tgt := 32) hx hb d_Bh_fill_8 (by decide) (fun _ => ?_) (fun h => absurd (by decide) h)
  refine lv_iconst (v := 0) hx hb d_Bh_fill_32 (by decide) ?_
  exact W.zret (v := 0) (ty := .boolean) hx hb hr (by decide) (fun t ht hW => ⟨⟨_, (), rfl, (rfl), trivial⟩, hS.F ht⟩) hS.2.2 d_Bh_fill_33
abbrev t_Bh_space_140 : List UInt8 := 172 :: []
abbrev t_Bh_space_139 : List UInt8 := 2 :: t_Bh_space_140
abbrev t_Bh_space_138 : List UInt8 := 172 :: t_Bh_space_139
abbrev t_Bh_space_135 : List UInt8 := 182 :: 1 :: 100 :: t_Bh_space_138
abbrev t_Bh_space_134 : List UInt8 := 27 :: t_Bh_space_135
abbrev t_Bh_space_131 : List UInt8 := 180 :: 0 :: 26 :: t_Bh_space_134
abbrev t_Bh_space_130 : List UInt8 := 42 :: t_Bh_space_131
abbrev t_Bh_space_129 : List UInt8 := 172 :: t_Bh_space_130
abbrev t_Bh_space_128 : List UInt8 := 46 :: t_Bh_space_129
abbrev t_Bh_space_127 : List UInt8 := 27 :: t_Bh_space_128
abbrev t_Bh_space_124 : List UInt8 := 180 :: 1 :: 97 :: t_Bh_space_127
abbrev t_Bh_space_121 : List UInt8 := 180 :: 0 :: 26 :: t_Bh_space_124
abbrev t_Bh_space_120 : List UInt8 := 42 :: t_Bh_space_121
abbrev t_Bh_space_117 : List UInt8 := 167 :: 0 :: 12 :: t_Bh_space_120
abbrev t_Bh_space_116 : List UInt8 := 46 :: t_Bh_space_117
abbrev t_Bh_space_115 : List UInt8 := 27 :: t_Bh_space_116
abbrev t_Bh_space_112 : List UInt8 := 180 :: 0 :: 215 :: t_Bh_space_115
abbrev t_Bh_space_109 : List UInt8 := 180 :: 0 :: 26 :: t_Bh_space_112
abbrev t_Bh_space_108 : List UInt8 := 42 :: t_Bh_space_109
abbrev t_Bh_space_105 : List UInt8 := 158 :: 0 :: 15 :: t_Bh_space_108
abbrev t_Bh_space_104 : List UInt8 := 46 :: t_Bh_space_105
abbrev t_Bh_space_103 : List UInt8 := 27 :: t_Bh_space_104
abbrev t_Bh_space_100 : List UInt8 := 180 :: 0 :: 215 :: t_Bh_space_103
abbrev t_Bh_space_97 : List UInt8 := 180 :: 0 :: 26 :: t_Bh_space_100
abbrev t_Bh_space_96 : List UInt8 := 42 :: t_Bh_space_97
abbrev t_Bh_space_95 : List UInt8 := 172 :: t_Bh_space_96
abbrev t_Bh_space_94 : List UInt8 := 46 :: t_Bh_space_95
abbrev t_Bh_space_93 : List UInt8 := 27 :: t_Bh_space_94
abbrev t_Bh_space_90 : List UInt8 := 180 :: 0 :: 208 :: t_Bh_space_93
abbrev t_Bh_space_87 : List UInt8 := 180 :: 0 :: 26 :: t_Bh_space_90
abbrev t_Bh_space_86 : List UInt8 := 42 :: t_Bh_space_87
abbrev t_Bh_space_85 : List UInt8 := 172 :: t_Bh_space_86
abbrev t_Bh_space_84 : List UInt8 := 46 :: t_Bh_space_85
abbrev t_Bh_space_83 : List UInt8 := 27 :: t_Bh_space_84
abbrev t_Bh_space_80 : List UInt8 := 180 :: 0 :: 215 :: t_Bh_space_83
abbrev t_Bh_space_77 : List UInt8 := 180 :: 0 :: 26 :: t_Bh_space_80
abbrev t_Bh_space_76 : List UInt8 := 42 :: t_Bh_space_77
abbrev t_Bh_space_44 : List UInt8 := 170 :: 0 :: 0 :: 0 :: 0 :: 0 :: 0 :: 95 :: 0 :: 0 :: 0 :: 0 :: 0 :: 0 :: 0 :: 3 :: 0 :: 0 :: 0 :: 32 :: 0 :: 0 :: 0 :: 42 :: 0 :: 0 :: 0 :: 52 :: 0 :: 0 :: 0 :: 86 :: t_Bh_space_76
abbrev t_Bh_space_43 : List UInt8 := 28 :: t_Bh_space_44
abbrev t_Bh_space_42 : List UInt8 := 172 :: t_Bh_space_43
abbrev t_Bh_space_41 : List UInt8 := 2 :: t_Bh_space_42
abbrev t_Bh_space_38 : List UInt8 := 154 :: 0 :: 5 :: t_Bh_space_41
abbrev t_Bh_space_35 : List UInt8 := 182 :: 1 :: 50 :: t_Bh_space_38
abbrev t_Bh_space_34 : List UInt8 := 27 :: t_Bh_space_35
abbrev t_Bh_space_31 : List UInt8 := 180 :: 0 :: 26 :: t_Bh_space_34
abbrev t_Bh_space_30 : List UInt8 := 42 :: t_Bh_space_31
abbrev t_Bh_space_29 : List UInt8 := 172 :: t_Bh_space_30
abbrev t_Bh_space_28 : List UInt8 := 2 :: t_Bh_space_29
abbrev t_Bh_space_25 : List UInt8 := 167 :: 0 :: 4 :: t_Bh_space_28
abbrev t_Bh_space_24 : List UInt8 := 46 :: t_Bh_space_25
abbrev t_Bh_space_23 : List UInt8 := 27 :: t_Bh_space_24
abbrev t_Bh_space_20 : List UInt8 := 180 :: 1 :: 56 :: t_Bh_space_23
abbrev t_Bh_space_17 : List UInt8 := 180 :: 0 :: 26 :: t_Bh_space_20
abbrev t_Bh_space_16 : List UInt8 := 42 :: t_Bh_space_17
abbrev t_Bh_space_13 : List UInt8 := 153 :: 0 :: 15 :: t_Bh_space_16
abbrev t_Bh_space_10 : List UInt8 := 182 :: 1 :: 53 :: t_Bh_space_13
abbrev t_Bh_space_9 : List UInt8 := 27 :: t_Bh_space_10
abbrev t_Bh_space_6 : List UInt8 := 180 :: 0 :: 26 :: t_Bh_space_9
abbrev t_Bh_space_5 : List UInt8 := 42 :: t_Bh_space_6
abbrev t_Bh_space_2 : List UInt8 := 160 :: 0 :: 28 :: t_Bh_space_5
abbrev t_Bh_space_1 : List UInt8 := 7 :: t_Bh_space_2
abbrev t_Bh_space_0 : List UInt8 := 28 :: t_Bh_space_1
theorem a_Bh_space_0 : dk_at b_Bh_space 0 t_Bh_space_0 := dk_start (by decide +kernel)
theorem a_Bh_space_1 : dk_at b_Bh_space 1 t_Bh_space_1 := dk_go 1 a_Bh_space_0 rfl
theorem a_Bh_space_2 : dk_at b_Bh_space 2 t_Bh_space_2 := dk_go 1 a_Bh_space_1 rfl
theorem a_Bh_space_5 : dk_at b_Bh_space 5 t_Bh_space_5 := dk_go 3 a_Bh_space_2 rfl
theorem a_Bh_space_6 : dk_at b_Bh_space 6 t_Bh_space_6 := dk_go 1 a_Bh_space_5 rfl
theorem a_Bh_space_9 : dk_at b_Bh_space 9 t_Bh_space_9 := dk_go 3 a_Bh_space_6 rfl
theorem a_Bh_space_10 : dk_at b_Bh_space 10 t_Bh_space_10 := dk_go 1 a_Bh_space_9 rfl
theorem a_Bh_space_13 : dk_at b_Bh_space 13 t_Bh_space_13 := dk_go 3 a_Bh_space_10 rfl
theorem a_Bh_space_16 : dk_at b_Bh_space 16 t_Bh_space_16 := dk_go 3 a_Bh_space_13 rfl
theorem a_Bh_space_17 : dk_at b_Bh_space 17 t_Bh_space_17 := dk_go 1 a_Bh_space_16 rfl
theorem a_Bh_space_20 : dk_at b_Bh_space 20 t_Bh_space_20 := dk_go 3 a_Bh_space_17 rfl
theorem a_Bh_space_23 : dk_at b_Bh_space 23 t_Bh_space_23 := dk_go 3 a_Bh_space_20 rfl
theorem a_Bh_space_24 : dk_at b_Bh_space 24 t_Bh_space_24 := dk_go 1 a_Bh_space_23 rfl
theorem a_Bh_space_25 : dk_at b_Bh_space 25 t_Bh_space_25 := dk_go 1 a_Bh_space_24 rfl
theorem a_Bh_space_28 : dk_at b_Bh_space 28 t_Bh_space_28 := dk_go 3 a_Bh_space_25 rfl
theorem a_Bh_space_29 : dk_at b_Bh_space 29 t_Bh_space_29 := dk_go 1 a_Bh_space_28 rfl
theorem a_Bh_space_30 : dk_at b_Bh_space 30 t_Bh_space_30 := dk_go 1 a_Bh_space_29 rfl
theorem a_Bh_space_31 : dk_at b_Bh_space 31 t_Bh_space_31 := dk_go 1 a_Bh_space_30 rfl
theorem a_Bh_space_34 : dk_at b_Bh_space 34 t_Bh_space_34 := dk_go 3 a_Bh_space_31 rfl
theorem a_Bh_space_35 : dk_at b_Bh_space 35 t_Bh_space_35 := dk_go 1 a_Bh_space_34 rfl
theorem a_Bh_space_38 : dk_at b_Bh_space 38 t_Bh_space_38 := dk_go 3 a_Bh_space_35 rfl
theorem a_Bh_space_41 : dk_at b_Bh_space 41 t_Bh_space_41 := dk_go 3 a_Bh_space_38 rfl
theorem a_Bh_space_42 : dk_at b_Bh_space 42 t_Bh_space_42 := dk_go 1 a_Bh_space_41 rfl
theorem a_Bh_space_43 : dk_at b_Bh_space 43 t_Bh_space_43 := dk_go 1 a_Bh_space_42 rfl
theorem a_Bh_space_44 : dk_at b_Bh_space 44 t_Bh_space_44 := dk_go 1 a_Bh_space_43 rfl
theorem a_Bh_space_76 : dk_at b_Bh_space 76 t_Bh_space_76 := dk_go 32 a_Bh_space_44 rfl
theorem a_Bh_space_77 : dk_at b_Bh_space 77 t_Bh_space_77 := dk_go 1 a_Bh_space_76 rfl
theorem a_Bh_space_80 : dk_at b_Bh_space 80 t_Bh_space_80 := dk_go 3 a_Bh_space_77 rfl
theorem a_Bh_space_83 : dk_at b_Bh_space 83 t_Bh_space_83 := dk_go 3 a_Bh_space_80 rfl
theorem a_Bh_space_84 : dk_at b_Bh_space 84 t_Bh_space_84 := dk_go 1 a_Bh_space_83 rfl
theorem a_Bh_space_85 : dk_at b_Bh_space 85 t_Bh_space_85 := dk_go 1 a_Bh_space_84 rfl
theorem a_Bh_space_86 : dk_at b_Bh_space 86 t_Bh_space_86 := dk_go 1 a_Bh_space_85 rfl
theorem a_Bh_space_87 : dk_at b_Bh_space 87 t_Bh_space_87 := dk_go 1 a_Bh_space_86 rfl
theorem a_Bh_space_90 : dk_at b_Bh_space 90 t_Bh_space_90 := dk_go 3 a_Bh_space_87 rfl
theorem a_Bh_space_93 : dk_at b_Bh_space 93 t_Bh_space_93 := dk_go 3 a_Bh_space_90 rfl
theorem a_Bh_space_94 : dk_at b_Bh_space 94 t_Bh_space_94 := dk_go 1 a_Bh_space_93 rfl
theorem a_Bh_space_95 : dk_at b_Bh_space 95 t_Bh_space_95 := dk_go 1 a_Bh_space_94 rfl
theorem a_Bh_space_96 : dk_at b_Bh_space 96 t_Bh_space_96 := dk_go 1 a_Bh_space_95 rfl
theorem a_Bh_space_97 : dk_at b_Bh_space 97 t_Bh_space_97 := dk_go 1 a_Bh_space_96 rfl
theorem a_Bh_space_100 : dk_at b_Bh_space 100 t_Bh_space_100 := dk_go 3 a_Bh_space_97 rfl
theorem a_Bh_space_103 : dk_at b_Bh_space 103 t_Bh_space_103 := dk_go 3 a_Bh_space_100 rfl
theorem a_Bh_space_104 : dk_at b_Bh_space 104 t_Bh_space_104 := dk_go 1 a_Bh_space_103 rfl
theorem a_Bh_space_105 : dk_at b_Bh_space 105 t_Bh_space_105 := dk_go 1 a_Bh_space_104 rfl
theorem a_Bh_space_108 : dk_at b_Bh_space 108 t_Bh_space_108 := dk_go 3 a_Bh_space_105 rfl
theorem a_Bh_space_109 : dk_at b_Bh_space 109 t_Bh_space_109 := dk_go 1 a_Bh_space_108 rfl
theorem a_Bh_space_112 : dk_at b_Bh_space 112 t_Bh_space_112 := dk_go 3 a_Bh_space_109 rfl
theorem a_Bh_space_115 : dk_at b_Bh_space 115 t_Bh_space_115 := dk_go 3 a_Bh_space_112 rfl
theorem a_Bh_space_116 : dk_at b_Bh_space 116 t_Bh_space_116 := dk_go 1 a_Bh_space_115 rfl
theorem a_Bh_space_117 : dk_at b_Bh_space 117 t_Bh_space_117 := dk_go 1 a_Bh_space_116 rfl
theorem a_Bh_space_120 : dk_at b_Bh_space 120 t_Bh_space_120 := dk_go 3 a_Bh_space_117 rfl
theorem a_Bh_space_121 : dk_at b_Bh_space 121 t_Bh_space_121 := dk_go 1 a_Bh_space_120 rfl
theorem a_Bh_space_124 : dk_at b_Bh_space 124 t_Bh_space_124 := dk_go 3 a_Bh_space_121 rfl
theorem a_Bh_space_127 : dk_at b_Bh_space 127 t_Bh_space_127 := dk_go 3 a_Bh_space_124 rfl
theorem a_Bh_space_128 : dk_at b_Bh_space 128 t_Bh_space_128 := dk_go 1 a_Bh_space_127 rfl
theorem a_Bh_space_129 : dk_at b_Bh_space 129 t_Bh_space_129 := dk_go 1 a_Bh_space_128 rfl
theorem a_Bh_space_130 : dk_at b_Bh_space 130 t_Bh_space_130 := dk_go 1 a_Bh_space_129 rfl
theorem a_Bh_space_131 : dk_at b_Bh_space 131 t_Bh_space_131 := dk_go 1 a_Bh_space_130 rfl
theorem a_Bh_space_134 : dk_at b_Bh_space 134 t_Bh_space_134 := dk_go 3 a_Bh_space_131 rfl
theorem a_Bh_space_135 : dk_at b_Bh_space 135 t_Bh_space_135 := dk_go 1 a_Bh_space_134 rfl
theorem a_Bh_space_138 : dk_at b_Bh_space 138 t_Bh_space_138 := dk_go 3 a_Bh_space_135 rfl
theorem a_Bh_space_139 : dk_at b_Bh_space 139 t_Bh_space_139 := dk_go 1 a_Bh_space_138 rfl
theorem a_Bh_space_140 : dk_at b_Bh_space 140 t_Bh_space_140 := dk_go 1 a_Bh_space_139 rfl
theorem d_Bh_space_0 : decode b_Bh_space 0 = .ok (.iload_n 2, 1) := dk_0 a_Bh_space_0 (dko_28 _)
theorem d_Bh_space_1 : decode b_Bh_space 1 = .ok (.iconst 4, 1) := dk_0 a_Bh_space_1 (dko_7 _)
theorem d_Bh_space_2 : decode b_Bh_space 2 = .ok (.if_icmp .ne 28, 3) := dk_S2 a_Bh_space_2 (dko_160 _) (by decide +kernel)
theorem d_Bh_space_5 : decode b_Bh_space 5 = .ok (.aload_n 0, 1) := dk_0 a_Bh_space_5 (dko_42 _)
theorem d_Bh_space_6 : decode b_Bh_space 6 = .ok (.getfield 26, 3) := dk_U2 a_Bh_space_6 (dko_180 _) rfl
theorem d_Bh_space_9 : decode b_Bh_space 9 = .ok (.iload_n 1, 1) := dk_0 a_Bh_space_9 (dko_27 _)
theorem d_Bh_space_10 : decode b_Bh_space 10 = .ok (.invokevirtual 309, 3) := dk_U2 a_Bh_space_10 (dko_182 _) rfl
theorem d_Bh_space_13 : decode b_Bh_space 13 = .ok (.ifCond .eq 15, 3) := dk_S2 a_Bh_space_13 (dko_153 _) (by decide +kernel)
theorem d_Bh_space_28 : decode b_Bh_space 28 = .ok (.iconst (-1), 1) := dk_0 a_Bh_space_28 (dko_2 _)
theorem d_Bh_space_29 : decode b_Bh_space 29 = .ok (.ireturn, 1) := dk_0 a_Bh_space_29 (dko_172 _)
theorem d_Bh_space_30 : decode b_Bh_space 30 = .ok (.aload_n 0, 1) := dk_0 a_Bh_space_30 (dko_42 _)
theorem d_Bh_space_31 : decode b_Bh_space 31 = .ok (.getfield 26, 3) := dk_U2 a_Bh_space_31 (dko_180 _) rfl
theorem d_Bh_space_34 : decode b_Bh_space 34 = .ok (.iload_n 1, 1) := dk_0 a_Bh_space_34 (dko_27 _)
theorem d_Bh_space_35 : decode b_Bh_space 35 = .ok (.invokevirtual 306, 3) := dk_U2 a_Bh_space_35 (dko_182 _) rfl
theorem d_Bh_space_38 : decode b_Bh_space 38 = .ok (.ifCond .ne 5, 3) := dk_S2 a_Bh_space_38 (dko_154 _) (by decide +kernel)
theorem d_Bh_space_41 : decode b_Bh_space 41 = .ok (.iconst (-1), 1) := dk_0 a_Bh_space_41 (dko_2 _)
theorem d_Bh_space_42 : decode b_Bh_space 42 = .ok (.ireturn, 1) := dk_0 a_Bh_space_42 (dko_172 _)
set_option maxHeartbeats 4000000 in
set_option maxRecDepth 100000 in
theorem c_Bh_space (l : Launch) (dC : Nat → ClassId) (dI : Nat → Nat → Nat) (cI cB cZ cJ : ClassId) (xx : Int32) (wh : Int32) (oB : Nat) (oSt : Nat) (oP1 : Nat) (xb : List Value) (hb_stock : fx xb 2 (.ref oSt)) (xs_ : List Value) (hst_plant : fx xs_ 0 (.ref oP1)) (xp : List Value) (hxp_things : fx xp 0 (.int 0)) (hxp_pipes : fx xp 1 (.int 0)) (sz : Nat) : Met l y_Bh_space w_Bh_space ({ frames := 2, cells := 0, slots := 0, locals := 42 }) (va_Pc [.ref oB, .int xx, .int wh] (PW dC dI cI cB cZ cJ [(oB, .inr (0, xb)), (oSt, .inr (4, xs_)), (oP1, .inr (3, xp))] sz)) (va_Qi (fun (r : Int32) (_ : Unit) => r = (-1)) (fun _ _ => True) (va_A [] sz)) 0 0 (va_A [] sz) := by
  refine Met.ofW (cc := b_Bh_space) (maxL := 3) (ret := (some .int)) (by decide) rfl ?_
  intro p e s m args below meth c s₁ B hml hv
  obtain ⟨rfl, hsz, hP, hK, hD⟩ := hv
  have hx := B.exec
  have hb := B.bytes
  have hr := B.returns
  have hts := atoms_spec (ws := w_Bh_space) B.pre
  have hown : s.vm.findClass R_Bh = some m.cls := findClass_of_methodNamed B.named
  have hlocks := B.notSynchronized
  subst hsz
  generalize hAe : va_A [] s.heap.size = A at ⊢
  have hA : ∀ q : Nat, s.heap.size ≤ q → A q := fun q h => by rw [← hAe]; exact Or.inr h
  have hS : va_S A s.heap s.heap [] := va_S.rf
  have hP : va_P (dC, dI) classes [(oB, .inr (0, xb)), (oSt, .inr (4, xs_)), (oP1, .inr (3, xp))] s.heap := hP
  have hl := lv_entry ([.ref oB, .int xx, .int wh]) (n := 3) (Nat.le_of_ble_eq_true rfl)
  rw [lg_entry_eq]
  generalize (lg_sl ([.ref oB, .int xx, .int wh]) ++ List.replicate (3 - (lg_sl ([.ref oB, .int xx, .int wh])).length) Slot.unset).toArray = ls at hl ⊢
  have hl : lv_has ls 3 [(0, .ref oB), (1, .int xx), (2, .int wh)] := hl
  refine lv_iload_n hx hb d_Bh_space_0 rfl (lv_at hl 2 rfl) ?_
  refine lv_iconst (v := 4) hx hb d_Bh_space_1 (by decide) ?_
  refine lv_icmp_ne (tgt := 30) hx hb d_Bh_space_2 (by decide) (fun h2 => ?_) (fun h2 => ?_)
  · refine lv_aload_n hx hb d_Bh_space_30 rfl (lv_at hl 0 rfl) ?_
    refine va_get (D := (dC, dI)) (ci := 0) (v := .ref oSt) (C := R_Bh) (T := F_Bh) (N := 16) hx hb hts (fun w h => List.mem_cons_of_mem _ (in_Bh w h)) hown hK.1 hP 0 rfl rfl 2 (by decide) (hts _ (List.mem_cons_of_mem _ mw_686)) (fun _ h9 => h9) hb_stock d_Bh_space_31 ?_
    refine lv_iload_n hx hb d_Bh_space_34 rfl (lv_at hl 1 rfl) ?_
    have hPc := hP.sub (ws' := [(oSt, .inr (4, xs_)), (oP1, .inr (3, xp))]) [1, 2] rfl
    have hDc := hD.sub (ws' := [(oSt, .inr (4, xs_)), (oP1, .inr (3, xp))]) [1, 2] (by decide) rfl
    have hFc := pu_free hS hA
    refine va_calli (va_runV (C := R_St) (As := [.int xx]) (rest := []) ⟨hx, hb, hml, hown, hts⟩ (c_St_isHolder l dC dI cI cB cZ cJ xx oSt oP1 xs_ hst_plant xp hxp_things hxp_pipes s.heap.size) (cwV 1 hts (tb_V mw_1332 mw_1200 mw_1201 mw_4 mw_1202) rfl rfl rfl ⟨rfl, by decide +kernel, by decide +kernel, by decide +kernel⟩ ⟨(Nat.le_of_ble_eq_true rfl), (Nat.le_of_ble_eq_true rfl)⟩) ⟨pw_blind, va_recv (q := (R_St, F_St, 12)) hK.1 hP (ci := 4) (q0 := 1) rfl rfl, pw_pre hPc hK hDc⟩ rfl rfl hl.1 rfl (lv_room (Nat.le_of_ble_eq_true rfl)) d_Bh_space_35 ⟨(Nat.le_of_ble_eq_true rfl), (Nat.le_of_ble_eq_true rfl)⟩) hS (fun q _ h => hFc q h) hFc (fun r u t H locs ht hvm hw hB hz1 hk1 hS => ?_)
    have hP := pu_kept hP hk1
    obtain rfl : r = 0 := hw
    refine lv_if_ne (tgt := 43) hx hb d_Bh_space_38 (by decide) (fun h => absurd rfl h) (fun _ => ?_)
    refine lv_iconst (v := (-1)) hx hb d_Bh_space_41 (by decide) ?_
    exact W.iret (v := (-1)) hx hb hr (fun t ht hW => ⟨⟨_, (), rfl, (rfl), trivial⟩, hS.F ht⟩) hS.2.2 d_Bh_space_42
  · refine lv_aload_n hx hb d_Bh_space_5 rfl (lv_at hl 0 rfl) ?_
    refine va_get (D := (dC, dI)) (ci := 0) (v := .ref oSt) (C := R_Bh) (T := F_Bh) (N := 16) hx hb hts (fun w h => List.mem_cons_of_mem _ (in_Bh w h)) hown hK.1 hP 0 rfl rfl 2 (by decide) (hts _ (List.mem_cons_of_mem _ mw_686)) (fun _ h9 => h9) hb_stock d_Bh_space_6 ?_
    refine lv_iload_n hx hb d_Bh_space_9 rfl (lv_at hl 1 rfl) ?_
    have hPc := hP.sub (ws' := [(oSt, .inr (4, xs_)), (oP1, .inr (3, xp))]) [1, 2] rfl
    have hDc := hD.sub (ws' := [(oSt, .inr (4, xs_)), (oP1, .inr (3, xp))]) [1, 2] (by decide) rfl
    have hFc := pu_free hS hA
    refine va_calli (va_runV (C := R_St) (As := [.int xx]) (rest := []) ⟨hx, hb, hml, hown, hts⟩ (c_St_isValve l dC dI cI cB cZ cJ xx oSt oP1 xs_ hst_plant xp hxp_things s.heap.size) (cwV 1 hts (tb_V mw_1333 mw_1196 mw_1197 mw_4 mw_1198) rfl rfl rfl ⟨rfl, by decide +kernel, by decide +kernel, by decide +kernel⟩ ⟨(Nat.le_of_ble_eq_true rfl), (Nat.le_of_ble_eq_true rfl)⟩) ⟨pw_blind, va_recv (q := (R_St, F_St, 12)) hK.1 hP (ci := 4) (q0 := 1) rfl rfl, pw_pre hPc hK hDc⟩ rfl rfl hl.1 rfl (lv_room (Nat.le_of_ble_eq_true rfl)) d_Bh_space_10 ⟨(Nat.le_of_ble_eq_true rfl), (Nat.le_of_ble_eq_true rfl)⟩) hS (fun q _ h => hFc q h) hFc (fun r u t H locs ht hvm hw hB hz1 hk1 hS => ?_)
    have hP := pu_kept hP hk1
    obtain rfl : r = 0 := hw
    refine lv_if_eq (tgt := 28) hx hb d_Bh_space_13 (by decide) (fun _ => ?_) (fun h => absurd (by decide) h)
    refine lv_iconst (v := (-1)) hx hb d_Bh_space_28 (by decide) ?_
    exact W.iret (v := (-1)) hx hb hr (fun t ht hW => ⟨⟨_, (), rfl, (rfl), trivial⟩, hS.F ht⟩) hS.2.2 d_Bh_space_29
abbrev t_Wa_get_103 : List UInt8 := 172 :: []
abbrev t_Wa_get_102 : List UInt8 := 29 :: t_Wa_get_103
abbrev t_Wa_get_99 : List UInt8 := 167 :: 255 :: 236 :: t_Wa_get_102
abbrev t_Wa_get_96 : List UInt8 := 132 :: 4 :: 1 :: t_Wa_get_99
abbrev t_Wa_get_95 : List UInt8 := 62 :: t_Wa_get_96
abbrev t_Wa_get_94 : List UInt8 := 46 :: t_Wa_get_95
abbrev t_Wa_get_93 : List UInt8 := 29 :: t_Wa_get_94
abbrev t_Wa_get_90 : List UInt8 := 180 :: 0 :: 36 :: t_Wa_get_93
abbrev t_Wa_get_89 : List UInt8 := 42 :: t_Wa_get_90
abbrev t_Wa_get_86 : List UInt8 := 155 :: 0 :: 16 :: t_Wa_get_89
abbrev t_Wa_get_85 : List UInt8 := 29 :: t_Wa_get_86
abbrev t_Wa_get_82 : List UInt8 := 162 :: 0 :: 20 :: t_Wa_get_85
abbrev t_Wa_get_81 : List UInt8 := 28 :: t_Wa_get_82
abbrev t_Wa_get_79 : List UInt8 := 21 :: 4 :: t_Wa_get_81
abbrev t_Wa_get_77 : List UInt8 := 54 :: 4 :: t_Wa_get_79
abbrev t_Wa_get_76 : List UInt8 := 6 :: t_Wa_get_77
abbrev t_Wa_get_75 : List UInt8 := 62 :: t_Wa_get_76
abbrev t_Wa_get_74 : List UInt8 := 46 :: t_Wa_get_75
abbrev t_Wa_get_73 : List UInt8 := 27 :: t_Wa_get_74
abbrev t_Wa_get_70 : List UInt8 := 180 :: 0 :: 27 :: t_Wa_get_73
abbrev t_Wa_get_69 : List UInt8 := 42 :: t_Wa_get_70
abbrev t_Wa_get_68 : List UInt8 := 172 :: t_Wa_get_69
abbrev t_Wa_get_67 : List UInt8 := 46 :: t_Wa_get_68
abbrev t_Wa_get_66 : List UInt8 := 27 :: t_Wa_get_67
abbrev t_Wa_get_63 : List UInt8 := 180 :: 0 :: 24 :: t_Wa_get_66
abbrev t_Wa_get_62 : List UInt8 := 42 :: t_Wa_get_63
abbrev t_Wa_get_59 : List UInt8 := 167 :: 0 :: 9 :: t_Wa_get_62
abbrev t_Wa_get_58 : List UInt8 := 46 :: t_Wa_get_59
abbrev t_Wa_get_57 : List UInt8 := 27 :: t_Wa_get_58
abbrev t_Wa_get_54 : List UInt8 := 180 :: 0 :: 15 :: t_Wa_get_57
abbrev t_Wa_get_53 : List UInt8 := 42 :: t_Wa_get_54
abbrev t_Wa_get_50 : List UInt8 := 160 :: 0 :: 12 :: t_Wa_get_53
abbrev t_Wa_get_49 : List UInt8 := 4 :: t_Wa_get_50
abbrev t_Wa_get_48 : List UInt8 := 28 :: t_Wa_get_49
abbrev t_Wa_get_45 : List UInt8 := 167 :: 0 :: 23 :: t_Wa_get_48
abbrev t_Wa_get_44 : List UInt8 := 46 :: t_Wa_get_45
abbrev t_Wa_get_43 : List UInt8 := 27 :: t_Wa_get_44
abbrev t_Wa_get_40 : List UInt8 := 180 :: 0 :: 9 :: t_Wa_get_43
abbrev t_Wa_get_39 : List UInt8 := 42 :: t_Wa_get_40
abbrev t_Wa_get_36 : List UInt8 := 154 :: 0 :: 12 :: t_Wa_get_39
abbrev t_Wa_get_35 : List UInt8 := 28 :: t_Wa_get_36
abbrev t_Wa_get_32 : List UInt8 := 162 :: 0 :: 37 :: t_Wa_get_35
abbrev t_Wa_get_31 : List UInt8 := 6 :: t_Wa_get_32
abbrev t_Wa_get_30 : List UInt8 := 28 :: t_Wa_get_31
abbrev t_Wa_get_29 : List UInt8 := 172 :: t_Wa_get_30
abbrev t_Wa_get_28 : List UInt8 := 2 :: t_Wa_get_29
abbrev t_Wa_get_25 : List UInt8 := 161 :: 0 :: 5 :: t_Wa_get_28
abbrev t_Wa_get_24 : List UInt8 := 96 :: t_Wa_get_25
abbrev t_Wa_get_23 : List UInt8 := 46 :: t_Wa_get_24
abbrev t_Wa_get_22 : List UInt8 := 27 :: t_Wa_get_23
abbrev t_Wa_get_19 : List UInt8 := 180 :: 0 :: 24 :: t_Wa_get_22
abbrev t_Wa_get_18 : List UInt8 := 42 :: t_Wa_get_19
abbrev t_Wa_get_17 : List UInt8 := 6 :: t_Wa_get_18
abbrev t_Wa_get_16 : List UInt8 := 28 :: t_Wa_get_17
abbrev t_Wa_get_13 : List UInt8 := 155 :: 0 :: 15 :: t_Wa_get_16
abbrev t_Wa_get_12 : List UInt8 := 28 :: t_Wa_get_13
abbrev t_Wa_get_9 : List UInt8 := 162 :: 0 :: 19 :: t_Wa_get_12
abbrev t_Wa_get_6 : List UInt8 := 180 :: 0 :: 65 :: t_Wa_get_9
abbrev t_Wa_get_5 : List UInt8 := 42 :: t_Wa_get_6
abbrev t_Wa_get_4 : List UInt8 := 27 :: t_Wa_get_5
abbrev t_Wa_get_1 : List UInt8 := 155 :: 0 :: 27 :: t_Wa_get_4
abbrev t_Wa_get_0 : List UInt8 := 27 :: t_Wa_get_1
theorem a_Wa_get_0 : dk_at b_Wa_get 0 t_Wa_get_0 := dk_start (by decide +kernel)
theorem a_Wa_get_1 : dk_at b_Wa_get 1 t_Wa_get_1 := dk_go 1 a_Wa_get_0 rfl
theorem a_Wa_get_4 : dk_at b_Wa_get 4 t_Wa_get_4 := dk_go 3 a_Wa_get_1 rfl
theorem a_Wa_get_5 : dk_at b_Wa_get 5 t_Wa_get_5 := dk_go 1 a_Wa_get_4 rfl
theorem a_Wa_get_6 : dk_at b_Wa_get 6 t_Wa_get_6 := dk_go 1 a_Wa_get_5 rfl
theorem a_Wa_get_9 : dk_at b_Wa_get 9 t_Wa_get_9 := dk_go 3 a_Wa_get_6 rfl
theorem a_Wa_get_12 : dk_at b_Wa_get 12 t_Wa_get_12 := dk_go 3 a_Wa_get_9 rfl
theorem a_Wa_get_13 : dk_at b_Wa_get 13 t_Wa_get_13 := dk_go 1 a_Wa_get_12 rfl
theorem a_Wa_get_16 : dk_at b_Wa_get 16 t_Wa_get_16 := dk_go 3 a_Wa_get_13 rfl
theorem a_Wa_get_17 : dk_at b_Wa_get 17 t_Wa_get_17 := dk_go 1 a_Wa_get_16 rfl
theorem a_Wa_get_18 : dk_at b_Wa_get 18 t_Wa_get_18 := dk_go 1 a_Wa_get_17 rfl
theorem a_Wa_get_19 : dk_at b_Wa_get 19 t_Wa_get_19 := dk_go 1 a_Wa_get_18 rfl
theorem a_Wa_get_22 : dk_at b_Wa_get 22 t_Wa_get_22 := dk_go 3 a_Wa_get_19 rfl
theorem a_Wa_get_23 : dk_at b_Wa_get 23 t_Wa_get_23 := dk_go 1 a_Wa_get_22 rfl
theorem a_Wa_get_24 : dk_at b_Wa_get 24 t_Wa_get_24 := dk_go 1 a_Wa_get_23 rfl
theorem a_Wa_get_25 : dk_at b_Wa_get 25 t_Wa_get_25 := dk_go 1 a_Wa_get_24 rfl
theorem a_Wa_get_28 : dk_at b_Wa_get 28 t_Wa_get_28 := dk_go 3 a_Wa_get_25 rfl
theorem a_Wa_get_29 : dk_at b_Wa_get 29 t_Wa_get_29 := dk_go 1 a_Wa_get_28 rfl
theorem a_Wa_get_30 : dk_at b_Wa_get 30 t_Wa_get_30 := dk_go 1 a_Wa_get_29 rfl
theorem a_Wa_get_31 : dk_at b_Wa_get 31 t_Wa_get_31 := dk_go 1 a_Wa_get_30 rfl
theorem a_Wa_get_32 : dk_at b_Wa_get 32 t_Wa_get_32 := dk_go 1 a_Wa_get_31 rfl
theorem a_Wa_get_35 : dk_at b_Wa_get 35 t_Wa_get_35 := dk_go 3 a_Wa_get_32 rfl
theorem a_Wa_get_36 : dk_at b_Wa_get 36 t_Wa_get_36 := dk_go 1 a_Wa_get_35 rfl
theorem a_Wa_get_39 : dk_at b_Wa_get 39 t_Wa_get_39 := dk_go 3 a_Wa_get_36 rfl
theorem a_Wa_get_40 : dk_at b_Wa_get 40 t_Wa_get_40 := dk_go 1 a_Wa_get_39 rfl
theorem a_Wa_get_43 : dk_at b_Wa_get 43 t_Wa_get_43 := dk_go 3 a_Wa_get_40 rfl
theorem a_Wa_get_44 : dk_at b_Wa_get 44 t_Wa_get_44 := dk_go 1 a_Wa_get_43 rfl
theorem a_Wa_get_45 : dk_at b_Wa_get 45 t_Wa_get_45 := dk_go 1 a_Wa_get_44 rfl
theorem a_Wa_get_48 : dk_at b_Wa_get 48 t_Wa_get_48 := dk_go 3 a_Wa_get_45 rfl
theorem a_Wa_get_49 : dk_at b_Wa_get 49 t_Wa_get_49 := dk_go 1 a_Wa_get_48 rfl
theorem a_Wa_get_50 : dk_at b_Wa_get 50 t_Wa_get_50 := dk_go 1 a_Wa_get_49 rfl
theorem a_Wa_get_53 : dk_at b_Wa_get 53 t_Wa_get_53 := dk_go 3 a_Wa_get_50 rfl
theorem a_Wa_get_54 : dk_at b_Wa_get 54 t_Wa_get_54 := dk_go 1 a_Wa_get_53 rfl
theorem a_Wa_get_57 : dk_at b_Wa_get 57 t_Wa_get_57 := dk_go 3 a_Wa_get_54 rfl
theorem a_Wa_get_58 : dk_at b_Wa_get 58 t_Wa_get_58 := dk_go 1 a_Wa_get_57 rfl
theorem a_Wa_get_59 : dk_at b_Wa_get 59 t_Wa_get_59 := dk_go 1 a_Wa_get_58 rfl
theorem a_Wa_get_62 : dk_at b_Wa_get 62 t_Wa_get_62 := dk_go 3 a_Wa_get_59 rfl
theorem a_Wa_get_63 : dk_at b_Wa_get 63 t_Wa_get_63 := dk_go 1 a_Wa_get_62 rfl
theorem a_Wa_get_66 : dk_at b_Wa_get 66 t_Wa_get_66 := dk_go 3 a_Wa_get_63 rfl
theorem a_Wa_get_67 : dk_at b_Wa_get 67 t_Wa_get_67 := dk_go 1 a_Wa_get_66 rfl
theorem a_Wa_get_68 : dk_at b_Wa_get 68 t_Wa_get_68 := dk_go 1 a_Wa_get_67 rfl
theorem a_Wa_get_69 : dk_at b_Wa_get 69 t_Wa_get_69 := dk_go 1 a_Wa_get_68 rfl
theorem a_Wa_get_70 : dk_at b_Wa_get 70 t_Wa_get_70 := dk_go 1 a_Wa_get_69 rfl
theorem a_Wa_get_73 : dk_at b_Wa_get 73 t_Wa_get_73 := dk_go 3 a_Wa_get_70 rfl
theorem a_Wa_get_74 : dk_at b_Wa_get 74 t_Wa_get_74 := dk_go 1 a_Wa_get_73 rfl
theorem a_Wa_get_75 : dk_at b_Wa_get 75 t_Wa_get_75 := dk_go 1 a_Wa_get_74 rfl
theorem a_Wa_get_76 : dk_at b_Wa_get 76 t_Wa_get_76 := dk_go 1 a_Wa_get_75 rfl
theorem a_Wa_get_77 : dk_at b_Wa_get 77 t_Wa_get_77 := dk_go 1 a_Wa_get_76 rfl
theorem a_Wa_get_79 : dk_at b_Wa_get 79 t_Wa_get_79 := dk_go 2 a_Wa_get_77 rfl
theorem a_Wa_get_81 : dk_at b_Wa_get 81 t_Wa_get_81 := dk_go 2 a_Wa_get_79 rfl
theorem a_Wa_get_82 : dk_at b_Wa_get 82 t_Wa_get_82 := dk_go 1 a_Wa_get_81 rfl
theorem a_Wa_get_85 : dk_at b_Wa_get 85 t_Wa_get_85 := dk_go 3 a_Wa_get_82 rfl
theorem a_Wa_get_86 : dk_at b_Wa_get 86 t_Wa_get_86 := dk_go 1 a_Wa_get_85 rfl
theorem a_Wa_get_89 : dk_at b_Wa_get 89 t_Wa_get_89 := dk_go 3 a_Wa_get_86 rfl
theorem a_Wa_get_90 : dk_at b_Wa_get 90 t_Wa_get_90 := dk_go 1 a_Wa_get_89 rfl
theorem a_Wa_get_93 : dk_at b_Wa_get 93 t_Wa_get_93 := dk_go 3 a_Wa_get_90 rfl
theorem a_Wa_get_94 : dk_at b_Wa_get 94 t_Wa_get_94 := dk_go 1 a_Wa_get_93 rfl
theorem a_Wa_get_95 : dk_at b_Wa_get 95 t_Wa_get_95 := dk_go 1 a_Wa_get_94 rfl
theorem a_Wa_get_96 : dk_at b_Wa_get 96 t_Wa_get_96 := dk_go 1 a_Wa_get_95 rfl
theorem a_Wa_get_99 : dk_at b_Wa_get 99 t_Wa_get_99 := dk_go 3 a_Wa_get_96 rfl
theorem a_Wa_get_102 : dk_at b_Wa_get 102 t_Wa_get_102 := dk_go 3 a_Wa_get_99 rfl
theorem a_Wa_get_103 : dk_at b_Wa_get 103 t_Wa_get_103 := dk_go 1 a_Wa_get_102 rfl
theorem d_Wa_get_0 : decode b_Wa_get 0 = .ok (.iload_n 1, 1) := dk_0 a_Wa_get_0 (dko_27 _)
theorem d_Wa_get_1 : decode b_Wa_get 1 = .ok (.ifCond .lt 27, 3) := dk_S2 a_Wa_get_1 (dko_155 _) (by decide +kernel)
theorem d_Wa_get_4 : decode b_Wa_get 4 = .ok (.iload_n 1, 1) := dk_0 a_Wa_get_4 (dko_27 _)
theorem d_Wa_get_5 : decode b_Wa_get 5 = .ok (.aload_n 0, 1) := dk_0 a_Wa_get_5 (dko_42 _)
theorem d_Wa_get_6 : decode b_Wa_get 6 = .ok (.getfield 65, 3) := dk_U2 a_Wa_get_6 (dko_180 _) rfl
theorem d_Wa_get_9 : decode b_Wa_get 9 = .ok (.if_icmp .ge 19, 3) := dk_S2 a_Wa_get_9 (dko_162 _) (by decide +kernel)
theorem d_Wa_get_28 : decode b_Wa_get 28 = .ok (.iconst (-1), 1) := dk_0 a_Wa_get_28 (dko_2 _)
theorem d_Wa_get_29 : decode b_Wa_get 29 = .ok (.ireturn, 1) := dk_0 a_Wa_get_29 (dko_172 _)
set_option maxHeartbeats 4000000 in
set_option maxRecDepth 100000 in
theorem c_Wa_get (l : Launch) (dC : Nat → ClassId) (dI : Nat → Nat → Nat) (cI cB cZ cJ : ClassId) (kk : Int32) (wh : Int32) (oWa : Nat) (xw : List Value) (hwa_count : fx xw 1 (.int 0)) (sz : Nat) : Met l y_Wa_get w_Wa_get ({ frames := 0, cells := 0, slots := 0, locals := 0 }) (va_Pc [.ref oWa, .int kk, .int wh] (PW dC dI cI cB cZ cJ [(oWa, .inr (5, xw))] sz)) (va_Qi (fun (r : Int32) (_ : Unit) => r = (-1)) (fun _ _ => True) (va_A [] sz)) 0 0 (va_A [] sz) := by
  refine Met.ofW (cc := b_Wa_get) (maxL := 5) (ret := (some .int)) (by decide) rfl ?_
  intro p e s m args below meth c s₁ B hml hv
  obtain ⟨rfl, hsz, hP, hK, hD⟩ := hv
  have hx := B.exec
  have hb := B.bytes
  have hr := B.returns
  have hts := atoms_spec (ws := w_Wa_get) B.pre
  have hown : s.vm.findClass R_Wa = some m.cls := findClass_of_methodNamed B.named
  have hlocks := B.notSynchronized
  subst hsz
  generalize hAe : va_A [] s.heap.size = A at ⊢
  have hA : ∀ q : Nat, s.heap.size ≤ q → A q := fun q h => by rw [← hAe]; exact Or.inr h
  have hS : va_S A s.heap s.heap [] := va_S.rf
  have hP : va_P (dC, dI) classes [(oWa, .inr (5, xw))] s.heap := hP
  have hl := lv_entry ([.ref oWa, .int kk, .int wh]) (n := 5) (Nat.le_of_ble_eq_true rfl)
  rw [lg_entry_eq]
  generalize (lg_sl ([.ref oWa, .int kk, .int wh]) ++ List.replicate (5 - (lg_sl ([.ref oWa, .int kk, .int wh])).length) Slot.unset).toArray = ls at hl ⊢
  have hl : lv_has ls 5 [(0, .ref oWa), (1, .int kk), (2, .int wh)] := hl
  refine lv_iload_n hx hb d_Wa_get_0 rfl (lv_at hl 1 rfl) ?_
  refine lv_if_lt (tgt := 28) hx hb d_Wa_get_1 (by decide) (fun h1 => ?_) (fun h1 => ?_)
  · refine lv_iconst (v := (-1)) hx hb d_Wa_get_28 (by decide) ?_
    exact W.iret (v := (-1)) hx hb hr (fun t ht hW => ⟨⟨_, (), rfl, (rfl), trivial⟩, hS.F ht⟩) hS.2.2 d_Wa_get_29
  · refine lv_iload_n hx hb d_Wa_get_4 rfl (lv_at hl 1 rfl) ?_
    refine lv_aload_n hx hb d_Wa_get_5 rfl (lv_at hl 0 rfl) ?_
    refine va_get (D := (dC, dI)) (ci := 5) (v := .int 0) (C := R_Wa) (T := F_Wa) (N := 18) hx hb hts (fun w h => List.mem_cons_of_mem _ (in_Wa w h)) hown hK.1 hP 0 rfl rfl 1 (by decide) (hts _ (List.mem_cons_of_mem _ mw_218)) (fun _ h9 => h9) hwa_count d_Wa_get_6 ?_
    refine lv_icmp_ge (tgt := 28) hx hb d_Wa_get_9 (by decide) (fun _ => ?_) (fun h => absurd (nd_le h1 (by decide)) h)
    refine lv_iconst (v := (-1)) hx hb d_Wa_get_28 (by decide) ?_
    exact W.iret (v := (-1)) hx hb hr (fun t ht hW => ⟨⟨_, (), rfl, (rfl), trivial⟩, hS.F ht⟩) hS.2.2 d_Wa_get_29
abbrev t_Bh_way_9 : List UInt8 := 172 :: []
abbrev t_Bh_way_6 : List UInt8 := 182 :: 1 :: 96 :: t_Bh_way_9
abbrev t_Bh_way_5 : List UInt8 := 28 :: t_Bh_way_6
abbrev t_Bh_way_4 : List UInt8 := 27 :: t_Bh_way_5
abbrev t_Bh_way_1 : List UInt8 := 180 :: 0 :: 35 :: t_Bh_way_4
abbrev t_Bh_way_0 : List UInt8 := 42 :: t_Bh_way_1
theorem a_Bh_way_0 : dk_at b_Bh_way 0 t_Bh_way_0 := dk_start (by decide +kernel)
theorem a_Bh_way_1 : dk_at b_Bh_way 1 t_Bh_way_1 := dk_go 1 a_Bh_way_0 rfl
theorem a_Bh_way_4 : dk_at b_Bh_way 4 t_Bh_way_4 := dk_go 3 a_Bh_way_1 rfl
theorem a_Bh_way_5 : dk_at b_Bh_way 5 t_Bh_way_5 := dk_go 1 a_Bh_way_4 rfl
theorem a_Bh_way_6 : dk_at b_Bh_way 6 t_Bh_way_6 := dk_go 1 a_Bh_way_5 rfl
theorem a_Bh_way_9 : dk_at b_Bh_way 9 t_Bh_way_9 := dk_go 3 a_Bh_way_6 rfl
theorem d_Bh_way_0 : decode b_Bh_way 0 = .ok (.aload_n 0, 1) := dk_0 a_Bh_way_0 (dko_42 _)
theorem d_Bh_way_1 : decode b_Bh_way 1 = .ok (.getfield 35, 3) := dk_U2 a_Bh_way_1 (dko_180 _) rfl
theorem d_Bh_way_4 : decode b_Bh_way 4 = .ok (.iload_n 1, 1) := dk_0 a_Bh_way_4 (dko_27 _)
theorem d_Bh_way_5 : decode b_Bh_way 5 = .ok (.iload_n 2, 1) := dk_0 a_Bh_way_5 (dko_28 _)
theorem d_Bh_way_6 : decode b_Bh_way 6 = .ok (.invokevirtual 352, 3) := dk_U2 a_Bh_way_6 (dko_182 _) rfl
theorem d_Bh_way_9 : decode b_Bh_way 9 = .ok (.ireturn, 1) := dk_0 a_Bh_way_9 (dko_172 _)
set_option maxHeartbeats 4000000 in
set_option maxRecDepth 100000 in
theorem c_Bh_way (l : Launch) (dC : Nat → ClassId) (dI : Nat → Nat → Nat) (cI cB cZ cJ : ClassId) (kk : Int32) (wh : Int32) (oB : Nat) (oWa : Nat) (xb : List Value) (hb_ways : fx xb 3 (.ref oWa)) (xw : List Value) (hwa_count : fx xw 1 (.int 0)) (sz : Nat) : Met l y_Bh_way w_Bh_way ({ frames := 1, cells := 0, slots := 0, locals := 24 }) (va_Pc [.ref oB, .int kk, .int wh] (PW dC dI cI cB cZ cJ [(oB, .inr (0, xb)), (oWa, .inr (5, xw))] sz)) (va_Qi (fun (r : Int32) (_ : Unit) => r = (-1)) (fun _ _ => True) (va_A [] sz)) 0 0 (va_A [] sz) := by
  refine Met.ofW (cc := b_Bh_way) (maxL := 3) (ret := (some .int)) (by decide) rfl ?_
  intro p e s m args below meth c s₁ B hml hv
  obtain ⟨rfl, hsz, hP, hK, hD⟩ := hv
  have hx := B.exec
  have hb := B.bytes
  have hr := B.returns
  have hts := atoms_spec (ws := w_Bh_way) B.pre
  have hown : s.vm.findClass R_Bh = some m.cls := findClass_of_methodNamed B.named
  have hlocks := B.notSynchronized
  subst hsz
  generalize hAe : va_A [] s.heap.size = A at ⊢
  have hA : ∀ q : Nat, s.heap.size ≤ q → A q := fun q h => by rw [← hAe]; exact Or.inr h
  have hS : va_S A s.heap s.heap [] := va_S.rf
  have hP : va_P (dC, dI) classes [(oB, .inr (0, xb)), (oWa, .inr (5, xw))] s.heap := hP
  have hl := lv_entry ([.ref oB, .int kk, .int wh]) (n := 3) (Nat.le_of_ble_eq_true rfl)
  rw [lg_entry_eq]
  generalize (lg_sl ([.ref oB, .int kk, .int wh]) ++ List.replicate (3 - (lg_sl ([.ref oB, .int kk, .int wh])).length) Slot.unset).toArray = ls at hl ⊢
  have hl : lv_has ls 3 [(0, .ref oB), (1, .int kk), (2, .int wh)] := hl
  refine lv_aload_n hx hb d_Bh_way_0 rfl (lv_at hl 0 rfl) ?_
  refine va_get (D := (dC, dI)) (ci := 0) (v := .ref oWa) (C := R_Bh) (T := F_Bh) (N := 16) hx hb hts (fun w h => List.mem_cons_of_mem _ (in_Bh w h)) hown hK.1 hP 0 rfl rfl 3 (by decide) (hts _ (List.mem_cons_of_mem _ mw_687)) (fun _ h9 => h9) hb_ways d_Bh_way_1 ?_
  refine lv_iload_n hx hb d_Bh_way_4 rfl (lv_at hl 1 rfl) ?_
  refine lv_iload_n hx hb d_Bh_way_5 rfl (lv_at hl 2 rfl) ?_
  have hPc := hP.sub (ws' := [(oWa, .inr (5, xw))]) [1] rfl
  have hDc := hD.sub (ws' := [(oWa, .inr (5, xw))]) [1] (by decide) rfl
  have hFc := pu_free hS hA
  refine va_calli (va_runV (C := R_Wa) (As := [.int kk, .int wh]) (rest := []) ⟨hx, hb, hml, hown, hts⟩ (c_Wa_get l dC dI cI cB cZ cJ kk wh oWa xw hwa_count s.heap.size) (cwV 2 hts (tb_V mw_1543 mw_1544 mw_1545 mw_7 mw_1546) rfl rfl rfl ⟨rfl, by decide +kernel, by decide +kernel, by decide +kernel⟩ ⟨(Nat.le_of_ble_eq_true rfl), (Nat.le_of_ble_eq_true rfl)⟩) ⟨pw_blind, va_recv (q := (R_Wa, F_Wa, 18)) hK.1 hP (ci := 5) (q0 := 1) rfl rfl, pw_pre hPc hK hDc⟩ rfl rfl hl.1 rfl (lv_room (Nat.le_of_ble_eq_true rfl)) d_Bh_way_6 ⟨(Nat.le_of_ble_eq_true rfl), (Nat.le_of_ble_eq_true rfl)⟩) hS (fun q _ h => hFc q h) hFc (fun r u t H locs ht hvm hw hB hz1 hk1 hS => ?_)
  have hP := pu_kept hP hk1
  obtain rfl : r = (-1) := hw
  exact W.iret (v := (-1)) hx hb hr (fun t ht hW => ⟨⟨_, (), rfl, (rfl), trivial⟩, hS.F ht⟩) hS.2.2 d_Bh_way_9
abbrev t_Al_get_56 : List UInt8 := 172 :: []
abbrev t_Al_get_55 : List UInt8 := 46 :: t_Al_get_56
abbrev t_Al_get_54 : List UInt8 := 27 :: t_Al_get_55
abbrev t_Al_get_51 : List UInt8 := 180 :: 0 :: 18 :: t_Al_get_54
abbrev t_Al_get_50 : List UInt8 := 42 :: t_Al_get_51
abbrev t_Al_get_47 : List UInt8 := 167 :: 0 :: 9 :: t_Al_get_50
abbrev t_Al_get_46 : List UInt8 := 46 :: t_Al_get_47
abbrev t_Al_get_45 : List UInt8 := 27 :: t_Al_get_46
abbrev t_Al_get_42 : List UInt8 := 180 :: 0 :: 15 :: t_Al_get_45
abbrev t_Al_get_41 : List UInt8 := 42 :: t_Al_get_42
abbrev t_Al_get_38 : List UInt8 := 160 :: 0 :: 12 :: t_Al_get_41
abbrev t_Al_get_37 : List UInt8 := 4 :: t_Al_get_38
abbrev t_Al_get_36 : List UInt8 := 28 :: t_Al_get_37
abbrev t_Al_get_33 : List UInt8 := 167 :: 0 :: 23 :: t_Al_get_36
abbrev t_Al_get_32 : List UInt8 := 46 :: t_Al_get_33
abbrev t_Al_get_31 : List UInt8 := 27 :: t_Al_get_32
abbrev t_Al_get_28 : List UInt8 := 180 :: 0 :: 9 :: t_Al_get_31
abbrev t_Al_get_27 : List UInt8 := 42 :: t_Al_get_28
abbrev t_Al_get_24 : List UInt8 := 154 :: 0 :: 12 :: t_Al_get_27
abbrev t_Al_get_23 : List UInt8 := 28 :: t_Al_get_24
abbrev t_Al_get_22 : List UInt8 := 172 :: t_Al_get_23
abbrev t_Al_get_21 : List UInt8 := 2 :: t_Al_get_22
abbrev t_Al_get_18 : List UInt8 := 164 :: 0 :: 5 :: t_Al_get_21
abbrev t_Al_get_17 : List UInt8 := 5 :: t_Al_get_18
abbrev t_Al_get_16 : List UInt8 := 28 :: t_Al_get_17
abbrev t_Al_get_13 : List UInt8 := 155 :: 0 :: 8 :: t_Al_get_16
abbrev t_Al_get_12 : List UInt8 := 28 :: t_Al_get_13
abbrev t_Al_get_9 : List UInt8 := 162 :: 0 :: 12 :: t_Al_get_12
abbrev t_Al_get_6 : List UInt8 := 180 :: 0 :: 21 :: t_Al_get_9
abbrev t_Al_get_5 : List UInt8 := 42 :: t_Al_get_6
abbrev t_Al_get_4 : List UInt8 := 27 :: t_Al_get_5
abbrev t_Al_get_1 : List UInt8 := 155 :: 0 :: 20 :: t_Al_get_4
abbrev t_Al_get_0 : List UInt8 := 27 :: t_Al_get_1
theorem a_Al_get_0 : dk_at b_Al_get 0 t_Al_get_0 := dk_start (by decide +kernel)
theorem a_Al_get_1 : dk_at b_Al_get 1 t_Al_get_1 := dk_go 1 a_Al_get_0 rfl
theorem a_Al_get_4 : dk_at b_Al_get 4 t_Al_get_4 := dk_go 3 a_Al_get_1 rfl
theorem a_Al_get_5 : dk_at b_Al_get 5 t_Al_get_5 := dk_go 1 a_Al_get_4 rfl
theorem a_Al_get_6 : dk_at b_Al_get 6 t_Al_get_6 := dk_go 1 a_Al_get_5 rfl
theorem a_Al_get_9 : dk_at b_Al_get 9 t_Al_get_9 := dk_go 3 a_Al_get_6 rfl
theorem a_Al_get_12 : dk_at b_Al_get 12 t_Al_get_12 := dk_go 3 a_Al_get_9 rfl
theorem a_Al_get_13 : dk_at b_Al_get 13 t_Al_get_13 := dk_go 1 a_Al_get_12 rfl
theorem a_Al_get_16 : dk_at b_Al_get 16 t_Al_get_16 := dk_go 3 a_Al_get_13 rfl
theorem a_Al_get_17 : dk_at b_Al_get 17 t_Al_get_17 := dk_go 1 a_Al_get_16 rfl
theorem a_Al_get_18 : dk_at b_Al_get 18 t_Al_get_18 := dk_go 1 a_Al_get_17 rfl
theorem a_Al_get_21 : dk_at b_Al_get 21 t_Al_get_21 := dk_go 3 a_Al_get_18 rfl
theorem a_Al_get_22 : dk_at b_Al_get 22 t_Al_get_22 := dk_go 1 a_Al_get_21 rfl
theorem a_Al_get_23 : dk_at b_Al_get 23 t_Al_get_23 := dk_go 1 a_Al_get_22 rfl
theorem a_Al_get_24 : dk_at b_Al_get 24 t_Al_get_24 := dk_go 1 a_Al_get_23 rfl
theorem a_Al_get_27 : dk_at b_Al_get 27 t_Al_get_27 := dk_go 3 a_Al_get_24 rfl
theorem a_Al_get_28 : dk_at b_Al_get 28 t_Al_get_28 := dk_go 1 a_Al_get_27 rfl
theorem a_Al_get_31 : dk_at b_Al_get 31 t_Al_get_31 := dk_go 3 a_Al_get_28 rfl
theorem a_Al_get_32 : dk_at b_Al_get 32 t_Al_get_32 := dk_go 1 a_Al_get_31 rfl
theorem a_Al_get_33 : dk_at b_Al_get 33 t_Al_get_33 := dk_go 1 a_Al_get_32 rfl
theorem a_Al_get_36 : dk_at b_Al_get 36 t_Al_get_36 := dk_go 3 a_Al_get_33 rfl
theorem a_Al_get_37 : dk_at b_Al_get 37 t_Al_get_37 := dk_go 1 a_Al_get_36 rfl
theorem a_Al_get_38 : dk_at b_Al_get 38 t_Al_get_38 := dk_go 1 a_Al_get_37 rfl
theorem a_Al_get_41 : dk_at b_Al_get 41 t_Al_get_41 := dk_go 3 a_Al_get_38 rfl
theorem a_Al_get_42 : dk_at b_Al_get 42 t_Al_get_42 := dk_go 1 a_Al_get_41 rfl
theorem a_Al_get_45 : dk_at b_Al_get 45 t_Al_get_45 := dk_go 3 a_Al_get_42 rfl
theorem a_Al_get_46 : dk_at b_Al_get 46 t_Al_get_46 := dk_go 1 a_Al_get_45 rfl
theorem a_Al_get_47 : dk_at b_Al_get 47 t_Al_get_47 := dk_go 1 a_Al_get_46 rfl
theorem a_Al_get_50 : dk_at b_Al_get 50 t_Al_get_50 := dk_go 3 a_Al_get_47 rfl
theorem a_Al_get_51 : dk_at b_Al_get 51 t_Al_get_51 := dk_go 1 a_Al_get_50 rfl
theorem a_Al_get_54 : dk_at b_Al_get 54 t_Al_get_54 := dk_go 3 a_Al_get_51 rfl
theorem a_Al_get_55 : dk_at b_Al_get 55 t_Al_get_55 := dk_go 1 a_Al_get_54 rfl
theorem a_Al_get_56 : dk_at b_Al_get 56 t_Al_get_56 := dk_go 1 a_Al_get_55 rfl
theorem d_Al_get_0 : decode b_Al_get 0 = .ok (.iload_n 1, 1) := dk_0 a_Al_get_0 (dko_27 _)
theorem d_Al_get_1 : decode b_Al_get 1 = .ok (.ifCond .lt 20, 3) := dk_S2 a_Al_get_1 (dko_155 _) (by decide +kernel)
theorem d_Al_get_4 : decode b_Al_get 4 = .ok (.iload_n 1, 1) := dk_0 a_Al_get_4 (dko_27 _)
theorem d_Al_get_5 : decode b_Al_get 5 = .ok (.aload_n 0, 1) := dk_0 a_Al_get_5 (dko_42 _)
theorem d_Al_get_6 : decode b_Al_get 6 = .ok (.getfield 21, 3) := dk_U2 a_Al_get_6 (dko_180 _) rfl
theorem d_Al_get_9 : decode b_Al_get 9 = .ok (.if_icmp .ge 12, 3) := dk_S2 a_Al_get_9 (dko_162 _) (by decide +kernel)
theorem d_Al_get_21 : decode b_Al_get 21 = .ok (.iconst (-1), 1) := dk_0 a_Al_get_21 (dko_2 _)
theorem d_Al_get_22 : decode b_Al_get 22 = .ok (.ireturn, 1) := dk_0 a_Al_get_22 (dko_172 _)
set_option maxHeartbeats 4000000 in
set_option maxRecDepth 100000 in
theorem c_Al_get (l : Launch) (dC : Nat → ClassId) (dI : Nat → Nat → Nat) (cI cB cZ cJ : ClassId) (kk : Int32) (wh : Int32) (oAl : Nat) (xa : List Value) (hal_count : fx xa 0 (.int 0)) (sz : Nat) : Met l y_Al_get w_Al_get ({ frames := 0, cells := 0, slots := 0, locals := 0 }) (va_Pc [.ref oAl, .int kk, .int wh] (PW dC dI cI cB cZ cJ [(oAl, .inr (2, xa))] sz)) (va_Qi (fun (r : Int32) (_ : Unit) => r = (-1)) (fun _ _ => True) (va_A [] sz)) 0 0 (va_A [] sz) := by
  refine Met.ofW (cc := b_Al_get) (maxL := 3) (ret := (some .int)) (by decide) rfl ?_
  intro p e s m args below meth c s₁ B hml hv
  obtain ⟨rfl, hsz, hP, hK, hD⟩ := hv
  have hx := B.exec
  have hb := B.bytes
  have hr := B.returns
  have hts := atoms_spec (ws := w_Al_get) B.pre
  have hown : s.vm.findClass R_Al = some m.cls := findClass_of_methodNamed B.named
  have hlocks := B.notSynchronized
  subst hsz
  generalize hAe : va_A [] s.heap.size = A at ⊢
  have hA : ∀ q : Nat, s.heap.size ≤ q → A q := fun q h => by rw [← hAe]; exact Or.inr h
  have hS : va_S A s.heap s.heap [] := va_S.rf
  have hP : va_P (dC, dI) classes [(oAl, .inr (2, xa))] s.heap := hP
  have hl := lv_entry ([.ref oAl, .int kk, .int wh]) (n := 3) (Nat.le_of_ble_eq_true rfl)
  rw [lg_entry_eq]
  generalize (lg_sl ([.ref oAl, .int kk, .int wh]) ++ List.replicate (3 - (lg_sl ([.ref oAl, .int kk, .int wh])).length) Slot.unset).toArray = ls at hl ⊢
  have hl : lv_has ls 3 [(0, .ref oAl), (1, .int kk), (2, .int wh)] := hl
  refine lv_iload_n hx hb d_Al_get_0 rfl (lv_at hl 1 rfl) ?_
  refine lv_if_lt (tgt := 21) hx hb d_Al_get_1 (by decide) (fun h1 => ?_) (fun h1 => ?_)
  · refine lv_iconst (v := (-1)) hx hb d_Al_get_21 (by decide) ?_
    exact W.iret (v := (-1)) hx hb hr (fun t ht hW => ⟨⟨_, (), rfl, (rfl), trivial⟩, hS.F ht⟩) hS.2.2 d_Al_get_22
  · refine lv_iload_n hx hb d_Al_get_4 rfl (lv_at hl 1 rfl) ?_
    refine lv_aload_n hx hb d_Al_get_5 rfl (lv_at hl 0 rfl) ?_
    refine va_get (D := (dC, dI)) (ci := 2) (v := .int 0) (C := R_Al) (T := F_Al) (N := 4) hx hb hts (fun w h => List.mem_cons_of_mem _ (in_Al w h)) hown hK.1 hP 0 rfl rfl 0 (by decide) (hts _ (List.mem_cons_of_mem _ mw_60)) (fun _ h9 => h9) hal_count d_Al_get_6 ?_
    refine lv_icmp_ge (tgt := 21) hx hb d_Al_get_9 (by decide) (fun _ => ?_) (fun h => absurd (nd_le h1 (by decide)) h)
    refine lv_iconst (v := (-1)) hx hb d_Al_get_21 (by decide) ?_
    exact W.iret (v := (-1)) hx hb hr (fun t ht hW => ⟨⟨_, (), rfl, (rfl), trivial⟩, hS.F ht⟩) hS.2.2 d_Al_get_22
abbrev t_Bh_alarm_9 : List UInt8 := 172 :: []
abbrev t_Bh_alarm_6 : List UInt8 := 182 :: 1 :: 92 :: t_Bh_alarm_9
abbrev t_Bh_alarm_5 : List UInt8 := 28 :: t_Bh_alarm_6
abbrev t_Bh_alarm_4 : List UInt8 := 27 :: t_Bh_alarm_5
abbrev t_Bh_alarm_1 : List UInt8 := 180 :: 0 :: 19 :: t_Bh_alarm_4
abbrev t_Bh_alarm_0 : List UInt8 := 42 :: t_Bh_alarm_1
theorem a_Bh_alarm_0 : dk_at b_Bh_alarm 0 t_Bh_alarm_0 := dk_start (by decide +kernel)
theorem a_Bh_alarm_1 : dk_at b_Bh_alarm 1 t_Bh_alarm_1 := dk_go 1 a_Bh_alarm_0 rfl
theorem a_Bh_alarm_4 : dk_at b_Bh_alarm 4 t_Bh_alarm_4 := dk_go 3 a_Bh_alarm_1 rfl
theorem a_Bh_alarm_5 : dk_at b_Bh_alarm 5 t_Bh_alarm_5 := dk_go 1 a_Bh_alarm_4 rfl
theorem a_Bh_alarm_6 : dk_at b_Bh_alarm 6 t_Bh_alarm_6 := dk_go 1 a_Bh_alarm_5 rfl
theorem a_Bh_alarm_9 : dk_at b_Bh_alarm 9 t_Bh_alarm_9 := dk_go 3 a_Bh_alarm_6 rfl
theorem d_Bh_alarm_0 : decode b_Bh_alarm 0 = .ok (.aload_n 0, 1) := dk_0 a_Bh_alarm_0 (dko_42 _)
theorem d_Bh_alarm_1 : decode b_Bh_alarm 1 = .ok (.getfield 19, 3) := dk_U2 a_Bh_alarm_1 (dko_180 _) rfl
theorem d_Bh_alarm_4 : decode b_Bh_alarm 4 = .ok (.iload_n 1, 1) := dk_0 a_Bh_alarm_4 (dko_27 _)
theorem d_Bh_alarm_5 : decode b_Bh_alarm 5 = .ok (.iload_n 2, 1) := dk_0 a_Bh_alarm_5 (dko_28 _)
theorem d_Bh_alarm_6 : decode b_Bh_alarm 6 = .ok (.invokevirtual 348, 3) := dk_U2 a_Bh_alarm_6 (dko_182 _) rfl
theorem d_Bh_alarm_9 : decode b_Bh_alarm 9 = .ok (.ireturn, 1) := dk_0 a_Bh_alarm_9 (dko_172 _)
set_option maxHeartbeats 4000000 in
set_option maxRecDepth 100000 in
theorem c_Bh_alarm (l : Launch) (dC : Nat → ClassId) (dI : Nat → Nat → Nat) (cI cB cZ cJ : ClassId) (kk : Int32) (wh : Int32) (oB : Nat) (oAl : Nat) (xb : List Value) (hb_alarms : fx xb 1 (.ref oAl)) (xa : List Value) (hal_count : fx xa 0 (.int 0)) (sz : Nat) : Met l y_Bh_alarm w_Bh_alarm ({ frames := 1, cells := 0, slots := 0, locals := 22 }) (va_Pc [.ref oB, .int kk, .int wh] (PW dC dI cI cB cZ cJ [(oB, .inr (0, xb)), (oAl, .inr (2, xa))] sz)) (va_Qi (fun (r : Int32) (_ : Unit) => r = (-1)) (fun _ _ => True) (va_A [] sz)) 0 0 (va_A [] sz) := by
  refine Met.ofW (cc := b_Bh_alarm) (maxL := 3) (ret := (some .int)) (by decide) rfl ?_
  intro p e s m args below meth c s₁ B hml hv
  obtain ⟨rfl, hsz, hP, hK, hD⟩ := hv
  have hx := B.exec
  have hb := B.bytes
  have hr := B.returns
  have hts := atoms_spec (ws := w_Bh_alarm) B.pre
  have hown : s.vm.findClass R_Bh = some m.cls := findClass_of_methodNamed B.named
  have hlocks := B.notSynchronized
  subst hsz
  generalize hAe : va_A [] s.heap.size = A at ⊢
  have hA : ∀ q : Nat, s.heap.size ≤ q → A q := fun q h => by rw [← hAe]; exact Or.inr h
  have hS : va_S A s.heap s.heap [] := va_S.rf
  have hP : va_P (dC, dI) classes [(oB, .inr (0, xb)), (oAl, .inr (2, xa))] s.heap := hP
  have hl := lv_entry ([.ref oB, .int kk, .int wh]) (n := 3) (Nat.le_of_ble_eq_true rfl)
  rw [lg_entry_eq]
  generalize (lg_sl ([.ref oB, .int kk, .int wh]) ++ List.replicate (3 - (lg_sl ([.ref oB, .int kk, .int wh])).length) Slot.unset).toArray = ls at hl ⊢
  have hl : lv_has ls 3 [(0, .ref oB), (1, .int kk), (2, .int wh)] := hl
  refine lv_aload_n hx hb d_Bh_alarm_0 rfl (lv_at hl 0 rfl) ?_
  refine va_get (D := (dC, dI)) (ci := 0) (v := .ref oAl) (C := R_Bh) (T := F_Bh) (N := 16) hx hb hts (fun w h => List.mem_cons_of_mem _ (in_Bh w h)) hown hK.1 hP 0 rfl rfl 1 (by decide) (hts _ (List.mem_cons_of_mem _ mw_685)) (fun _ h9 => h9) hb_alarms d_Bh_alarm_1 ?_
  refine lv_iload_n hx hb d_Bh_alarm_4 rfl (lv_at hl 1 rfl) ?_
  refine lv_iload_n hx hb d_Bh_alarm_5 rfl (lv_at hl 2 rfl) ?_
  have hPc := hP.sub (ws' := [(oAl, .inr (2, xa))]) [1] rfl
  have hDc := hD.sub (ws' := [(oAl, .inr (2, xa))]) [1] (by decide) rfl
  have hFc := pu_free hS hA
  refine va_calli (va_runV (C := R_Al) (As := [.int kk, .int wh]) (rest := []) ⟨hx, hb, hml, hown, hts⟩ (c_Al_get l dC dI cI cB cZ cJ kk wh oAl xa hal_count s.heap.size) (cwV 2 hts (tb_V mw_1535 mw_1536 mw_1537 mw_3 mw_1538) rfl rfl rfl ⟨rfl, by decide +kernel, by decide +kernel, by decide +kernel⟩ ⟨(Nat.le_of_ble_eq_true rfl), (Nat.le_of_ble_eq_true rfl)⟩) ⟨pw_blind, va_recv (q := (R_Al, F_Al, 4)) hK.1 hP (ci := 2) (q0 := 1) rfl rfl, pw_pre hPc hK hDc⟩ rfl rfl hl.1 rfl (lv_room (Nat.le_of_ble_eq_true rfl)) d_Bh_alarm_6 ⟨(Nat.le_of_ble_eq_true rfl), (Nat.le_of_ble_eq_true rfl)⟩) hS (fun q _ h => hFc q h) hFc (fun r u t H locs ht hvm hw hB hz1 hk1 hS => ?_)
  have hP := pu_kept hP hk1
  obtain rfl : r = (-1) := hw
  exact W.iret (v := (-1)) hx hb hr (fun t ht hW => ⟨⟨_, (), rfl, (rfl), trivial⟩, hS.F ht⟩) hS.2.2 d_Bh_alarm_9
abbrev t_Bh_hold_49 : List UInt8 := 172 :: []
abbrev t_Bh_hold_48 : List UInt8 := 4 :: t_Bh_hold_49
abbrev t_Bh_hold_45 : List UInt8 := 182 :: 0 :: 190 :: t_Bh_hold_48
abbrev t_Bh_hold_42 : List UInt8 := 180 :: 0 :: 35 :: t_Bh_hold_45
abbrev t_Bh_hold_41 : List UInt8 := 42 :: t_Bh_hold_42
abbrev t_Bh_hold_38 : List UInt8 := 153 :: 0 :: 10 :: t_Bh_hold_41
abbrev t_Bh_hold_37 : List UInt8 := 27 :: t_Bh_hold_38
abbrev t_Bh_hold_34 : List UInt8 := 181 :: 0 :: 161 :: t_Bh_hold_37
abbrev t_Bh_hold_33 : List UInt8 := 3 :: t_Bh_hold_34
abbrev t_Bh_hold_30 : List UInt8 := 167 :: 0 :: 4 :: t_Bh_hold_33
abbrev t_Bh_hold_29 : List UInt8 := 5 :: t_Bh_hold_30
abbrev t_Bh_hold_26 : List UInt8 := 153 :: 0 :: 7 :: t_Bh_hold_29
abbrev t_Bh_hold_25 : List UInt8 := 27 :: t_Bh_hold_26
abbrev t_Bh_hold_22 : List UInt8 := 180 :: 0 :: 62 :: t_Bh_hold_25
abbrev t_Bh_hold_21 : List UInt8 := 42 :: t_Bh_hold_22
abbrev t_Bh_hold_20 : List UInt8 := 172 :: t_Bh_hold_21
abbrev t_Bh_hold_19 : List UInt8 := 3 :: t_Bh_hold_20
abbrev t_Bh_hold_16 : List UInt8 := 159 :: 0 :: 5 :: t_Bh_hold_19
abbrev t_Bh_hold_15 : List UInt8 := 5 :: t_Bh_hold_16
abbrev t_Bh_hold_12 : List UInt8 := 167 :: 0 :: 4 :: t_Bh_hold_15
abbrev t_Bh_hold_11 : List UInt8 := 3 :: t_Bh_hold_12
abbrev t_Bh_hold_8 : List UInt8 := 153 :: 0 :: 7 :: t_Bh_hold_11
abbrev t_Bh_hold_7 : List UInt8 := 27 :: t_Bh_hold_8
abbrev t_Bh_hold_4 : List UInt8 := 180 :: 0 :: 161 :: t_Bh_hold_7
abbrev t_Bh_hold_1 : List UInt8 := 180 :: 0 :: 62 :: t_Bh_hold_4
abbrev t_Bh_hold_0 : List UInt8 := 42 :: t_Bh_hold_1
theorem a_Bh_hold_0 : dk_at b_Bh_hold 0 t_Bh_hold_0 := dk_start (by decide +kernel)
theorem a_Bh_hold_1 : dk_at b_Bh_hold 1 t_Bh_hold_1 := dk_go 1 a_Bh_hold_0 rfl
theorem a_Bh_hold_4 : dk_at b_Bh_hold 4 t_Bh_hold_4 := dk_go 3 a_Bh_hold_1 rfl
theorem a_Bh_hold_7 : dk_at b_Bh_hold 7 t_Bh_hold_7 := dk_go 3 a_Bh_hold_4 rfl
theorem a_Bh_hold_8 : dk_at b_Bh_hold 8 t_Bh_hold_8 := dk_go 1 a_Bh_hold_7 rfl
theorem a_Bh_hold_11 : dk_at b_Bh_hold 11 t_Bh_hold_11 := dk_go 3 a_Bh_hold_8 rfl
theorem a_Bh_hold_12 : dk_at b_Bh_hold 12 t_Bh_hold_12 := dk_go 1 a_Bh_hold_11 rfl
theorem a_Bh_hold_15 : dk_at b_Bh_hold 15 t_Bh_hold_15 := dk_go 3 a_Bh_hold_12 rfl
theorem a_Bh_hold_16 : dk_at b_Bh_hold 16 t_Bh_hold_16 := dk_go 1 a_Bh_hold_15 rfl
theorem a_Bh_hold_19 : dk_at b_Bh_hold 19 t_Bh_hold_19 := dk_go 3 a_Bh_hold_16 rfl
theorem a_Bh_hold_20 : dk_at b_Bh_hold 20 t_Bh_hold_20 := dk_go 1 a_Bh_hold_19 rfl
theorem a_Bh_hold_21 : dk_at b_Bh_hold 21 t_Bh_hold_21 := dk_go 1 a_Bh_hold_20 rfl
theorem a_Bh_hold_22 : dk_at b_Bh_hold 22 t_Bh_hold_22 := dk_go 1 a_Bh_hold_21 rfl
theorem a_Bh_hold_25 : dk_at b_Bh_hold 25 t_Bh_hold_25 := dk_go 3 a_Bh_hold_22 rfl
theorem a_Bh_hold_26 : dk_at b_Bh_hold 26 t_Bh_hold_26 := dk_go 1 a_Bh_hold_25 rfl
theorem a_Bh_hold_29 : dk_at b_Bh_hold 29 t_Bh_hold_29 := dk_go 3 a_Bh_hold_26 rfl
theorem a_Bh_hold_30 : dk_at b_Bh_hold 30 t_Bh_hold_30 := dk_go 1 a_Bh_hold_29 rfl
theorem a_Bh_hold_33 : dk_at b_Bh_hold 33 t_Bh_hold_33 := dk_go 3 a_Bh_hold_30 rfl
theorem a_Bh_hold_34 : dk_at b_Bh_hold 34 t_Bh_hold_34 := dk_go 1 a_Bh_hold_33 rfl
theorem a_Bh_hold_37 : dk_at b_Bh_hold 37 t_Bh_hold_37 := dk_go 3 a_Bh_hold_34 rfl
theorem a_Bh_hold_38 : dk_at b_Bh_hold 38 t_Bh_hold_38 := dk_go 1 a_Bh_hold_37 rfl
theorem a_Bh_hold_41 : dk_at b_Bh_hold 41 t_Bh_hold_41 := dk_go 3 a_Bh_hold_38 rfl
theorem a_Bh_hold_42 : dk_at b_Bh_hold 42 t_Bh_hold_42 := dk_go 1 a_Bh_hold_41 rfl
theorem a_Bh_hold_45 : dk_at b_Bh_hold 45 t_Bh_hold_45 := dk_go 3 a_Bh_hold_42 rfl
theorem a_Bh_hold_48 : dk_at b_Bh_hold 48 t_Bh_hold_48 := dk_go 3 a_Bh_hold_45 rfl
theorem a_Bh_hold_49 : dk_at b_Bh_hold 49 t_Bh_hold_49 := dk_go 1 a_Bh_hold_48 rfl
theorem d_Bh_hold_0 : decode b_Bh_hold 0 = .ok (.aload_n 0, 1) := dk_0 a_Bh_hold_0 (dko_42 _)
theorem d_Bh_hold_1 : decode b_Bh_hold 1 = .ok (.getfield 62, 3) := dk_U2 a_Bh_hold_1 (dko_180 _) rfl
theorem d_Bh_hold_4 : decode b_Bh_hold 4 = .ok (.getfield 161, 3) := dk_U2 a_Bh_hold_4 (dko_180 _) rfl
theorem d_Bh_hold_7 : decode b_Bh_hold 7 = .ok (.iload_n 1, 1) := dk_0 a_Bh_hold_7 (dko_27 _)
theorem d_Bh_hold_8 : decode b_Bh_hold 8 = .ok (.ifCond .eq 7, 3) := dk_S2 a_Bh_hold_8 (dko_153 _) (by decide +kernel)
theorem d_Bh_hold_11 : decode b_Bh_hold 11 = .ok (.iconst 0, 1) := dk_0 a_Bh_hold_11 (dko_3 _)
theorem d_Bh_hold_12 : decode b_Bh_hold 12 = .ok (.goto 4, 3) := dk_S2 a_Bh_hold_12 (dko_167 _) (by decide +kernel)
theorem d_Bh_hold_15 : decode b_Bh_hold 15 = .ok (.iconst 2, 1) := dk_0 a_Bh_hold_15 (dko_5 _)
theorem d_Bh_hold_16 : decode b_Bh_hold 16 = .ok (.if_icmp .eq 5, 3) := dk_S2 a_Bh_hold_16 (dko_159 _) (by decide +kernel)
theorem d_Bh_hold_19 : decode b_Bh_hold 19 = .ok (.iconst 0, 1) := dk_0 a_Bh_hold_19 (dko_3 _)
theorem d_Bh_hold_20 : decode b_Bh_hold 20 = .ok (.ireturn, 1) := dk_0 a_Bh_hold_20 (dko_172 _)
set_option maxHeartbeats 4000000 in
set_option maxRecDepth 100000 in
theorem c_Bh_hold (l : Launch) (dC : Nat → ClassId) (dI : Nat → Nat → Nat) (cI cB cZ cJ : ClassId) (on : Int32) (oB : Nat) (oRu : Nat) (xb : List Value) (hb_run : fx xb 6 (.ref oRu)) (xn : List Value) (hru_state : fx xn 4 (.int 4)) (sz : Nat) : Met l y_Bh_hold w_Bh_hold ({ frames := 0, cells := 0, slots := 0, locals := 0 }) (va_Pc [.ref oB, .int on] (PW dC dI cI cB cZ cJ [(oB, .inr (0, xb)), (oRu, .inr (10, xn))] sz)) (va_Qi (fun (r : Int32) (_ : Unit) => r = 0) (fun _ _ => True) (va_A [] sz)) 0 0 (va_A [] sz) := by
  refine Met.ofW (cc := b_Bh_hold) (maxL := 2) (ret := (some .boolean)) (by decide) rfl ?_
  intro p e s m args below meth c s₁ B hml hv
  obtain ⟨rfl, hsz, hP, hK, hD⟩ := hv
  have hx := B.exec
  have hb := B.bytes
  have hr := B.returns
  have hts := atoms_spec (ws := w_Bh_hold) B.pre
  have hown : s.vm.findClass R_Bh = some m.cls := findClass_of_methodNamed B.named
  have hlocks := B.notSynchronized
  subst hsz
  generalize hAe : va_A [] s.heap.size = A at ⊢
  have hA : ∀ q : Nat, s.heap.size ≤ q → A q := fun q h => by rw [← hAe]; exact Or.inr h
  have hS : va_S A s.heap s.heap [] := va_S.rf
  have hP : va_P (dC, dI) classes [(oB, .inr (0, xb)), (oRu, .inr (10, xn))] s.heap := hP
  have hl := lv_entry ([.ref oB, .int on]) (n := 2) (Nat.le_of_ble_eq_true rfl)
  rw [lg_entry_eq]
  generalize (lg_sl ([.ref oB, .int on]) ++ List.replicate (2 - (lg_sl ([.ref oB, .int on])).length) Slot.unset).toArray = ls at hl ⊢
  have hl : lv_has ls 2 [(0, .ref oB), (1, .int on)] := hl
  refine lv_aload_n hx hb d_Bh_hold_0 rfl (lv_at hl 0 rfl) ?_
  refine va_get (D := (dC, dI)) (ci := 0) (v := .ref oRu) (C := R_Bh) (T := F_Bh) (N := 16) hx hb hts (fun w h => List.mem_cons_of_mem _ (in_Bh w h)) hown hK.1 hP 0 rfl rfl 6 (by decide) (hts _ (List.mem_cons_of_mem _ mw_690)) (fun _ h9 => h9) hb_run d_Bh_hold_1 ?_
  refine va_get (D := (dC, dI)) (ci := 10) (v := .int 4) (C := R_Ru) (T := F_Ru) (N := 21) hx hb hts (fun w h => List.mem_cons_of_mem _ (in_Ru w h)) hown hK.1 hP 1 rfl rfl 4 (by decide) (hts _ (List.mem_cons_of_mem _ mw_517)) (fun _ h9 => h9) hru_state d_Bh_hold_4 ?_
  refine lv_iload_n hx hb d_Bh_hold_7 rfl (lv_at hl 1 rfl) ?_
  refine lv_if_eq (tgt := 15) hx hb d_Bh_hold_8 (by decide) (fun h8 => ?_) (fun h8 => ?_)
  · refine lv_iconst (v := 2) hx hb d_Bh_hold_15 (by decide) ?_
    refine lv_icmp_eq (tgt := 21) hx hb d_Bh_hold_16 (by decide) (fun h => absurd h (by decide)) (fun _ => ?_)
    refine lv_iconst (v := 0) hx hb d_Bh_hold_19 (by decide) ?_
    exact W.zret (v := 0) (ty := .boolean) hx hb hr (by decide) (fun t ht hW => ⟨⟨_, (), rfl, (rfl), trivial⟩, hS.F ht⟩) hS.2.2 d_Bh_hold_20
  · refine lv_iconst (v := 0) hx hb d_Bh_hold_11 (by decide) ?_
    refine lv_goto (tgt := 16) hx hb d_Bh_hold_12 (by decide) ?_
    refine lv_icmp_eq (tgt := 21) hx hb d_Bh_hold_16 (by decide) (fun h => absurd h (by decide)) (fun _ => ?_)
    refine lv_iconst (v := 0) hx hb d_Bh_hold_19 (by decide) ?_
    exact W.zret (v := 0) (ty := .boolean) hx hb hr (by decide) (fun t ht hW => ⟨⟨_, (), rfl, (rfl), trivial⟩, hS.F ht⟩) hS.2.2 d_Bh_hold_20
abbrev t_Ru_isAlive_20 : List UInt8 := 172 :: []
abbrev t_Ru_isAlive_19 : List UInt8 := 3 :: t_Ru_isAlive_20
abbrev t_Ru_isAlive_16 : List UInt8 := 167 :: 0 :: 4 :: t_Ru_isAlive_19
abbrev t_Ru_isAlive_15 : List UInt8 := 4 :: t_Ru_isAlive_16
abbrev t_Ru_isAlive_12 : List UInt8 := 160 :: 0 :: 7 :: t_Ru_isAlive_15
abbrev t_Ru_isAlive_11 : List UInt8 := 5 :: t_Ru_isAlive_12
abbrev t_Ru_isAlive_8 : List UInt8 := 180 :: 0 :: 18 :: t_Ru_isAlive_11
abbrev t_Ru_isAlive_7 : List UInt8 := 42 :: t_Ru_isAlive_8
abbrev t_Ru_isAlive_4 : List UInt8 := 153 :: 0 :: 11 :: t_Ru_isAlive_7
abbrev t_Ru_isAlive_1 : List UInt8 := 180 :: 0 :: 18 :: t_Ru_isAlive_4
abbrev t_Ru_isAlive_0 : List UInt8 := 42 :: t_Ru_isAlive_1
theorem a_Ru_isAlive_0 : dk_at b_Ru_isAlive 0 t_Ru_isAlive_0 := dk_start (by decide +kernel)
theorem a_Ru_isAlive_1 : dk_at b_Ru_isAlive 1 t_Ru_isAlive_1 := dk_go 1 a_Ru_isAlive_0 rfl
theorem a_Ru_isAlive_4 : dk_at b_Ru_isAlive 4 t_Ru_isAlive_4 := dk_go 3 a_Ru_isAlive_1 rfl
theorem a_Ru_isAlive_7 : dk_at b_Ru_isAlive 7 t_Ru_isAlive_7 := dk_go 3 a_Ru_isAlive_4 rfl
theorem a_Ru_isAlive_8 : dk_at b_Ru_isAlive 8 t_Ru_isAlive_8 := dk_go 1 a_Ru_isAlive_7 rfl
theorem a_Ru_isAlive_11 : dk_at b_Ru_isAlive 11 t_Ru_isAlive_11 := dk_go 3 a_Ru_isAlive_8 rfl
theorem a_Ru_isAlive_12 : dk_at b_Ru_isAlive 12 t_Ru_isAlive_12 := dk_go 1 a_Ru_isAlive_11 rfl
theorem a_Ru_isAlive_15 : dk_at b_Ru_isAlive 15 t_Ru_isAlive_15 := dk_go 3 a_Ru_isAlive_12 rfl
theorem a_Ru_isAlive_16 : dk_at b_Ru_isAlive 16 t_Ru_isAlive_16 := dk_go 1 a_Ru_isAlive_15 rfl
theorem a_Ru_isAlive_19 : dk_at b_Ru_isAlive 19 t_Ru_isAlive_19 := dk_go 3 a_Ru_isAlive_16 rfl
theorem a_Ru_isAlive_20 : dk_at b_Ru_isAlive 20 t_Ru_isAlive_20 := dk_go 1 a_Ru_isAlive_19 rfl
theorem d_Ru_isAlive_0 : decode b_Ru_isAlive 0 = .ok (.aload_n 0, 1) := dk_0 a_Ru_isAlive_0 (dko_42 _)
theorem d_Ru_isAlive_1 : decode b_Ru_isAlive 1 = .ok (.getfield 18, 3) := dk_U2 a_Ru_isAlive_1 (dko_180 _) rfl
theorem d_Ru_isAlive_4 : decode b_Ru_isAlive 4 = .ok (.ifCond .eq 11, 3) := dk_S2 a_Ru_isAlive_4 (dko_153 _) (by decide +kernel)
theorem d_Ru_isAlive_7 : decode b_Ru_isAlive 7 = .ok (.aload_n 0, 1) := dk_0 a_Ru_isAlive_7 (dko_42 _)
theorem d_Ru_isAlive_8 : decode b_Ru_isAlive 8 = .ok (.getfield 18, 3) := dk_U2 a_Ru_isAlive_8 (dko_180 _) rfl
theorem d_Ru_isAlive_11 : decode b_Ru_isAlive 11 = .ok (.iconst 2, 1) := dk_0 a_Ru_isAlive_11 (dko_5 _)
theorem d_Ru_isAlive_12 : decode b_Ru_isAlive 12 = .ok (.if_icmp .ne 7, 3) := dk_S2 a_Ru_isAlive_12 (dko_160 _) (by decide +kernel)
theorem d_Ru_isAlive_19 : decode b_Ru_isAlive 19 = .ok (.iconst 0, 1) := dk_0 a_Ru_isAlive_19 (dko_3 _)
theorem d_Ru_isAlive_20 : decode b_Ru_isAlive 20 = .ok (.ireturn, 1) := dk_0 a_Ru_isAlive_20 (dko_172 _)
set_option maxHeartbeats 4000000 in
set_option maxRecDepth 100000 in
theorem c_Ru_isAlive (l : Launch) (dC : Nat → ClassId) (dI : Nat → Nat → Nat) (cI cB cZ cJ : ClassId) (oRu : Nat) (xn : List Value) (hru_state : fx xn 4 (.int 4)) (sz : Nat) : Met l y_Ru_isAlive w_Ru_isAlive ({ frames := 0, cells := 0, slots := 0, locals := 0 }) (va_Pc [.ref oRu] (PW dC dI cI cB cZ cJ [(oRu, .inr (10, xn))] sz)) (va_Qi (fun (r : Int32) (_ : Unit) => r = 0) (fun _ _ => True) (va_A [] sz)) 0 0 (va_A [] sz) := by
  refine Met.ofW (cc := b_Ru_isAlive) (maxL := 1) (ret := (some .boolean)) (by decide) rfl ?_
  intro p e s m args below meth c s₁ B hml hv
  obtain ⟨rfl, hsz, hP, hK, hD⟩ := hv
  have hx := B.exec
  have hb := B.bytes
  have hr := B.returns
  have hts := atoms_spec (ws := w_Ru_isAlive) B.pre
  have hown : s.vm.findClass R_Ru = some m.cls := findClass_of_methodNamed B.named
  have hlocks := B.notSynchronized
  subst hsz
  generalize hAe : va_A [] s.heap.size = A at ⊢
  have hA : ∀ q : Nat, s.heap.size ≤ q → A q := fun q h => by rw [← hAe]; exact Or.inr h
  have hS : va_S A s.heap s.heap [] := va_S.rf
  have hP : va_P (dC, dI) classes [(oRu, .inr (10, xn))] s.heap := hP
  have hl := lv_entry ([.ref oRu]) (n := 1) (Nat.le_of_ble_eq_true rfl)
  rw [lg_entry_eq]
  generalize (lg_sl ([.ref oRu]) ++ List.replicate (1 - (lg_sl ([.ref oRu])).length) Slot.unset).toArray = ls at hl ⊢
  have hl : lv_has ls 1 [(0, .ref oRu)] := hl
  refine lv_aload_n hx hb d_Ru_isAlive_0 rfl (lv_at hl 0 rfl) ?_
  refine va_get (D := (dC, dI)) (ci := 10) (v := .int 4) (C := R_Ru) (T := F_Ru) (N := 21) hx hb hts (fun w h => List.mem_cons_of_mem _ (in_Ru w h)) hown hK.1 hP 0 rfl rfl 4 (by decide) (hts _ (List.mem_cons_of_mem _ mw_516)) (fun _ h9 => h9) hru_state d_Ru_isAlive_1 ?_
  refine lv_if_eq (tgt := 15) hx hb d_Ru_isAlive_4 (by decide) (fun h => absurd h (by decide)) (fun _ => ?_)
  refine lv_aload_n hx hb d_Ru_isAlive_7 rfl (lv_at hl 0 rfl) ?_
  refine va_get (D := (dC, dI)) (ci := 10) (v := .int 4) (C := R_Ru) (T := F_Ru) (N := 21) hx hb hts (fun w h => List.mem_cons_of_mem _ (in_Ru w h)) hown hK.1 hP 0 rfl rfl 4 (by decide) (hts _ (List.mem_cons_of_mem _ mw_516)) (fun _ h9 => h9) hru_state d_Ru_isAlive_8 ?_
  refine lv_iconst (v := 2) hx hb d_Ru_isAlive_11 (by decide) ?_
  refine lv_icmp_ne (tgt := 19) hx hb d_Ru_isAlive_12 (by decide) (fun _ => ?_) (fun h => absurd h (by decide))
  refine lv_iconst (v := 0) hx hb d_Ru_isAlive_19 (by decide) ?_
  exact W.zret (v := 0) (ty := .boolean) hx hb hr (by decide) (fun t ht hW => ⟨⟨_, (), rfl, (rfl), trivial⟩, hS.F ht⟩) hS.2.2 d_Ru_isAlive_20
abbrev t_Bh_stop_28 : List UInt8 := 172 :: []
abbrev t_Bh_stop_27 : List UInt8 := 4 :: t_Bh_stop_28
abbrev t_Bh_stop_24 : List UInt8 := 182 :: 0 :: 190 :: t_Bh_stop_27
abbrev t_Bh_stop_21 : List UInt8 := 180 :: 0 :: 35 :: t_Bh_stop_24
abbrev t_Bh_stop_20 : List UInt8 := 42 :: t_Bh_stop_21
abbrev t_Bh_stop_17 : List UInt8 := 181 :: 0 :: 161 :: t_Bh_stop_20
abbrev t_Bh_stop_16 : List UInt8 := 6 :: t_Bh_stop_17
abbrev t_Bh_stop_13 : List UInt8 := 180 :: 0 :: 62 :: t_Bh_stop_16
abbrev t_Bh_stop_12 : List UInt8 := 42 :: t_Bh_stop_13
abbrev t_Bh_stop_11 : List UInt8 := 172 :: t_Bh_stop_12
abbrev t_Bh_stop_10 : List UInt8 := 3 :: t_Bh_stop_11
abbrev t_Bh_stop_7 : List UInt8 := 154 :: 0 :: 5 :: t_Bh_stop_10
abbrev t_Bh_stop_4 : List UInt8 := 182 :: 1 :: 14 :: t_Bh_stop_7
abbrev t_Bh_stop_1 : List UInt8 := 180 :: 0 :: 62 :: t_Bh_stop_4
abbrev t_Bh_stop_0 : List UInt8 := 42 :: t_Bh_stop_1
theorem a_Bh_stop_0 : dk_at b_Bh_stop 0 t_Bh_stop_0 := dk_start (by decide +kernel)
theorem a_Bh_stop_1 : dk_at b_Bh_stop 1 t_Bh_stop_1 := dk_go 1 a_Bh_stop_0 rfl
theorem a_Bh_stop_4 : dk_at b_Bh_stop 4 t_Bh_stop_4 := dk_go 3 a_Bh_stop_1 rfl
theorem a_Bh_stop_7 : dk_at b_Bh_stop 7 t_Bh_stop_7 := dk_go 3 a_Bh_stop_4 rfl
theorem a_Bh_stop_10 : dk_at b_Bh_stop 10 t_Bh_stop_10 := dk_go 3 a_Bh_stop_7 rfl
theorem a_Bh_stop_11 : dk_at b_Bh_stop 11 t_Bh_stop_11 := dk_go 1 a_Bh_stop_10 rfl
theorem a_Bh_stop_12 : dk_at b_Bh_stop 12 t_Bh_stop_12 := dk_go 1 a_Bh_stop_11 rfl
theorem a_Bh_stop_13 : dk_at b_Bh_stop 13 t_Bh_stop_13 := dk_go 1 a_Bh_stop_12 rfl
theorem a_Bh_stop_16 : dk_at b_Bh_stop 16 t_Bh_stop_16 := dk_go 3 a_Bh_stop_13 rfl
theorem a_Bh_stop_17 : dk_at b_Bh_stop 17 t_Bh_stop_17 := dk_go 1 a_Bh_stop_16 rfl
theorem a_Bh_stop_20 : dk_at b_Bh_stop 20 t_Bh_stop_20 := dk_go 3 a_Bh_stop_17 rfl
theorem a_Bh_stop_21 : dk_at b_Bh_stop 21 t_Bh_stop_21 := dk_go 1 a_Bh_stop_20 rfl
theorem a_Bh_stop_24 : dk_at b_Bh_stop 24 t_Bh_stop_24 := dk_go 3 a_Bh_stop_21 rfl
theorem a_Bh_stop_27 : dk_at b_Bh_stop 27 t_Bh_stop_27 := dk_go 3 a_Bh_stop_24 rfl
theorem a_Bh_stop_28 : dk_at b_Bh_stop 28 t_Bh_stop_28 := dk_go 1 a_Bh_stop_27 rfl
theorem d_Bh_stop_0 : decode b_Bh_stop 0 = .ok (.aload_n 0, 1) := dk_0 a_Bh_stop_0 (dko_42 _)
theorem d_Bh_stop_1 : decode b_Bh_stop 1 = .ok (.getfield 62, 3) := dk_U2 a_Bh_stop_1 (dko_180 _) rfl
theorem d_Bh_stop_4 : decode b_Bh_stop 4 = .ok (.invokevirtual 270, 3) := dk_U2 a_Bh_stop_4 (dko_182 _) rfl
theorem d_Bh_stop_7 : decode b_Bh_stop 7 = .ok (.ifCond .ne 5, 3) := dk_S2 a_Bh_stop_7 (dko_154 _) (by decide +kernel)
theorem d_Bh_stop_10 : decode b_Bh_stop 10 = .ok (.iconst 0, 1) := dk_0 a_Bh_stop_10 (dko_3 _)
theorem d_Bh_stop_11 : decode b_Bh_stop 11 = .ok (.ireturn, 1) := dk_0 a_Bh_stop_11 (dko_172 _)
set_option maxHeartbeats 4000000 in
set_option maxRecDepth 100000 in
theorem c_Bh_stop (l : Launch) (dC : Nat → ClassId) (dI : Nat → Nat → Nat) (cI cB cZ cJ : ClassId) (oB : Nat) (oRu : Nat) (xb : List Value) (hb_run : fx xb 6 (.ref oRu)) (xn : List Value) (hru_state : fx xn 4 (.int 4)) (sz : Nat) : Met l y_Bh_stop w_Bh_stop ({ frames := 1, cells := 0, slots := 0, locals := 20 }) (va_Pc [.ref oB] (PW dC dI cI cB cZ cJ [(oB, .inr (0, xb)), (oRu, .inr (10, xn))] sz)) (va_Qi (fun (r : Int32) (_ : Unit) => r = 0) (fun _ _ => True) (va_A [] sz)) 0 0 (va_A [] sz) := by
  refine Met.ofW (cc := b_Bh_stop) (maxL := 1) (ret := (some .boolean)) (by decide) rfl ?_
  intro p e s m args below meth c s₁ B hml hv
  obtain ⟨rfl, hsz, hP, hK, hD⟩ := hv
  have hx := B.exec
  have hb := B.bytes
  have hr := B.returns
  have hts := atoms_spec (ws := w_Bh_stop) B.pre
  have hown : s.vm.findClass R_Bh = some m.cls := findClass_of_methodNamed B.named
  have hlocks := B.notSynchronized
  subst hsz
  generalize hAe : va_A [] s.heap.size = A at ⊢
  have hA : ∀ q : Nat, s.heap.size ≤ q → A q := fun q h => by rw [← hAe]; exact Or.inr h
  have hS : va_S A s.heap s.heap [] := va_S.rf
  have hP : va_P (dC, dI) classes [(oB, .inr (0, xb)), (oRu, .inr (10, xn))] s.heap := hP
  have hl := lv_entry ([.ref oB]) (n := 1) (Nat.le_of_ble_eq_true rfl)
  rw [lg_entry_eq]
  generalize (lg_sl ([.ref oB]) ++ List.replicate (1 - (lg_sl ([.ref oB])).length) Slot.unset).toArray = ls at hl ⊢
  have hl : lv_has ls 1 [(0, .ref oB)] := hl
  refine lv_aload_n hx hb d_Bh_stop_0 rfl (lv_at hl 0 rfl) ?_
  refine va_get (D := (dC, dI)) (ci := 0) (v := .ref oRu) (C := R_Bh) (T := F_Bh) (N := 16) hx hb hts (fun w h => List.mem_cons_of_mem _ (in_Bh w h)) hown hK.1 hP 0 rfl rfl 6 (by decide) (hts _ (List.mem_cons_of_mem _ mw_690)) (fun _ h9 => h9) hb_run d_Bh_stop_1 ?_
  have hPc := hP.sub (ws' := [(oRu, .inr (10, xn))]) [1] rfl
  have hDc := hD.sub (ws' := [(oRu, .inr (10, xn))]) [1] (by decide) rfl
  have hFc := pu_free hS hA
  refine va_calli (va_runV (C := R_Ru) (As := []) (rest := []) ⟨hx, hb, hml, hown, hts⟩ (c_Ru_isAlive l dC dI cI cB cZ cJ oRu xn hru_state s.heap.size) (cwV 0 hts (tb_V mw_1297 mw_1298 mw_1299 mw_11 mw_1300) rfl rfl rfl ⟨rfl, by decide +kernel, by decide +kernel, by decide +kernel⟩ ⟨(Nat.le_of_ble_eq_true rfl), (Nat.le_of_ble_eq_true rfl)⟩) ⟨pw_blind, va_recv (q := (R_Ru, F_Ru, 21)) hK.1 hP (ci := 10) (q0 := 1) rfl rfl, pw_pre hPc hK hDc⟩ rfl rfl hl.1 rfl (lv_room (Nat.le_of_ble_eq_true rfl)) d_Bh_stop_4 ⟨(Nat.le_of_ble_eq_true rfl), (Nat.le_of_ble_eq_true rfl)⟩) hS (fun q _ h => hFc q h) hFc (fun r u t H locs ht hvm hw hB hz1 hk1 hS => ?_)
  have hP := pu_kept hP hk1
  obtain rfl : r = 0 := hw
  refine lv_if_ne (tgt := 12) hx hb d_Bh_stop_7 (by decide) (fun h => absurd rfl h) (fun _ => ?_)
  refine lv_iconst (v := 0) hx hb d_Bh_stop_10 (by decide) ?_
  exact W.zret (v := 0) (ty := .boolean) hx hb hr (by decide) (fun t ht hW => ⟨⟨_, (), rfl, (rfl), trivial⟩, hS.F ht⟩) hS.2.2 d_Bh_stop_11
abbrev t_Bh_start_58 : List UInt8 := 172 :: []
abbrev t_Bh_start_57 : List UInt8 := 4 :: t_Bh_start_58
abbrev t_Bh_start_54 : List UInt8 := 182 :: 1 :: 21 :: t_Bh_start_57
abbrev t_Bh_start_51 : List UInt8 := 180 :: 0 :: 62 :: t_Bh_start_54
abbrev t_Bh_start_50 : List UInt8 := 42 :: t_Bh_start_51
abbrev t_Bh_start_47 : List UInt8 := 182 :: 1 :: 18 :: t_Bh_start_50
abbrev t_Bh_start_44 : List UInt8 := 180 :: 0 :: 183 :: t_Bh_start_47
abbrev t_Bh_start_41 : List UInt8 := 180 :: 0 :: 62 :: t_Bh_start_44
abbrev t_Bh_start_40 : List UInt8 := 42 :: t_Bh_start_41
abbrev t_Bh_start_37 : List UInt8 := 181 :: 1 :: 17 :: t_Bh_start_40
abbrev t_Bh_start_36 : List UInt8 := 3 :: t_Bh_start_37
abbrev t_Bh_start_33 : List UInt8 := 180 :: 0 :: 19 :: t_Bh_start_36
abbrev t_Bh_start_32 : List UInt8 := 42 :: t_Bh_start_33
abbrev t_Bh_start_29 : List UInt8 := 182 :: 0 :: 190 :: t_Bh_start_32
abbrev t_Bh_start_26 : List UInt8 := 180 :: 0 :: 35 :: t_Bh_start_29
abbrev t_Bh_start_25 : List UInt8 := 42 :: t_Bh_start_26
abbrev t_Bh_start_22 : List UInt8 := 153 :: 0 :: 10 :: t_Bh_start_25
abbrev t_Bh_start_19 : List UInt8 := 182 :: 1 :: 14 :: t_Bh_start_22
abbrev t_Bh_start_16 : List UInt8 := 180 :: 0 :: 62 :: t_Bh_start_19
abbrev t_Bh_start_15 : List UInt8 := 42 :: t_Bh_start_16
abbrev t_Bh_start_14 : List UInt8 := 172 :: t_Bh_start_15
abbrev t_Bh_start_13 : List UInt8 := 3 :: t_Bh_start_14
abbrev t_Bh_start_10 : List UInt8 := 156 :: 0 :: 5 :: t_Bh_start_13
abbrev t_Bh_start_7 : List UInt8 := 180 :: 1 :: 11 :: t_Bh_start_10
abbrev t_Bh_start_4 : List UInt8 := 180 :: 0 :: 183 :: t_Bh_start_7
abbrev t_Bh_start_1 : List UInt8 := 180 :: 0 :: 62 :: t_Bh_start_4
abbrev t_Bh_start_0 : List UInt8 := 42 :: t_Bh_start_1
theorem a_Bh_start_0 : dk_at b_Bh_start 0 t_Bh_start_0 := dk_start (by decide +kernel)
theorem a_Bh_start_1 : dk_at b_Bh_start 1 t_Bh_start_1 := dk_go 1 a_Bh_start_0 rfl
theorem a_Bh_start_4 : dk_at b_Bh_start 4 t_Bh_start_4 := dk_go 3 a_Bh_start_1 rfl
theorem a_Bh_start_7 : dk_at b_Bh_start 7 t_Bh_start_7 := dk_go 3 a_Bh_start_4 rfl
theorem a_Bh_start_10 : dk_at b_Bh_start 10 t_Bh_start_10 := dk_go 3 a_Bh_start_7 rfl
theorem a_Bh_start_13 : dk_at b_Bh_start 13 t_Bh_start_13 := dk_go 3 a_Bh_start_10 rfl
theorem a_Bh_start_14 : dk_at b_Bh_start 14 t_Bh_start_14 := dk_go 1 a_Bh_start_13 rfl
theorem a_Bh_start_15 : dk_at b_Bh_start 15 t_Bh_start_15 := dk_go 1 a_Bh_start_14 rfl
theorem a_Bh_start_16 : dk_at b_Bh_start 16 t_Bh_start_16 := dk_go 1 a_Bh_start_15 rfl
theorem a_Bh_start_19 : dk_at b_Bh_start 19 t_Bh_start_19 := dk_go 3 a_Bh_start_16 rfl
theorem a_Bh_start_22 : dk_at b_Bh_start 22 t_Bh_start_22 := dk_go 3 a_Bh_start_19 rfl
theorem a_Bh_start_25 : dk_at b_Bh_start 25 t_Bh_start_25 := dk_go 3 a_Bh_start_22 rfl
theorem a_Bh_start_26 : dk_at b_Bh_start 26 t_Bh_start_26 := dk_go 1 a_Bh_start_25 rfl
theorem a_Bh_start_29 : dk_at b_Bh_start 29 t_Bh_start_29 := dk_go 3 a_Bh_start_26 rfl
theorem a_Bh_start_32 : dk_at b_Bh_start 32 t_Bh_start_32 := dk_go 3 a_Bh_start_29 rfl
theorem a_Bh_start_33 : dk_at b_Bh_start 33 t_Bh_start_33 := dk_go 1 a_Bh_start_32 rfl
theorem a_Bh_start_36 : dk_at b_Bh_start 36 t_Bh_start_36 := dk_go 3 a_Bh_start_33 rfl
theorem a_Bh_start_37 : dk_at b_Bh_start 37 t_Bh_start_37 := dk_go 1 a_Bh_start_36 rfl
theorem a_Bh_start_40 : dk_at b_Bh_start 40 t_Bh_start_40 := dk_go 3 a_Bh_start_37 rfl
theorem a_Bh_start_41 : dk_at b_Bh_start 41 t_Bh_start_41 := dk_go 1 a_Bh_start_40 rfl
theorem a_Bh_start_44 : dk_at b_Bh_start 44 t_Bh_start_44 := dk_go 3 a_Bh_start_41 rfl
theorem a_Bh_start_47 : dk_at b_Bh_start 47 t_Bh_start_47 := dk_go 3 a_Bh_start_44 rfl
theorem a_Bh_start_50 : dk_at b_Bh_start 50 t_Bh_start_50 := dk_go 3 a_Bh_start_47 rfl
theorem a_Bh_start_51 : dk_at b_Bh_start 51 t_Bh_start_51 := dk_go 1 a_Bh_start_50 rfl
theorem a_Bh_start_54 : dk_at b_Bh_start 54 t_Bh_start_54 := dk_go 3 a_Bh_start_51 rfl
theorem a_Bh_start_57 : dk_at b_Bh_start 57 t_Bh_start_57 := dk_go 3 a_Bh_start_54 rfl
theorem a_Bh_start_58 : dk_at b_Bh_start 58 t_Bh_start_58 := dk_go 1 a_Bh_start_57 rfl
theorem d_Bh_start_0 : decode b_Bh_start 0 = .ok (.aload_n 0, 1) := dk_0 a_Bh_start_0 (dko_42 _)
theorem d_Bh_start_1 : decode b_Bh_start 1 = .ok (.getfield 62, 3) := dk_U2 a_Bh_start_1 (dko_180 _) rfl
theorem d_Bh_start_4 : decode b_Bh_start 4 = .ok (.getfield 183, 3) := dk_U2 a_Bh_start_4 (dko_180 _) rfl
theorem d_Bh_start_7 : decode b_Bh_start 7 = .ok (.getfield 267, 3) := dk_U2 a_Bh_start_7 (dko_180 _) rfl
theorem d_Bh_start_10 : decode b_Bh_start 10 = .ok (.ifCond .ge 5, 3) := dk_S2 a_Bh_start_10 (dko_156 _) (by decide +kernel)
theorem d_Bh_start_13 : decode b_Bh_start 13 = .ok (.iconst 0, 1) := dk_0 a_Bh_start_13 (dko_3 _)
theorem d_Bh_start_14 : decode b_Bh_start 14 = .ok (.ireturn, 1) := dk_0 a_Bh_start_14 (dko_172 _)
set_option maxHeartbeats 4000000 in
set_option maxRecDepth 100000 in
theorem c_Bh_start (l : Launch) (dC : Nat → ClassId) (dI : Nat → Nat → Nat) (cI cB cZ cJ : ClassId) (oB : Nat) (oRu : Nat) (oG1 : Nat) (xb : List Value) (hb_run : fx xb 6 (.ref oRu)) (xn : List Value) (hru_program : fx xn 3 (.ref oG1)) (xg : List Value) (hxg_opening : fx xg 2 (.int (-1))) (sz : Nat) : Met l y_Bh_start w_Bh_start ({ frames := 0, cells := 0, slots := 0, locals := 0 }) (va_Pc [.ref oB] (PW dC dI cI cB cZ cJ [(oB, .inr (0, xb)), (oRu, .inr (10, xn)), (oG1, .inr (8, xg))] sz)) (va_Qi (fun (r : Int32) (_ : Unit) => r = 0) (fun _ _ => True) (va_A [] sz)) 0 0 (va_A [] sz) := by
  refine Met.ofW (cc := b_Bh_start) (maxL := 1) (ret := (some .boolean)) (by decide) rfl ?_
  intro p e s m args below meth c s₁ B hml hv
  obtain ⟨rfl, hsz, hP, hK, hD⟩ := hv
  have hx := B.exec
  have hb := B.bytes
  have hr := B.returns
  have hts := atoms_spec (ws := w_Bh_start) B.pre
  have hown : s.vm.findClass R_Bh = some m.cls := findClass_of_methodNamed B.named
  have hlocks := B.notSynchronized
  subst hsz
  generalize hAe : va_A [] s.heap.size = A at ⊢
  have hA : ∀ q : Nat, s.heap.size ≤ q → A q := fun q h => by rw [← hAe]; exact Or.inr h
  have hS : va_S A s.heap s.heap [] := va_S.rf
  have hP : va_P (dC, dI) classes [(oB, .inr (0, xb)), (oRu, .inr (10, xn)), (oG1, .inr (8, xg))] s.heap := hP
  have hl := lv_entry ([.ref oB]) (n := 1) (Nat.le_of_ble_eq_true rfl)
  rw [lg_entry_eq]
  generalize (lg_sl ([.ref oB]) ++ List.replicate (1 - (lg_sl ([.ref oB])).length) Slot.unset).toArray = ls at hl ⊢
  have hl : lv_has ls 1 [(0, .ref oB)] := hl
  refine lv_aload_n hx hb d_Bh_start_0 rfl (lv_at hl 0 rfl) ?_
  refine va_get (D := (dC, dI)) (ci := 0) (v := .ref oRu) (C := R_Bh) (T := F_Bh) (N := 16) hx hb hts (fun w h => List.mem_cons_of_mem _ (in_Bh w h)) hown hK.1 hP 0 rfl rfl 6 (by decide) (hts _ (List.mem_cons_of_mem _ mw_690)) (fun _ h9 => h9) hb_run d_Bh_start_1 ?_
  refine va_get (D := (dC, dI)) (ci := 10) (v := .ref oG1) (C := R_Ru) (T := F_Ru) (N := 21) hx hb hts (fun w h => List.mem_cons_of_mem _ (in_Ru w h)) hown hK.1 hP 1 rfl rfl 3 (by decide) (hts _ (List.mem_cons_of_mem _ mw_515)) (fun _ h9 => h9) hru_program d_Bh_start_4 ?_
  refine va_get (D := (dC, dI)) (ci := 8) (v := .int (-1)) (C := R_Pr) (T := F_Pr) (N := 18) hx hb hts (fun w h => List.mem_cons_of_mem _ (in_Pr w h)) hown hK.1 hP 2 rfl rfl 2 (by decide) (hts _ (List.mem_cons_of_mem _ mw_436)) (fun _ h9 => h9) hxg_opening d_Bh_start_7 ?_
  refine lv_if_ge (tgt := 15) hx hb d_Bh_start_10 (by decide) (fun h => absurd h (by decide)) (fun _ => ?_)
  refine lv_iconst (v := 0) hx hb d_Bh_start_13 (by decide) ?_
  exact W.zret (v := 0) (ty := .boolean) hx hb hr (by decide) (fun t ht hW => ⟨⟨_, (), rfl, (rfl), trivial⟩, hS.F ht⟩) hS.2.2 d_Bh_start_14
abbrev t_Ro_has_18 : List UInt8 := 172 :: []
abbrev t_Ro_has_17 : List UInt8 := 3 :: t_Ro_has_18
abbrev t_Ro_has_14 : List UInt8 := 167 :: 0 :: 4 :: t_Ro_has_17
abbrev t_Ro_has_13 : List UInt8 := 4 :: t_Ro_has_14
abbrev t_Ro_has_10 : List UInt8 := 163 :: 0 :: 7 :: t_Ro_has_13
abbrev t_Ro_has_7 : List UInt8 := 180 :: 0 :: 37 :: t_Ro_has_10
abbrev t_Ro_has_6 : List UInt8 := 42 :: t_Ro_has_7
abbrev t_Ro_has_5 : List UInt8 := 27 :: t_Ro_has_6
abbrev t_Ro_has_2 : List UInt8 := 161 :: 0 :: 15 :: t_Ro_has_5
abbrev t_Ro_has_1 : List UInt8 := 4 :: t_Ro_has_2
abbrev t_Ro_has_0 : List UInt8 := 27 :: t_Ro_has_1
theorem a_Ro_has_0 : dk_at b_Ro_has 0 t_Ro_has_0 := dk_start (by decide +kernel)
theorem a_Ro_has_1 : dk_at b_Ro_has 1 t_Ro_has_1 := dk_go 1 a_Ro_has_0 rfl
theorem a_Ro_has_2 : dk_at b_Ro_has 2 t_Ro_has_2 := dk_go 1 a_Ro_has_1 rfl
theorem a_Ro_has_5 : dk_at b_Ro_has 5 t_Ro_has_5 := dk_go 3 a_Ro_has_2 rfl
theorem a_Ro_has_6 : dk_at b_Ro_has 6 t_Ro_has_6 := dk_go 1 a_Ro_has_5 rfl
theorem a_Ro_has_7 : dk_at b_Ro_has 7 t_Ro_has_7 := dk_go 1 a_Ro_has_6 rfl
theorem a_Ro_has_10 : dk_at b_Ro_has 10 t_Ro_has_10 := dk_go 3 a_Ro_has_7 rfl
theorem a_Ro_has_13 : dk_at b_Ro_has 13 t_Ro_has_13 := dk_go 3 a_Ro_has_10 rfl
theorem a_Ro_has_14 : dk_at b_Ro_has 14 t_Ro_has_14 := dk_go 1 a_Ro_has_13 rfl
theorem a_Ro_has_17 : dk_at b_Ro_has 17 t_Ro_has_17 := dk_go 3 a_Ro_has_14 rfl
theorem a_Ro_has_18 : dk_at b_Ro_has 18 t_Ro_has_18 := dk_go 1 a_Ro_has_17 rfl
theorem d_Ro_has_0 : decode b_Ro_has 0 = .ok (.iload_n 1, 1) := dk_0 a_Ro_has_0 (dko_27 _)
theorem d_Ro_has_1 : decode b_Ro_has 1 = .ok (.iconst 1, 1) := dk_0 a_Ro_has_1 (dko_4 _)
theorem d_Ro_has_2 : decode b_Ro_has 2 = .ok (.if_icmp .lt 15, 3) := dk_S2 a_Ro_has_2 (dko_161 _) (by decide +kernel)
theorem d_Ro_has_5 : decode b_Ro_has 5 = .ok (.iload_n 1, 1) := dk_0 a_Ro_has_5 (dko_27 _)
theorem d_Ro_has_6 : decode b_Ro_has 6 = .ok (.aload_n 0, 1) := dk_0 a_Ro_has_6 (dko_42 _)
theorem d_Ro_has_7 : decode b_Ro_has 7 = .ok (.getfield 37, 3) := dk_U2 a_Ro_has_7 (dko_180 _) rfl
theorem d_Ro_has_10 : decode b_Ro_has 10 = .ok (.if_icmp .gt 7, 3) := dk_S2 a_Ro_has_10 (dko_163 _) (by decide +kernel)
theorem d_Ro_has_17 : decode b_Ro_has 17 = .ok (.iconst 0, 1) := dk_0 a_Ro_has_17 (dko_3 _)
theorem d_Ro_has_18 : decode b_Ro_has 18 = .ok (.ireturn, 1) := dk_0 a_Ro_has_18 (dko_172 _)
set_option maxHeartbeats 4000000 in
set_option maxRecDepth 100000 in
theorem c_Ro_has (l : Launch) (dC : Nat → ClassId) (dI : Nat → Nat → Nat) (cI cB cZ cJ : ClassId) (rr : Int32) (oR1 : Nat) (xr : List Value) (hxr_count : fx xr 0 (.int 0)) (sz : Nat) : Met l y_Ro_has w_Ro_has ({ frames := 0, cells := 0, slots := 0, locals := 0 }) (va_Pc [.ref oR1, .int rr] (PW dC dI cI cB cZ cJ [(oR1, .inr (7, xr))] sz)) (va_Qi (fun (r : Int32) (_ : Unit) => r = 0) (fun _ _ => True) (va_A [] sz)) 0 0 (va_A [] sz) := by
  refine Met.ofW (cc := b_Ro_has) (maxL := 2) (ret := (some .boolean)) (by decide) rfl ?_
  intro p e s m args below meth c s₁ B hml hv
  obtain ⟨rfl, hsz, hP, hK, hD⟩ := hv
  have hx := B.exec
  have hb := B.bytes
  have hr := B.returns
  have hts := atoms_spec (ws := w_Ro_has) B.pre
  have hown : s.vm.findClass R_Ro = some m.cls := findClass_of_methodNamed B.named
  have hlocks := B.notSynchronized
  subst hsz
  generalize hAe : va_A [] s.heap.size = A at ⊢
  have hA : ∀ q : Nat, s.heap.size ≤ q → A q := fun q h => by rw [← hAe]; exact Or.inr h
  have hS : va_S A s.heap s.heap [] := va_S.rf
  have hP : va_P (dC, dI) classes [(oR1, .inr (7, xr))] s.heap := hP
  have hl := lv_entry ([.ref oR1, .int rr]) (n := 2) (Nat.le_of_ble_eq_true rfl)
  rw [lg_entry_eq]
  generalize (lg_sl ([.ref oR1, .int rr]) ++ List.replicate (2 - (lg_sl ([.ref oR1, .int rr])).length) Slot.unset).toArray = ls at hl ⊢
  have hl : lv_has ls 2 [(0, .ref oR1), (1, .int rr)] := hl
  refine lv_iload_n hx hb d_Ro_has_0 rfl (lv_at hl 1 rfl) ?_
  refine lv_iconst (v := 1) hx hb d_Ro_has_1 (by decide) ?_
  refine lv_icmp_lt (tgt := 17) hx hb d_Ro_has_2 (by decide) (fun h2 => ?_) (fun h2 => ?_)
  · refine lv_iconst (v := 0) hx hb d_Ro_has_17 (by decide) ?_
    exact W.zret (v := 0) (ty := .boolean) hx hb hr (by decide) (fun t ht hW => ⟨⟨_, (), rfl, (rfl), trivial⟩, hS.F ht⟩) hS.2.2 d_Ro_has_18
  · refine lv_iload_n hx hb d_Ro_has_5 rfl (lv_at hl 1 rfl) ?_
    refine lv_aload_n hx hb d_Ro_has_6 rfl (lv_at hl 0 rfl) ?_
    refine va_get (D := (dC, dI)) (ci := 7) (v := .int 0) (C := R_Ro) (T := F_Ro) (N := 18) hx hb hts (fun w h => List.mem_cons_of_mem _ (in_Ro w h)) hown hK.1 hP 0 rfl rfl 0 (by decide) (hts _ (List.mem_cons_of_mem _ mw_329)) (fun _ h9 => h9) hxr_count d_Ro_has_7 ?_
    refine lv_icmp_gt (tgt := 17) hx hb d_Ro_has_10 (by decide) (fun _ => ?_) (fun h => absurd (nd_lt h2 (by decide)) h)
    refine lv_iconst (v := 0) hx hb d_Ro_has_17 (by decide) ?_
    exact W.zret (v := 0) (ty := .boolean) hx hb hr (by decide) (fun t ht hW => ⟨⟨_, (), rfl, (rfl), trivial⟩, hS.F ht⟩) hS.2.2 d_Ro_has_18
abbrev t_Bh_pass_92 : List UInt8 := 172 :: []
abbrev t_Bh_pass_91 : List UInt8 := 3 :: t_Bh_pass_92
abbrev t_Bh_pass_90 : List UInt8 := 79 :: t_Bh_pass_91
abbrev t_Bh_pass_88 : List UInt8 := 21 :: 4 :: t_Bh_pass_90
abbrev t_Bh_pass_87 : List UInt8 := 100 :: t_Bh_pass_88
abbrev t_Bh_pass_86 : List UInt8 := 4 :: t_Bh_pass_87
abbrev t_Bh_pass_85 : List UInt8 := 27 :: t_Bh_pass_86
abbrev t_Bh_pass_82 : List UInt8 := 180 :: 1 :: 70 :: t_Bh_pass_85
abbrev t_Bh_pass_79 : List UInt8 := 180 :: 0 :: 174 :: t_Bh_pass_82
abbrev t_Bh_pass_76 : List UInt8 := 180 :: 0 :: 53 :: t_Bh_pass_79
abbrev t_Bh_pass_75 : List UInt8 := 42 :: t_Bh_pass_76
abbrev t_Bh_pass_74 : List UInt8 := 172 :: t_Bh_pass_75
abbrev t_Bh_pass_72 : List UInt8 := 16 :: 252 :: t_Bh_pass_74
abbrev t_Bh_pass_69 : List UInt8 := 158 :: 0 :: 6 :: t_Bh_pass_72
abbrev t_Bh_pass_68 : List UInt8 := 46 :: t_Bh_pass_69
abbrev t_Bh_pass_67 : List UInt8 := 100 :: t_Bh_pass_68
abbrev t_Bh_pass_66 : List UInt8 := 4 :: t_Bh_pass_67
abbrev t_Bh_pass_65 : List UInt8 := 27 :: t_Bh_pass_66
abbrev t_Bh_pass_62 : List UInt8 := 180 :: 1 :: 70 :: t_Bh_pass_65
abbrev t_Bh_pass_59 : List UInt8 := 180 :: 0 :: 174 :: t_Bh_pass_62
abbrev t_Bh_pass_56 : List UInt8 := 180 :: 0 :: 53 :: t_Bh_pass_59
abbrev t_Bh_pass_55 : List UInt8 := 42 :: t_Bh_pass_56
abbrev t_Bh_pass_54 : List UInt8 := 172 :: t_Bh_pass_55
abbrev t_Bh_pass_52 : List UInt8 := 16 :: 253 :: t_Bh_pass_54
abbrev t_Bh_pass_49 : List UInt8 := 164 :: 0 :: 6 :: t_Bh_pass_52
abbrev t_Bh_pass_46 : List UInt8 := 17 :: 14 :: 16 :: t_Bh_pass_49
abbrev t_Bh_pass_44 : List UInt8 := 21 :: 4 :: t_Bh_pass_46
abbrev t_Bh_pass_41 : List UInt8 := 161 :: 0 :: 11 :: t_Bh_pass_44
abbrev t_Bh_pass_40 : List UInt8 := 4 :: t_Bh_pass_41
abbrev t_Bh_pass_38 : List UInt8 := 21 :: 4 :: t_Bh_pass_40
abbrev t_Bh_pass_37 : List UInt8 := 172 :: t_Bh_pass_38
abbrev t_Bh_pass_35 : List UInt8 := 16 :: 254 :: t_Bh_pass_37
abbrev t_Bh_pass_32 : List UInt8 := 160 :: 0 :: 6 :: t_Bh_pass_35
abbrev t_Bh_pass_31 : List UInt8 := 29 :: t_Bh_pass_32
abbrev t_Bh_pass_30 : List UInt8 := 28 :: t_Bh_pass_31
abbrev t_Bh_pass_27 : List UInt8 := 153 :: 0 :: 8 :: t_Bh_pass_30
abbrev t_Bh_pass_24 : List UInt8 := 184 :: 1 :: 67 :: t_Bh_pass_27
abbrev t_Bh_pass_23 : List UInt8 := 29 :: t_Bh_pass_24
abbrev t_Bh_pass_20 : List UInt8 := 153 :: 0 :: 15 :: t_Bh_pass_23
abbrev t_Bh_pass_17 : List UInt8 := 184 :: 1 :: 67 :: t_Bh_pass_20
abbrev t_Bh_pass_16 : List UInt8 := 28 :: t_Bh_pass_17
abbrev t_Bh_pass_15 : List UInt8 := 172 :: t_Bh_pass_16
abbrev t_Bh_pass_14 : List UInt8 := 2 :: t_Bh_pass_15
abbrev t_Bh_pass_11 : List UInt8 := 154 :: 0 :: 5 :: t_Bh_pass_14
abbrev t_Bh_pass_8 : List UInt8 := 182 :: 1 :: 64 :: t_Bh_pass_11
abbrev t_Bh_pass_7 : List UInt8 := 27 :: t_Bh_pass_8
abbrev t_Bh_pass_4 : List UInt8 := 180 :: 0 :: 174 :: t_Bh_pass_7
abbrev t_Bh_pass_1 : List UInt8 := 180 :: 0 :: 53 :: t_Bh_pass_4
abbrev t_Bh_pass_0 : List UInt8 := 42 :: t_Bh_pass_1
theorem a_Bh_pass_0 : dk_at b_Bh_pass 0 t_Bh_pass_0 := dk_start (by decide +kernel)
theorem a_Bh_pass_1 : dk_at b_Bh_pass 1 t_Bh_pass_1 := dk_go 1 a_Bh_pass_0 rfl
theorem a_Bh_pass_4 : dk_at b_Bh_pass 4 t_Bh_pass_4 := dk_go 3 a_Bh_pass_1 rfl
theorem a_Bh_pass_7 : dk_at b_Bh_pass 7 t_Bh_pass_7 := dk_go 3 a_Bh_pass_4 rfl
theorem a_Bh_pass_8 : dk_at b_Bh_pass 8 t_Bh_pass_8 := dk_go 1 a_Bh_pass_7 rfl
theorem a_Bh_pass_11 : dk_at b_Bh_pass 11 t_Bh_pass_11 := dk_go 3 a_Bh_pass_8 rfl
theorem a_Bh_pass_14 : dk_at b_Bh_pass 14 t_Bh_pass_14 := dk_go 3 a_Bh_pass_11 rfl
theorem a_Bh_pass_15 : dk_at b_Bh_pass 15 t_Bh_pass_15 := dk_go 1 a_Bh_pass_14 rfl
theorem a_Bh_pass_16 : dk_at b_Bh_pass 16 t_Bh_pass_16 := dk_go 1 a_Bh_pass_15 rfl
theorem a_Bh_pass_17 : dk_at b_Bh_pass 17 t_Bh_pass_17 := dk_go 1 a_Bh_pass_16 rfl
theorem a_Bh_pass_20 : dk_at b_Bh_pass 20 t_Bh_pass_20 := dk_go 3 a_Bh_pass_17 rfl
theorem a_Bh_pass_23 : dk_at b_Bh_pass 23 t_Bh_pass_23 := dk_go 3 a_Bh_pass_20 rfl
theorem a_Bh_pass_24 : dk_at b_Bh_pass 24 t_Bh_pass_24 := dk_go 1 a_Bh_pass_23 rfl
theorem a_Bh_pass_27 : dk_at b_Bh_pass 27 t_Bh_pass_27 := dk_go 3 a_Bh_pass_24 rfl
theorem a_Bh_pass_30 : dk_at b_Bh_pass 30 t_Bh_pass_30 := dk_go 3 a_Bh_pass_27 rfl
theorem a_Bh_pass_31 : dk_at b_Bh_pass 31 t_Bh_pass_31 := dk_go 1 a_Bh_pass_30 rfl
theorem a_Bh_pass_32 : dk_at b_Bh_pass 32 t_Bh_pass_32 := dk_go 1 a_Bh_pass_31 rfl
theorem a_Bh_pass_35 : dk_at b_Bh_pass 35 t_Bh_pass_35 := dk_go 3 a_Bh_pass_32 rfl
theorem a_Bh_pass_37 : dk_at b_Bh_pass 37 t_Bh_pass_37 := dk_go 2 a_Bh_pass_35 rfl
theorem a_Bh_pass_38 : dk_at b_Bh_pass 38 t_Bh_pass_38 := dk_go 1 a_Bh_pass_37 rfl
theorem a_Bh_pass_40 : dk_at b_Bh_pass 40 t_Bh_pass_40 := dk_go 2 a_Bh_pass_38 rfl
theorem a_Bh_pass_41 : dk_at b_Bh_pass 41 t_Bh_pass_41 := dk_go 1 a_Bh_pass_40 rfl
theorem a_Bh_pass_44 : dk_at b_Bh_pass 44 t_Bh_pass_44 := dk_go 3 a_Bh_pass_41 rfl
theorem a_Bh_pass_46 : dk_at b_Bh_pass 46 t_Bh_pass_46 := dk_go 2 a_Bh_pass_44 rfl
theorem a_Bh_pass_49 : dk_at b_Bh_pass 49 t_Bh_pass_49 := dk_go 3 a_Bh_pass_46 rfl
theorem a_Bh_pass_52 : dk_at b_Bh_pass 52 t_Bh_pass_52 := dk_go 3 a_Bh_pass_49 rfl
theorem a_Bh_pass_54 : dk_at b_Bh_pass 54 t_Bh_pass_54 := dk_go 2 a_Bh_pass_52 rfl
theorem a_Bh_pass_55 : dk_at b_Bh_pass 55 t_Bh_pass_55 := dk_go 1 a_Bh_pass_54 rfl
theorem a_Bh_pass_56 : dk_at b_Bh_pass 56 t_Bh_pass_56 := dk_go 1 a_Bh_pass_55 rfl
theorem a_Bh_pass_59 : dk_at b_Bh_pass 59 t_Bh_pass_59 := dk_go 3 a_Bh_pass_56 rfl
theorem a_Bh_pass_62 : dk_at b_Bh_pass 62 t_Bh_pass_62 := dk_go 3 a_Bh_pass_59 rfl
theorem a_Bh_pass_65 : dk_at b_Bh_pass 65 t_Bh_pass_65 := dk_go 3 a_Bh_pass_62 rfl
theorem a_Bh_pass_66 : dk_at b_Bh_pass 66 t_Bh_pass_66 := dk_go 1 a_Bh_pass_65 rfl
theorem a_Bh_pass_67 : dk_at b_Bh_pass 67 t_Bh_pass_67 := dk_go 1 a_Bh_pass_66 rfl
theorem a_Bh_pass_68 : dk_at b_Bh_pass 68 t_Bh_pass_68 := dk_go 1 a_Bh_pass_67 rfl
theorem a_Bh_pass_69 : dk_at b_Bh_pass 69 t_Bh_pass_69 := dk_go 1 a_Bh_pass_68 rfl
theorem a_Bh_pass_72 : dk_at b_Bh_pass 72 t_Bh_pass_72 := dk_go 3 a_Bh_pass_69 rfl
theorem a_Bh_pass_74 : dk_at b_Bh_pass 74 t_Bh_pass_74 := dk_go 2 a_Bh_pass_72 rfl
theorem a_Bh_pass_75 : dk_at b_Bh_pass 75 t_Bh_pass_75 := dk_go 1 a_Bh_pass_74 rfl
theorem a_Bh_pass_76 : dk_at b_Bh_pass 76 t_Bh_pass_76 := dk_go 1 a_Bh_pass_75 rfl
theorem a_Bh_pass_79 : dk_at b_Bh_pass 79 t_Bh_pass_79 := dk_go 3 a_Bh_pass_76 rfl
theorem a_Bh_pass_82 : dk_at b_Bh_pass 82 t_Bh_pass_82 := dk_go 3 a_Bh_pass_79 rfl
theorem a_Bh_pass_85 : dk_at b_Bh_pass 85 t_Bh_pass_85 := dk_go 3 a_Bh_pass_82 rfl
theorem a_Bh_pass_86 : dk_at b_Bh_pass 86 t_Bh_pass_86 := dk_go 1 a_Bh_pass_85 rfl
theorem a_Bh_pass_87 : dk_at b_Bh_pass 87 t_Bh_pass_87 := dk_go 1 a_Bh_pass_86 rfl
theorem a_Bh_pass_88 : dk_at b_Bh_pass 88 t_Bh_pass_88 := dk_go 1 a_Bh_pass_87 rfl
theorem a_Bh_pass_90 : dk_at b_Bh_pass 90 t_Bh_pass_90 := dk_go 2 a_Bh_pass_88 rfl
theorem a_Bh_pass_91 : dk_at b_Bh_pass 91 t_Bh_pass_91 := dk_go 1 a_Bh_pass_90 rfl
theorem a_Bh_pass_92 : dk_at b_Bh_pass 92 t_Bh_pass_92 := dk_go 1 a_Bh_pass_91 rfl
theorem d_Bh_pass_0 : decode b_Bh_pass 0 = .ok (.aload_n 0, 1) := dk_0 a_Bh_pass_0 (dko_42 _)
theorem d_Bh_pass_1 : decode b_Bh_pass 1 = .ok (.getfield 53, 3) := dk_U2 a_Bh_pass_1 (dko_180 _) rfl
theorem d_Bh_pass_4 : decode b_Bh_pass 4 = .ok (.getfield 174, 3) := dk_U2 a_Bh_pass_4 (dko_180 _) rfl
theorem d_Bh_pass_7 : decode b_Bh_pass 7 = .ok (.iload_n 1, 1) := dk_0 a_Bh_pass_7 (dko_27 _)
theorem d_Bh_pass_8 : decode b_Bh_pass 8 = .ok (.invokevirtual 320, 3) := dk_U2 a_Bh_pass_8 (dko_182 _) rfl
theorem d_Bh_pass_11 : decode b_Bh_pass 11 = .ok (.ifCond .ne 5, 3) := dk_S2 a_Bh_pass_11 (dko_154 _) (by decide +kernel)
theorem d_Bh_pass_14 : decode b_Bh_pass 14 = .ok (.iconst (-1), 1) := dk_0 a_Bh_pass_14 (dko_2 _)
theorem d_Bh_pass_15 : decode b_Bh_pass 15 = .ok (.ireturn, 1) := dk_0 a_Bh_pass_15 (dko_172 _)
set_option maxHeartbeats 4000000 in
set_option maxRecDepth 100000 in
theorem c_Bh_pass (l : Launch) (dC : Nat → ClassId) (dI : Nat → Nat → Nat) (cI cB cZ cJ : ClassId) (rr : Int32) (pa : Int32) (pb : Int32) (se : Int32) (oB : Nat) (oAc : Nat) (oR1 : Nat) (xb : List Value) (hb_acts : fx xb 5 (.ref oAc)) (xc : List Value) (hac_rows : fx xc 3 (.ref oR1)) (xr : List Value) (hxr_count : fx xr 0 (.int 0)) (sz : Nat) : Met l y_Bh_pass w_Bh_pass ({ frames := 1, cells := 0, slots := 0, locals := 21 }) (va_Pc [.ref oB, .int rr, .int pa, .int pb, .int se] (PW dC dI cI cB cZ cJ [(oB, .inr (0, xb)), (oAc, .inr (11, xc)), (oR1, .inr (7, xr))] sz)) (va_Qi (fun (r : Int32) (_ : Unit) => r = (-1)) (fun _ _ => True) (va_A [] sz)) 0 0 (va_A [] sz) := by
  refine Met.ofW (cc := b_Bh_pass) (maxL := 5) (ret := (some .int)) (by decide) rfl ?_
  intro p e s m args below meth c s₁ B hml hv
  obtain ⟨rfl, hsz, hP, hK, hD⟩ := hv
  have hx := B.exec
  have hb := B.bytes
  have hr := B.returns
  have hts := atoms_spec (ws := w_Bh_pass) B.pre
  have hown : s.vm.findClass R_Bh = some m.cls := findClass_of_methodNamed B.named
  have hlocks := B.notSynchronized
  subst hsz
  generalize hAe : va_A [] s.heap.size = A at ⊢
  have hA : ∀ q : Nat, s.heap.size ≤ q → A q := fun q h => by rw [← hAe]; exact Or.inr h
  have hS : va_S A s.heap s.heap [] := va_S.rf
  have hP : va_P (dC, dI) classes [(oB, .inr (0, xb)), (oAc, .inr (11, xc)), (oR1, .inr (7, xr))] s.heap := hP
  have hl := lv_entry ([.ref oB, .int rr, .int pa, .int pb, .int se]) (n := 5) (Nat.le_of_ble_eq_true rfl)
  rw [lg_entry_eq]
  generalize (lg_sl ([.ref oB, .int rr, .int pa, .int pb, .int se]) ++ List.replicate (5 - (lg_sl ([.ref oB, .int rr, .int pa, .int pb, .int se])).length) Slot.unset).toArray = ls at hl ⊢
  have hl : lv_has ls 5 [(0, .ref oB), (1, .int rr), (2, .int pa), (3, .int pb), (4, .int se)] := hl
  refine lv_aload_n hx hb d_Bh_pass_0 rfl (lv_at hl 0 rfl) ?_
  refine va_get (D := (dC, dI)) (ci := 0) (v := .ref oAc) (C := R_Bh) (T := F_Bh) (N := 16) hx hb hts (fun w h => List.mem_cons_of_mem _ (in_Bh w h)) hown hK.1 hP 0 rfl rfl 5 (by decide) (hts _ (List.mem_cons_of_mem _ mw_689)) (fun _ h9 => h9) hb_acts d_Bh_pass_1 ?_
  refine va_get (D := (dC, dI)) (ci := 11) (v := .ref oR1) (C := R_Ac) (T := F_Ac) (N := 8) hx hb hts (fun w h => List.mem_cons_of_mem _ (in_Ac w h)) hown hK.1 hP 1 rfl rfl 3 (by decide) (hts _ (List.mem_cons_of_mem _ mw_394)) (fun _ h9 => h9) hac_rows d_Bh_pass_4 ?_
  refine lv_iload_n hx hb d_Bh_pass_7 rfl (lv_at hl 1 rfl) ?_
  have hPc := hP.sub (ws' := [(oR1, .inr (7, xr))]) [2] rfl
  have hDc := hD.sub (ws' := [(oR1, .inr (7, xr))]) [2] (by decide) rfl
  have hFc := pu_free hS hA
  refine va_calli (va_runV (C := R_Ro) (As := [.int rr]) (rest := []) ⟨hx, hb, hml, hown, hts⟩ (c_Ro_has l dC dI cI cB cZ cJ rr oR1 xr hxr_count s.heap.size) (cwV 1 hts (tb_V mw_1492 mw_1493 mw_1494 mw_10 mw_1495) rfl rfl rfl ⟨rfl, by decide +kernel, by decide +kernel, by decide +kernel⟩ ⟨(Nat.le_of_ble_eq_true rfl), (Nat.le_of_ble_eq_true rfl)⟩) ⟨pw_blind, va_recv (q := (R_Ro, F_Ro, 18)) hK.1 hP (ci := 7) (q0 := 2) rfl rfl, pw_pre hPc hK hDc⟩ rfl rfl hl.1 rfl (lv_room (Nat.le_of_ble_eq_true rfl)) d_Bh_pass_8 ⟨(Nat.le_of_ble_eq_true rfl), (Nat.le_of_ble_eq_true rfl)⟩) hS (fun q _ h => hFc q h) hFc (fun r u t H locs ht hvm hw hB hz1 hk1 hS => ?_)
  have hP := pu_kept hP hk1
  obtain rfl : r = 0 := hw
  refine lv_if_ne (tgt := 16) hx hb d_Bh_pass_11 (by decide) (fun h => absurd rfl h) (fun _ => ?_)
  refine lv_iconst (v := (-1)) hx hb d_Bh_pass_14 (by decide) ?_
  exact W.iret (v := (-1)) hx hb hr (fun t ht hW => ⟨⟨_, (), rfl, (rfl), trivial⟩, hS.F ht⟩) hS.2.2 d_Bh_pass_15
abbrev t_Bh_reset_49 : List UInt8 := 172 :: []
abbrev t_Bh_reset_48 : List UInt8 := 4 :: t_Bh_reset_49
abbrev t_Bh_reset_47 : List UInt8 := 84 :: t_Bh_reset_48
abbrev t_Bh_reset_46 : List UInt8 := 3 :: t_Bh_reset_47
abbrev t_Bh_reset_45 : List UInt8 := 100 :: t_Bh_reset_46
abbrev t_Bh_reset_44 : List UInt8 := 4 :: t_Bh_reset_45
abbrev t_Bh_reset_43 : List UInt8 := 27 :: t_Bh_reset_44
abbrev t_Bh_reset_40 : List UInt8 := 180 :: 1 :: 73 :: t_Bh_reset_43
abbrev t_Bh_reset_39 : List UInt8 := 44 :: t_Bh_reset_40
abbrev t_Bh_reset_38 : List UInt8 := 172 :: t_Bh_reset_39
abbrev t_Bh_reset_37 : List UInt8 := 3 :: t_Bh_reset_38
abbrev t_Bh_reset_34 : List UInt8 := 153 :: 0 :: 5 :: t_Bh_reset_37
abbrev t_Bh_reset_31 : List UInt8 := 182 :: 1 :: 77 :: t_Bh_reset_34
abbrev t_Bh_reset_30 : List UInt8 := 100 :: t_Bh_reset_31
abbrev t_Bh_reset_29 : List UInt8 := 4 :: t_Bh_reset_30
abbrev t_Bh_reset_28 : List UInt8 := 27 :: t_Bh_reset_29
abbrev t_Bh_reset_27 : List UInt8 := 44 :: t_Bh_reset_28
abbrev t_Bh_reset_24 : List UInt8 := 153 :: 0 :: 13 :: t_Bh_reset_27
abbrev t_Bh_reset_23 : List UInt8 := 51 :: t_Bh_reset_24
abbrev t_Bh_reset_22 : List UInt8 := 100 :: t_Bh_reset_23
abbrev t_Bh_reset_21 : List UInt8 := 4 :: t_Bh_reset_22
abbrev t_Bh_reset_20 : List UInt8 := 27 :: t_Bh_reset_21
abbrev t_Bh_reset_17 : List UInt8 := 180 :: 1 :: 73 :: t_Bh_reset_20
abbrev t_Bh_reset_16 : List UInt8 := 44 :: t_Bh_reset_17
abbrev t_Bh_reset_13 : List UInt8 := 153 :: 0 :: 24 :: t_Bh_reset_16
abbrev t_Bh_reset_10 : List UInt8 := 182 :: 1 :: 64 :: t_Bh_reset_13
abbrev t_Bh_reset_9 : List UInt8 := 27 :: t_Bh_reset_10
abbrev t_Bh_reset_8 : List UInt8 := 44 :: t_Bh_reset_9
abbrev t_Bh_reset_7 : List UInt8 := 77 :: t_Bh_reset_8
abbrev t_Bh_reset_4 : List UInt8 := 180 :: 0 :: 174 :: t_Bh_reset_7
abbrev t_Bh_reset_1 : List UInt8 := 180 :: 0 :: 53 :: t_Bh_reset_4
abbrev t_Bh_reset_0 : List UInt8 := 42 :: t_Bh_reset_1
theorem a_Bh_reset_0 : dk_at b_Bh_reset 0 t_Bh_reset_0 := dk_start (by decide +kernel)
theorem a_Bh_reset_1 : dk_at b_Bh_reset 1 t_Bh_reset_1 := dk_go 1 a_Bh_reset_0 rfl
theorem a_Bh_reset_4 : dk_at b_Bh_reset 4 t_Bh_reset_4 := dk_go 3 a_Bh_reset_1 rfl
theorem a_Bh_reset_7 : dk_at b_Bh_reset 7 t_Bh_reset_7 := dk_go 3 a_Bh_reset_4 rfl
theorem a_Bh_reset_8 : dk_at b_Bh_reset 8 t_Bh_reset_8 := dk_go 1 a_Bh_reset_7 rfl
theorem a_Bh_reset_9 : dk_at b_Bh_reset 9 t_Bh_reset_9 := dk_go 1 a_Bh_reset_8 rfl
theorem a_Bh_reset_10 : dk_at b_Bh_reset 10 t_Bh_reset_10 := dk_go 1 a_Bh_reset_9 rfl
theorem a_Bh_reset_13 : dk_at b_Bh_reset 13 t_Bh_reset_13 := dk_go 3 a_Bh_reset_10 rfl
theorem a_Bh_reset_16 : dk_at b_Bh_reset 16 t_Bh_reset_16 := dk_go 3 a_Bh_reset_13 rfl
theorem a_Bh_reset_17 : dk_at b_Bh_reset 17 t_Bh_reset_17 := dk_go 1 a_Bh_reset_16 rfl
theorem a_Bh_reset_20 : dk_at b_Bh_reset 20 t_Bh_reset_20 := dk_go 3 a_Bh_reset_17 rfl
theorem a_Bh_reset_21 : dk_at b_Bh_reset 21 t_Bh_reset_21 := dk_go 1 a_Bh_reset_20 rfl
theorem a_Bh_reset_22 : dk_at b_Bh_reset 22 t_Bh_reset_22 := dk_go 1 a_Bh_reset_21 rfl
theorem a_Bh_reset_23 : dk_at b_Bh_reset 23 t_Bh_reset_23 := dk_go 1 a_Bh_reset_22 rfl
theorem a_Bh_reset_24 : dk_at b_Bh_reset 24 t_Bh_reset_24 := dk_go 1 a_Bh_reset_23 rfl
theorem a_Bh_reset_27 : dk_at b_Bh_reset 27 t_Bh_reset_27 := dk_go 3 a_Bh_reset_24 rfl
theorem a_Bh_reset_28 : dk_at b_Bh_reset 28 t_Bh_reset_28 := dk_go 1 a_Bh_reset_27 rfl
theorem a_Bh_reset_29 : dk_at b_Bh_reset 29 t_Bh_reset_29 := dk_go 1 a_Bh_reset_28 rfl
theorem a_Bh_reset_30 : dk_at b_Bh_reset 30 t_Bh_reset_30 := dk_go 1 a_Bh_reset_29 rfl
theorem a_Bh_reset_31 : dk_at b_Bh_reset 31 t_Bh_reset_31 := dk_go 1 a_Bh_reset_30 rfl
theorem a_Bh_reset_34 : dk_at b_Bh_reset 34 t_Bh_reset_34 := dk_go 3 a_Bh_reset_31 rfl
theorem a_Bh_reset_37 : dk_at b_Bh_reset 37 t_Bh_reset_37 := dk_go 3 a_Bh_reset_34 rfl
theorem a_Bh_reset_38 : dk_at b_Bh_reset 38 t_Bh_reset_38 := dk_go 1 a_Bh_reset_37 rfl
theorem a_Bh_reset_39 : dk_at b_Bh_reset 39 t_Bh_reset_39 := dk_go 1 a_Bh_reset_38 rfl
theorem a_Bh_reset_40 : dk_at b_Bh_reset 40 t_Bh_reset_40 := dk_go 1 a_Bh_reset_39 rfl
theorem a_Bh_reset_43 : dk_at b_Bh_reset 43 t_Bh_reset_43 := dk_go 3 a_Bh_reset_40 rfl
theorem a_Bh_reset_44 : dk_at b_Bh_reset 44 t_Bh_reset_44 := dk_go 1 a_Bh_reset_43 rfl
theorem a_Bh_reset_45 : dk_at b_Bh_reset 45 t_Bh_reset_45 := dk_go 1 a_Bh_reset_44 rfl
theorem a_Bh_reset_46 : dk_at b_Bh_reset 46 t_Bh_reset_46 := dk_go 1 a_Bh_reset_45 rfl
theorem a_Bh_reset_47 : dk_at b_Bh_reset 47 t_Bh_reset_47 := dk_go 1 a_Bh_reset_46 rfl
theorem a_Bh_reset_48 : dk_at b_Bh_reset 48 t_Bh_reset_48 := dk_go 1 a_Bh_reset_47 rfl
theorem a_Bh_reset_49 : dk_at b_Bh_reset 49 t_Bh_reset_49 := dk_go 1 a_Bh_reset_48 rfl
theorem d_Bh_reset_0 : decode b_Bh_reset 0 = .ok (.aload_n 0, 1) := dk_0 a_Bh_reset_0 (dko_42 _)
theorem d_Bh_reset_1 : decode b_Bh_reset 1 = .ok (.getfield 53, 3) := dk_U2 a_Bh_reset_1 (dko_180 _) rfl
theorem d_Bh_reset_4 : decode b_Bh_reset 4 = .ok (.getfield 174, 3) := dk_U2 a_Bh_reset_4 (dko_180 _) rfl
theorem d_Bh_reset_7 : decode b_Bh_reset 7 = .ok (.astore_n 2, 1) := dk_0 a_Bh_reset_7 (dko_77 _)
theorem d_Bh_reset_8 : decode b_Bh_reset 8 = .ok (.aload_n 2, 1) := dk_0 a_Bh_reset_8 (dko_44 _)
theorem d_Bh_reset_9 : decode b_Bh_reset 9 = .ok (.iload_n 1, 1) := dk_0 a_Bh_reset_9 (dko_27 _)
theorem d_Bh_reset_10 : decode b_Bh_reset 10 = .ok (.invokevirtual 320, 3) := dk_U2 a_Bh_reset_10 (dko_182 _) rfl
theorem d_Bh_reset_13 : decode b_Bh_reset 13 = .ok (.ifCond .eq 24, 3) := dk_S2 a_Bh_reset_13 (dko_153 _) (by decide +kernel)
theorem d_Bh_reset_37 : decode b_Bh_reset 37 = .ok (.iconst 0, 1) := dk_0 a_Bh_reset_37 (dko_3 _)
theorem d_Bh_reset_38 : decode b_Bh_reset 38 = .ok (.ireturn, 1) := dk_0 a_Bh_reset_38 (dko_172 _)
set_option maxHeartbeats 4000000 in
set_option maxRecDepth 100000 in
theorem c_Bh_reset (l : Launch) (dC : Nat → ClassId) (dI : Nat → Nat → Nat) (cI cB cZ cJ : ClassId) (rr : Int32) (oB : Nat) (oAc : Nat) (oR1 : Nat) (xb : List Value) (hb_acts : fx xb 5 (.ref oAc)) (xc : List Value) (hac_rows : fx xc 3 (.ref oR1)) (xr : List Value) (hxr_count : fx xr 0 (.int 0)) (sz : Nat) : Met l y_Bh_reset w_Bh_reset ({ frames := 1, cells := 0, slots := 0, locals := 21 }) (va_Pc [.ref oB, .int rr] (PW dC dI cI cB cZ cJ [(oB, .inr (0, xb)), (oAc, .inr (11, xc)), (oR1, .inr (7, xr))] sz)) (va_Qi (fun (r : Int32) (_ : Unit) => r = 0) (fun _ _ => True) (va_A [] sz)) 0 0 (va_A [] sz) := by
  refine Met.ofW (cc := b_Bh_reset) (maxL := 3) (ret := (some .boolean)) (by decide) rfl ?_
  intro p e s m args below meth c s₁ B hml hv
  obtain ⟨rfl, hsz, hP, hK, hD⟩ := hv
  have hx := B.exec
  have hb := B.bytes
  have hr := B.returns
  have hts := atoms_spec (ws := w_Bh_reset) B.pre
  have hown : s.vm.findClass R_Bh = some m.cls := findClass_of_methodNamed B.named
  have hlocks := B.notSynchronized
  subst hsz
  generalize hAe : va_A [] s.heap.size = A at ⊢
  have hA : ∀ q : Nat, s.heap.size ≤ q → A q := fun q h => by rw [← hAe]; exact Or.inr h
  have hS : va_S A s.heap s.heap [] := va_S.rf
  have hP : va_P (dC, dI) classes [(oB, .inr (0, xb)), (oAc, .inr (11, xc)), (oR1, .inr (7, xr))] s.heap := hP
  have hl := lv_entry ([.ref oB, .int rr]) (n := 3) (Nat.le_of_ble_eq_true rfl)
  rw [lg_entry_eq]
  generalize (lg_sl ([.ref oB, .int rr]) ++ List.replicate (3 - (lg_sl ([.ref oB, .int rr])).length) Slot.unset).toArray = ls at hl ⊢
  have hl : lv_has ls 3 [(0, .ref oB), (1, .int rr)] := hl
  refine lv_aload_n hx hb d_Bh_reset_0 rfl (lv_at hl 0 rfl) ?_
  refine va_get (D := (dC, dI)) (ci := 0) (v := .ref oAc) (C := R_Bh) (T := F_Bh) (N := 16) hx hb hts (fun w h => List.mem_cons_of_mem _ (in_Bh w h)) hown hK.1 hP 0 rfl rfl 5 (by decide) (hts _ (List.mem_cons_of_mem _ mw_689)) (fun _ h9 => h9) hb_acts d_Bh_reset_1 ?_
  refine va_get (D := (dC, dI)) (ci := 11) (v := .ref oR1) (C := R_Ac) (T := F_Ac) (N := 8) hx hb hts (fun w h => List.mem_cons_of_mem _ (in_Ac w h)) hown hK.1 hP 1 rfl rfl 3 (by decide) (hts _ (List.mem_cons_of_mem _ mw_394)) (fun _ h9 => h9) hac_rows d_Bh_reset_4 ?_
  refine lv_astore_n hx hb d_Bh_reset_7 rfl hl (by decide) rfl (fun ls hl => ?_)
  have hl : lv_has ls 3 [(2, .ref oR1), (0, .ref oB), (1, .int rr)] := hl
  refine lv_aload_n hx hb d_Bh_reset_8 rfl (lv_at hl 0 rfl) ?_
  refine lv_iload_n hx hb d_Bh_reset_9 rfl (lv_at hl 2 rfl) ?_
  have hPc := hP.sub (ws' := [(oR1, .inr (7, xr))]) [2] rfl
  have hDc := hD.sub (ws' := [(oR1, .inr (7, xr))]) [2] (by decide) rfl
  have hFc := pu_free hS hA
  refine va_calli (va_runV (C := R_Ro) (As := [.int rr]) (rest := []) ⟨hx, hb, hml, hown, hts⟩ (c_Ro_has l dC dI cI cB cZ cJ rr oR1 xr hxr_count s.heap.size) (cwV 1 hts (tb_V mw_1492 mw_1493 mw_1494 mw_10 mw_1495) rfl rfl rfl ⟨rfl, by decide +kernel, by decide +kernel, by decide +kernel⟩ ⟨(Nat.le_of_ble_eq_true rfl), (Nat.le_of_ble_eq_true rfl)⟩) ⟨pw_blind, va_recv (q := (R_Ro, F_Ro, 18)) hK.1 hP (ci := 7) (q0 := 2) rfl rfl, pw_pre hPc hK hDc⟩ rfl rfl hl.1 rfl (lv_room (Nat.le_of_ble_eq_true rfl)) d_Bh_reset_10 ⟨(Nat.le_of_ble_eq_true rfl), (Nat.le_of_ble_eq_true rfl)⟩) hS (fun q _ h => hFc q h) hFc (fun r u t H locs ht hvm hw hB hz1 hk1 hS => ?_)
  have hP := pu_kept hP hk1
  obtain rfl : r = 0 := hw
  refine lv_if_eq (tgt := 37) hx hb d_Bh_reset_13 (by decide) (fun _ => ?_) (fun h => absurd (by decide) h)
  refine lv_iconst (v := 0) hx hb d_Bh_reset_37 (by decide) ?_
  exact W.zret (v := 0) (ty := .boolean) hx hb hr (by decide) (fun t ht hW => ⟨⟨_, (), rfl, (rfl), trivial⟩, hS.F ht⟩) hS.2.2 d_Bh_reset_38
abbrev t_Bh_row_100 : List UInt8 := 172 :: []
abbrev t_Bh_row_99 : List UInt8 := 2 :: t_Bh_row_100
abbrev t_Bh_row_98 : List UInt8 := 172 :: t_Bh_row_99
abbrev t_Bh_row_97 : List UInt8 := 3 :: t_Bh_row_98
abbrev t_Bh_row_94 : List UInt8 := 167 :: 0 :: 4 :: t_Bh_row_97
abbrev t_Bh_row_93 : List UInt8 := 4 :: t_Bh_row_94
abbrev t_Bh_row_90 : List UInt8 := 153 :: 0 :: 7 :: t_Bh_row_93
abbrev t_Bh_row_87 : List UInt8 := 182 :: 1 :: 77 :: t_Bh_row_90
abbrev t_Bh_row_86 : List UInt8 := 100 :: t_Bh_row_87
abbrev t_Bh_row_85 : List UInt8 := 4 :: t_Bh_row_86
abbrev t_Bh_row_84 : List UInt8 := 27 :: t_Bh_row_85
abbrev t_Bh_row_83 : List UInt8 := 45 :: t_Bh_row_84
abbrev t_Bh_row_82 : List UInt8 := 172 :: t_Bh_row_83
abbrev t_Bh_row_81 : List UInt8 := 46 :: t_Bh_row_82
abbrev t_Bh_row_80 : List UInt8 := 100 :: t_Bh_row_81
abbrev t_Bh_row_79 : List UInt8 := 4 :: t_Bh_row_80
abbrev t_Bh_row_78 : List UInt8 := 27 :: t_Bh_row_79
abbrev t_Bh_row_75 : List UInt8 := 180 :: 1 :: 70 :: t_Bh_row_78
abbrev t_Bh_row_74 : List UInt8 := 45 :: t_Bh_row_75
abbrev t_Bh_row_73 : List UInt8 := 172 :: t_Bh_row_74
abbrev t_Bh_row_72 : List UInt8 := 3 :: t_Bh_row_73
abbrev t_Bh_row_69 : List UInt8 := 167 :: 0 :: 4 :: t_Bh_row_72
abbrev t_Bh_row_68 : List UInt8 := 4 :: t_Bh_row_69
abbrev t_Bh_row_65 : List UInt8 := 153 :: 0 :: 7 :: t_Bh_row_68
abbrev t_Bh_row_64 : List UInt8 := 51 :: t_Bh_row_65
abbrev t_Bh_row_63 : List UInt8 := 100 :: t_Bh_row_64
abbrev t_Bh_row_62 : List UInt8 := 4 :: t_Bh_row_63
abbrev t_Bh_row_61 : List UInt8 := 27 :: t_Bh_row_62
abbrev t_Bh_row_58 : List UInt8 := 180 :: 1 :: 73 :: t_Bh_row_61
abbrev t_Bh_row_57 : List UInt8 := 45 :: t_Bh_row_58
abbrev t_Bh_row_56 : List UInt8 := 172 :: t_Bh_row_57
abbrev t_Bh_row_55 : List UInt8 := 46 :: t_Bh_row_56
abbrev t_Bh_row_54 : List UInt8 := 100 :: t_Bh_row_55
abbrev t_Bh_row_53 : List UInt8 := 4 :: t_Bh_row_54
abbrev t_Bh_row_52 : List UInt8 := 27 :: t_Bh_row_53
abbrev t_Bh_row_49 : List UInt8 := 180 :: 1 :: 83 :: t_Bh_row_52
abbrev t_Bh_row_48 : List UInt8 := 45 :: t_Bh_row_49
abbrev t_Bh_row_19 : List UInt8 := 170 :: 0 :: 0 :: 0 :: 80 :: 0 :: 0 :: 0 :: 0 :: 0 :: 0 :: 0 :: 3 :: 0 :: 0 :: 0 :: 29 :: 0 :: 0 :: 0 :: 38 :: 0 :: 0 :: 0 :: 55 :: 0 :: 0 :: 0 :: 64 :: t_Bh_row_48
abbrev t_Bh_row_18 : List UInt8 := 28 :: t_Bh_row_19
abbrev t_Bh_row_17 : List UInt8 := 172 :: t_Bh_row_18
abbrev t_Bh_row_16 : List UInt8 := 2 :: t_Bh_row_17
abbrev t_Bh_row_13 : List UInt8 := 154 :: 0 :: 5 :: t_Bh_row_16
abbrev t_Bh_row_10 : List UInt8 := 182 :: 1 :: 64 :: t_Bh_row_13
abbrev t_Bh_row_9 : List UInt8 := 27 :: t_Bh_row_10
abbrev t_Bh_row_8 : List UInt8 := 45 :: t_Bh_row_9
abbrev t_Bh_row_7 : List UInt8 := 78 :: t_Bh_row_8
abbrev t_Bh_row_4 : List UInt8 := 180 :: 0 :: 174 :: t_Bh_row_7
abbrev t_Bh_row_1 : List UInt8 := 180 :: 0 :: 53 :: t_Bh_row_4
abbrev t_Bh_row_0 : List UInt8 := 42 :: t_Bh_row_1
theorem a_Bh_row_0 : dk_at b_Bh_row 0 t_Bh_row_0 := dk_start (by decide +kernel)
theorem a_Bh_row_1 : dk_at b_Bh_row 1 t_Bh_row_1 := dk_go 1 a_Bh_row_0 rfl
theorem a_Bh_row_4 : dk_at b_Bh_row 4 t_Bh_row_4 := dk_go 3 a_Bh_row_1 rfl
theorem a_Bh_row_7 : dk_at b_Bh_row 7 t_Bh_row_7 := dk_go 3 a_Bh_row_4 rfl
theorem a_Bh_row_8 : dk_at b_Bh_row 8 t_Bh_row_8 := dk_go 1 a_Bh_row_7 rfl
theorem a_Bh_row_9 : dk_at b_Bh_row 9 t_Bh_row_9 := dk_go 1 a_Bh_row_8 rfl
theorem a_Bh_row_10 : dk_at b_Bh_row 10 t_Bh_row_10 := dk_go 1 a_Bh_row_9 rfl
theorem a_Bh_row_13 : dk_at b_Bh_row 13 t_Bh_row_13 := dk_go 3 a_Bh_row_10 rfl
theorem a_Bh_row_16 : dk_at b_Bh_row 16 t_Bh_row_16 := dk_go 3 a_Bh_row_13 rfl
theorem a_Bh_row_17 : dk_at b_Bh_row 17 t_Bh_row_17 := dk_go 1 a_Bh_row_16 rfl
theorem a_Bh_row_18 : dk_at b_Bh_row 18 t_Bh_row_18 := dk_go 1 a_Bh_row_17 rfl
theorem a_Bh_row_19 : dk_at b_Bh_row 19 t_Bh_row_19 := dk_go 1 a_Bh_row_18 rfl
theorem a_Bh_row_48 : dk_at b_Bh_row 48 t_Bh_row_48 := dk_go 29 a_Bh_row_19 rfl
theorem a_Bh_row_49 : dk_at b_Bh_row 49 t_Bh_row_49 := dk_go 1 a_Bh_row_48 rfl
theorem a_Bh_row_52 : dk_at b_Bh_row 52 t_Bh_row_52 := dk_go 3 a_Bh_row_49 rfl
theorem a_Bh_row_53 : dk_at b_Bh_row 53 t_Bh_row_53 := dk_go 1 a_Bh_row_52 rfl
theorem a_Bh_row_54 : dk_at b_Bh_row 54 t_Bh_row_54 := dk_go 1 a_Bh_row_53 rfl
theorem a_Bh_row_55 : dk_at b_Bh_row 55 t_Bh_row_55 := dk_go 1 a_Bh_row_54 rfl
theorem a_Bh_row_56 : dk_at b_Bh_row 56 t_Bh_row_56 := dk_go 1 a_Bh_row_55 rfl
theorem a_Bh_row_57 : dk_at b_Bh_row 57 t_Bh_row_57 := dk_go 1 a_Bh_row_56 rfl
theorem a_Bh_row_58 : dk_at b_Bh_row 58 t_Bh_row_58 := dk_go 1 a_Bh_row_57 rfl
theorem a_Bh_row_61 : dk_at b_Bh_row 61 t_Bh_row_61 := dk_go 3 a_Bh_row_58 rfl
theorem a_Bh_row_62 : dk_at b_Bh_row 62 t_Bh_row_62 := dk_go 1 a_Bh_row_61 rfl
theorem a_Bh_row_63 : dk_at b_Bh_row 63 t_Bh_row_63 := dk_go 1 a_Bh_row_62 rfl
theorem a_Bh_row_64 : dk_at b_Bh_row 64 t_Bh_row_64 := dk_go 1 a_Bh_row_63 rfl
theorem a_Bh_row_65 : dk_at b_Bh_row 65 t_Bh_row_65 := dk_go 1 a_Bh_row_64 rfl
theorem a_Bh_row_68 : dk_at b_Bh_row 68 t_Bh_row_68 := dk_go 3 a_Bh_row_65 rfl
theorem a_Bh_row_69 : dk_at b_Bh_row 69 t_Bh_row_69 := dk_go 1 a_Bh_row_68 rfl
theorem a_Bh_row_72 : dk_at b_Bh_row 72 t_Bh_row_72 := dk_go 3 a_Bh_row_69 rfl
theorem a_Bh_row_73 : dk_at b_Bh_row 73 t_Bh_row_73 := dk_go 1 a_Bh_row_72 rfl
theorem a_Bh_row_74 : dk_at b_Bh_row 74 t_Bh_row_74 := dk_go 1 a_Bh_row_73 rfl
theorem a_Bh_row_75 : dk_at b_Bh_row 75 t_Bh_row_75 := dk_go 1 a_Bh_row_74 rfl
theorem a_Bh_row_78 : dk_at b_Bh_row 78 t_Bh_row_78 := dk_go 3 a_Bh_row_75 rfl
theorem a_Bh_row_79 : dk_at b_Bh_row 79 t_Bh_row_79 := dk_go 1 a_Bh_row_78 rfl
theorem a_Bh_row_80 : dk_at b_Bh_row 80 t_Bh_row_80 := dk_go 1 a_Bh_row_79 rfl
theorem a_Bh_row_81 : dk_at b_Bh_row 81 t_Bh_row_81 := dk_go 1 a_Bh_row_80 rfl
theorem a_Bh_row_82 : dk_at b_Bh_row 82 t_Bh_row_82 := dk_go 1 a_Bh_row_81 rfl
theorem a_Bh_row_83 : dk_at b_Bh_row 83 t_Bh_row_83 := dk_go 1 a_Bh_row_82 rfl
theorem a_Bh_row_84 : dk_at b_Bh_row 84 t_Bh_row_84 := dk_go 1 a_Bh_row_83 rfl
theorem a_Bh_row_85 : dk_at b_Bh_row 85 t_Bh_row_85 := dk_go 1 a_Bh_row_84 rfl
theorem a_Bh_row_86 : dk_at b_Bh_row 86 t_Bh_row_86 := dk_go 1 a_Bh_row_85 rfl
theorem a_Bh_row_87 : dk_at b_Bh_row 87 t_Bh_row_87 := dk_go 1 a_Bh_row_86 rfl
theorem a_Bh_row_90 : dk_at b_Bh_row 90 t_Bh_row_90 := dk_go 3 a_Bh_row_87 rfl
theorem a_Bh_row_93 : dk_at b_Bh_row 93 t_Bh_row_93 := dk_go 3 a_Bh_row_90 rfl
theorem a_Bh_row_94 : dk_at b_Bh_row 94 t_Bh_row_94 := dk_go 1 a_Bh_row_93 rfl
theorem a_Bh_row_97 : dk_at b_Bh_row 97 t_Bh_row_97 := dk_go 3 a_Bh_row_94 rfl
theorem a_Bh_row_98 : dk_at b_Bh_row 98 t_Bh_row_98 := dk_go 1 a_Bh_row_97 rfl
theorem a_Bh_row_99 : dk_at b_Bh_row 99 t_Bh_row_99 := dk_go 1 a_Bh_row_98 rfl
theorem a_Bh_row_100 : dk_at b_Bh_row 100 t_Bh_row_100 := dk_go 1 a_Bh_row_99 rfl
theorem d_Bh_row_0 : decode b_Bh_row 0 = .ok (.aload_n 0, 1) := dk_0 a_Bh_row_0 (dko_42 _)
theorem d_Bh_row_1 : decode b_Bh_row 1 = .ok (.getfield 53, 3) := dk_U2 a_Bh_row_1 (dko_180 _) rfl
theorem d_Bh_row_4 : decode b_Bh_row 4 = .ok (.getfield 174, 3) := dk_U2 a_Bh_row_4 (dko_180 _) rfl
theorem d_Bh_row_7 : decode b_Bh_row 7 = .ok (.astore_n 3, 1) := dk_0 a_Bh_row_7 (dko_78 _)
theorem d_Bh_row_8 : decode b_Bh_row 8 = .ok (.aload_n 3, 1) := dk_0 a_Bh_row_8 (dko_45 _)
theorem d_Bh_row_9 : decode b_Bh_row 9 = .ok (.iload_n 1, 1) := dk_0 a_Bh_row_9 (dko_27 _)
theorem d_Bh_row_10 : decode b_Bh_row 10 = .ok (.invokevirtual 320, 3) := dk_U2 a_Bh_row_10 (dko_182 _) rfl
theorem d_Bh_row_13 : decode b_Bh_row 13 = .ok (.ifCond .ne 5, 3) := dk_S2 a_Bh_row_13 (dko_154 _) (by decide +kernel)
theorem d_Bh_row_16 : decode b_Bh_row 16 = .ok (.iconst (-1), 1) := dk_0 a_Bh_row_16 (dko_2 _)
theorem d_Bh_row_17 : decode b_Bh_row 17 = .ok (.ireturn, 1) := dk_0 a_Bh_row_17 (dko_172 _)
set_option maxHeartbeats 4000000 in
set_option maxRecDepth 100000 in
theorem c_Bh_row (l : Launch) (dC : Nat → ClassId) (dI : Nat → Nat → Nat) (cI cB cZ cJ : ClassId) (kk : Int32) (wh : Int32) (oB : Nat) (oAc : Nat) (oR1 : Nat) (xb : List Value) (hb_acts : fx xb 5 (.ref oAc)) (xc : List Value) (hac_rows : fx xc 3 (.ref oR1)) (xr : List Value) (hxr_count : fx xr 0 (.int 0)) (sz : Nat) : Met l y_Bh_row w_Bh_row ({ frames := 1, cells := 0, slots := 0, locals := 21 }) (va_Pc [.ref oB, .int kk, .int wh] (PW dC dI cI cB cZ cJ [(oB, .inr (0, xb)), (oAc, .inr (11, xc)), (oR1, .inr (7, xr))] sz)) (va_Qi (fun (r : Int32) (_ : Unit) => r = (-1)) (fun _ _ => True) (va_A [] sz)) 0 0 (va_A [] sz) := by
  refine Met.ofW (cc := b_Bh_row) (maxL := 4) (ret := (some .int)) (by decide) rfl ?_
  intro p e s m args below meth c s₁ B hml hv
  obtain ⟨rfl, hsz, hP, hK, hD⟩ := hv
  have hx := B.exec
  have hb := B.bytes
  have hr := B.returns
  have hts := atoms_spec (ws := w_Bh_row) B.pre
  have hown : s.vm.findClass R_Bh = some m.cls := findClass_of_methodNamed B.named
  have hlocks := B.notSynchronized
  subst hsz
  generalize hAe : va_A [] s.heap.size = A at ⊢
  have hA : ∀ q : Nat, s.heap.size ≤ q → A q := fun q h => by rw [← hAe]; exact Or.inr h
  have hS : va_S A s.heap s.heap [] := va_S.rf
  have hP : va_P (dC, dI) classes [(oB, .inr (0, xb)), (oAc, .inr (11, xc)), (oR1, .inr (7, xr))] s.heap := hP
  have hl := lv_entry ([.ref oB, .int kk, .int wh]) (n := 4) (Nat.le_of_ble_eq_true rfl)
  rw [lg_entry_eq]
  generalize (lg_sl ([.ref oB, .int kk, .int wh]) ++ List.replicate (4 - (lg_sl ([.ref oB, .int kk, .int wh])).length) Slot.unset).toArray = ls at hl ⊢
  have hl : lv_has ls 4 [(0, .ref oB), (1, .int kk), (2, .int wh)] := hl
  refine lv_aload_n hx hb d_Bh_row_0 rfl (lv_at hl 0 rfl) ?_
  refine va_get (D := (dC, dI)) (ci := 0) (v := .ref oAc) (C := R_Bh) (T := F_Bh) (N := 16) hx hb hts (fun w h => List.mem_cons_of_mem _ (in_Bh w h)) hown hK.1 hP 0 rfl rfl 5 (by decide) (hts _ (List.mem_cons_of_mem _ mw_689)) (fun _ h9 => h9) hb_acts d_Bh_row_1 ?_
  refine va_get (D := (dC, dI)) (ci := 11) (v := .ref oR1) (C := R_Ac) (T := F_Ac) (N := 8) hx hb hts (fun w h => List.mem_cons_of_mem _ (in_Ac w h)) hown hK.1 hP 1 rfl rfl 3 (by decide) (hts _ (List.mem_cons_of_mem _ mw_394)) (fun _ h9 => h9) hac_rows d_Bh_row_4 ?_
  refine lv_astore_n hx hb d_Bh_row_7 rfl hl (by decide) rfl (fun ls hl => ?_)
  have hl : lv_has ls 4 [(3, .ref oR1), (0, .ref oB), (1, .int kk), (2, .int wh)] := hl
  refine lv_aload_n hx hb d_Bh_row_8 rfl (lv_at hl 0 rfl) ?_
  refine lv_iload_n hx hb d_Bh_row_9 rfl (lv_at hl 2 rfl) ?_
  have hPc := hP.sub (ws' := [(oR1, .inr (7, xr))]) [2] rfl
  have hDc := hD.sub (ws' := [(oR1, .inr (7, xr))]) [2] (by decide) rfl
  have hFc := pu_free hS hA
  refine va_calli (va_runV (C := R_Ro) (As := [.int kk]) (rest := []) ⟨hx, hb, hml, hown, hts⟩ (c_Ro_has l dC dI cI cB cZ cJ kk oR1 xr hxr_count s.heap.size) (cwV 1 hts (tb_V mw_1492 mw_1493 mw_1494 mw_10 mw_1495) rfl rfl rfl ⟨rfl, by decide +kernel, by decide +kernel, by decide +kernel⟩ ⟨(Nat.le_of_ble_eq_true rfl), (Nat.le_of_ble_eq_true rfl)⟩) ⟨pw_blind, va_recv (q := (R_Ro, F_Ro, 18)) hK.1 hP (ci := 7) (q0 := 2) rfl rfl, pw_pre hPc hK hDc⟩ rfl rfl hl.1 rfl (lv_room (Nat.le_of_ble_eq_true rfl)) d_Bh_row_10 ⟨(Nat.le_of_ble_eq_true rfl), (Nat.le_of_ble_eq_true rfl)⟩) hS (fun q _ h => hFc q h) hFc (fun r u t H locs ht hvm hw hB hz1 hk1 hS => ?_)
  have hP := pu_kept hP hk1
  obtain rfl : r = 0 := hw
  refine lv_if_ne (tgt := 18) hx hb d_Bh_row_13 (by decide) (fun h => absurd rfl h) (fun _ => ?_)
  refine lv_iconst (v := (-1)) hx hb d_Bh_row_16 (by decide) ?_
  exact W.iret (v := (-1)) hx hb hr (fun t ht hW => ⟨⟨_, (), rfl, (rfl), trivial⟩, hS.F ht⟩) hS.2.2 d_Bh_row_17
abbrev t_Ac_isAct_15 : List UInt8 := 172 :: []
abbrev t_Ac_isAct_14 : List UInt8 := 3 :: t_Ac_isAct_15
abbrev t_Ac_isAct_11 : List UInt8 := 167 :: 0 :: 4 :: t_Ac_isAct_14
abbrev t_Ac_isAct_10 : List UInt8 := 4 :: t_Ac_isAct_11
abbrev t_Ac_isAct_7 : List UInt8 := 162 :: 0 :: 7 :: t_Ac_isAct_10
abbrev t_Ac_isAct_5 : List UInt8 := 16 :: 32 :: t_Ac_isAct_7
abbrev t_Ac_isAct_4 : List UInt8 := 26 :: t_Ac_isAct_5
abbrev t_Ac_isAct_1 : List UInt8 := 155 :: 0 :: 13 :: t_Ac_isAct_4
abbrev t_Ac_isAct_0 : List UInt8 := 26 :: t_Ac_isAct_1
theorem a_Ac_isAct_0 : dk_at b_Ac_isAct 0 t_Ac_isAct_0 := dk_start (by decide +kernel)
theorem a_Ac_isAct_1 : dk_at b_Ac_isAct 1 t_Ac_isAct_1 := dk_go 1 a_Ac_isAct_0 rfl
theorem a_Ac_isAct_4 : dk_at b_Ac_isAct 4 t_Ac_isAct_4 := dk_go 3 a_Ac_isAct_1 rfl
theorem a_Ac_isAct_5 : dk_at b_Ac_isAct 5 t_Ac_isAct_5 := dk_go 1 a_Ac_isAct_4 rfl
theorem a_Ac_isAct_7 : dk_at b_Ac_isAct 7 t_Ac_isAct_7 := dk_go 2 a_Ac_isAct_5 rfl
theorem a_Ac_isAct_10 : dk_at b_Ac_isAct 10 t_Ac_isAct_10 := dk_go 3 a_Ac_isAct_7 rfl
theorem a_Ac_isAct_11 : dk_at b_Ac_isAct 11 t_Ac_isAct_11 := dk_go 1 a_Ac_isAct_10 rfl
theorem a_Ac_isAct_14 : dk_at b_Ac_isAct 14 t_Ac_isAct_14 := dk_go 3 a_Ac_isAct_11 rfl
theorem a_Ac_isAct_15 : dk_at b_Ac_isAct 15 t_Ac_isAct_15 := dk_go 1 a_Ac_isAct_14 rfl
theorem d_Ac_isAct_0 : decode b_Ac_isAct 0 = .ok (.iload_n 0, 1) := dk_0 a_Ac_isAct_0 (dko_26 _)
theorem d_Ac_isAct_1 : decode b_Ac_isAct 1 = .ok (.ifCond .lt 13, 3) := dk_S2 a_Ac_isAct_1 (dko_155 _) (by decide +kernel)
theorem d_Ac_isAct_4 : decode b_Ac_isAct 4 = .ok (.iload_n 0, 1) := dk_0 a_Ac_isAct_4 (dko_26 _)
theorem d_Ac_isAct_5 : decode b_Ac_isAct 5 = .ok (.bipush 32, 2) := dk_S1 a_Ac_isAct_5 (dko_16 _) (by decide +kernel)
theorem d_Ac_isAct_7 : decode b_Ac_isAct 7 = .ok (.if_icmp .ge 7, 3) := dk_S2 a_Ac_isAct_7 (dko_162 _) (by decide +kernel)
theorem d_Ac_isAct_10 : decode b_Ac_isAct 10 = .ok (.iconst 1, 1) := dk_0 a_Ac_isAct_10 (dko_4 _)
theorem d_Ac_isAct_11 : decode b_Ac_isAct 11 = .ok (.goto 4, 3) := dk_S2 a_Ac_isAct_11 (dko_167 _) (by decide +kernel)
theorem d_Ac_isAct_14 : decode b_Ac_isAct 14 = .ok (.iconst 0, 1) := dk_0 a_Ac_isAct_14 (dko_3 _)
theorem d_Ac_isAct_15 : decode b_Ac_isAct 15 = .ok (.ireturn, 1) := dk_0 a_Ac_isAct_15 (dko_172 _)
def fn_Ac_isAct (ka : Int32) : Int32 := (if ka < 0 then 0 else (if 32 ≤ ka then 0 else 1))
set_option maxHeartbeats 4000000 in
set_option maxRecDepth 100000 in
theorem c_Ac_isAct (l : Launch) (dC : Nat → ClassId) (dI : Nat → Nat → Nat) (cI cB cZ cJ : ClassId) (ka : Int32) (sz : Nat) : Met l y_Ac_isAct w_Ac_isAct ({ frames := 0, cells := 0, slots := 0, locals := 0 }) (va_Pc [.int ka] (PW dC dI cI cB cZ cJ [] sz)) (va_Qi (fun (r : Int32) (_ : Unit) => r = fn_Ac_isAct ka) (fun _ _ => True) (va_A [] sz)) 0 0 (va_A [] sz) := by
  refine Met.ofW (cc := b_Ac_isAct) (maxL := 1) (ret := (some .boolean)) (by decide) rfl ?_
  intro p e s m args below meth c s₁ B hml hv
  obtain ⟨rfl, hsz, hP, hK, hD⟩ := hv
  have hx := B.exec
  have hb := B.bytes
  have hr := B.returns
  have hts := atoms_spec (ws := w_Ac_isAct) B.pre
  have hown : s.vm.findClass R_Ac = some m.cls := findClass_of_methodNamed B.named
  have hlocks := B.notSynchronized
  subst hsz
  generalize hAe : va_A [] s.heap.size = A at ⊢
  have hA : ∀ q : Nat, s.heap.size ≤ q → A q := fun q h => by rw [← hAe]; exact Or.inr h
  have hS : va_S A s.heap s.heap [] := va_S.rf
  have hP : va_P (dC, dI) classes [] s.heap := hP
  have hl := lv_entry ([.int ka]) (n := 1) (Nat.le_of_ble_eq_true rfl)
  rw [lg_entry_eq]
  generalize (lg_sl ([.int ka]) ++ List.replicate (1 - (lg_sl ([.int ka])).length) Slot.unset).toArray = ls at hl ⊢
  have hl : lv_has ls 1 [(0, .int ka)] := hl
  refine lv_iload_n hx hb d_Ac_isAct_0 rfl (lv_at hl 0 rfl) ?_
  refine lv_if_lt (tgt := 14) hx hb d_Ac_isAct_1 (by decide) (fun h1 => ?_) (fun h1 => ?_)
  · refine lv_iconst (v := 0) hx hb d_Ac_isAct_14 (by decide) ?_
    exact W.zret (v := 0) (ty := .boolean) hx hb hr (by decide) (fun t ht hW => ⟨⟨_, (), rfl, (by unfold fn_Ac_isAct; rw [if_pos h1]), trivial⟩, hS.F ht⟩) hS.2.2 d_Ac_isAct_15
  · refine lv_iload_n hx hb d_Ac_isAct_4 rfl (lv_at hl 0 rfl) ?_
    refine lv_bipush (v := 32) hx hb d_Ac_isAct_5 (by decide) ?_
    refine lv_icmp_ge (tgt := 14) hx hb d_Ac_isAct_7 (by decide) (fun h7 => ?_) (fun h7 => ?_)
    · refine lv_iconst (v := 0) hx hb d_Ac_isAct_14 (by decide) ?_
      exact W.zret (v := 0) (ty := .boolean) hx hb hr (by decide) (fun t ht hW => ⟨⟨_, (), rfl, (by unfold fn_Ac_isAct; rw [if_neg h1, if_pos h7]), trivial⟩, hS.F ht⟩) hS.2.2 d_Ac_isAct_15
    · refine lv_iconst (v := 1) hx hb d_Ac_isAct_10 (by decide) ?_
      refine lv_goto (tgt := 15) hx hb d_Ac_isAct_11 (by decide) ?_
      exact W.zret (v := 1) (ty := .boolean) hx hb hr (by decide) (fun t ht hW => ⟨⟨_, (), rfl, (by unfold fn_Ac_isAct; rw [if_neg h1, if_neg h7]), trivial⟩, hS.F ht⟩) hS.2.2 d_Ac_isAct_15
abbrev t_Ro_barring_85 : List UInt8 := 172 :: []
abbrev t_Ro_barring_84 : List UInt8 := 3 :: t_Ro_barring_85
abbrev t_Ro_barring_81 : List UInt8 := 167 :: 255 :: 177 :: t_Ro_barring_84
abbrev t_Ro_barring_78 : List UInt8 := 132 :: 2 :: 1 :: t_Ro_barring_81
abbrev t_Ro_barring_77 : List UInt8 := 172 :: t_Ro_barring_78
abbrev t_Ro_barring_76 : List UInt8 := 96 :: t_Ro_barring_77
abbrev t_Ro_barring_75 : List UInt8 := 4 :: t_Ro_barring_76
abbrev t_Ro_barring_74 : List UInt8 := 28 :: t_Ro_barring_75
abbrev t_Ro_barring_71 : List UInt8 := 153 :: 0 :: 7 :: t_Ro_barring_74
abbrev t_Ro_barring_68 : List UInt8 := 182 :: 0 :: 46 :: t_Ro_barring_71
abbrev t_Ro_barring_67 : List UInt8 := 28 :: t_Ro_barring_68
abbrev t_Ro_barring_66 : List UInt8 := 42 :: t_Ro_barring_67
abbrev t_Ro_barring_63 : List UInt8 := 161 :: 0 :: 15 :: t_Ro_barring_66
abbrev t_Ro_barring_62 : List UInt8 := 46 :: t_Ro_barring_63
abbrev t_Ro_barring_61 : List UInt8 := 28 :: t_Ro_barring_62
abbrev t_Ro_barring_58 : List UInt8 := 180 :: 0 :: 25 :: t_Ro_barring_61
abbrev t_Ro_barring_57 : List UInt8 := 42 :: t_Ro_barring_58
abbrev t_Ro_barring_56 : List UInt8 := 46 :: t_Ro_barring_57
abbrev t_Ro_barring_55 : List UInt8 := 28 :: t_Ro_barring_56
abbrev t_Ro_barring_52 : List UInt8 := 180 :: 0 :: 9 :: t_Ro_barring_55
abbrev t_Ro_barring_51 : List UInt8 := 42 :: t_Ro_barring_52
abbrev t_Ro_barring_48 : List UInt8 := 154 :: 0 :: 26 :: t_Ro_barring_51
abbrev t_Ro_barring_47 : List UInt8 := 51 :: t_Ro_barring_48
abbrev t_Ro_barring_46 : List UInt8 := 28 :: t_Ro_barring_47
abbrev t_Ro_barring_43 : List UInt8 := 180 :: 0 :: 15 :: t_Ro_barring_46
abbrev t_Ro_barring_42 : List UInt8 := 42 :: t_Ro_barring_43
abbrev t_Ro_barring_39 : List UInt8 := 153 :: 0 :: 39 :: t_Ro_barring_42
abbrev t_Ro_barring_38 : List UInt8 := 29 :: t_Ro_barring_39
abbrev t_Ro_barring_37 : List UInt8 := 62 :: t_Ro_barring_38
abbrev t_Ro_barring_36 : List UInt8 := 3 :: t_Ro_barring_37
abbrev t_Ro_barring_33 : List UInt8 := 167 :: 0 :: 4 :: t_Ro_barring_36
abbrev t_Ro_barring_32 : List UInt8 := 4 :: t_Ro_barring_33
abbrev t_Ro_barring_29 : List UInt8 := 154 :: 0 :: 7 :: t_Ro_barring_32
abbrev t_Ro_barring_28 : List UInt8 := 46 :: t_Ro_barring_29
abbrev t_Ro_barring_27 : List UInt8 := 28 :: t_Ro_barring_28
abbrev t_Ro_barring_24 : List UInt8 := 180 :: 0 :: 19 :: t_Ro_barring_27
abbrev t_Ro_barring_23 : List UInt8 := 42 :: t_Ro_barring_24
abbrev t_Ro_barring_20 : List UInt8 := 153 :: 0 :: 16 :: t_Ro_barring_23
abbrev t_Ro_barring_19 : List UInt8 := 126 :: t_Ro_barring_20
abbrev t_Ro_barring_18 : List UInt8 := 4 :: t_Ro_barring_19
abbrev t_Ro_barring_17 : List UInt8 := 124 :: t_Ro_barring_18
abbrev t_Ro_barring_16 : List UInt8 := 27 :: t_Ro_barring_17
abbrev t_Ro_barring_15 : List UInt8 := 46 :: t_Ro_barring_16
abbrev t_Ro_barring_14 : List UInt8 := 28 :: t_Ro_barring_15
abbrev t_Ro_barring_11 : List UInt8 := 180 :: 0 :: 22 :: t_Ro_barring_14
abbrev t_Ro_barring_10 : List UInt8 := 42 :: t_Ro_barring_11
abbrev t_Ro_barring_7 : List UInt8 := 162 :: 0 :: 77 :: t_Ro_barring_10
abbrev t_Ro_barring_4 : List UInt8 := 180 :: 0 :: 37 :: t_Ro_barring_7
abbrev t_Ro_barring_3 : List UInt8 := 42 :: t_Ro_barring_4
abbrev t_Ro_barring_2 : List UInt8 := 28 :: t_Ro_barring_3
abbrev t_Ro_barring_1 : List UInt8 := 61 :: t_Ro_barring_2
abbrev t_Ro_barring_0 : List UInt8 := 3 :: t_Ro_barring_1
theorem a_Ro_barring_0 : dk_at b_Ro_barring 0 t_Ro_barring_0 := dk_start (by decide +kernel)
theorem a_Ro_barring_1 : dk_at b_Ro_barring 1 t_Ro_barring_1 := dk_go 1 a_Ro_barring_0 rfl
theorem a_Ro_barring_2 : dk_at b_Ro_barring 2 t_Ro_barring_2 := dk_go 1 a_Ro_barring_1 rfl
theorem a_Ro_barring_3 : dk_at b_Ro_barring 3 t_Ro_barring_3 := dk_go 1 a_Ro_barring_2 rfl
theorem a_Ro_barring_4 : dk_at b_Ro_barring 4 t_Ro_barring_4 := dk_go 1 a_Ro_barring_3 rfl
theorem a_Ro_barring_7 : dk_at b_Ro_barring 7 t_Ro_barring_7 := dk_go 3 a_Ro_barring_4 rfl
theorem a_Ro_barring_10 : dk_at b_Ro_barring 10 t_Ro_barring_10 := dk_go 3 a_Ro_barring_7 rfl
theorem a_Ro_barring_11 : dk_at b_Ro_barring 11 t_Ro_barring_11 := dk_go 1 a_Ro_barring_10 rfl
theorem a_Ro_barring_14 : dk_at b_Ro_barring 14 t_Ro_barring_14 := dk_go 3 a_Ro_barring_11 rfl
theorem a_Ro_barring_15 : dk_at b_Ro_barring 15 t_Ro_barring_15 := dk_go 1 a_Ro_barring_14 rfl
theorem a_Ro_barring_16 : dk_at b_Ro_barring 16 t_Ro_barring_16 := dk_go 1 a_Ro_barring_15 rfl
theorem a_Ro_barring_17 : dk_at b_Ro_barring 17 t_Ro_barring_17 := dk_go 1 a_Ro_barring_16 rfl
theorem a_Ro_barring_18 : dk_at b_Ro_barring 18 t_Ro_barring_18 := dk_go 1 a_Ro_barring_17 rfl
theorem a_Ro_barring_19 : dk_at b_Ro_barring 19 t_Ro_barring_19 := dk_go 1 a_Ro_barring_18 rfl
theorem a_Ro_barring_20 : dk_at b_Ro_barring 20 t_Ro_barring_20 := dk_go 1 a_Ro_barring_19 rfl
theorem a_Ro_barring_23 : dk_at b_Ro_barring 23 t_Ro_barring_23 := dk_go 3 a_Ro_barring_20 rfl
theorem a_Ro_barring_24 : dk_at b_Ro_barring 24 t_Ro_barring_24 := dk_go 1 a_Ro_barring_23 rfl
theorem a_Ro_barring_27 : dk_at b_Ro_barring 27 t_Ro_barring_27 := dk_go 3 a_Ro_barring_24 rfl
theorem a_Ro_barring_28 : dk_at b_Ro_barring 28 t_Ro_barring_28 := dk_go 1 a_Ro_barring_27 rfl
theorem a_Ro_barring_29 : dk_at b_Ro_barring 29 t_Ro_barring_29 := dk_go 1 a_Ro_barring_28 rfl
theorem a_Ro_barring_32 : dk_at b_Ro_barring 32 t_Ro_barring_32 := dk_go 3 a_Ro_barring_29 rfl
theorem a_Ro_barring_33 : dk_at b_Ro_barring 33 t_Ro_barring_33 := dk_go 1 a_Ro_barring_32 rfl
theorem a_Ro_barring_36 : dk_at b_Ro_barring 36 t_Ro_barring_36 := dk_go 3 a_Ro_barring_33 rfl
theorem a_Ro_barring_37 : dk_at b_Ro_barring 37 t_Ro_barring_37 := dk_go 1 a_Ro_barring_36 rfl
theorem a_Ro_barring_38 : dk_at b_Ro_barring 38 t_Ro_barring_38 := dk_go 1 a_Ro_barring_37 rfl
theorem a_Ro_barring_39 : dk_at b_Ro_barring 39 t_Ro_barring_39 := dk_go 1 a_Ro_barring_38 rfl
theorem a_Ro_barring_42 : dk_at b_Ro_barring 42 t_Ro_barring_42 := dk_go 3 a_Ro_barring_39 rfl
theorem a_Ro_barring_43 : dk_at b_Ro_barring 43 t_Ro_barring_43 := dk_go 1 a_Ro_barring_42 rfl
theorem a_Ro_barring_46 : dk_at b_Ro_barring 46 t_Ro_barring_46 := dk_go 3 a_Ro_barring_43 rfl
theorem a_Ro_barring_47 : dk_at b_Ro_barring 47 t_Ro_barring_47 := dk_go 1 a_Ro_barring_46 rfl
theorem a_Ro_barring_48 : dk_at b_Ro_barring 48 t_Ro_barring_48 := dk_go 1 a_Ro_barring_47 rfl
theorem a_Ro_barring_51 : dk_at b_Ro_barring 51 t_Ro_barring_51 := dk_go 3 a_Ro_barring_48 rfl
theorem a_Ro_barring_52 : dk_at b_Ro_barring 52 t_Ro_barring_52 := dk_go 1 a_Ro_barring_51 rfl
theorem a_Ro_barring_55 : dk_at b_Ro_barring 55 t_Ro_barring_55 := dk_go 3 a_Ro_barring_52 rfl
theorem a_Ro_barring_56 : dk_at b_Ro_barring 56 t_Ro_barring_56 := dk_go 1 a_Ro_barring_55 rfl
theorem a_Ro_barring_57 : dk_at b_Ro_barring 57 t_Ro_barring_57 := dk_go 1 a_Ro_barring_56 rfl
theorem a_Ro_barring_58 : dk_at b_Ro_barring 58 t_Ro_barring_58 := dk_go 1 a_Ro_barring_57 rfl
theorem a_Ro_barring_61 : dk_at b_Ro_barring 61 t_Ro_barring_61 := dk_go 3 a_Ro_barring_58 rfl
theorem a_Ro_barring_62 : dk_at b_Ro_barring 62 t_Ro_barring_62 := dk_go 1 a_Ro_barring_61 rfl
theorem a_Ro_barring_63 : dk_at b_Ro_barring 63 t_Ro_barring_63 := dk_go 1 a_Ro_barring_62 rfl
theorem a_Ro_barring_66 : dk_at b_Ro_barring 66 t_Ro_barring_66 := dk_go 3 a_Ro_barring_63 rfl
theorem a_Ro_barring_67 : dk_at b_Ro_barring 67 t_Ro_barring_67 := dk_go 1 a_Ro_barring_66 rfl
theorem a_Ro_barring_68 : dk_at b_Ro_barring 68 t_Ro_barring_68 := dk_go 1 a_Ro_barring_67 rfl
theorem a_Ro_barring_71 : dk_at b_Ro_barring 71 t_Ro_barring_71 := dk_go 3 a_Ro_barring_68 rfl
theorem a_Ro_barring_74 : dk_at b_Ro_barring 74 t_Ro_barring_74 := dk_go 3 a_Ro_barring_71 rfl
theorem a_Ro_barring_75 : dk_at b_Ro_barring 75 t_Ro_barring_75 := dk_go 1 a_Ro_barring_74 rfl
theorem a_Ro_barring_76 : dk_at b_Ro_barring 76 t_Ro_barring_76 := dk_go 1 a_Ro_barring_75 rfl
theorem a_Ro_barring_77 : dk_at b_Ro_barring 77 t_Ro_barring_77 := dk_go 1 a_Ro_barring_76 rfl
theorem a_Ro_barring_78 : dk_at b_Ro_barring 78 t_Ro_barring_78 := dk_go 1 a_Ro_barring_77 rfl
theorem a_Ro_barring_81 : dk_at b_Ro_barring 81 t_Ro_barring_81 := dk_go 3 a_Ro_barring_78 rfl
theorem a_Ro_barring_84 : dk_at b_Ro_barring 84 t_Ro_barring_84 := dk_go 3 a_Ro_barring_81 rfl
theorem a_Ro_barring_85 : dk_at b_Ro_barring 85 t_Ro_barring_85 := dk_go 1 a_Ro_barring_84 rfl
theorem d_Ro_barring_0 : decode b_Ro_barring 0 = .ok (.iconst 0, 1) := dk_0 a_Ro_barring_0 (dko_3 _)
theorem d_Ro_barring_1 : decode b_Ro_barring 1 = .ok (.istore_n 2, 1) := dk_0 a_Ro_barring_1 (dko_61 _)
theorem d_Ro_barring_2 : decode b_Ro_barring 2 = .ok (.iload_n 2, 1) := dk_0 a_Ro_barring_2 (dko_28 _)
theorem d_Ro_barring_3 : decode b_Ro_barring 3 = .ok (.aload_n 0, 1) := dk_0 a_Ro_barring_3 (dko_42 _)
theorem d_Ro_barring_4 : decode b_Ro_barring 4 = .ok (.getfield 37, 3) := dk_U2 a_Ro_barring_4 (dko_180 _) rfl
theorem d_Ro_barring_7 : decode b_Ro_barring 7 = .ok (.if_icmp .ge 77, 3) := dk_S2 a_Ro_barring_7 (dko_162 _) (by decide +kernel)
theorem d_Ro_barring_84 : decode b_Ro_barring 84 = .ok (.iconst 0, 1) := dk_0 a_Ro_barring_84 (dko_3 _)
theorem d_Ro_barring_85 : decode b_Ro_barring 85 = .ok (.ireturn, 1) := dk_0 a_Ro_barring_85 (dko_172 _)
set_option maxHeartbeats 4000000 in
set_option maxRecDepth 100000 in
theorem c_Ro_barring (l : Launch) (dC : Nat → ClassId) (dI : Nat → Nat → Nat) (cI cB cZ cJ : ClassId) (ka : Int32) (oR1 : Nat) (xr : List Value) (hxr_count : fx xr 0 (.int 0)) (sz : Nat) : Met l y_Ro_barring w_Ro_barring ({ frames := 0, cells := 0, slots := 0, locals := 0 }) (va_Pc [.ref oR1, .int ka] (PW dC dI cI cB cZ cJ [(oR1, .inr (7, xr))] sz)) (va_Qi (fun (r : Int32) (_ : Unit) => r = 0) (fun _ _ => True) (va_A [] sz)) 0 0 (va_A [] sz) := by
  refine Met.ofW (cc := b_Ro_barring) (maxL := 4) (ret := (some .int)) (by decide) rfl ?_
  intro p e s m args below meth c s₁ B hml hv
  obtain ⟨rfl, hsz, hP, hK, hD⟩ := hv
  have hx := B.exec
  have hb := B.bytes
  have hr := B.returns
  have hts := atoms_spec (ws := w_Ro_barring) B.pre
  have hown : s.vm.findClass R_Ro = some m.cls := findClass_of_methodNamed B.named
  have hlocks := B.notSynchronized
  subst hsz
  generalize hAe : va_A [] s.heap.size = A at ⊢
  have hA : ∀ q : Nat, s.heap.size ≤ q → A q := fun q h => by rw [← hAe]; exact Or.inr h
  have hS : va_S A s.heap s.heap [] := va_S.rf
  have hP : va_P (dC, dI) classes [(oR1, .inr (7, xr))] s.heap := hP
  have hl := lv_entry ([.ref oR1, .int ka]) (n := 4) (Nat.le_of_ble_eq_true rfl)
  rw [lg_entry_eq]
  generalize (lg_sl ([.ref oR1, .int ka]) ++ List.replicate (4 - (lg_sl ([.ref oR1, .int ka])).length) Slot.unset).toArray = ls at hl ⊢
  have hl : lv_has ls 4 [(0, .ref oR1), (1, .int ka)] := hl
  refine lv_iconst (v := 0) hx hb d_Ro_barring_0 (by decide) ?_
  refine lv_istore_n hx hb d_Ro_barring_1 rfl hl (by decide) rfl (fun ls hl => ?_)
  have hl : lv_has ls 4 [(2, .int 0), (0, .ref oR1), (1, .int ka)] := hl
  refine lv_iload_n hx hb d_Ro_barring_2 rfl (lv_at hl 0 rfl) ?_
  refine lv_aload_n hx hb d_Ro_barring_3 rfl (lv_at hl 1 rfl) ?_
  refine va_get (D := (dC, dI)) (ci := 7) (v := .int 0) (C := R_Ro) (T := F_Ro) (N := 18) hx hb hts (fun w h => List.mem_cons_of_mem _ (in_Ro w h)) hown hK.1 hP 0 rfl rfl 0 (by decide) (hts _ (List.mem_cons_of_mem _ mw_329)) (fun _ h9 => h9) hxr_count d_Ro_barring_4 ?_
  refine lv_icmp_ge (tgt := 84) hx hb d_Ro_barring_7 (by decide) (fun _ => ?_) (fun h => absurd (by decide) h)
  refine lv_iconst (v := 0) hx hb d_Ro_barring_84 (by decide) ?_
  exact W.iret (v := 0) hx hb hr (fun t ht hW => ⟨⟨_, (), rfl, (rfl), trivial⟩, hS.F ht⟩) hS.2.2 d_Ro_barring_85
abbrev t_Bh_write_22 : List UInt8 := 172 :: []
abbrev t_Bh_write_21 : List UInt8 := 2 :: t_Bh_write_22
abbrev t_Bh_write_18 : List UInt8 := 167 :: 0 :: 4 :: t_Bh_write_21
abbrev t_Bh_write_17 : List UInt8 := 51 :: t_Bh_write_18
abbrev t_Bh_write_16 : List UInt8 := 27 :: t_Bh_write_17
abbrev t_Bh_write_13 : List UInt8 := 180 :: 0 :: 94 :: t_Bh_write_16
abbrev t_Bh_write_12 : List UInt8 := 42 :: t_Bh_write_13
abbrev t_Bh_write_9 : List UInt8 := 162 :: 0 :: 12 :: t_Bh_write_12
abbrev t_Bh_write_6 : List UInt8 := 180 :: 0 :: 168 :: t_Bh_write_9
abbrev t_Bh_write_5 : List UInt8 := 42 :: t_Bh_write_6
abbrev t_Bh_write_4 : List UInt8 := 27 :: t_Bh_write_5
abbrev t_Bh_write_1 : List UInt8 := 155 :: 0 :: 20 :: t_Bh_write_4
abbrev t_Bh_write_0 : List UInt8 := 27 :: t_Bh_write_1
theorem a_Bh_write_0 : dk_at b_Bh_write 0 t_Bh_write_0 := dk_start (by decide +kernel)
theorem a_Bh_write_1 : dk_at b_Bh_write 1 t_Bh_write_1 := dk_go 1 a_Bh_write_0 rfl
theorem a_Bh_write_4 : dk_at b_Bh_write 4 t_Bh_write_4 := dk_go 3 a_Bh_write_1 rfl
theorem a_Bh_write_5 : dk_at b_Bh_write 5 t_Bh_write_5 := dk_go 1 a_Bh_write_4 rfl
theorem a_Bh_write_6 : dk_at b_Bh_write 6 t_Bh_write_6 := dk_go 1 a_Bh_write_5 rfl
theorem a_Bh_write_9 : dk_at b_Bh_write 9 t_Bh_write_9 := dk_go 3 a_Bh_write_6 rfl
theorem a_Bh_write_12 : dk_at b_Bh_write 12 t_Bh_write_12 := dk_go 3 a_Bh_write_9 rfl
theorem a_Bh_write_13 : dk_at b_Bh_write 13 t_Bh_write_13 := dk_go 1 a_Bh_write_12 rfl
theorem a_Bh_write_16 : dk_at b_Bh_write 16 t_Bh_write_16 := dk_go 3 a_Bh_write_13 rfl
theorem a_Bh_write_17 : dk_at b_Bh_write 17 t_Bh_write_17 := dk_go 1 a_Bh_write_16 rfl
theorem a_Bh_write_18 : dk_at b_Bh_write 18 t_Bh_write_18 := dk_go 1 a_Bh_write_17 rfl
theorem a_Bh_write_21 : dk_at b_Bh_write 21 t_Bh_write_21 := dk_go 3 a_Bh_write_18 rfl
theorem a_Bh_write_22 : dk_at b_Bh_write 22 t_Bh_write_22 := dk_go 1 a_Bh_write_21 rfl
theorem d_Bh_write_0 : decode b_Bh_write 0 = .ok (.iload_n 1, 1) := dk_0 a_Bh_write_0 (dko_27 _)
theorem d_Bh_write_1 : decode b_Bh_write 1 = .ok (.ifCond .lt 20, 3) := dk_S2 a_Bh_write_1 (dko_155 _) (by decide +kernel)
theorem d_Bh_write_4 : decode b_Bh_write 4 = .ok (.iload_n 1, 1) := dk_0 a_Bh_write_4 (dko_27 _)
theorem d_Bh_write_5 : decode b_Bh_write 5 = .ok (.aload_n 0, 1) := dk_0 a_Bh_write_5 (dko_42 _)
theorem d_Bh_write_6 : decode b_Bh_write 6 = .ok (.getfield 168, 3) := dk_U2 a_Bh_write_6 (dko_180 _) rfl
theorem d_Bh_write_9 : decode b_Bh_write 9 = .ok (.if_icmp .ge 12, 3) := dk_S2 a_Bh_write_9 (dko_162 _) (by decide +kernel)
theorem d_Bh_write_21 : decode b_Bh_write 21 = .ok (.iconst (-1), 1) := dk_0 a_Bh_write_21 (dko_2 _)
theorem d_Bh_write_22 : decode b_Bh_write 22 = .ok (.ireturn, 1) := dk_0 a_Bh_write_22 (dko_172 _)
set_option maxHeartbeats 4000000 in
set_option maxRecDepth 100000 in
theorem c_Bh_write (l : Launch) (dC : Nat → ClassId) (dI : Nat → Nat → Nat) (cI cB cZ cJ : ClassId) (ii : Int32) (oB : Nat) (xb : List Value) (hb_plantTextLength : fx xb 12 (.int 0)) (sz : Nat) : Met l y_Bh_write w_Bh_write ({ frames := 0, cells := 0, slots := 0, locals := 0 }) (va_Pc [.ref oB, .int ii] (PW dC dI cI cB cZ cJ [(oB, .inr (0, xb))] sz)) (va_Qi (fun (r : Int32) (_ : Unit) => r = (-1)) (fun _ _ => True) (va_A [] sz)) 0 0 (va_A [] sz) := by
  refine Met.ofW (cc := b_Bh_write) (maxL := 2) (ret := (some .int)) (by decide) rfl ?_
  intro p e s m args below meth c s₁ B hml hv
  obtain ⟨rfl, hsz, hP, hK, hD⟩ := hv
  have hx := B.exec
  have hb := B.bytes
  have hr := B.returns
  have hts := atoms_spec (ws := w_Bh_write) B.pre
  have hown : s.vm.findClass R_Bh = some m.cls := findClass_of_methodNamed B.named
  have hlocks := B.notSynchronized
  subst hsz
  generalize hAe : va_A [] s.heap.size = A at ⊢
  have hA : ∀ q : Nat, s.heap.size ≤ q → A q := fun q h => by rw [← hAe]; exact Or.inr h
  have hS : va_S A s.heap s.heap [] := va_S.rf
  have hP : va_P (dC, dI) classes [(oB, .inr (0, xb))] s.heap := hP
  have hl := lv_entry ([.ref oB, .int ii]) (n := 2) (Nat.le_of_ble_eq_true rfl)
  rw [lg_entry_eq]
  generalize (lg_sl ([.ref oB, .int ii]) ++ List.replicate (2 - (lg_sl ([.ref oB, .int ii])).length) Slot.unset).toArray = ls at hl ⊢
  have hl : lv_has ls 2 [(0, .ref oB), (1, .int ii)] := hl
  refine lv_iload_n hx hb d_Bh_write_0 rfl (lv_at hl 1 rfl) ?_
  refine lv_if_lt (tgt := 21) hx hb d_Bh_write_1 (by decide) (fun h1 => ?_) (fun h1 => ?_)
  · refine lv_iconst (v := (-1)) hx hb d_Bh_write_21 (by decide) ?_
    exact W.iret (v := (-1)) hx hb hr (fun t ht hW => ⟨⟨_, (), rfl, (rfl), trivial⟩, hS.F ht⟩) hS.2.2 d_Bh_write_22
  · refine lv_iload_n hx hb d_Bh_write_4 rfl (lv_at hl 1 rfl) ?_
    refine lv_aload_n hx hb d_Bh_write_5 rfl (lv_at hl 0 rfl) ?_
    refine va_get (D := (dC, dI)) (ci := 0) (v := .int 0) (C := R_Bh) (T := F_Bh) (N := 16) hx hb hts (fun w h => List.mem_cons_of_mem _ (in_Bh w h)) hown hK.1 hP 0 rfl rfl 12 (by decide) (hts _ (List.mem_cons_of_mem _ mw_696)) (fun _ h9 => h9) hb_plantTextLength d_Bh_write_6 ?_
    refine lv_icmp_ge (tgt := 21) hx hb d_Bh_write_9 (by decide) (fun _ => ?_) (fun h => absurd (nd_le h1 (by decide)) h)
    refine lv_iconst (v := (-1)) hx hb d_Bh_write_21 (by decide) ?_
    exact W.iret (v := (-1)) hx hb hr (fun t ht hW => ⟨⟨_, (), rfl, (rfl), trivial⟩, hS.F ht⟩) hS.2.2 d_Bh_write_22
