abbrev b_Bh_second : ByteArray := prog_1_method_37_code
def y_Bh_second : MethodName := ⟨R_Bh, "second", "()I"⟩
abbrev w_Bh_second : List Cond := .code y_Bh_second b_Bh_second 1 (some .int) :: lw_gd
abbrev b_Bh_state : ByteArray := prog_1_method_29_code
def y_Bh_state : MethodName := ⟨R_Bh, "state", "()I"⟩
abbrev w_Bh_state : List Cond := .code y_Bh_state b_Bh_state 1 (some .int) :: lw_gd
abbrev b_St_isTank : ByteArray := prog_10_method_3_code
def y_St_isTank : MethodName := ⟨R_St, "isTank", "(I)Z"⟩
abbrev w_St_isTank : List Cond := .code y_St_isTank b_St_isTank 2 (some .boolean) :: lw_gd
abbrev b_St_isValve : ByteArray := prog_10_method_4_code
def y_St_isValve : MethodName := ⟨R_St, "isValve", "(I)Z"⟩
abbrev w_St_isValve : List Cond := .code y_St_isValve b_St_isValve 2 (some .boolean) :: lw_gd
abbrev b_St_isPipe : ByteArray := prog_10_method_5_code
def y_St_isPipe : MethodName := ⟨R_St, "isPipe", "(I)Z"⟩
abbrev w_St_isPipe : List Cond := .code y_St_isPipe b_St_isPipe 2 (some .boolean) :: lw_gd
abbrev b_St_isHolder : ByteArray := prog_10_method_6_code
def y_St_isHolder : MethodName := ⟨R_St, "isHolder", "(I)Z"⟩
abbrev w_St_isHolder : List Cond := .code y_St_isHolder b_St_isHolder 2 (some .boolean) :: lw_gd
abbrev b_Pr_isSignal : ByteArray := prog_5_method_6_code
def y_Pr_isSignal : MethodName := ⟨R_Pr, "isSignal", "(I)Z"⟩
abbrev w_Pr_isSignal : List Cond := .code y_Pr_isSignal b_Pr_isSignal 2 (some .boolean) :: lw_gd
abbrev b_Pr_hasValue : ByteArray := prog_5_method_5_code
def y_Pr_hasValue : MethodName := ⟨R_Pr, "hasValue", "(I)Z"⟩
abbrev w_Pr_hasValue : List Cond := .code y_Pr_hasValue b_Pr_hasValue 2 (some .boolean) :: lw_gd
abbrev b_Bh_sense : ByteArray := prog_1_method_12_code
def y_Bh_sense : MethodName := ⟨R_Bh, "sense", "(III)Z"⟩
abbrev w_Bh_sense : List Cond := .code y_Bh_sense b_Bh_sense 4 (some .boolean) :: lw_gd
abbrev b_Bh_signal : ByteArray := prog_1_method_14_code
def y_Bh_signal : MethodName := ⟨R_Bh, "signal", "(IJ)Z"⟩
abbrev w_Bh_signal : List Cond := .code y_Bh_signal b_Bh_signal 4 (some .boolean) :: lw_gd
abbrev b_Bh_value : ByteArray := prog_1_method_30_code
def y_Bh_value : MethodName := ⟨R_Bh, "value", "(I)J"⟩
abbrev w_Bh_value : List Cond := .code y_Bh_value b_Bh_value 2 (some .long) :: lw_gd
abbrev b_Bh_fill : ByteArray := prog_1_method_7_code
def y_Bh_fill : MethodName := ⟨R_Bh, "fill", "(IIJ)Z"⟩
abbrev w_Bh_fill : List Cond := .code y_Bh_fill b_Bh_fill 7 (some .boolean) :: lw_gd
abbrev b_Bh_space : ByteArray := prog_1_method_34_code
def y_Bh_space : MethodName := ⟨R_Bh, "space", "(II)I"⟩
abbrev w_Bh_space : List Cond := .code y_Bh_space b_Bh_space 3 (some .int) :: lw_gd
abbrev b_Wa_get : ByteArray := prog_12_method_3_code
def y_Wa_get : MethodName := ⟨R_Wa, "get", "(II)I"⟩
abbrev w_Wa_get : List Cond := .code y_Wa_get b_Wa_get 5 (some .int) :: lw_gd
abbrev b_Bh_way : ByteArray := prog_1_method_33_code
def y_Bh_way : MethodName := ⟨R_Bh, "way", "(II)I"⟩
abbrev w_Bh_way : List Cond := .code y_Bh_way b_Bh_way 3 (some .int) :: lw_gd
abbrev b_Al_get : ByteArray := prog_3_method_3_code
def y_Al_get : MethodName := ⟨R_Al, "get", "(II)I"⟩
abbrev w_Al_get : List Cond := .code y_Al_get b_Al_get 3 (some .int) :: lw_gd
abbrev b_Bh_alarm : ByteArray := prog_1_method_32_code
def y_Bh_alarm : MethodName := ⟨R_Bh, "alarm", "(II)I"⟩
abbrev w_Bh_alarm : List Cond := .code y_Bh_alarm b_Bh_alarm 3 (some .int) :: lw_gd
abbrev b_Bh_hold : ByteArray := prog_1_method_22_code
def y_Bh_hold : MethodName := ⟨R_Bh, "hold", "(Z)Z"⟩
abbrev w_Bh_hold : List Cond := .code y_Bh_hold b_Bh_hold 2 (some .boolean) :: lw_gd
abbrev b_Ru_isAlive : ByteArray := prog_8_method_2_code
def y_Ru_isAlive : MethodName := ⟨R_Ru, "isAlive", "()Z"⟩
abbrev w_Ru_isAlive : List Cond := .code y_Ru_isAlive b_Ru_isAlive 1 (some .boolean) :: lw_gd
abbrev b_Bh_stop : ByteArray := prog_1_method_23_code
def y_Bh_stop : MethodName := ⟨R_Bh, "stop", "()Z"⟩
abbrev w_Bh_stop : List Cond := .code y_Bh_stop b_Bh_stop 1 (some .boolean) :: lw_gd
abbrev b_Bh_start : ByteArray := prog_1_method_17_code
def y_Bh_start : MethodName := ⟨R_Bh, "start", "()Z"⟩
abbrev w_Bh_start : List Cond := .code y_Bh_start b_Bh_start 1 (some .boolean) :: lw_gd
abbrev b_Ro_has : ByteArray := prog_7_method_2_code
def y_Ro_has : MethodName := ⟨R_Ro, "has", "(I)Z"⟩
abbrev w_Ro_has : List Cond := .code y_Ro_has b_Ro_has 2 (some .boolean) :: lw_gd
abbrev b_Bh_pass : ByteArray := prog_1_method_24_code
def y_Bh_pass : MethodName := ⟨R_Bh, "pass", "(IIII)I"⟩
abbrev w_Bh_pass : List Cond := .code y_Bh_pass b_Bh_pass 5 (some .int) :: lw_gd
abbrev b_Bh_reset : ByteArray := prog_1_method_26_code
def y_Bh_reset : MethodName := ⟨R_Bh, "reset", "(I)Z"⟩
abbrev w_Bh_reset : List Cond := .code y_Bh_reset b_Bh_reset 3 (some .boolean) :: lw_gd
abbrev b_Bh_row : ByteArray := prog_1_method_28_code
def y_Bh_row : MethodName := ⟨R_Bh, "row", "(II)I"⟩
abbrev w_Bh_row : List Cond := .code y_Bh_row b_Bh_row 4 (some .int) :: lw_gd
abbrev b_Ac_isAct : ByteArray := prog_2_method_2_code
def y_Ac_isAct : MethodName := ⟨R_Ac, "isAct", "(I)Z"⟩
abbrev w_Ac_isAct : List Cond := .code y_Ac_isAct b_Ac_isAct 1 (some .boolean) :: lw_gd
abbrev b_Ro_barring : ByteArray := prog_7_method_5_code
def y_Ro_barring : MethodName := ⟨R_Ro, "barring", "(I)I"⟩
abbrev w_Ro_barring : List Cond := .code y_Ro_barring b_Ro_barring 4 (some .int) :: lw_gd
abbrev b_Bh_write : ByteArray := prog_1_method_36_code
def y_Bh_write : MethodName := ⟨R_Bh, "write", "(I)I"⟩
abbrev w_Bh_write : List Cond := .code y_Bh_write b_Bh_write 2 (some .int) :: lw_gd
theorem mw_3 : (.initialized "BreweryHouse$Alarms" : Cond) ∈ lw_gd := tb_mem (i := 3) (by decide +kernel) (by decide +kernel)
theorem mw_4 : (.initialized "BreweryHouse$Stock" : Cond) ∈ lw_gd := tb_mem (i := 4) (by decide +kernel) (by decide +kernel)
theorem mw_7 : (.initialized "BreweryHouse$Ways" : Cond) ∈ lw_gd := tb_mem (i := 7) (by decide +kernel) (by decide +kernel)
theorem mw_10 : (.initialized "BreweryHouse$Rows" : Cond) ∈ lw_gd := tb_mem (i := 10) (by decide +kernel) (by decide +kernel)
theorem mw_11 : (.initialized "BreweryHouse$Run" : Cond) ∈ lw_gd := tb_mem (i := 11) (by decide +kernel) (by decide +kernel)
theorem mw_12 : (.initialized "BreweryHouse$Program" : Cond) ∈ lw_gd := tb_mem (i := 12) (by decide +kernel) (by decide +kernel)
theorem mw_60 : (.fieldLink "BreweryHouse$Alarms" 21 "BreweryHouse$Alarms" "count" "I" : Cond) ∈ lw_gd := tb_mem (i := 60) (by decide +kernel) (by decide +kernel)
theorem mw_88 : (.fieldLink "BreweryHouse$Stock" 60 "BreweryHouse$Plant" "things" "I" : Cond) ∈ lw_gd := tb_mem (i := 88) (by decide +kernel) (by decide +kernel)
theorem mw_94 : (.fieldLink "BreweryHouse$Stock" 67 "BreweryHouse$Plant" "pipes" "I" : Cond) ∈ lw_gd := tb_mem (i := 94) (by decide +kernel) (by decide +kernel)
theorem mw_149 : (.fieldLink "BreweryHouse$Stock" 12 "BreweryHouse$Stock" "plant" "LBreweryHouse$Plant;" : Cond) ∈ lw_gd := tb_mem (i := 149) (by decide +kernel) (by decide +kernel)
theorem mw_156 : (.fieldLink "BreweryHouse" 261 "BreweryHouse$Stock" "now" "I" : Cond) ∈ lw_gd := tb_mem (i := 156) (by decide +kernel) (by decide +kernel)
theorem mw_218 : (.fieldLink "BreweryHouse$Ways" 65 "BreweryHouse$Ways" "count" "I" : Cond) ∈ lw_gd := tb_mem (i := 218) (by decide +kernel) (by decide +kernel)
theorem mw_329 : (.fieldLink "BreweryHouse$Rows" 37 "BreweryHouse$Rows" "count" "I" : Cond) ∈ lw_gd := tb_mem (i := 329) (by decide +kernel) (by decide +kernel)
theorem mw_394 : (.fieldLink "BreweryHouse" 174 "BreweryHouse$Acts" "rows" "LBreweryHouse$Rows;" : Cond) ∈ lw_gd := tb_mem (i := 394) (by decide +kernel) (by decide +kernel)
theorem mw_436 : (.fieldLink "BreweryHouse" 267 "BreweryHouse$Program" "opening" "I" : Cond) ∈ lw_gd := tb_mem (i := 436) (by decide +kernel) (by decide +kernel)
theorem mw_457 : (.fieldLink "BreweryHouse$Program" 65 "BreweryHouse$Program" "names" "I" : Cond) ∈ lw_gd := tb_mem (i := 457) (by decide +kernel) (by decide +kernel)
theorem mw_515 : (.fieldLink "BreweryHouse" 183 "BreweryHouse$Run" "program" "LBreweryHouse$Program;" : Cond) ∈ lw_gd := tb_mem (i := 515) (by decide +kernel) (by decide +kernel)
theorem mw_516 : (.fieldLink "BreweryHouse$Run" 18 "BreweryHouse$Run" "state" "I" : Cond) ∈ lw_gd := tb_mem (i := 516) (by decide +kernel) (by decide +kernel)
theorem mw_517 : (.fieldLink "BreweryHouse" 161 "BreweryHouse$Run" "state" "I" : Cond) ∈ lw_gd := tb_mem (i := 517) (by decide +kernel) (by decide +kernel)
theorem mw_685 : (.fieldLink "BreweryHouse" 19 "BreweryHouse" "alarms" "LBreweryHouse$Alarms;" : Cond) ∈ lw_gd := tb_mem (i := 685) (by decide +kernel) (by decide +kernel)
theorem mw_686 : (.fieldLink "BreweryHouse" 26 "BreweryHouse" "stock" "LBreweryHouse$Stock;" : Cond) ∈ lw_gd := tb_mem (i := 686) (by decide +kernel) (by decide +kernel)
theorem mw_687 : (.fieldLink "BreweryHouse" 35 "BreweryHouse" "ways" "LBreweryHouse$Ways;" : Cond) ∈ lw_gd := tb_mem (i := 687) (by decide +kernel) (by decide +kernel)
theorem mw_689 : (.fieldLink "BreweryHouse" 53 "BreweryHouse" "acts" "LBreweryHouse$Acts;" : Cond) ∈ lw_gd := tb_mem (i := 689) (by decide +kernel) (by decide +kernel)
theorem mw_690 : (.fieldLink "BreweryHouse" 62 "BreweryHouse" "run" "LBreweryHouse$Run;" : Cond) ∈ lw_gd := tb_mem (i := 690) (by decide +kernel) (by decide +kernel)
theorem mw_696 : (.fieldLink "BreweryHouse" 168 "BreweryHouse" "plantTextLength" "I" : Cond) ∈ lw_gd := tb_mem (i := 696) (by decide +kernel) (by decide +kernel)
theorem mw_952 : (.instanceMethod y_Pr_hasValue : Cond) ∈ lw_gd := tb_mem (i := 952) (by decide +kernel) (by decide +kernel)
theorem mw_953 : (.selects "BreweryHouse$Program" y_Pr_hasValue y_Pr_hasValue : Cond) ∈ lw_gd := tb_mem (i := 953) (by decide +kernel) (by decide +kernel)
theorem mw_954 : (.code y_Pr_hasValue b_Pr_hasValue 2 (some .boolean) : Cond) ∈ lw_gd := tb_mem (i := 954) (by decide +kernel) (by decide +kernel)
theorem mw_1075 : (.methodLink "BreweryHouse" 196 y_St_isTank : Cond) ∈ lw_gd := tb_mem (i := 1075) (by decide +kernel) (by decide +kernel)
theorem mw_1076 : (.instanceMethod y_St_isTank : Cond) ∈ lw_gd := tb_mem (i := 1076) (by decide +kernel) (by decide +kernel)
theorem mw_1077 : (.selects "BreweryHouse$Stock" y_St_isTank y_St_isTank : Cond) ∈ lw_gd := tb_mem (i := 1077) (by decide +kernel) (by decide +kernel)
theorem mw_1078 : (.code y_St_isTank b_St_isTank 2 (some .boolean) : Cond) ∈ lw_gd := tb_mem (i := 1078) (by decide +kernel) (by decide +kernel)
theorem mw_1158 : (.methodLink "BreweryHouse" 238 y_Pr_isSignal : Cond) ∈ lw_gd := tb_mem (i := 1158) (by decide +kernel) (by decide +kernel)
theorem mw_1159 : (.instanceMethod y_Pr_isSignal : Cond) ∈ lw_gd := tb_mem (i := 1159) (by decide +kernel) (by decide +kernel)
theorem mw_1160 : (.selects "BreweryHouse$Program" y_Pr_isSignal y_Pr_isSignal : Cond) ∈ lw_gd := tb_mem (i := 1160) (by decide +kernel) (by decide +kernel)
theorem mw_1161 : (.code y_Pr_isSignal b_Pr_isSignal 2 (some .boolean) : Cond) ∈ lw_gd := tb_mem (i := 1161) (by decide +kernel) (by decide +kernel)
theorem mw_1196 : (.instanceMethod y_St_isValve : Cond) ∈ lw_gd := tb_mem (i := 1196) (by decide +kernel) (by decide +kernel)
theorem mw_1197 : (.selects "BreweryHouse$Stock" y_St_isValve y_St_isValve : Cond) ∈ lw_gd := tb_mem (i := 1197) (by decide +kernel) (by decide +kernel)
theorem mw_1198 : (.code y_St_isValve b_St_isValve 2 (some .boolean) : Cond) ∈ lw_gd := tb_mem (i := 1198) (by decide +kernel) (by decide +kernel)
theorem mw_1200 : (.instanceMethod y_St_isHolder : Cond) ∈ lw_gd := tb_mem (i := 1200) (by decide +kernel) (by decide +kernel)
theorem mw_1201 : (.selects "BreweryHouse$Stock" y_St_isHolder y_St_isHolder : Cond) ∈ lw_gd := tb_mem (i := 1201) (by decide +kernel) (by decide +kernel)
theorem mw_1202 : (.code y_St_isHolder b_St_isHolder 2 (some .boolean) : Cond) ∈ lw_gd := tb_mem (i := 1202) (by decide +kernel) (by decide +kernel)
theorem mw_1203 : (.methodLink "BreweryHouse$Stock" 70 y_St_isTank : Cond) ∈ lw_gd := tb_mem (i := 1203) (by decide +kernel) (by decide +kernel)
theorem mw_1204 : (.methodLink "BreweryHouse$Stock" 74 y_St_isPipe : Cond) ∈ lw_gd := tb_mem (i := 1204) (by decide +kernel) (by decide +kernel)
theorem mw_1205 : (.instanceMethod y_St_isPipe : Cond) ∈ lw_gd := tb_mem (i := 1205) (by decide +kernel) (by decide +kernel)
theorem mw_1206 : (.selects "BreweryHouse$Stock" y_St_isPipe y_St_isPipe : Cond) ∈ lw_gd := tb_mem (i := 1206) (by decide +kernel) (by decide +kernel)
theorem mw_1207 : (.code y_St_isPipe b_St_isPipe 2 (some .boolean) : Cond) ∈ lw_gd := tb_mem (i := 1207) (by decide +kernel) (by decide +kernel)
theorem mw_1297 : (.methodLink "BreweryHouse" 270 y_Ru_isAlive : Cond) ∈ lw_gd := tb_mem (i := 1297) (by decide +kernel) (by decide +kernel)
theorem mw_1298 : (.instanceMethod y_Ru_isAlive : Cond) ∈ lw_gd := tb_mem (i := 1298) (by decide +kernel) (by decide +kernel)
theorem mw_1299 : (.selects "BreweryHouse$Run" y_Ru_isAlive y_Ru_isAlive : Cond) ∈ lw_gd := tb_mem (i := 1299) (by decide +kernel) (by decide +kernel)
theorem mw_1300 : (.code y_Ru_isAlive b_Ru_isAlive 1 (some .boolean) : Cond) ∈ lw_gd := tb_mem (i := 1300) (by decide +kernel) (by decide +kernel)
theorem mw_1332 : (.methodLink "BreweryHouse" 306 y_St_isHolder : Cond) ∈ lw_gd := tb_mem (i := 1332) (by decide +kernel) (by decide +kernel)
theorem mw_1333 : (.methodLink "BreweryHouse" 309 y_St_isValve : Cond) ∈ lw_gd := tb_mem (i := 1333) (by decide +kernel) (by decide +kernel)
theorem mw_1484 : (.methodLink "BreweryHouse" 320 y_Ro_has : Cond) ∈ lw_gd := tb_mem (i := 1484) (by decide +kernel) (by decide +kernel)
theorem mw_1485 : (.instanceMethod y_Ro_has : Cond) ∈ lw_gd := tb_mem (i := 1485) (by decide +kernel) (by decide +kernel)
theorem mw_1486 : (.selects "BreweryHouse$Rows" y_Ro_has y_Ro_has : Cond) ∈ lw_gd := tb_mem (i := 1486) (by decide +kernel) (by decide +kernel)
theorem mw_1487 : (.code y_Ro_has b_Ro_has 2 (some .boolean) : Cond) ∈ lw_gd := tb_mem (i := 1487) (by decide +kernel) (by decide +kernel)
theorem mw_1513 : (.methodLink "BreweryHouse" 342 y_Pr_hasValue : Cond) ∈ lw_gd := tb_mem (i := 1513) (by decide +kernel) (by decide +kernel)
theorem mw_1527 : (.methodLink "BreweryHouse" 348 y_Al_get : Cond) ∈ lw_gd := tb_mem (i := 1527) (by decide +kernel) (by decide +kernel)
theorem mw_1528 : (.instanceMethod y_Al_get : Cond) ∈ lw_gd := tb_mem (i := 1528) (by decide +kernel) (by decide +kernel)
theorem mw_1529 : (.selects "BreweryHouse$Alarms" y_Al_get y_Al_get : Cond) ∈ lw_gd := tb_mem (i := 1529) (by decide +kernel) (by decide +kernel)
theorem mw_1530 : (.code y_Al_get b_Al_get 3 (some .int) : Cond) ∈ lw_gd := tb_mem (i := 1530) (by decide +kernel) (by decide +kernel)
theorem mw_1535 : (.methodLink "BreweryHouse" 352 y_Wa_get : Cond) ∈ lw_gd := tb_mem (i := 1535) (by decide +kernel) (by decide +kernel)
theorem mw_1536 : (.instanceMethod y_Wa_get : Cond) ∈ lw_gd := tb_mem (i := 1536) (by decide +kernel) (by decide +kernel)
theorem mw_1537 : (.selects "BreweryHouse$Ways" y_Wa_get y_Wa_get : Cond) ∈ lw_gd := tb_mem (i := 1537) (by decide +kernel) (by decide +kernel)
theorem mw_1538 : (.code y_Wa_get b_Wa_get 5 (some .int) : Cond) ∈ lw_gd := tb_mem (i := 1538) (by decide +kernel) (by decide +kernel)
theorem d_Bh_second_0 : decode b_Bh_second 0 = .ok (.aload_n 0, 1) := by decide +kernel
theorem d_Bh_second_1 : decode b_Bh_second 1 = .ok (.getfield 26, 3) := by decide +kernel
theorem d_Bh_second_4 : decode b_Bh_second 4 = .ok (.getfield 261, 3) := by decide +kernel
theorem d_Bh_second_7 : decode b_Bh_second 7 = .ok (.ireturn, 1) := by decide +kernel
set_option maxHeartbeats 4000000 in
set_option maxRecDepth 100000 in
theorem c_Bh_second (l : Launch) (dC : Nat → ClassId) (dI : Nat → Nat → Nat) (cI cB cZ cJ : ClassId) (oB : Nat) (oSt : Nat) (xb : List Value) (hb_stock : xb[2]? = some (.ref oSt)) (xs_ : List Value) (hst_now : xs_[1]? = some (.int 0)) (sz : Nat) : Met l y_Bh_second w_Bh_second ({ frames := 0, cells := 0, slots := 0, locals := 0 }) (va_Pc [.ref oB] (PW dC dI cI cB cZ cJ [(oB, .inr (0, xb)), (oSt, .inr (4, xs_))] sz)) (va_Qi (fun (r : Int32) (_ : Unit) => r = 0) (fun _ _ => True) (va_A [] sz)) 0 0 (va_A [] sz) := by
  refine Met.ofW (cc := b_Bh_second) (maxL := 1) (ret := (some .int)) (by decide) rfl ?_
  intro p e s m args below meth c s₁ B hml hv
  obtain ⟨rfl, hsz, hP, hK, hD⟩ := hv
  have hx := B.exec
  have hb := B.bytes
  have hr := B.returns
  have hts := atoms_spec (ws := w_Bh_second) B.pre
  have hown : s.vm.findClass R_Bh = some m.cls := findClass_of_methodNamed B.named
  have hlocks := B.notSynchronized
  subst hsz
  generalize hAe : va_A [] s.heap.size = A at ⊢
  have hA : ∀ q : Nat, s.heap.size ≤ q → A q := fun q h => by rw [← hAe]; exact Or.inr h
  have hS : va_S A s.heap s.heap [] := va_S.rf
  have hP : va_P (dC, dI) classes [(oB, .inr (0, xb)), (oSt, .inr (4, xs_))] s.heap := hP
  have hl := lv_entry ([.ref oB]) (n := 1) (Nat.le_of_ble_eq_true rfl)
  rw [lg_entry_eq]
  generalize (lg_sl ([.ref oB]) ++ List.replicate (1 - (lg_sl ([.ref oB])).length) Slot.unset).toArray = ls at hl ⊢
  have hl : lv_has ls 1 [(0, .ref oB)] := hl
  refine lv_aload_n hx hb d_Bh_second_0 rfl (lv_at hl 0 rfl) ?_
  refine va_get (D := (dC, dI)) (ci := 0) (v := .ref oSt) (C := R_Bh) (T := F_Bh) (N := 16) hx hb hts (fun w h => List.mem_cons_of_mem _ (in_Bh w h)) hown hK.1 hP 0 rfl rfl 2 (by decide) (hts _ (List.mem_cons_of_mem _ mw_686)) (fun _ h9 => h9) hb_stock d_Bh_second_1 ?_
  refine va_get (D := (dC, dI)) (ci := 4) (v := .int 0) (C := R_St) (T := F_St) (N := 12) hx hb hts (fun w h => List.mem_cons_of_mem _ (in_St w h)) hown hK.1 hP 1 rfl rfl 1 (by decide) (hts _ (List.mem_cons_of_mem _ mw_156)) (fun _ h9 => h9) hst_now d_Bh_second_4 ?_
  exact W.iret (v := 0) hx hb hr (fun t ht hW => ⟨⟨_, (), rfl, (rfl), trivial⟩, hS.F ht⟩) hS.2.2 d_Bh_second_7
theorem d_Bh_state_0 : decode b_Bh_state 0 = .ok (.aload_n 0, 1) := by decide +kernel
theorem d_Bh_state_1 : decode b_Bh_state 1 = .ok (.getfield 62, 3) := by decide +kernel
theorem d_Bh_state_4 : decode b_Bh_state 4 = .ok (.getfield 161, 3) := by decide +kernel
theorem d_Bh_state_7 : decode b_Bh_state 7 = .ok (.ireturn, 1) := by decide +kernel
set_option maxHeartbeats 4000000 in
set_option maxRecDepth 100000 in
theorem c_Bh_state (l : Launch) (dC : Nat → ClassId) (dI : Nat → Nat → Nat) (cI cB cZ cJ : ClassId) (oB : Nat) (oRu : Nat) (xb : List Value) (hb_run : xb[6]? = some (.ref oRu)) (xn : List Value) (hru_state : xn[4]? = some (.int 4)) (sz : Nat) : Met l y_Bh_state w_Bh_state ({ frames := 0, cells := 0, slots := 0, locals := 0 }) (va_Pc [.ref oB] (PW dC dI cI cB cZ cJ [(oB, .inr (0, xb)), (oRu, .inr (10, xn))] sz)) (va_Qi (fun (r : Int32) (_ : Unit) => r = 4) (fun _ _ => True) (va_A [] sz)) 0 0 (va_A [] sz) := by
  refine Met.ofW (cc := b_Bh_state) (maxL := 1) (ret := (some .int)) (by decide) rfl ?_
  intro p e s m args below meth c s₁ B hml hv
  obtain ⟨rfl, hsz, hP, hK, hD⟩ := hv
  have hx := B.exec
  have hb := B.bytes
  have hr := B.returns
  have hts := atoms_spec (ws := w_Bh_state) B.pre
  have hown : s.vm.findClass R_Bh = some m.cls := findClass_of_methodNamed B.named
  have hlocks := B.notSynchronized
  subst hsz
  generalize hAe : va_A [] s.heap.size = A at ⊢
  have hA : ∀ q : Nat, s.heap.size ≤ q → A q := fun q h => by rw [← hAe]; exact Or.inr h
  have hS : va_S A s.heap s.heap [] := va_S.rf
  have hP : va_P (dC, dI) classes [(oB, .inr (0, xb)), (oRu, .inr (10, xn))] s.heap := hP
  have hl := lv_entry ([.ref oB]) (n := 1) (Nat.le_of_ble_eq_true rfl)
  rw [lg_entry_eq]
  generalize (lg_sl ([.ref oB]) ++ List.replicate (1 - (lg_sl ([.ref oB])).length) Slot.unset).toArray = ls at hl ⊢
  have hl : lv_has ls 1 [(0, .ref oB)] := hl
  refine lv_aload_n hx hb d_Bh_state_0 rfl (lv_at hl 0 rfl) ?_
  refine va_get (D := (dC, dI)) (ci := 0) (v := .ref oRu) (C := R_Bh) (T := F_Bh) (N := 16) hx hb hts (fun w h => List.mem_cons_of_mem _ (in_Bh w h)) hown hK.1 hP 0 rfl rfl 6 (by decide) (hts _ (List.mem_cons_of_mem _ mw_690)) (fun _ h9 => h9) hb_run d_Bh_state_1 ?_
  refine va_get (D := (dC, dI)) (ci := 10) (v := .int 4) (C := R_Ru) (T := F_Ru) (N := 21) hx hb hts (fun w h => List.mem_cons_of_mem _ (in_Ru w h)) hown hK.1 hP 1 rfl rfl 4 (by decide) (hts _ (List.mem_cons_of_mem _ mw_517)) (fun _ h9 => h9) hru_state d_Bh_state_4 ?_
  exact W.iret (v := 4) hx hb hr (fun t ht hW => ⟨⟨_, (), rfl, (rfl), trivial⟩, hS.F ht⟩) hS.2.2 d_Bh_state_7
theorem d_St_isTank_0 : decode b_St_isTank 0 = .ok (.iload_n 1, 1) := by decide +kernel
theorem d_St_isTank_1 : decode b_St_isTank 1 = .ok (.ifCond .lt 32, 3) := by decide +kernel
theorem d_St_isTank_4 : decode b_St_isTank 4 = .ok (.iload_n 1, 1) := by decide +kernel
theorem d_St_isTank_5 : decode b_St_isTank 5 = .ok (.aload_n 0, 1) := by decide +kernel
theorem d_St_isTank_6 : decode b_St_isTank 6 = .ok (.getfield 12, 3) := by decide +kernel
theorem d_St_isTank_9 : decode b_St_isTank 9 = .ok (.getfield 60, 3) := by decide +kernel
theorem d_St_isTank_12 : decode b_St_isTank 12 = .ok (.if_icmp .ge 21, 3) := by decide +kernel
theorem d_St_isTank_33 : decode b_St_isTank 33 = .ok (.iconst 0, 1) := by decide +kernel
theorem d_St_isTank_34 : decode b_St_isTank 34 = .ok (.ireturn, 1) := by decide +kernel
set_option maxHeartbeats 4000000 in
set_option maxRecDepth 100000 in
theorem c_St_isTank (l : Launch) (dC : Nat → ClassId) (dI : Nat → Nat → Nat) (cI cB cZ cJ : ClassId) (th : Int32) (oSt : Nat) (oP1 : Nat) (xs_ : List Value) (hst_plant : xs_[0]? = some (.ref oP1)) (xp : List Value) (hxp_things : xp[0]? = some (.int 0)) (sz : Nat) : Met l y_St_isTank w_St_isTank ({ frames := 0, cells := 0, slots := 0, locals := 0 }) (va_Pc [.ref oSt, .int th] (PW dC dI cI cB cZ cJ [(oSt, .inr (4, xs_)), (oP1, .inr (3, xp))] sz)) (va_Qi (fun (r : Int32) (_ : Unit) => r = 0) (fun _ _ => True) (va_A [] sz)) 0 0 (va_A [] sz) := by
  refine Met.ofW (cc := b_St_isTank) (maxL := 2) (ret := (some .boolean)) (by decide) rfl ?_
  intro p e s m args below meth c s₁ B hml hv
  obtain ⟨rfl, hsz, hP, hK, hD⟩ := hv
  have hx := B.exec
  have hb := B.bytes
  have hr := B.returns
  have hts := atoms_spec (ws := w_St_isTank) B.pre
  have hown : s.vm.findClass R_St = some m.cls := findClass_of_methodNamed B.named
  have hlocks := B.notSynchronized
  subst hsz
  generalize hAe : va_A [] s.heap.size = A at ⊢
  have hA : ∀ q : Nat, s.heap.size ≤ q → A q := fun q h => by rw [← hAe]; exact Or.inr h
  have hS : va_S A s.heap s.heap [] := va_S.rf
  have hP : va_P (dC, dI) classes [(oSt, .inr (4, xs_)), (oP1, .inr (3, xp))] s.heap := hP
  have hl := lv_entry ([.ref oSt, .int th]) (n := 2) (Nat.le_of_ble_eq_true rfl)
  rw [lg_entry_eq]
  generalize (lg_sl ([.ref oSt, .int th]) ++ List.replicate (2 - (lg_sl ([.ref oSt, .int th])).length) Slot.unset).toArray = ls at hl ⊢
  have hl : lv_has ls 2 [(0, .ref oSt), (1, .int th)] := hl
  refine lv_iload_n hx hb d_St_isTank_0 rfl (lv_at hl 1 rfl) ?_
  refine lv_if_lt (tgt := 33) hx hb d_St_isTank_1 (by decide) (fun h1 => ?_) (fun h1 => ?_)
  · refine lv_iconst (v := 0) hx hb d_St_isTank_33 (by decide) ?_
    exact W.zret (v := 0) (ty := .boolean) hx hb hr (by decide) (fun t ht hW => ⟨⟨_, (), rfl, (rfl), trivial⟩, hS.F ht⟩) hS.2.2 d_St_isTank_34
  · refine lv_iload_n hx hb d_St_isTank_4 rfl (lv_at hl 1 rfl) ?_
    refine lv_aload_n hx hb d_St_isTank_5 rfl (lv_at hl 0 rfl) ?_
    refine va_get (D := (dC, dI)) (ci := 4) (v := .ref oP1) (C := R_St) (T := F_St) (N := 12) hx hb hts (fun w h => List.mem_cons_of_mem _ (in_St w h)) hown hK.1 hP 0 rfl rfl 0 (by decide) (hts _ (List.mem_cons_of_mem _ mw_149)) (fun _ h9 => h9) hst_plant d_St_isTank_6 ?_
    refine va_get (D := (dC, dI)) (ci := 3) (v := .int 0) (C := R_Pl) (T := F_Pl) (N := 12) hx hb hts (fun w h => List.mem_cons_of_mem _ (in_Pl w h)) hown hK.1 hP 1 rfl rfl 0 (by decide) (hts _ (List.mem_cons_of_mem _ mw_88)) (fun _ h9 => h9) hxp_things d_St_isTank_9 ?_
    refine lv_icmp_ge (tgt := 33) hx hb d_St_isTank_12 (by decide) (fun _ => ?_) (fun h => absurd (nd_le h1 (by decide)) h)
    refine lv_iconst (v := 0) hx hb d_St_isTank_33 (by decide) ?_
    exact W.zret (v := 0) (ty := .boolean) hx hb hr (by decide) (fun t ht hW => ⟨⟨_, (), rfl, (rfl), trivial⟩, hS.F ht⟩) hS.2.2 d_St_isTank_34
theorem d_St_isValve_0 : decode b_St_isValve 0 = .ok (.iload_n 1, 1) := by decide +kernel
theorem d_St_isValve_1 : decode b_St_isValve 1 = .ok (.ifCond .lt 32, 3) := by decide +kernel
theorem d_St_isValve_4 : decode b_St_isValve 4 = .ok (.iload_n 1, 1) := by decide +kernel
theorem d_St_isValve_5 : decode b_St_isValve 5 = .ok (.aload_n 0, 1) := by decide +kernel
theorem d_St_isValve_6 : decode b_St_isValve 6 = .ok (.getfield 12, 3) := by decide +kernel
theorem d_St_isValve_9 : decode b_St_isValve 9 = .ok (.getfield 60, 3) := by decide +kernel
theorem d_St_isValve_12 : decode b_St_isValve 12 = .ok (.if_icmp .ge 21, 3) := by decide +kernel
theorem d_St_isValve_33 : decode b_St_isValve 33 = .ok (.iconst 0, 1) := by decide +kernel
theorem d_St_isValve_34 : decode b_St_isValve 34 = .ok (.ireturn, 1) := by decide +kernel
set_option maxHeartbeats 4000000 in
set_option maxRecDepth 100000 in
theorem c_St_isValve (l : Launch) (dC : Nat → ClassId) (dI : Nat → Nat → Nat) (cI cB cZ cJ : ClassId) (th : Int32) (oSt : Nat) (oP1 : Nat) (xs_ : List Value) (hst_plant : xs_[0]? = some (.ref oP1)) (xp : List Value) (hxp_things : xp[0]? = some (.int 0)) (sz : Nat) : Met l y_St_isValve w_St_isValve ({ frames := 0, cells := 0, slots := 0, locals := 0 }) (va_Pc [.ref oSt, .int th] (PW dC dI cI cB cZ cJ [(oSt, .inr (4, xs_)), (oP1, .inr (3, xp))] sz)) (va_Qi (fun (r : Int32) (_ : Unit) => r = 0) (fun _ _ => True) (va_A [] sz)) 0 0 (va_A [] sz) := by
  refine Met.ofW (cc := b_St_isValve) (maxL := 2) (ret := (some .boolean)) (by decide) rfl ?_
  intro p e s m args below meth c s₁ B hml hv
  obtain ⟨rfl, hsz, hP, hK, hD⟩ := hv
  have hx := B.exec
  have hb := B.bytes
  have hr := B.returns
  have hts := atoms_spec (ws := w_St_isValve) B.pre
  have hown : s.vm.findClass R_St = some m.cls := findClass_of_methodNamed B.named
  have hlocks := B.notSynchronized
  subst hsz
  generalize hAe : va_A [] s.heap.size = A at ⊢
  have hA : ∀ q : Nat, s.heap.size ≤ q → A q := fun q h => by rw [← hAe]; exact Or.inr h
  have hS : va_S A s.heap s.heap [] := va_S.rf
  have hP : va_P (dC, dI) classes [(oSt, .inr (4, xs_)), (oP1, .inr (3, xp))] s.heap := hP
  have hl := lv_entry ([.ref oSt, .int th]) (n := 2) (Nat.le_of_ble_eq_true rfl)
  rw [lg_entry_eq]
  generalize (lg_sl ([.ref oSt, .int th]) ++ List.replicate (2 - (lg_sl ([.ref oSt, .int th])).length) Slot.unset).toArray = ls at hl ⊢
  have hl : lv_has ls 2 [(0, .ref oSt), (1, .int th)] := hl
  refine lv_iload_n hx hb d_St_isValve_0 rfl (lv_at hl 1 rfl) ?_
  refine lv_if_lt (tgt := 33) hx hb d_St_isValve_1 (by decide) (fun h1 => ?_) (fun h1 => ?_)
  · refine lv_iconst (v := 0) hx hb d_St_isValve_33 (by decide) ?_
    exact W.zret (v := 0) (ty := .boolean) hx hb hr (by decide) (fun t ht hW => ⟨⟨_, (), rfl, (rfl), trivial⟩, hS.F ht⟩) hS.2.2 d_St_isValve_34
  · refine lv_iload_n hx hb d_St_isValve_4 rfl (lv_at hl 1 rfl) ?_
    refine lv_aload_n hx hb d_St_isValve_5 rfl (lv_at hl 0 rfl) ?_
    refine va_get (D := (dC, dI)) (ci := 4) (v := .ref oP1) (C := R_St) (T := F_St) (N := 12) hx hb hts (fun w h => List.mem_cons_of_mem _ (in_St w h)) hown hK.1 hP 0 rfl rfl 0 (by decide) (hts _ (List.mem_cons_of_mem _ mw_149)) (fun _ h9 => h9) hst_plant d_St_isValve_6 ?_
    refine va_get (D := (dC, dI)) (ci := 3) (v := .int 0) (C := R_Pl) (T := F_Pl) (N := 12) hx hb hts (fun w h => List.mem_cons_of_mem _ (in_Pl w h)) hown hK.1 hP 1 rfl rfl 0 (by decide) (hts _ (List.mem_cons_of_mem _ mw_88)) (fun _ h9 => h9) hxp_things d_St_isValve_9 ?_
    refine lv_icmp_ge (tgt := 33) hx hb d_St_isValve_12 (by decide) (fun _ => ?_) (fun h => absurd (nd_le h1 (by decide)) h)
    refine lv_iconst (v := 0) hx hb d_St_isValve_33 (by decide) ?_
    exact W.zret (v := 0) (ty := .boolean) hx hb hr (by decide) (fun t ht hW => ⟨⟨_, (), rfl, (rfl), trivial⟩, hS.F ht⟩) hS.2.2 d_St_isValve_34
theorem d_St_isPipe_0 : decode b_St_isPipe 0 = .ok (.iload_n 1, 1) := by decide +kernel
theorem d_St_isPipe_1 : decode b_St_isPipe 1 = .ok (.aload_n 0, 1) := by decide +kernel
theorem d_St_isPipe_2 : decode b_St_isPipe 2 = .ok (.getfield 12, 3) := by decide +kernel
theorem d_St_isPipe_5 : decode b_St_isPipe 5 = .ok (.getfield 60, 3) := by decide +kernel
theorem d_St_isPipe_8 : decode b_St_isPipe 8 = .ok (.if_icmp .lt 26, 3) := by decide +kernel
theorem d_St_isPipe_11 : decode b_St_isPipe 11 = .ok (.iload_n 1, 1) := by decide +kernel
theorem d_St_isPipe_12 : decode b_St_isPipe 12 = .ok (.aload_n 0, 1) := by decide +kernel
theorem d_St_isPipe_13 : decode b_St_isPipe 13 = .ok (.getfield 12, 3) := by decide +kernel
theorem d_St_isPipe_16 : decode b_St_isPipe 16 = .ok (.getfield 60, 3) := by decide +kernel
theorem d_St_isPipe_19 : decode b_St_isPipe 19 = .ok (.aload_n 0, 1) := by decide +kernel
theorem d_St_isPipe_20 : decode b_St_isPipe 20 = .ok (.getfield 12, 3) := by decide +kernel
theorem d_St_isPipe_23 : decode b_St_isPipe 23 = .ok (.getfield 67, 3) := by decide +kernel
theorem d_St_isPipe_26 : decode b_St_isPipe 26 = .ok (.iadd, 1) := by decide +kernel
theorem d_St_isPipe_27 : decode b_St_isPipe 27 = .ok (.if_icmp .ge 7, 3) := by decide +kernel
theorem d_St_isPipe_34 : decode b_St_isPipe 34 = .ok (.iconst 0, 1) := by decide +kernel
theorem d_St_isPipe_35 : decode b_St_isPipe 35 = .ok (.ireturn, 1) := by decide +kernel
set_option maxHeartbeats 4000000 in
set_option maxRecDepth 100000 in
theorem c_St_isPipe (l : Launch) (dC : Nat → ClassId) (dI : Nat → Nat → Nat) (cI cB cZ cJ : ClassId) (th : Int32) (oSt : Nat) (oP1 : Nat) (xs_ : List Value) (hst_plant : xs_[0]? = some (.ref oP1)) (xp : List Value) (hxp_things : xp[0]? = some (.int 0)) (hxp_pipes : xp[1]? = some (.int 0)) (sz : Nat) : Met l y_St_isPipe w_St_isPipe ({ frames := 0, cells := 0, slots := 0, locals := 0 }) (va_Pc [.ref oSt, .int th] (PW dC dI cI cB cZ cJ [(oSt, .inr (4, xs_)), (oP1, .inr (3, xp))] sz)) (va_Qi (fun (r : Int32) (_ : Unit) => r = 0) (fun _ _ => True) (va_A [] sz)) 0 0 (va_A [] sz) := by
  refine Met.ofW (cc := b_St_isPipe) (maxL := 2) (ret := (some .boolean)) (by decide) rfl ?_
  intro p e s m args below meth c s₁ B hml hv
  obtain ⟨rfl, hsz, hP, hK, hD⟩ := hv
  have hx := B.exec
  have hb := B.bytes
  have hr := B.returns
  have hts := atoms_spec (ws := w_St_isPipe) B.pre
  have hown : s.vm.findClass R_St = some m.cls := findClass_of_methodNamed B.named
  have hlocks := B.notSynchronized
  subst hsz
  generalize hAe : va_A [] s.heap.size = A at ⊢
  have hA : ∀ q : Nat, s.heap.size ≤ q → A q := fun q h => by rw [← hAe]; exact Or.inr h
  have hS : va_S A s.heap s.heap [] := va_S.rf
  have hP : va_P (dC, dI) classes [(oSt, .inr (4, xs_)), (oP1, .inr (3, xp))] s.heap := hP
  have hl := lv_entry ([.ref oSt, .int th]) (n := 2) (Nat.le_of_ble_eq_true rfl)
  rw [lg_entry_eq]
  generalize (lg_sl ([.ref oSt, .int th]) ++ List.replicate (2 - (lg_sl ([.ref oSt, .int th])).length) Slot.unset).toArray = ls at hl ⊢
  have hl : lv_has ls 2 [(0, .ref oSt), (1, .int th)] := hl
  refine lv_iload_n hx hb d_St_isPipe_0 rfl (lv_at hl 1 rfl) ?_
  refine lv_aload_n hx hb d_St_isPipe_1 rfl (lv_at hl 0 rfl) ?_
  refine va_get (D := (dC, dI)) (ci := 4) (v := .ref oP1) (C := R_St) (T := F_St) (N := 12) hx hb hts (fun w h => List.mem_cons_of_mem _ (in_St w h)) hown hK.1 hP 0 rfl rfl 0 (by decide) (hts _ (List.mem_cons_of_mem _ mw_149)) (fun _ h9 => h9) hst_plant d_St_isPipe_2 ?_
  refine va_get (D := (dC, dI)) (ci := 3) (v := .int 0) (C := R_Pl) (T := F_Pl) (N := 12) hx hb hts (fun w h => List.mem_cons_of_mem _ (in_Pl w h)) hown hK.1 hP 1 rfl rfl 0 (by decide) (hts _ (List.mem_cons_of_mem _ mw_88)) (fun _ h9 => h9) hxp_things d_St_isPipe_5 ?_
  refine lv_icmp_lt (tgt := 34) hx hb d_St_isPipe_8 (by decide) (fun h8 => ?_) (fun h8 => ?_)
  · refine lv_iconst (v := 0) hx hb d_St_isPipe_34 (by decide) ?_
    exact W.zret (v := 0) (ty := .boolean) hx hb hr (by decide) (fun t ht hW => ⟨⟨_, (), rfl, (rfl), trivial⟩, hS.F ht⟩) hS.2.2 d_St_isPipe_35
  · refine lv_iload_n hx hb d_St_isPipe_11 rfl (lv_at hl 1 rfl) ?_
    refine lv_aload_n hx hb d_St_isPipe_12 rfl (lv_at hl 0 rfl) ?_
    refine va_get (D := (dC, dI)) (ci := 4) (v := .ref oP1) (C := R_St) (T := F_St) (N := 12) hx hb hts (fun w h => List.mem_cons_of_mem _ (in_St w h)) hown hK.1 hP 0 rfl rfl 0 (by decide) (hts _ (List.mem_cons_of_mem _ mw_149)) (fun _ h9 => h9) hst_plant d_St_isPipe_13 ?_
    refine va_get (D := (dC, dI)) (ci := 3) (v := .int 0) (C := R_Pl) (T := F_Pl) (N := 12) hx hb hts (fun w h => List.mem_cons_of_mem _ (in_Pl w h)) hown hK.1 hP 1 rfl rfl 0 (by decide) (hts _ (List.mem_cons_of_mem _ mw_88)) (fun _ h9 => h9) hxp_things d_St_isPipe_16 ?_
    refine lv_aload_n hx hb d_St_isPipe_19 rfl (lv_at hl 0 rfl) ?_
    refine va_get (D := (dC, dI)) (ci := 4) (v := .ref oP1) (C := R_St) (T := F_St) (N := 12) hx hb hts (fun w h => List.mem_cons_of_mem _ (in_St w h)) hown hK.1 hP 0 rfl rfl 0 (by decide) (hts _ (List.mem_cons_of_mem _ mw_149)) (fun _ h9 => h9) hst_plant d_St_isPipe_20 ?_
    refine va_get (D := (dC, dI)) (ci := 3) (v := .int 0) (C := R_Pl) (T := F_Pl) (N := 12) hx hb hts (fun w h => List.mem_cons_of_mem _ (in_Pl w h)) hown hK.1 hP 1 rfl rfl 1 (by decide) (hts _ (List.mem_cons_of_mem _ mw_94)) (fun _ h9 => h9) hxp_pipes d_St_isPipe_23 ?_
    refine lv_iadd hx hb d_St_isPipe_26 ?_
    refine lv_topi (fun x0 e0 => ?_)
    obtain rfl : x0 = 0 := e0.trans (by decide)
    refine lv_icmp_ge (tgt := 34) hx hb d_St_isPipe_27 (by decide) (fun _ => ?_) (fun h => absurd (nd_le h8 (by decide)) h)
    refine lv_iconst (v := 0) hx hb d_St_isPipe_34 (by decide) ?_
    exact W.zret (v := 0) (ty := .boolean) hx hb hr (by decide) (fun t ht hW => ⟨⟨_, (), rfl, (rfl), trivial⟩, hS.F ht⟩) hS.2.2 d_St_isPipe_35
theorem d_St_isHolder_0 : decode b_St_isHolder 0 = .ok (.aload_n 0, 1) := by decide +kernel
theorem d_St_isHolder_1 : decode b_St_isHolder 1 = .ok (.iload_n 1, 1) := by decide +kernel
theorem d_St_isHolder_2 : decode b_St_isHolder 2 = .ok (.invokevirtual 70, 3) := by decide +kernel
theorem d_St_isHolder_5 : decode b_St_isHolder 5 = .ok (.ifCond .ne 11, 3) := by decide +kernel
theorem d_St_isHolder_8 : decode b_St_isHolder 8 = .ok (.aload_n 0, 1) := by decide +kernel
theorem d_St_isHolder_9 : decode b_St_isHolder 9 = .ok (.iload_n 1, 1) := by decide +kernel
theorem d_St_isHolder_10 : decode b_St_isHolder 10 = .ok (.invokevirtual 74, 3) := by decide +kernel
theorem d_St_isHolder_13 : decode b_St_isHolder 13 = .ok (.ifCond .eq 7, 3) := by decide +kernel
theorem d_St_isHolder_20 : decode b_St_isHolder 20 = .ok (.iconst 0, 1) := by decide +kernel
theorem d_St_isHolder_21 : decode b_St_isHolder 21 = .ok (.ireturn, 1) := by decide +kernel
set_option maxHeartbeats 4000000 in
set_option maxRecDepth 100000 in
theorem c_St_isHolder (l : Launch) (dC : Nat → ClassId) (dI : Nat → Nat → Nat) (cI cB cZ cJ : ClassId) (th : Int32) (oSt : Nat) (oP1 : Nat) (xs_ : List Value) (hst_plant : xs_[0]? = some (.ref oP1)) (xp : List Value) (hxp_things : xp[0]? = some (.int 0)) (hxp_pipes : xp[1]? = some (.int 0)) (sz : Nat) : Met l y_St_isHolder w_St_isHolder ({ frames := 1, cells := 0, slots := 0, locals := 21 }) (va_Pc [.ref oSt, .int th] (PW dC dI cI cB cZ cJ [(oSt, .inr (4, xs_)), (oP1, .inr (3, xp))] sz)) (va_Qi (fun (r : Int32) (_ : Unit) => r = 0) (fun _ _ => True) (va_A [] sz)) 0 0 (va_A [] sz) := by
  refine Met.ofW (cc := b_St_isHolder) (maxL := 2) (ret := (some .boolean)) (by decide) rfl ?_
  intro p e s m args below meth c s₁ B hml hv
  obtain ⟨rfl, hsz, hP, hK, hD⟩ := hv
  have hx := B.exec
  have hb := B.bytes
  have hr := B.returns
  have hts := atoms_spec (ws := w_St_isHolder) B.pre
  have hown : s.vm.findClass R_St = some m.cls := findClass_of_methodNamed B.named
  have hlocks := B.notSynchronized
  subst hsz
  generalize hAe : va_A [] s.heap.size = A at ⊢
  have hA : ∀ q : Nat, s.heap.size ≤ q → A q := fun q h => by rw [← hAe]; exact Or.inr h
  have hS : va_S A s.heap s.heap [] := va_S.rf
  have hP : va_P (dC, dI) classes [(oSt, .inr (4, xs_)), (oP1, .inr (3, xp))] s.heap := hP
  have hl := lv_entry ([.ref oSt, .int th]) (n := 2) (Nat.le_of_ble_eq_true rfl)
  rw [lg_entry_eq]
  generalize (lg_sl ([.ref oSt, .int th]) ++ List.replicate (2 - (lg_sl ([.ref oSt, .int th])).length) Slot.unset).toArray = ls at hl ⊢
  have hl : lv_has ls 2 [(0, .ref oSt), (1, .int th)] := hl
  refine lv_aload_n hx hb d_St_isHolder_0 rfl (lv_at hl 0 rfl) ?_
  refine lv_iload_n hx hb d_St_isHolder_1 rfl (lv_at hl 1 rfl) ?_
  have hPc := hP.sub (ws' := [(oSt, .inr (4, xs_)), (oP1, .inr (3, xp))]) [0, 1] rfl
  have hDc := hD.sub (ws' := [(oSt, .inr (4, xs_)), (oP1, .inr (3, xp))]) [0, 1] (by decide) rfl
  have hFc := pu_free hS hA
  refine va_calli (va_runV (C := R_St) (As := [.int th]) (rest := []) ⟨hx, hb, hml, hown, hts⟩ (c_St_isTank l dC dI cI cB cZ cJ th oSt oP1 xs_ hst_plant xp hxp_things s.heap.size) (cwV 1 hts (tb_V mw_1203 mw_1076 mw_1077 mw_4 mw_1078) rfl rfl rfl ⟨rfl, by decide +kernel, by decide +kernel, by decide +kernel⟩ ⟨(Nat.le_of_ble_eq_true rfl), (Nat.le_of_ble_eq_true rfl)⟩) ⟨pw_blind, va_recv (q := (R_St, F_St, 12)) hK.1 hP (ci := 4) (q0 := 0) rfl rfl, pw_pre hPc hK hDc⟩ rfl rfl hl.1 rfl (lv_room (Nat.le_of_ble_eq_true rfl)) d_St_isHolder_2 ⟨(Nat.le_of_ble_eq_true rfl), (Nat.le_of_ble_eq_true rfl)⟩) hS (fun q _ h => hFc q h) hFc (fun r u t H locs ht hvm hw hB hz1 hk1 hS => ?_)
  have hP := pu_kept hP hk1
  obtain rfl : r = 0 := hw
  refine lv_if_ne (tgt := 16) hx hb d_St_isHolder_5 (by decide) (fun h => absurd rfl h) (fun _ => ?_)
  refine lv_aload_n hx hb d_St_isHolder_8 rfl (lv_at hl 0 rfl) ?_
  refine lv_iload_n hx hb d_St_isHolder_9 rfl (lv_at hl 1 rfl) ?_
  have hPc := hP.sub (ws' := [(oSt, .inr (4, xs_)), (oP1, .inr (3, xp))]) [0, 1] rfl
  have hDc := hD.sub (ws' := [(oSt, .inr (4, xs_)), (oP1, .inr (3, xp))]) [0, 1] (by decide) rfl
  have hFc := pu_free hS hA
  refine va_calli (va_runV (C := R_St) (As := [.int th]) (rest := []) ⟨hx, hb, hml, hown, hts⟩ (c_St_isPipe l dC dI cI cB cZ cJ th oSt oP1 xs_ hst_plant xp hxp_things hxp_pipes H.size) (cwV 1 hts (tb_V mw_1204 mw_1205 mw_1206 mw_4 mw_1207) rfl rfl rfl ⟨rfl, by decide +kernel, by decide +kernel, by decide +kernel⟩ ⟨(Nat.le_of_ble_eq_true rfl), (Nat.le_of_ble_eq_true rfl)⟩) ⟨pw_blind, va_recv (q := (R_St, F_St, 12)) hK.1 hP (ci := 4) (q0 := 0) rfl rfl, pw_pre hPc hK hDc⟩ rfl rfl hl.1 rfl (lv_room (Nat.le_of_ble_eq_true rfl)) d_St_isHolder_10 ⟨(Nat.le_of_ble_eq_true rfl), (Nat.le_of_ble_eq_true rfl)⟩) hS (fun q _ h => hFc q h) hFc (fun r u t H locs ht hvm hw hB hz1 hk1 hS => ?_)
  have hP := pu_kept hP hk1
  obtain rfl : r = 0 := hw
  refine lv_if_eq (tgt := 20) hx hb d_St_isHolder_13 (by decide) (fun _ => ?_) (fun h => absurd (by decide) h)
  refine lv_iconst (v := 0) hx hb d_St_isHolder_20 (by decide) ?_
  exact W.zret (v := 0) (ty := .boolean) hx hb hr (by decide) (fun t ht hW => ⟨⟨_, (), rfl, (rfl), trivial⟩, hS.F ht⟩) hS.2.2 d_St_isHolder_21
theorem d_Pr_isSignal_0 : decode b_Pr_isSignal 0 = .ok (.iload_n 1, 1) := by decide +kernel
theorem d_Pr_isSignal_1 : decode b_Pr_isSignal 1 = .ok (.ifCond .lt 26, 3) := by decide +kernel
theorem d_Pr_isSignal_4 : decode b_Pr_isSignal 4 = .ok (.iload_n 1, 1) := by decide +kernel
theorem d_Pr_isSignal_5 : decode b_Pr_isSignal 5 = .ok (.aload_n 0, 1) := by decide +kernel
theorem d_Pr_isSignal_6 : decode b_Pr_isSignal 6 = .ok (.getfield 65, 3) := by decide +kernel
theorem d_Pr_isSignal_9 : decode b_Pr_isSignal 9 = .ok (.if_icmp .ge 18, 3) := by decide +kernel
theorem d_Pr_isSignal_27 : decode b_Pr_isSignal 27 = .ok (.iconst 0, 1) := by decide +kernel
theorem d_Pr_isSignal_28 : decode b_Pr_isSignal 28 = .ok (.ireturn, 1) := by decide +kernel
set_option maxHeartbeats 4000000 in
set_option maxRecDepth 100000 in
theorem c_Pr_isSignal (l : Launch) (dC : Nat → ClassId) (dI : Nat → Nat → Nat) (cI cB cZ cJ : ClassId) (na : Int32) (oG1 : Nat) (xg : List Value) (hxg_names : xg[10]? = some (.int 0)) (sz : Nat) : Met l y_Pr_isSignal w_Pr_isSignal ({ frames := 0, cells := 0, slots := 0, locals := 0 }) (va_Pc [.ref oG1, .int na] (PW dC dI cI cB cZ cJ [(oG1, .inr (8, xg))] sz)) (va_Qi (fun (r : Int32) (_ : Unit) => r = 0) (fun _ _ => True) (va_A [] sz)) 0 0 (va_A [] sz) := by
  refine Met.ofW (cc := b_Pr_isSignal) (maxL := 2) (ret := (some .boolean)) (by decide) rfl ?_
  intro p e s m args below meth c s₁ B hml hv
  obtain ⟨rfl, hsz, hP, hK, hD⟩ := hv
  have hx := B.exec
  have hb := B.bytes
  have hr := B.returns
  have hts := atoms_spec (ws := w_Pr_isSignal) B.pre
  have hown : s.vm.findClass R_Pr = some m.cls := findClass_of_methodNamed B.named
  have hlocks := B.notSynchronized
  subst hsz
  generalize hAe : va_A [] s.heap.size = A at ⊢
  have hA : ∀ q : Nat, s.heap.size ≤ q → A q := fun q h => by rw [← hAe]; exact Or.inr h
  have hS : va_S A s.heap s.heap [] := va_S.rf
  have hP : va_P (dC, dI) classes [(oG1, .inr (8, xg))] s.heap := hP
  have hl := lv_entry ([.ref oG1, .int na]) (n := 2) (Nat.le_of_ble_eq_true rfl)
  rw [lg_entry_eq]
  generalize (lg_sl ([.ref oG1, .int na]) ++ List.replicate (2 - (lg_sl ([.ref oG1, .int na])).length) Slot.unset).toArray = ls at hl ⊢
  have hl : lv_has ls 2 [(0, .ref oG1), (1, .int na)] := hl
  refine lv_iload_n hx hb d_Pr_isSignal_0 rfl (lv_at hl 1 rfl) ?_
  refine lv_if_lt (tgt := 27) hx hb d_Pr_isSignal_1 (by decide) (fun h1 => ?_) (fun h1 => ?_)
  · refine lv_iconst (v := 0) hx hb d_Pr_isSignal_27 (by decide) ?_
    exact W.zret (v := 0) (ty := .boolean) hx hb hr (by decide) (fun t ht hW => ⟨⟨_, (), rfl, (rfl), trivial⟩, hS.F ht⟩) hS.2.2 d_Pr_isSignal_28
  · refine lv_iload_n hx hb d_Pr_isSignal_4 rfl (lv_at hl 1 rfl) ?_
    refine lv_aload_n hx hb d_Pr_isSignal_5 rfl (lv_at hl 0 rfl) ?_
    refine va_get (D := (dC, dI)) (ci := 8) (v := .int 0) (C := R_Pr) (T := F_Pr) (N := 18) hx hb hts (fun w h => List.mem_cons_of_mem _ (in_Pr w h)) hown hK.1 hP 0 rfl rfl 10 (by decide) (hts _ (List.mem_cons_of_mem _ mw_457)) (fun _ h9 => h9) hxg_names d_Pr_isSignal_6 ?_
    refine lv_icmp_ge (tgt := 27) hx hb d_Pr_isSignal_9 (by decide) (fun _ => ?_) (fun h => absurd (nd_le h1 (by decide)) h)
    refine lv_iconst (v := 0) hx hb d_Pr_isSignal_27 (by decide) ?_
    exact W.zret (v := 0) (ty := .boolean) hx hb hr (by decide) (fun t ht hW => ⟨⟨_, (), rfl, (rfl), trivial⟩, hS.F ht⟩) hS.2.2 d_Pr_isSignal_28
theorem d_Pr_hasValue_0 : decode b_Pr_hasValue 0 = .ok (.iload_n 1, 1) := by decide +kernel
theorem d_Pr_hasValue_1 : decode b_Pr_hasValue 1 = .ok (.ifCond .lt 26, 3) := by decide +kernel
theorem d_Pr_hasValue_4 : decode b_Pr_hasValue 4 = .ok (.iload_n 1, 1) := by decide +kernel
theorem d_Pr_hasValue_5 : decode b_Pr_hasValue 5 = .ok (.aload_n 0, 1) := by decide +kernel
theorem d_Pr_hasValue_6 : decode b_Pr_hasValue 6 = .ok (.getfield 65, 3) := by decide +kernel
theorem d_Pr_hasValue_9 : decode b_Pr_hasValue 9 = .ok (.if_icmp .ge 18, 3) := by decide +kernel
theorem d_Pr_hasValue_27 : decode b_Pr_hasValue 27 = .ok (.iconst 0, 1) := by decide +kernel
theorem d_Pr_hasValue_28 : decode b_Pr_hasValue 28 = .ok (.ireturn, 1) := by decide +kernel
set_option maxHeartbeats 4000000 in
set_option maxRecDepth 100000 in
theorem c_Pr_hasValue (l : Launch) (dC : Nat → ClassId) (dI : Nat → Nat → Nat) (cI cB cZ cJ : ClassId) (na : Int32) (oG1 : Nat) (xg : List Value) (hxg_names : xg[10]? = some (.int 0)) (sz : Nat) : Met l y_Pr_hasValue w_Pr_hasValue ({ frames := 0, cells := 0, slots := 0, locals := 0 }) (va_Pc [.ref oG1, .int na] (PW dC dI cI cB cZ cJ [(oG1, .inr (8, xg))] sz)) (va_Qi (fun (r : Int32) (_ : Unit) => r = 0) (fun _ _ => True) (va_A [] sz)) 0 0 (va_A [] sz) := by
  refine Met.ofW (cc := b_Pr_hasValue) (maxL := 2) (ret := (some .boolean)) (by decide) rfl ?_
  intro p e s m args below meth c s₁ B hml hv
  obtain ⟨rfl, hsz, hP, hK, hD⟩ := hv
  have hx := B.exec
  have hb := B.bytes
  have hr := B.returns
  have hts := atoms_spec (ws := w_Pr_hasValue) B.pre
  have hown : s.vm.findClass R_Pr = some m.cls := findClass_of_methodNamed B.named
  have hlocks := B.notSynchronized
  subst hsz
  generalize hAe : va_A [] s.heap.size = A at ⊢
  have hA : ∀ q : Nat, s.heap.size ≤ q → A q := fun q h => by rw [← hAe]; exact Or.inr h
  have hS : va_S A s.heap s.heap [] := va_S.rf
  have hP : va_P (dC, dI) classes [(oG1, .inr (8, xg))] s.heap := hP
  have hl := lv_entry ([.ref oG1, .int na]) (n := 2) (Nat.le_of_ble_eq_true rfl)
  rw [lg_entry_eq]
  generalize (lg_sl ([.ref oG1, .int na]) ++ List.replicate (2 - (lg_sl ([.ref oG1, .int na])).length) Slot.unset).toArray = ls at hl ⊢
  have hl : lv_has ls 2 [(0, .ref oG1), (1, .int na)] := hl
  refine lv_iload_n hx hb d_Pr_hasValue_0 rfl (lv_at hl 1 rfl) ?_
  refine lv_if_lt (tgt := 27) hx hb d_Pr_hasValue_1 (by decide) (fun h1 => ?_) (fun h1 => ?_)
  · refine lv_iconst (v := 0) hx hb d_Pr_hasValue_27 (by decide) ?_
    exact W.zret (v := 0) (ty := .boolean) hx hb hr (by decide) (fun t ht hW => ⟨⟨_, (), rfl, (rfl), trivial⟩, hS.F ht⟩) hS.2.2 d_Pr_hasValue_28
  · refine lv_iload_n hx hb d_Pr_hasValue_4 rfl (lv_at hl 1 rfl) ?_
    refine lv_aload_n hx hb d_Pr_hasValue_5 rfl (lv_at hl 0 rfl) ?_
    refine va_get (D := (dC, dI)) (ci := 8) (v := .int 0) (C := R_Pr) (T := F_Pr) (N := 18) hx hb hts (fun w h => List.mem_cons_of_mem _ (in_Pr w h)) hown hK.1 hP 0 rfl rfl 10 (by decide) (hts _ (List.mem_cons_of_mem _ mw_457)) (fun _ h9 => h9) hxg_names d_Pr_hasValue_6 ?_
    refine lv_icmp_ge (tgt := 27) hx hb d_Pr_hasValue_9 (by decide) (fun _ => ?_) (fun h => absurd (nd_le h1 (by decide)) h)
    refine lv_iconst (v := 0) hx hb d_Pr_hasValue_27 (by decide) ?_
    exact W.zret (v := 0) (ty := .boolean) hx hb hr (by decide) (fun t ht hW => ⟨⟨_, (), rfl, (rfl), trivial⟩, hS.F ht⟩) hS.2.2 d_Pr_hasValue_28
theorem d_Bh_sense_0 : decode b_Bh_sense 0 = .ok (.aload_n 0, 1) := by decide +kernel
theorem d_Bh_sense_1 : decode b_Bh_sense 1 = .ok (.getfield 62, 3) := by decide +kernel
theorem d_Bh_sense_4 : decode b_Bh_sense 4 = .ok (.getfield 183, 3) := by decide +kernel
theorem d_Bh_sense_7 : decode b_Bh_sense 7 = .ok (.iload_n 1, 1) := by decide +kernel
theorem d_Bh_sense_8 : decode b_Bh_sense 8 = .ok (.invokevirtual 238, 3) := by decide +kernel
theorem d_Bh_sense_11 : decode b_Bh_sense 11 = .ok (.ifCond .eq 12, 3) := by decide +kernel
theorem d_Bh_sense_23 : decode b_Bh_sense 23 = .ok (.iconst 0, 1) := by decide +kernel
theorem d_Bh_sense_24 : decode b_Bh_sense 24 = .ok (.ireturn, 1) := by decide +kernel
set_option maxHeartbeats 4000000 in
set_option maxRecDepth 100000 in
theorem c_Bh_sense (l : Launch) (dC : Nat → ClassId) (dI : Nat → Nat → Nat) (cI cB cZ cJ : ClassId) (na : Int32) (wh : Int32) (xx : Int32) (oB : Nat) (oRu : Nat) (oG1 : Nat) (xb : List Value) (hb_run : xb[6]? = some (.ref oRu)) (xn : List Value) (hru_program : xn[3]? = some (.ref oG1)) (xg : List Value) (hxg_names : xg[10]? = some (.int 0)) (sz : Nat) : Met l y_Bh_sense w_Bh_sense ({ frames := 1, cells := 0, slots := 0, locals := 21 }) (va_Pc [.ref oB, .int na, .int wh, .int xx] (PW dC dI cI cB cZ cJ [(oB, .inr (0, xb)), (oRu, .inr (10, xn)), (oG1, .inr (8, xg))] sz)) (va_Qi (fun (r : Int32) (_ : Unit) => r = 0) (fun _ _ => True) (va_A [] sz)) 0 0 (va_A [] sz) := by
  refine Met.ofW (cc := b_Bh_sense) (maxL := 4) (ret := (some .boolean)) (by decide) rfl ?_
  intro p e s m args below meth c s₁ B hml hv
  obtain ⟨rfl, hsz, hP, hK, hD⟩ := hv
  have hx := B.exec
  have hb := B.bytes
  have hr := B.returns
  have hts := atoms_spec (ws := w_Bh_sense) B.pre
  have hown : s.vm.findClass R_Bh = some m.cls := findClass_of_methodNamed B.named
  have hlocks := B.notSynchronized
  subst hsz
  generalize hAe : va_A [] s.heap.size = A at ⊢
  have hA : ∀ q : Nat, s.heap.size ≤ q → A q := fun q h => by rw [← hAe]; exact Or.inr h
  have hS : va_S A s.heap s.heap [] := va_S.rf
  have hP : va_P (dC, dI) classes [(oB, .inr (0, xb)), (oRu, .inr (10, xn)), (oG1, .inr (8, xg))] s.heap := hP
  have hl := lv_entry ([.ref oB, .int na, .int wh, .int xx]) (n := 4) (Nat.le_of_ble_eq_true rfl)
  rw [lg_entry_eq]
  generalize (lg_sl ([.ref oB, .int na, .int wh, .int xx]) ++ List.replicate (4 - (lg_sl ([.ref oB, .int na, .int wh, .int xx])).length) Slot.unset).toArray = ls at hl ⊢
  have hl : lv_has ls 4 [(0, .ref oB), (1, .int na), (2, .int wh), (3, .int xx)] := hl
  refine lv_aload_n hx hb d_Bh_sense_0 rfl (lv_at hl 0 rfl) ?_
  refine va_get (D := (dC, dI)) (ci := 0) (v := .ref oRu) (C := R_Bh) (T := F_Bh) (N := 16) hx hb hts (fun w h => List.mem_cons_of_mem _ (in_Bh w h)) hown hK.1 hP 0 rfl rfl 6 (by decide) (hts _ (List.mem_cons_of_mem _ mw_690)) (fun _ h9 => h9) hb_run d_Bh_sense_1 ?_
  refine va_get (D := (dC, dI)) (ci := 10) (v := .ref oG1) (C := R_Ru) (T := F_Ru) (N := 21) hx hb hts (fun w h => List.mem_cons_of_mem _ (in_Ru w h)) hown hK.1 hP 1 rfl rfl 3 (by decide) (hts _ (List.mem_cons_of_mem _ mw_515)) (fun _ h9 => h9) hru_program d_Bh_sense_4 ?_
  refine lv_iload_n hx hb d_Bh_sense_7 rfl (lv_at hl 1 rfl) ?_
  have hPc := hP.sub (ws' := [(oG1, .inr (8, xg))]) [2] rfl
  have hDc := hD.sub (ws' := [(oG1, .inr (8, xg))]) [2] (by decide) rfl
  have hFc := pu_free hS hA
  refine va_calli (va_runV (C := R_Pr) (As := [.int na]) (rest := []) ⟨hx, hb, hml, hown, hts⟩ (c_Pr_isSignal l dC dI cI cB cZ cJ na oG1 xg hxg_names s.heap.size) (cwV 1 hts (tb_V mw_1158 mw_1159 mw_1160 mw_12 mw_1161) rfl rfl rfl ⟨rfl, by decide +kernel, by decide +kernel, by decide +kernel⟩ ⟨(Nat.le_of_ble_eq_true rfl), (Nat.le_of_ble_eq_true rfl)⟩) ⟨pw_blind, va_recv (q := (R_Pr, F_Pr, 18)) hK.1 hP (ci := 8) (q0 := 2) rfl rfl, pw_pre hPc hK hDc⟩ rfl rfl hl.1 rfl (lv_room (Nat.le_of_ble_eq_true rfl)) d_Bh_sense_8 ⟨(Nat.le_of_ble_eq_true rfl), (Nat.le_of_ble_eq_true rfl)⟩) hS (fun q _ h => hFc q h) hFc (fun r u t H locs ht hvm hw hB hz1 hk1 hS => ?_)
  have hP := pu_kept hP hk1
  obtain rfl : r = 0 := hw
  refine lv_if_eq (tgt := 23) hx hb d_Bh_sense_11 (by decide) (fun _ => ?_) (fun h => absurd (by decide) h)
  refine lv_iconst (v := 0) hx hb d_Bh_sense_23 (by decide) ?_
  exact W.zret (v := 0) (ty := .boolean) hx hb hr (by decide) (fun t ht hW => ⟨⟨_, (), rfl, (rfl), trivial⟩, hS.F ht⟩) hS.2.2 d_Bh_sense_24
theorem d_Bh_signal_0 : decode b_Bh_signal 0 = .ok (.aload_n 0, 1) := by decide +kernel
theorem d_Bh_signal_1 : decode b_Bh_signal 1 = .ok (.getfield 62, 3) := by decide +kernel
theorem d_Bh_signal_4 : decode b_Bh_signal 4 = .ok (.getfield 183, 3) := by decide +kernel
theorem d_Bh_signal_7 : decode b_Bh_signal 7 = .ok (.iload_n 1, 1) := by decide +kernel
theorem d_Bh_signal_8 : decode b_Bh_signal 8 = .ok (.invokevirtual 238, 3) := by decide +kernel
theorem d_Bh_signal_11 : decode b_Bh_signal 11 = .ok (.ifCond .ne 5, 3) := by decide +kernel
theorem d_Bh_signal_14 : decode b_Bh_signal 14 = .ok (.iconst 0, 1) := by decide +kernel
theorem d_Bh_signal_15 : decode b_Bh_signal 15 = .ok (.ireturn, 1) := by decide +kernel
set_option maxHeartbeats 4000000 in
set_option maxRecDepth 100000 in
theorem c_Bh_signal (l : Launch) (dC : Nat → ClassId) (dI : Nat → Nat → Nat) (cI cB cZ cJ : ClassId) (na : Int32) (vv : Int64) (oB : Nat) (oRu : Nat) (oG1 : Nat) (xb : List Value) (hb_run : xb[6]? = some (.ref oRu)) (xn : List Value) (hru_program : xn[3]? = some (.ref oG1)) (xg : List Value) (hxg_names : xg[10]? = some (.int 0)) (sz : Nat) : Met l y_Bh_signal w_Bh_signal ({ frames := 1, cells := 0, slots := 0, locals := 21 }) (va_Pc [.ref oB, .int na, .long vv] (PW dC dI cI cB cZ cJ [(oB, .inr (0, xb)), (oRu, .inr (10, xn)), (oG1, .inr (8, xg))] sz)) (va_Qi (fun (r : Int32) (_ : Unit) => r = 0) (fun _ _ => True) (va_A [] sz)) 0 0 (va_A [] sz) := by
  refine Met.ofW (cc := b_Bh_signal) (maxL := 4) (ret := (some .boolean)) (by decide) rfl ?_
  intro p e s m args below meth c s₁ B hml hv
  obtain ⟨rfl, hsz, hP, hK, hD⟩ := hv
  have hx := B.exec
  have hb := B.bytes
  have hr := B.returns
  have hts := atoms_spec (ws := w_Bh_signal) B.pre
  have hown : s.vm.findClass R_Bh = some m.cls := findClass_of_methodNamed B.named
  have hlocks := B.notSynchronized
  subst hsz
  generalize hAe : va_A [] s.heap.size = A at ⊢
  have hA : ∀ q : Nat, s.heap.size ≤ q → A q := fun q h => by rw [← hAe]; exact Or.inr h
  have hS : va_S A s.heap s.heap [] := va_S.rf
  have hP : va_P (dC, dI) classes [(oB, .inr (0, xb)), (oRu, .inr (10, xn)), (oG1, .inr (8, xg))] s.heap := hP
  have hl := lv_entry ([.ref oB, .int na, .long vv]) (n := 4) (Nat.le_of_ble_eq_true rfl)
  rw [lg_entry_eq]
  generalize (lg_sl ([.ref oB, .int na, .long vv]) ++ List.replicate (4 - (lg_sl ([.ref oB, .int na, .long vv])).length) Slot.unset).toArray = ls at hl ⊢
  have hl : lv_has ls 4 [(0, .ref oB), (1, .int na), (2, .long vv)] := hl
  refine lv_aload_n hx hb d_Bh_signal_0 rfl (lv_at hl 0 rfl) ?_
  refine va_get (D := (dC, dI)) (ci := 0) (v := .ref oRu) (C := R_Bh) (T := F_Bh) (N := 16) hx hb hts (fun w h => List.mem_cons_of_mem _ (in_Bh w h)) hown hK.1 hP 0 rfl rfl 6 (by decide) (hts _ (List.mem_cons_of_mem _ mw_690)) (fun _ h9 => h9) hb_run d_Bh_signal_1 ?_
  refine va_get (D := (dC, dI)) (ci := 10) (v := .ref oG1) (C := R_Ru) (T := F_Ru) (N := 21) hx hb hts (fun w h => List.mem_cons_of_mem _ (in_Ru w h)) hown hK.1 hP 1 rfl rfl 3 (by decide) (hts _ (List.mem_cons_of_mem _ mw_515)) (fun _ h9 => h9) hru_program d_Bh_signal_4 ?_
  refine lv_iload_n hx hb d_Bh_signal_7 rfl (lv_at hl 1 rfl) ?_
  have hPc := hP.sub (ws' := [(oG1, .inr (8, xg))]) [2] rfl
  have hDc := hD.sub (ws' := [(oG1, .inr (8, xg))]) [2] (by decide) rfl
  have hFc := pu_free hS hA
  refine va_calli (va_runV (C := R_Pr) (As := [.int na]) (rest := []) ⟨hx, hb, hml, hown, hts⟩ (c_Pr_isSignal l dC dI cI cB cZ cJ na oG1 xg hxg_names s.heap.size) (cwV 1 hts (tb_V mw_1158 mw_1159 mw_1160 mw_12 mw_1161) rfl rfl rfl ⟨rfl, by decide +kernel, by decide +kernel, by decide +kernel⟩ ⟨(Nat.le_of_ble_eq_true rfl), (Nat.le_of_ble_eq_true rfl)⟩) ⟨pw_blind, va_recv (q := (R_Pr, F_Pr, 18)) hK.1 hP (ci := 8) (q0 := 2) rfl rfl, pw_pre hPc hK hDc⟩ rfl rfl hl.1 rfl (lv_room (Nat.le_of_ble_eq_true rfl)) d_Bh_signal_8 ⟨(Nat.le_of_ble_eq_true rfl), (Nat.le_of_ble_eq_true rfl)⟩) hS (fun q _ h => hFc q h) hFc (fun r u t H locs ht hvm hw hB hz1 hk1 hS => ?_)
  have hP := pu_kept hP hk1
  obtain rfl : r = 0 := hw
  refine lv_if_ne (tgt := 16) hx hb d_Bh_signal_11 (by decide) (fun h => absurd rfl h) (fun _ => ?_)
  refine lv_iconst (v := 0) hx hb d_Bh_signal_14 (by decide) ?_
  exact W.zret (v := 0) (ty := .boolean) hx hb hr (by decide) (fun t ht hW => ⟨⟨_, (), rfl, (rfl), trivial⟩, hS.F ht⟩) hS.2.2 d_Bh_signal_15
theorem d_Bh_value_0 : decode b_Bh_value 0 = .ok (.aload_n 0, 1) := by decide +kernel
theorem d_Bh_value_1 : decode b_Bh_value 1 = .ok (.getfield 62, 3) := by decide +kernel
theorem d_Bh_value_4 : decode b_Bh_value 4 = .ok (.getfield 183, 3) := by decide +kernel
theorem d_Bh_value_7 : decode b_Bh_value 7 = .ok (.iload_n 1, 1) := by decide +kernel
theorem d_Bh_value_8 : decode b_Bh_value 8 = .ok (.invokevirtual 342, 3) := by decide +kernel
theorem d_Bh_value_11 : decode b_Bh_value 11 = .ok (.ifCond .eq 18, 3) := by decide +kernel
theorem d_Bh_value_29 : decode b_Bh_value 29 = .ok (.lconst 0, 1) := by decide +kernel
theorem d_Bh_value_30 : decode b_Bh_value 30 = .ok (.lreturn, 1) := by decide +kernel
set_option maxHeartbeats 4000000 in
set_option maxRecDepth 100000 in
theorem c_Bh_value (l : Launch) (dC : Nat → ClassId) (dI : Nat → Nat → Nat) (cI cB cZ cJ : ClassId) (na : Int32) (oB : Nat) (oRu : Nat) (oG1 : Nat) (xb : List Value) (hb_run : xb[6]? = some (.ref oRu)) (xn : List Value) (hru_program : xn[3]? = some (.ref oG1)) (xg : List Value) (hxg_names : xg[10]? = some (.int 0)) (sz : Nat) : Met l y_Bh_value w_Bh_value ({ frames := 1, cells := 0, slots := 0, locals := 21 }) (va_Pc [.ref oB, .int na] (PW dC dI cI cB cZ cJ [(oB, .inr (0, xb)), (oRu, .inr (10, xn)), (oG1, .inr (8, xg))] sz)) (va_Ql (fun (r : Int64) (_ : Unit) => r = 0) (fun _ _ => True) (va_A [] sz)) 0 0 (va_A [] sz) := by
  refine Met.ofW (cc := b_Bh_value) (maxL := 2) (ret := (some .long)) (by decide) rfl ?_
  intro p e s m args below meth c s₁ B hml hv
  obtain ⟨rfl, hsz, hP, hK, hD⟩ := hv
  have hx := B.exec
  have hb := B.bytes
  have hr := B.returns
  have hts := atoms_spec (ws := w_Bh_value) B.pre
  have hown : s.vm.findClass R_Bh = some m.cls := findClass_of_methodNamed B.named
  have hlocks := B.notSynchronized
  subst hsz
  generalize hAe : va_A [] s.heap.size = A at ⊢
  have hA : ∀ q : Nat, s.heap.size ≤ q → A q := fun q h => by rw [← hAe]; exact Or.inr h
  have hS : va_S A s.heap s.heap [] := va_S.rf
  have hP : va_P (dC, dI) classes [(oB, .inr (0, xb)), (oRu, .inr (10, xn)), (oG1, .inr (8, xg))] s.heap := hP
  have hl := lv_entry ([.ref oB, .int na]) (n := 2) (Nat.le_of_ble_eq_true rfl)
  rw [lg_entry_eq]
  generalize (lg_sl ([.ref oB, .int na]) ++ List.replicate (2 - (lg_sl ([.ref oB, .int na])).length) Slot.unset).toArray = ls at hl ⊢
  have hl : lv_has ls 2 [(0, .ref oB), (1, .int na)] := hl
  refine lv_aload_n hx hb d_Bh_value_0 rfl (lv_at hl 0 rfl) ?_
  refine va_get (D := (dC, dI)) (ci := 0) (v := .ref oRu) (C := R_Bh) (T := F_Bh) (N := 16) hx hb hts (fun w h => List.mem_cons_of_mem _ (in_Bh w h)) hown hK.1 hP 0 rfl rfl 6 (by decide) (hts _ (List.mem_cons_of_mem _ mw_690)) (fun _ h9 => h9) hb_run d_Bh_value_1 ?_
  refine va_get (D := (dC, dI)) (ci := 10) (v := .ref oG1) (C := R_Ru) (T := F_Ru) (N := 21) hx hb hts (fun w h => List.mem_cons_of_mem _ (in_Ru w h)) hown hK.1 hP 1 rfl rfl 3 (by decide) (hts _ (List.mem_cons_of_mem _ mw_515)) (fun _ h9 => h9) hru_program d_Bh_value_4 ?_
  refine lv_iload_n hx hb d_Bh_value_7 rfl (lv_at hl 1 rfl) ?_
  have hPc := hP.sub (ws' := [(oG1, .inr (8, xg))]) [2] rfl
  have hDc := hD.sub (ws' := [(oG1, .inr (8, xg))]) [2] (by decide) rfl
  have hFc := pu_free hS hA
  refine va_calli (va_runV (C := R_Pr) (As := [.int na]) (rest := []) ⟨hx, hb, hml, hown, hts⟩ (c_Pr_hasValue l dC dI cI cB cZ cJ na oG1 xg hxg_names s.heap.size) (cwV 1 hts (tb_V mw_1513 mw_952 mw_953 mw_12 mw_954) rfl rfl rfl ⟨rfl, by decide +kernel, by decide +kernel, by decide +kernel⟩ ⟨(Nat.le_of_ble_eq_true rfl), (Nat.le_of_ble_eq_true rfl)⟩) ⟨pw_blind, va_recv (q := (R_Pr, F_Pr, 18)) hK.1 hP (ci := 8) (q0 := 2) rfl rfl, pw_pre hPc hK hDc⟩ rfl rfl hl.1 rfl (lv_room (Nat.le_of_ble_eq_true rfl)) d_Bh_value_8 ⟨(Nat.le_of_ble_eq_true rfl), (Nat.le_of_ble_eq_true rfl)⟩) hS (fun q _ h => hFc q h) hFc (fun r u t H locs ht hvm hw hB hz1 hk1 hS => ?_)
  have hP := pu_kept hP hk1
  obtain rfl : r = 0 := hw
  refine lv_if_eq (tgt := 29) hx hb d_Bh_value_11 (by decide) (fun _ => ?_) (fun h => absurd (by decide) h)
  refine lv_lconst (v := 0) hx hb d_Bh_value_29 (by decide) ?_
  exact W.lret (v := 0) hx hb hr (fun t ht hW => ⟨⟨_, (), rfl, (rfl), trivial⟩, hS.F ht⟩) hS.2.2 d_Bh_value_30
theorem d_Bh_fill_0 : decode b_Bh_fill 0 = .ok (.aload_n 0, 1) := by decide +kernel
theorem d_Bh_fill_1 : decode b_Bh_fill 1 = .ok (.getfield 26, 3) := by decide +kernel
theorem d_Bh_fill_4 : decode b_Bh_fill 4 = .ok (.iload_n 1, 1) := by decide +kernel
theorem d_Bh_fill_5 : decode b_Bh_fill 5 = .ok (.invokevirtual 196, 3) := by decide +kernel
theorem d_Bh_fill_8 : decode b_Bh_fill 8 = .ok (.ifCond .eq 24, 3) := by decide +kernel
theorem d_Bh_fill_32 : decode b_Bh_fill 32 = .ok (.iconst 0, 1) := by decide +kernel
theorem d_Bh_fill_33 : decode b_Bh_fill 33 = .ok (.ireturn, 1) := by decide +kernel
set_option maxHeartbeats 4000000 in
set_option maxRecDepth 100000 in
theorem c_Bh_fill (l : Launch) (dC : Nat → ClassId) (dI : Nat → Nat → Nat) (cI cB cZ cJ : ClassId) (ta : Int32) (li : Int32) (nn : Int64) (oB : Nat) (oSt : Nat) (oP1 : Nat) (xb : List Value) (hb_stock : xb[2]? = some (.ref oSt)) (xs_ : List Value) (hst_plant : xs_[0]? = some (.ref oP1)) (xp : List Value) (hxp_things : xp[0]? = some (.int 0)) (sz : Nat) : Met l y_Bh_fill w_Bh_fill ({ frames := 1, cells := 0, slots := 0, locals := 21 }) (va_Pc [.ref oB, .int ta, .int li, .long nn] (PW dC dI cI cB cZ cJ [(oB, .inr (0, xb)), (oSt, .inr (4, xs_)), (oP1, .inr (3, xp))] sz)) (va_Qi (fun (r : Int32) (_ : Unit) => r = 0) (fun _ _ => True) (va_A [] sz)) 0 0 (va_A [] sz) := by
  refine Met.ofW (cc := b_Bh_fill) (maxL := 7) (ret := (some .boolean)) (by decide) rfl ?_
  intro p e s m args below meth c s₁ B hml hv
  obtain ⟨rfl, hsz, hP, hK, hD⟩ := hv
  have hx := B.exec
  have hb := B.bytes
  have hr := B.returns
  have hts := atoms_spec (ws := w_Bh_fill) B.pre
  have hown : s.vm.findClass R_Bh = some m.cls := findClass_of_methodNamed B.named
  have hlocks := B.notSynchronized
  subst hsz
  generalize hAe : va_A [] s.heap.size = A at ⊢
  have hA : ∀ q : Nat, s.heap.size ≤ q → A q := fun q h => by rw [← hAe]; exact Or.inr h
  have hS : va_S A s.heap s.heap [] := va_S.rf
  have hP : va_P (dC, dI) classes [(oB, .inr (0, xb)), (oSt, .inr (4, xs_)), (oP1, .inr (3, xp))] s.heap := hP
  have hl := lv_entry ([.ref oB, .int ta, .int li, .long nn]) (n := 7) (Nat.le_of_ble_eq_true rfl)
  rw [lg_entry_eq]
  generalize (lg_sl ([.ref oB, .int ta, .int li, .long nn]) ++ List.replicate (7 - (lg_sl ([.ref oB, .int ta, .int li, .long nn])).length) Slot.unset).toArray = ls at hl ⊢
  have hl : lv_has ls 7 [(0, .ref oB), (1, .int ta), (2, .int li), (3, .long nn)] := hl
  refine lv_aload_n hx hb d_Bh_fill_0 rfl (lv_at hl 0 rfl) ?_
  refine va_get (D := (dC, dI)) (ci := 0) (v := .ref oSt) (C := R_Bh) (T := F_Bh) (N := 16) hx hb hts (fun w h => List.mem_cons_of_mem _ (in_Bh w h)) hown hK.1 hP 0 rfl rfl 2 (by decide) (hts _ (List.mem_cons_of_mem _ mw_686)) (fun _ h9 => h9) hb_stock d_Bh_fill_1 ?_
  refine lv_iload_n hx hb d_Bh_fill_4 rfl (lv_at hl 1 rfl) ?_
  have hPc := hP.sub (ws' := [(oSt, .inr (4, xs_)), (oP1, .inr (3, xp))]) [1, 2] rfl
  have hDc := hD.sub (ws' := [(oSt, .inr (4, xs_)), (oP1, .inr (3, xp))]) [1, 2] (by decide) rfl
  have hFc := pu_free hS hA
  refine va_calli (va_runV (C := R_St) (As := [.int ta]) (rest := []) ⟨hx, hb, hml, hown, hts⟩ (c_St_isTank l dC dI cI cB cZ cJ ta oSt oP1 xs_ hst_plant xp hxp_things s.heap.size) (cwV 1 hts (tb_V mw_1075 mw_1076 mw_1077 mw_4 mw_1078) rfl rfl rfl ⟨rfl, by decide +kernel, by decide +kernel, by decide +kernel⟩ ⟨(Nat.le_of_ble_eq_true rfl), (Nat.le_of_ble_eq_true rfl)⟩) ⟨pw_blind, va_recv (q := (R_St, F_St, 12)) hK.1 hP (ci := 4) (q0 := 1) rfl rfl, pw_pre hPc hK hDc⟩ rfl rfl hl.1 rfl (lv_room (Nat.le_of_ble_eq_true rfl)) d_Bh_fill_5 ⟨(Nat.le_of_ble_eq_true rfl), (Nat.le_of_ble_eq_true rfl)⟩) hS (fun q _ h => hFc q h) hFc (fun r u t H locs ht hvm hw hB hz1 hk1 hS => ?_)
  have hP := pu_kept hP hk1
  obtain rfl : r = 0 := hw
  refine lv_if_eq (tgt := 32) hx hb d_Bh_fill_8 (by decide) (fun _ => ?_) (fun h => absurd (by decide) h)
  refine lv_iconst (v := 0) hx hb d_Bh_fill_32 (by decide) ?_
  exact W.zret (v := 0) (ty := .boolean) hx hb hr (by decide) (fun t ht hW => ⟨⟨_, (), rfl, (rfl), trivial⟩, hS.F ht⟩) hS.2.2 d_Bh_fill_33
theorem d_Bh_space_0 : decode b_Bh_space 0 = .ok (.iload_n 2, 1) := by decide +kernel
theorem d_Bh_space_1 : decode b_Bh_space 1 = .ok (.iconst 4, 1) := by decide +kernel
theorem d_Bh_space_2 : decode b_Bh_space 2 = .ok (.if_icmp .ne 28, 3) := by decide +kernel
theorem d_Bh_space_5 : decode b_Bh_space 5 = .ok (.aload_n 0, 1) := by decide +kernel
theorem d_Bh_space_6 : decode b_Bh_space 6 = .ok (.getfield 26, 3) := by decide +kernel
theorem d_Bh_space_9 : decode b_Bh_space 9 = .ok (.iload_n 1, 1) := by decide +kernel
theorem d_Bh_space_10 : decode b_Bh_space 10 = .ok (.invokevirtual 309, 3) := by decide +kernel
theorem d_Bh_space_13 : decode b_Bh_space 13 = .ok (.ifCond .eq 15, 3) := by decide +kernel
theorem d_Bh_space_28 : decode b_Bh_space 28 = .ok (.iconst (-1), 1) := by decide +kernel
theorem d_Bh_space_29 : decode b_Bh_space 29 = .ok (.ireturn, 1) := by decide +kernel
theorem d_Bh_space_30 : decode b_Bh_space 30 = .ok (.aload_n 0, 1) := by decide +kernel
theorem d_Bh_space_31 : decode b_Bh_space 31 = .ok (.getfield 26, 3) := by decide +kernel
theorem d_Bh_space_34 : decode b_Bh_space 34 = .ok (.iload_n 1, 1) := by decide +kernel
theorem d_Bh_space_35 : decode b_Bh_space 35 = .ok (.invokevirtual 306, 3) := by decide +kernel
theorem d_Bh_space_38 : decode b_Bh_space 38 = .ok (.ifCond .ne 5, 3) := by decide +kernel
theorem d_Bh_space_41 : decode b_Bh_space 41 = .ok (.iconst (-1), 1) := by decide +kernel
theorem d_Bh_space_42 : decode b_Bh_space 42 = .ok (.ireturn, 1) := by decide +kernel
set_option maxHeartbeats 4000000 in
set_option maxRecDepth 100000 in
theorem c_Bh_space (l : Launch) (dC : Nat → ClassId) (dI : Nat → Nat → Nat) (cI cB cZ cJ : ClassId) (xx : Int32) (wh : Int32) (oB : Nat) (oSt : Nat) (oP1 : Nat) (xb : List Value) (hb_stock : xb[2]? = some (.ref oSt)) (xs_ : List Value) (hst_plant : xs_[0]? = some (.ref oP1)) (xp : List Value) (hxp_things : xp[0]? = some (.int 0)) (hxp_pipes : xp[1]? = some (.int 0)) (sz : Nat) : Met l y_Bh_space w_Bh_space ({ frames := 2, cells := 0, slots := 0, locals := 42 }) (va_Pc [.ref oB, .int xx, .int wh] (PW dC dI cI cB cZ cJ [(oB, .inr (0, xb)), (oSt, .inr (4, xs_)), (oP1, .inr (3, xp))] sz)) (va_Qi (fun (r : Int32) (_ : Unit) => r = (-1)) (fun _ _ => True) (va_A [] sz)) 0 0 (va_A [] sz) := by
  refine Met.ofW (cc := b_Bh_space) (maxL := 3) (ret := (some .int)) (by decide) rfl ?_
  intro p e s m args below meth c s₁ B hml hv
  obtain ⟨rfl, hsz, hP, hK, hD⟩ := hv
  have hx := B.exec
  have hb := B.bytes
  have hr := B.returns
  have hts := atoms_spec (ws := w_Bh_space) B.pre
  have hown : s.vm.findClass R_Bh = some m.cls := findClass_of_methodNamed B.named
  have hlocks := B.notSynchronized
  subst hsz
  generalize hAe : va_A [] s.heap.size = A at ⊢
  have hA : ∀ q : Nat, s.heap.size ≤ q → A q := fun q h => by rw [← hAe]; exact Or.inr h
  have hS : va_S A s.heap s.heap [] := va_S.rf
  have hP : va_P (dC, dI) classes [(oB, .inr (0, xb)), (oSt, .inr (4, xs_)), (oP1, .inr (3, xp))] s.heap := hP
  have hl := lv_entry ([.ref oB, .int xx, .int wh]) (n := 3) (Nat.le_of_ble_eq_true rfl)
  rw [lg_entry_eq]
  generalize (lg_sl ([.ref oB, .int xx, .int wh]) ++ List.replicate (3 - (lg_sl ([.ref oB, .int xx, .int wh])).length) Slot.unset).toArray = ls at hl ⊢
  have hl : lv_has ls 3 [(0, .ref oB), (1, .int xx), (2, .int wh)] := hl
  refine lv_iload_n hx hb d_Bh_space_0 rfl (lv_at hl 2 rfl) ?_
  refine lv_iconst (v := 4) hx hb d_Bh_space_1 (by decide) ?_
  refine lv_icmp_ne (tgt := 30) hx hb d_Bh_space_2 (by decide) (fun h2 => ?_) (fun h2 => ?_)
  · refine lv_aload_n hx hb d_Bh_space_30 rfl (lv_at hl 0 rfl) ?_
    refine va_get (D := (dC, dI)) (ci := 0) (v := .ref oSt) (C := R_Bh) (T := F_Bh) (N := 16) hx hb hts (fun w h => List.mem_cons_of_mem _ (in_Bh w h)) hown hK.1 hP 0 rfl rfl 2 (by decide) (hts _ (List.mem_cons_of_mem _ mw_686)) (fun _ h9 => h9) hb_stock d_Bh_space_31 ?_
    refine lv_iload_n hx hb d_Bh_space_34 rfl (lv_at hl 1 rfl) ?_
    have hPc := hP.sub (ws' := [(oSt, .inr (4, xs_)), (oP1, .inr (3, xp))]) [1, 2] rfl
    have hDc := hD.sub (ws' := [(oSt, .inr (4, xs_)), (oP1, .inr (3, xp))]) [1, 2] (by decide) rfl
    have hFc := pu_free hS hA
    refine va_calli (va_runV (C := R_St) (As := [.int xx]) (rest := []) ⟨hx, hb, hml, hown, hts⟩ (c_St_isHolder l dC dI cI cB cZ cJ xx oSt oP1 xs_ hst_plant xp hxp_things hxp_pipes s.heap.size) (cwV 1 hts (tb_V mw_1332 mw_1200 mw_1201 mw_4 mw_1202) rfl rfl rfl ⟨rfl, by decide +kernel, by decide +kernel, by decide +kernel⟩ ⟨(Nat.le_of_ble_eq_true rfl), (Nat.le_of_ble_eq_true rfl)⟩) ⟨pw_blind, va_recv (q := (R_St, F_St, 12)) hK.1 hP (ci := 4) (q0 := 1) rfl rfl, pw_pre hPc hK hDc⟩ rfl rfl hl.1 rfl (lv_room (Nat.le_of_ble_eq_true rfl)) d_Bh_space_35 ⟨(Nat.le_of_ble_eq_true rfl), (Nat.le_of_ble_eq_true rfl)⟩) hS (fun q _ h => hFc q h) hFc (fun r u t H locs ht hvm hw hB hz1 hk1 hS => ?_)
    have hP := pu_kept hP hk1
    obtain rfl : r = 0 := hw
    refine lv_if_ne (tgt := 43) hx hb d_Bh_space_38 (by decide) (fun h => absurd rfl h) (fun _ => ?_)
    refine lv_iconst (v := (-1)) hx hb d_Bh_space_41 (by decide) ?_
    exact W.iret (v := (-1)) hx hb hr (fun t ht hW => ⟨⟨_, (), rfl, (rfl), trivial⟩, hS.F ht⟩) hS.2.2 d_Bh_space_42
  · refine lv_aload_n hx hb d_Bh_space_5 rfl (lv_at hl 0 rfl) ?_
    refine va_get (D := (dC, dI)) (ci := 0) (v := .ref oSt) (C := R_Bh) (T := F_Bh) (N := 16) hx hb hts (fun w h => List.mem_cons_of_mem _ (in_Bh w h)) hown hK.1 hP 0 rfl rfl 2 (by decide) (hts _ (List.mem_cons_of_mem _ mw_686)) (fun _ h9 => h9) hb_stock d_Bh_space_6 ?_
    refine lv_iload_n hx hb d_Bh_space_9 rfl (lv_at hl 1 rfl) ?_
    have hPc := hP.sub (ws' := [(oSt, .inr (4, xs_)), (oP1, .inr (3, xp))]) [1, 2] rfl
    have hDc := hD.sub (ws' := [(oSt, .inr (4, xs_)), (oP1, .inr (3, xp))]) [1, 2] (by decide) rfl
    have hFc := pu_free hS hA
    refine va_calli (va_runV (C := R_St) (As := [.int xx]) (rest := []) ⟨hx, hb, hml, hown, hts⟩ (c_St_isValve l dC dI cI cB cZ cJ xx oSt oP1 xs_ hst_plant xp hxp_things s.heap.size) (cwV 1 hts (tb_V mw_1333 mw_1196 mw_1197 mw_4 mw_1198) rfl rfl rfl ⟨rfl, by decide +kernel, by decide +kernel, by decide +kernel⟩ ⟨(Nat.le_of_ble_eq_true rfl), (Nat.le_of_ble_eq_true rfl)⟩) ⟨pw_blind, va_recv (q := (R_St, F_St, 12)) hK.1 hP (ci := 4) (q0 := 1) rfl rfl, pw_pre hPc hK hDc⟩ rfl rfl hl.1 rfl (lv_room (Nat.le_of_ble_eq_true rfl)) d_Bh_space_10 ⟨(Nat.le_of_ble_eq_true rfl), (Nat.le_of_ble_eq_true rfl)⟩) hS (fun q _ h => hFc q h) hFc (fun r u t H locs ht hvm hw hB hz1 hk1 hS => ?_)
    have hP := pu_kept hP hk1
    obtain rfl : r = 0 := hw
    refine lv_if_eq (tgt := 28) hx hb d_Bh_space_13 (by decide) (fun _ => ?_) (fun h => absurd (by decide) h)
    refine lv_iconst (v := (-1)) hx hb d_Bh_space_28 (by decide) ?_
    exact W.iret (v := (-1)) hx hb hr (fun t ht hW => ⟨⟨_, (), rfl, (rfl), trivial⟩, hS.F ht⟩) hS.2.2 d_Bh_space_29
theorem d_Wa_get_0 : decode b_Wa_get 0 = .ok (.iload_n 1, 1) := by decide +kernel
theorem d_Wa_get_1 : decode b_Wa_get 1 = .ok (.ifCond .lt 27, 3) := by decide +kernel
theorem d_Wa_get_4 : decode b_Wa_get 4 = .ok (.iload_n 1, 1) := by decide +kernel
theorem d_Wa_get_5 : decode b_Wa_get 5 = .ok (.aload_n 0, 1) := by decide +kernel
theorem d_Wa_get_6 : decode b_Wa_get 6 = .ok (.getfield 65, 3) := by decide +kernel
theorem d_Wa_get_9 : decode b_Wa_get 9 = .ok (.if_icmp .ge 19, 3) := by decide +kernel
theorem d_Wa_get_28 : decode b_Wa_get 28 = .ok (.iconst (-1), 1) := by decide +kernel
theorem d_Wa_get_29 : decode b_Wa_get 29 = .ok (.ireturn, 1) := by decide +kernel
set_option maxHeartbeats 4000000 in
set_option maxRecDepth 100000 in
theorem c_Wa_get (l : Launch) (dC : Nat → ClassId) (dI : Nat → Nat → Nat) (cI cB cZ cJ : ClassId) (kk : Int32) (wh : Int32) (oWa : Nat) (xw : List Value) (hwa_count : xw[1]? = some (.int 0)) (sz : Nat) : Met l y_Wa_get w_Wa_get ({ frames := 0, cells := 0, slots := 0, locals := 0 }) (va_Pc [.ref oWa, .int kk, .int wh] (PW dC dI cI cB cZ cJ [(oWa, .inr (5, xw))] sz)) (va_Qi (fun (r : Int32) (_ : Unit) => r = (-1)) (fun _ _ => True) (va_A [] sz)) 0 0 (va_A [] sz) := by
  refine Met.ofW (cc := b_Wa_get) (maxL := 5) (ret := (some .int)) (by decide) rfl ?_
  intro p e s m args below meth c s₁ B hml hv
  obtain ⟨rfl, hsz, hP, hK, hD⟩ := hv
  have hx := B.exec
  have hb := B.bytes
  have hr := B.returns
  have hts := atoms_spec (ws := w_Wa_get) B.pre
  have hown : s.vm.findClass R_Wa = some m.cls := findClass_of_methodNamed B.named
  have hlocks := B.notSynchronized
  subst hsz
  generalize hAe : va_A [] s.heap.size = A at ⊢
  have hA : ∀ q : Nat, s.heap.size ≤ q → A q := fun q h => by rw [← hAe]; exact Or.inr h
  have hS : va_S A s.heap s.heap [] := va_S.rf
  have hP : va_P (dC, dI) classes [(oWa, .inr (5, xw))] s.heap := hP
  have hl := lv_entry ([.ref oWa, .int kk, .int wh]) (n := 5) (Nat.le_of_ble_eq_true rfl)
  rw [lg_entry_eq]
  generalize (lg_sl ([.ref oWa, .int kk, .int wh]) ++ List.replicate (5 - (lg_sl ([.ref oWa, .int kk, .int wh])).length) Slot.unset).toArray = ls at hl ⊢
  have hl : lv_has ls 5 [(0, .ref oWa), (1, .int kk), (2, .int wh)] := hl
  refine lv_iload_n hx hb d_Wa_get_0 rfl (lv_at hl 1 rfl) ?_
  refine lv_if_lt (tgt := 28) hx hb d_Wa_get_1 (by decide) (fun h1 => ?_) (fun h1 => ?_)
  · refine lv_iconst (v := (-1)) hx hb d_Wa_get_28 (by decide) ?_
    exact W.iret (v := (-1)) hx hb hr (fun t ht hW => ⟨⟨_, (), rfl, (rfl), trivial⟩, hS.F ht⟩) hS.2.2 d_Wa_get_29
  · refine lv_iload_n hx hb d_Wa_get_4 rfl (lv_at hl 1 rfl) ?_
    refine lv_aload_n hx hb d_Wa_get_5 rfl (lv_at hl 0 rfl) ?_
    refine va_get (D := (dC, dI)) (ci := 5) (v := .int 0) (C := R_Wa) (T := F_Wa) (N := 18) hx hb hts (fun w h => List.mem_cons_of_mem _ (in_Wa w h)) hown hK.1 hP 0 rfl rfl 1 (by decide) (hts _ (List.mem_cons_of_mem _ mw_218)) (fun _ h9 => h9) hwa_count d_Wa_get_6 ?_
    refine lv_icmp_ge (tgt := 28) hx hb d_Wa_get_9 (by decide) (fun _ => ?_) (fun h => absurd (nd_le h1 (by decide)) h)
    refine lv_iconst (v := (-1)) hx hb d_Wa_get_28 (by decide) ?_
    exact W.iret (v := (-1)) hx hb hr (fun t ht hW => ⟨⟨_, (), rfl, (rfl), trivial⟩, hS.F ht⟩) hS.2.2 d_Wa_get_29
theorem d_Bh_way_0 : decode b_Bh_way 0 = .ok (.aload_n 0, 1) := by decide +kernel
theorem d_Bh_way_1 : decode b_Bh_way 1 = .ok (.getfield 35, 3) := by decide +kernel
theorem d_Bh_way_4 : decode b_Bh_way 4 = .ok (.iload_n 1, 1) := by decide +kernel
theorem d_Bh_way_5 : decode b_Bh_way 5 = .ok (.iload_n 2, 1) := by decide +kernel
theorem d_Bh_way_6 : decode b_Bh_way 6 = .ok (.invokevirtual 352, 3) := by decide +kernel
theorem d_Bh_way_9 : decode b_Bh_way 9 = .ok (.ireturn, 1) := by decide +kernel
set_option maxHeartbeats 4000000 in
set_option maxRecDepth 100000 in
theorem c_Bh_way (l : Launch) (dC : Nat → ClassId) (dI : Nat → Nat → Nat) (cI cB cZ cJ : ClassId) (kk : Int32) (wh : Int32) (oB : Nat) (oWa : Nat) (xb : List Value) (hb_ways : xb[3]? = some (.ref oWa)) (xw : List Value) (hwa_count : xw[1]? = some (.int 0)) (sz : Nat) : Met l y_Bh_way w_Bh_way ({ frames := 1, cells := 0, slots := 0, locals := 24 }) (va_Pc [.ref oB, .int kk, .int wh] (PW dC dI cI cB cZ cJ [(oB, .inr (0, xb)), (oWa, .inr (5, xw))] sz)) (va_Qi (fun (r : Int32) (_ : Unit) => r = (-1)) (fun _ _ => True) (va_A [] sz)) 0 0 (va_A [] sz) := by
  refine Met.ofW (cc := b_Bh_way) (maxL := 3) (ret := (some .int)) (by decide) rfl ?_
  intro p e s m args below meth c s₁ B hml hv
  obtain ⟨rfl, hsz, hP, hK, hD⟩ := hv
  have hx := B.exec
  have hb := B.bytes
  have hr := B.returns
  have hts := atoms_spec (ws := w_Bh_way) B.pre
  have hown : s.vm.findClass R_Bh = some m.cls := findClass_of_methodNamed B.named
  have hlocks := B.notSynchronized
  subst hsz
  generalize hAe : va_A [] s.heap.size = A at ⊢
  have hA : ∀ q : Nat, s.heap.size ≤ q → A q := fun q h => by rw [← hAe]; exact Or.inr h
  have hS : va_S A s.heap s.heap [] := va_S.rf
  have hP : va_P (dC, dI) classes [(oB, .inr (0, xb)), (oWa, .inr (5, xw))] s.heap := hP
  have hl := lv_entry ([.ref oB, .int kk, .int wh]) (n := 3) (Nat.le_of_ble_eq_true rfl)
  rw [lg_entry_eq]
  generalize (lg_sl ([.ref oB, .int kk, .int wh]) ++ List.replicate (3 - (lg_sl ([.ref oB, .int kk, .int wh])).length) Slot.unset).toArray = ls at hl ⊢
  have hl : lv_has ls 3 [(0, .ref oB), (1, .int kk), (2, .int wh)] := hl
  refine lv_aload_n hx hb d_Bh_way_0 rfl (lv_at hl 0 rfl) ?_
  refine va_get (D := (dC, dI)) (ci := 0) (v := .ref oWa) (C := R_Bh) (T := F_Bh) (N := 16) hx hb hts (fun w h => List.mem_cons_of_mem _ (in_Bh w h)) hown hK.1 hP 0 rfl rfl 3 (by decide) (hts _ (List.mem_cons_of_mem _ mw_687)) (fun _ h9 => h9) hb_ways d_Bh_way_1 ?_
  refine lv_iload_n hx hb d_Bh_way_4 rfl (lv_at hl 1 rfl) ?_
  refine lv_iload_n hx hb d_Bh_way_5 rfl (lv_at hl 2 rfl) ?_
  have hPc := hP.sub (ws' := [(oWa, .inr (5, xw))]) [1] rfl
  have hDc := hD.sub (ws' := [(oWa, .inr (5, xw))]) [1] (by decide) rfl
  have hFc := pu_free hS hA
  refine va_calli (va_runV (C := R_Wa) (As := [.int kk, .int wh]) (rest := []) ⟨hx, hb, hml, hown, hts⟩ (c_Wa_get l dC dI cI cB cZ cJ kk wh oWa xw hwa_count s.heap.size) (cwV 2 hts (tb_V mw_1535 mw_1536 mw_1537 mw_7 mw_1538) rfl rfl rfl ⟨rfl, by decide +kernel, by decide +kernel, by decide +kernel⟩ ⟨(Nat.le_of_ble_eq_true rfl), (Nat.le_of_ble_eq_true rfl)⟩) ⟨pw_blind, va_recv (q := (R_Wa, F_Wa, 18)) hK.1 hP (ci := 5) (q0 := 1) rfl rfl, pw_pre hPc hK hDc⟩ rfl rfl hl.1 rfl (lv_room (Nat.le_of_ble_eq_true rfl)) d_Bh_way_6 ⟨(Nat.le_of_ble_eq_true rfl), (Nat.le_of_ble_eq_true rfl)⟩) hS (fun q _ h => hFc q h) hFc (fun r u t H locs ht hvm hw hB hz1 hk1 hS => ?_)
  have hP := pu_kept hP hk1
  obtain rfl : r = (-1) := hw
  exact W.iret (v := (-1)) hx hb hr (fun t ht hW => ⟨⟨_, (), rfl, (rfl), trivial⟩, hS.F ht⟩) hS.2.2 d_Bh_way_9
theorem d_Al_get_0 : decode b_Al_get 0 = .ok (.iload_n 1, 1) := by decide +kernel
theorem d_Al_get_1 : decode b_Al_get 1 = .ok (.ifCond .lt 20, 3) := by decide +kernel
theorem d_Al_get_4 : decode b_Al_get 4 = .ok (.iload_n 1, 1) := by decide +kernel
theorem d_Al_get_5 : decode b_Al_get 5 = .ok (.aload_n 0, 1) := by decide +kernel
theorem d_Al_get_6 : decode b_Al_get 6 = .ok (.getfield 21, 3) := by decide +kernel
theorem d_Al_get_9 : decode b_Al_get 9 = .ok (.if_icmp .ge 12, 3) := by decide +kernel
theorem d_Al_get_21 : decode b_Al_get 21 = .ok (.iconst (-1), 1) := by decide +kernel
theorem d_Al_get_22 : decode b_Al_get 22 = .ok (.ireturn, 1) := by decide +kernel
set_option maxHeartbeats 4000000 in
set_option maxRecDepth 100000 in
theorem c_Al_get (l : Launch) (dC : Nat → ClassId) (dI : Nat → Nat → Nat) (cI cB cZ cJ : ClassId) (kk : Int32) (wh : Int32) (oAl : Nat) (xa : List Value) (hal_count : xa[0]? = some (.int 0)) (sz : Nat) : Met l y_Al_get w_Al_get ({ frames := 0, cells := 0, slots := 0, locals := 0 }) (va_Pc [.ref oAl, .int kk, .int wh] (PW dC dI cI cB cZ cJ [(oAl, .inr (2, xa))] sz)) (va_Qi (fun (r : Int32) (_ : Unit) => r = (-1)) (fun _ _ => True) (va_A [] sz)) 0 0 (va_A [] sz) := by
  refine Met.ofW (cc := b_Al_get) (maxL := 3) (ret := (some .int)) (by decide) rfl ?_
  intro p e s m args below meth c s₁ B hml hv
  obtain ⟨rfl, hsz, hP, hK, hD⟩ := hv
  have hx := B.exec
  have hb := B.bytes
  have hr := B.returns
  have hts := atoms_spec (ws := w_Al_get) B.pre
  have hown : s.vm.findClass R_Al = some m.cls := findClass_of_methodNamed B.named
  have hlocks := B.notSynchronized
  subst hsz
  generalize hAe : va_A [] s.heap.size = A at ⊢
  have hA : ∀ q : Nat, s.heap.size ≤ q → A q := fun q h => by rw [← hAe]; exact Or.inr h
  have hS : va_S A s.heap s.heap [] := va_S.rf
  have hP : va_P (dC, dI) classes [(oAl, .inr (2, xa))] s.heap := hP
  have hl := lv_entry ([.ref oAl, .int kk, .int wh]) (n := 3) (Nat.le_of_ble_eq_true rfl)
  rw [lg_entry_eq]
  generalize (lg_sl ([.ref oAl, .int kk, .int wh]) ++ List.replicate (3 - (lg_sl ([.ref oAl, .int kk, .int wh])).length) Slot.unset).toArray = ls at hl ⊢
  have hl : lv_has ls 3 [(0, .ref oAl), (1, .int kk), (2, .int wh)] := hl
  refine lv_iload_n hx hb d_Al_get_0 rfl (lv_at hl 1 rfl) ?_
  refine lv_if_lt (tgt := 21) hx hb d_Al_get_1 (by decide) (fun h1 => ?_) (fun h1 => ?_)
  · refine lv_iconst (v := (-1)) hx hb d_Al_get_21 (by decide) ?_
    exact W.iret (v := (-1)) hx hb hr (fun t ht hW => ⟨⟨_, (), rfl, (rfl), trivial⟩, hS.F ht⟩) hS.2.2 d_Al_get_22
  · refine lv_iload_n hx hb d_Al_get_4 rfl (lv_at hl 1 rfl) ?_
    refine lv_aload_n hx hb d_Al_get_5 rfl (lv_at hl 0 rfl) ?_
    refine va_get (D := (dC, dI)) (ci := 2) (v := .int 0) (C := R_Al) (T := F_Al) (N := 4) hx hb hts (fun w h => List.mem_cons_of_mem _ (in_Al w h)) hown hK.1 hP 0 rfl rfl 0 (by decide) (hts _ (List.mem_cons_of_mem _ mw_60)) (fun _ h9 => h9) hal_count d_Al_get_6 ?_
    refine lv_icmp_ge (tgt := 21) hx hb d_Al_get_9 (by decide) (fun _ => ?_) (fun h => absurd (nd_le h1 (by decide)) h)
    refine lv_iconst (v := (-1)) hx hb d_Al_get_21 (by decide) ?_
    exact W.iret (v := (-1)) hx hb hr (fun t ht hW => ⟨⟨_, (), rfl, (rfl), trivial⟩, hS.F ht⟩) hS.2.2 d_Al_get_22
theorem d_Bh_alarm_0 : decode b_Bh_alarm 0 = .ok (.aload_n 0, 1) := by decide +kernel
theorem d_Bh_alarm_1 : decode b_Bh_alarm 1 = .ok (.getfield 19, 3) := by decide +kernel
theorem d_Bh_alarm_4 : decode b_Bh_alarm 4 = .ok (.iload_n 1, 1) := by decide +kernel
theorem d_Bh_alarm_5 : decode b_Bh_alarm 5 = .ok (.iload_n 2, 1) := by decide +kernel
theorem d_Bh_alarm_6 : decode b_Bh_alarm 6 = .ok (.invokevirtual 348, 3) := by decide +kernel
theorem d_Bh_alarm_9 : decode b_Bh_alarm 9 = .ok (.ireturn, 1) := by decide +kernel
set_option maxHeartbeats 4000000 in
set_option maxRecDepth 100000 in
theorem c_Bh_alarm (l : Launch) (dC : Nat → ClassId) (dI : Nat → Nat → Nat) (cI cB cZ cJ : ClassId) (kk : Int32) (wh : Int32) (oB : Nat) (oAl : Nat) (xb : List Value) (hb_alarms : xb[1]? = some (.ref oAl)) (xa : List Value) (hal_count : xa[0]? = some (.int 0)) (sz : Nat) : Met l y_Bh_alarm w_Bh_alarm ({ frames := 1, cells := 0, slots := 0, locals := 22 }) (va_Pc [.ref oB, .int kk, .int wh] (PW dC dI cI cB cZ cJ [(oB, .inr (0, xb)), (oAl, .inr (2, xa))] sz)) (va_Qi (fun (r : Int32) (_ : Unit) => r = (-1)) (fun _ _ => True) (va_A [] sz)) 0 0 (va_A [] sz) := by
  refine Met.ofW (cc := b_Bh_alarm) (maxL := 3) (ret := (some .int)) (by decide) rfl ?_
  intro p e s m args below meth c s₁ B hml hv
  obtain ⟨rfl, hsz, hP, hK, hD⟩ := hv
  have hx := B.exec
  have hb := B.bytes
  have hr := B.returns
  have hts := atoms_spec (ws := w_Bh_alarm) B.pre
  have hown : s.vm.findClass R_Bh = some m.cls := findClass_of_methodNamed B.named
  have hlocks := B.notSynchronized
  subst hsz
  generalize hAe : va_A [] s.heap.size = A at ⊢
  have hA : ∀ q : Nat, s.heap.size ≤ q → A q := fun q h => by rw [← hAe]; exact Or.inr h
  have hS : va_S A s.heap s.heap [] := va_S.rf
  have hP : va_P (dC, dI) classes [(oB, .inr (0, xb)), (oAl, .inr (2, xa))] s.heap := hP
  have hl := lv_entry ([.ref oB, .int kk, .int wh]) (n := 3) (Nat.le_of_ble_eq_true rfl)
  rw [lg_entry_eq]
  generalize (lg_sl ([.ref oB, .int kk, .int wh]) ++ List.replicate (3 - (lg_sl ([.ref oB, .int kk, .int wh])).length) Slot.unset).toArray = ls at hl ⊢
  have hl : lv_has ls 3 [(0, .ref oB), (1, .int kk), (2, .int wh)] := hl
  refine lv_aload_n hx hb d_Bh_alarm_0 rfl (lv_at hl 0 rfl) ?_
  refine va_get (D := (dC, dI)) (ci := 0) (v := .ref oAl) (C := R_Bh) (T := F_Bh) (N := 16) hx hb hts (fun w h => List.mem_cons_of_mem _ (in_Bh w h)) hown hK.1 hP 0 rfl rfl 1 (by decide) (hts _ (List.mem_cons_of_mem _ mw_685)) (fun _ h9 => h9) hb_alarms d_Bh_alarm_1 ?_
  refine lv_iload_n hx hb d_Bh_alarm_4 rfl (lv_at hl 1 rfl) ?_
  refine lv_iload_n hx hb d_Bh_alarm_5 rfl (lv_at hl 2 rfl) ?_
  have hPc := hP.sub (ws' := [(oAl, .inr (2, xa))]) [1] rfl
  have hDc := hD.sub (ws' := [(oAl, .inr (2, xa))]) [1] (by decide) rfl
  have hFc := pu_free hS hA
  refine va_calli (va_runV (C := R_Al) (As := [.int kk, .int wh]) (rest := []) ⟨hx, hb, hml, hown, hts⟩ (c_Al_get l dC dI cI cB cZ cJ kk wh oAl xa hal_count s.heap.size) (cwV 2 hts (tb_V mw_1527 mw_1528 mw_1529 mw_3 mw_1530) rfl rfl rfl ⟨rfl, by decide +kernel, by decide +kernel, by decide +kernel⟩ ⟨(Nat.le_of_ble_eq_true rfl), (Nat.le_of_ble_eq_true rfl)⟩) ⟨pw_blind, va_recv (q := (R_Al, F_Al, 4)) hK.1 hP (ci := 2) (q0 := 1) rfl rfl, pw_pre hPc hK hDc⟩ rfl rfl hl.1 rfl (lv_room (Nat.le_of_ble_eq_true rfl)) d_Bh_alarm_6 ⟨(Nat.le_of_ble_eq_true rfl), (Nat.le_of_ble_eq_true rfl)⟩) hS (fun q _ h => hFc q h) hFc (fun r u t H locs ht hvm hw hB hz1 hk1 hS => ?_)
  have hP := pu_kept hP hk1
  obtain rfl : r = (-1) := hw
  exact W.iret (v := (-1)) hx hb hr (fun t ht hW => ⟨⟨_, (), rfl, (rfl), trivial⟩, hS.F ht⟩) hS.2.2 d_Bh_alarm_9
theorem d_Bh_hold_0 : decode b_Bh_hold 0 = .ok (.aload_n 0, 1) := by decide +kernel
theorem d_Bh_hold_1 : decode b_Bh_hold 1 = .ok (.getfield 62, 3) := by decide +kernel
theorem d_Bh_hold_4 : decode b_Bh_hold 4 = .ok (.getfield 161, 3) := by decide +kernel
theorem d_Bh_hold_7 : decode b_Bh_hold 7 = .ok (.iload_n 1, 1) := by decide +kernel
theorem d_Bh_hold_8 : decode b_Bh_hold 8 = .ok (.ifCond .eq 7, 3) := by decide +kernel
theorem d_Bh_hold_11 : decode b_Bh_hold 11 = .ok (.iconst 0, 1) := by decide +kernel
theorem d_Bh_hold_12 : decode b_Bh_hold 12 = .ok (.goto 4, 3) := by decide +kernel
theorem d_Bh_hold_15 : decode b_Bh_hold 15 = .ok (.iconst 2, 1) := by decide +kernel
theorem d_Bh_hold_16 : decode b_Bh_hold 16 = .ok (.if_icmp .eq 5, 3) := by decide +kernel
theorem d_Bh_hold_19 : decode b_Bh_hold 19 = .ok (.iconst 0, 1) := by decide +kernel
theorem d_Bh_hold_20 : decode b_Bh_hold 20 = .ok (.ireturn, 1) := by decide +kernel
set_option maxHeartbeats 4000000 in
set_option maxRecDepth 100000 in
theorem c_Bh_hold (l : Launch) (dC : Nat → ClassId) (dI : Nat → Nat → Nat) (cI cB cZ cJ : ClassId) (on : Int32) (oB : Nat) (oRu : Nat) (xb : List Value) (hb_run : xb[6]? = some (.ref oRu)) (xn : List Value) (hru_state : xn[4]? = some (.int 4)) (sz : Nat) : Met l y_Bh_hold w_Bh_hold ({ frames := 0, cells := 0, slots := 0, locals := 0 }) (va_Pc [.ref oB, .int on] (PW dC dI cI cB cZ cJ [(oB, .inr (0, xb)), (oRu, .inr (10, xn))] sz)) (va_Qi (fun (r : Int32) (_ : Unit) => r = 0) (fun _ _ => True) (va_A [] sz)) 0 0 (va_A [] sz) := by
  refine Met.ofW (cc := b_Bh_hold) (maxL := 2) (ret := (some .boolean)) (by decide) rfl ?_
  intro p e s m args below meth c s₁ B hml hv
  obtain ⟨rfl, hsz, hP, hK, hD⟩ := hv
  have hx := B.exec
  have hb := B.bytes
  have hr := B.returns
  have hts := atoms_spec (ws := w_Bh_hold) B.pre
  have hown : s.vm.findClass R_Bh = some m.cls := findClass_of_methodNamed B.named
  have hlocks := B.notSynchronized
  subst hsz
  generalize hAe : va_A [] s.heap.size = A at ⊢
  have hA : ∀ q : Nat, s.heap.size ≤ q → A q := fun q h => by rw [← hAe]; exact Or.inr h
  have hS : va_S A s.heap s.heap [] := va_S.rf
  have hP : va_P (dC, dI) classes [(oB, .inr (0, xb)), (oRu, .inr (10, xn))] s.heap := hP
  have hl := lv_entry ([.ref oB, .int on]) (n := 2) (Nat.le_of_ble_eq_true rfl)
  rw [lg_entry_eq]
  generalize (lg_sl ([.ref oB, .int on]) ++ List.replicate (2 - (lg_sl ([.ref oB, .int on])).length) Slot.unset).toArray = ls at hl ⊢
  have hl : lv_has ls 2 [(0, .ref oB), (1, .int on)] := hl
  refine lv_aload_n hx hb d_Bh_hold_0 rfl (lv_at hl 0 rfl) ?_
  refine va_get (D := (dC, dI)) (ci := 0) (v := .ref oRu) (C := R_Bh) (T := F_Bh) (N := 16) hx hb hts (fun w h => List.mem_cons_of_mem _ (in_Bh w h)) hown hK.1 hP 0 rfl rfl 6 (by decide) (hts _ (List.mem_cons_of_mem _ mw_690)) (fun _ h9 => h9) hb_run d_Bh_hold_1 ?_
  refine va_get (D := (dC, dI)) (ci := 10) (v := .int 4) (C := R_Ru) (T := F_Ru) (N := 21) hx hb hts (fun w h => List.mem_cons_of_mem _ (in_Ru w h)) hown hK.1 hP 1 rfl rfl 4 (by decide) (hts _ (List.mem_cons_of_mem _ mw_517)) (fun _ h9 => h9) hru_state d_Bh_hold_4 ?_
  refine lv_iload_n hx hb d_Bh_hold_7 rfl (lv_at hl 1 rfl) ?_
  refine lv_if_eq (tgt := 15) hx hb d_Bh_hold_8 (by decide) (fun h8 => ?_) (fun h8 => ?_)
  · refine lv_iconst (v := 2) hx hb d_Bh_hold_15 (by decide) ?_
    refine lv_icmp_eq (tgt := 21) hx hb d_Bh_hold_16 (by decide) (fun h => absurd h (by decide)) (fun _ => ?_)
    refine lv_iconst (v := 0) hx hb d_Bh_hold_19 (by decide) ?_
    exact W.zret (v := 0) (ty := .boolean) hx hb hr (by decide) (fun t ht hW => ⟨⟨_, (), rfl, (rfl), trivial⟩, hS.F ht⟩) hS.2.2 d_Bh_hold_20
  · refine lv_iconst (v := 0) hx hb d_Bh_hold_11 (by decide) ?_
    refine lv_goto (tgt := 16) hx hb d_Bh_hold_12 (by decide) ?_
    refine lv_icmp_eq (tgt := 21) hx hb d_Bh_hold_16 (by decide) (fun h => absurd h (by decide)) (fun _ => ?_)
    refine lv_iconst (v := 0) hx hb d_Bh_hold_19 (by decide) ?_
    exact W.zret (v := 0) (ty := .boolean) hx hb hr (by decide) (fun t ht hW => ⟨⟨_, (), rfl, (rfl), trivial⟩, hS.F ht⟩) hS.2.2 d_Bh_hold_20
theorem d_Ru_isAlive_0 : decode b_Ru_isAlive 0 = .ok (.aload_n 0, 1) := by decide +kernel
theorem d_Ru_isAlive_1 : decode b_Ru_isAlive 1 = .ok (.getfield 18, 3) := by decide +kernel
theorem d_Ru_isAlive_4 : decode b_Ru_isAlive 4 = .ok (.ifCond .eq 11, 3) := by decide +kernel
theorem d_Ru_isAlive_7 : decode b_Ru_isAlive 7 = .ok (.aload_n 0, 1) := by decide +kernel
theorem d_Ru_isAlive_8 : decode b_Ru_isAlive 8 = .ok (.getfield 18, 3) := by decide +kernel
theorem d_Ru_isAlive_11 : decode b_Ru_isAlive 11 = .ok (.iconst 2, 1) := by decide +kernel
theorem d_Ru_isAlive_12 : decode b_Ru_isAlive 12 = .ok (.if_icmp .ne 7, 3) := by decide +kernel
theorem d_Ru_isAlive_19 : decode b_Ru_isAlive 19 = .ok (.iconst 0, 1) := by decide +kernel
theorem d_Ru_isAlive_20 : decode b_Ru_isAlive 20 = .ok (.ireturn, 1) := by decide +kernel
set_option maxHeartbeats 4000000 in
set_option maxRecDepth 100000 in
theorem c_Ru_isAlive (l : Launch) (dC : Nat → ClassId) (dI : Nat → Nat → Nat) (cI cB cZ cJ : ClassId) (oRu : Nat) (xn : List Value) (hru_state : xn[4]? = some (.int 4)) (sz : Nat) : Met l y_Ru_isAlive w_Ru_isAlive ({ frames := 0, cells := 0, slots := 0, locals := 0 }) (va_Pc [.ref oRu] (PW dC dI cI cB cZ cJ [(oRu, .inr (10, xn))] sz)) (va_Qi (fun (r : Int32) (_ : Unit) => r = 0) (fun _ _ => True) (va_A [] sz)) 0 0 (va_A [] sz) := by
  refine Met.ofW (cc := b_Ru_isAlive) (maxL := 1) (ret := (some .boolean)) (by decide) rfl ?_
  intro p e s m args below meth c s₁ B hml hv
  obtain ⟨rfl, hsz, hP, hK, hD⟩ := hv
  have hx := B.exec
  have hb := B.bytes
  have hr := B.returns
  have hts := atoms_spec (ws := w_Ru_isAlive) B.pre
  have hown : s.vm.findClass R_Ru = some m.cls := findClass_of_methodNamed B.named
  have hlocks := B.notSynchronized
  subst hsz
  generalize hAe : va_A [] s.heap.size = A at ⊢
  have hA : ∀ q : Nat, s.heap.size ≤ q → A q := fun q h => by rw [← hAe]; exact Or.inr h
  have hS : va_S A s.heap s.heap [] := va_S.rf
  have hP : va_P (dC, dI) classes [(oRu, .inr (10, xn))] s.heap := hP
  have hl := lv_entry ([.ref oRu]) (n := 1) (Nat.le_of_ble_eq_true rfl)
  rw [lg_entry_eq]
  generalize (lg_sl ([.ref oRu]) ++ List.replicate (1 - (lg_sl ([.ref oRu])).length) Slot.unset).toArray = ls at hl ⊢
  have hl : lv_has ls 1 [(0, .ref oRu)] := hl
  refine lv_aload_n hx hb d_Ru_isAlive_0 rfl (lv_at hl 0 rfl) ?_
  refine va_get (D := (dC, dI)) (ci := 10) (v := .int 4) (C := R_Ru) (T := F_Ru) (N := 21) hx hb hts (fun w h => List.mem_cons_of_mem _ (in_Ru w h)) hown hK.1 hP 0 rfl rfl 4 (by decide) (hts _ (List.mem_cons_of_mem _ mw_516)) (fun _ h9 => h9) hru_state d_Ru_isAlive_1 ?_
  refine lv_if_eq (tgt := 15) hx hb d_Ru_isAlive_4 (by decide) (fun h => absurd h (by decide)) (fun _ => ?_)
  refine lv_aload_n hx hb d_Ru_isAlive_7 rfl (lv_at hl 0 rfl) ?_
  refine va_get (D := (dC, dI)) (ci := 10) (v := .int 4) (C := R_Ru) (T := F_Ru) (N := 21) hx hb hts (fun w h => List.mem_cons_of_mem _ (in_Ru w h)) hown hK.1 hP 0 rfl rfl 4 (by decide) (hts _ (List.mem_cons_of_mem _ mw_516)) (fun _ h9 => h9) hru_state d_Ru_isAlive_8 ?_
  refine lv_iconst (v := 2) hx hb d_Ru_isAlive_11 (by decide) ?_
  refine lv_icmp_ne (tgt := 19) hx hb d_Ru_isAlive_12 (by decide) (fun _ => ?_) (fun h => absurd h (by decide))
  refine lv_iconst (v := 0) hx hb d_Ru_isAlive_19 (by decide) ?_
  exact W.zret (v := 0) (ty := .boolean) hx hb hr (by decide) (fun t ht hW => ⟨⟨_, (), rfl, (rfl), trivial⟩, hS.F ht⟩) hS.2.2 d_Ru_isAlive_20
theorem d_Bh_stop_0 : decode b_Bh_stop 0 = .ok (.aload_n 0, 1) := by decide +kernel
theorem d_Bh_stop_1 : decode b_Bh_stop 1 = .ok (.getfield 62, 3) := by decide +kernel
theorem d_Bh_stop_4 : decode b_Bh_stop 4 = .ok (.invokevirtual 270, 3) := by decide +kernel
theorem d_Bh_stop_7 : decode b_Bh_stop 7 = .ok (.ifCond .ne 5, 3) := by decide +kernel
theorem d_Bh_stop_10 : decode b_Bh_stop 10 = .ok (.iconst 0, 1) := by decide +kernel
theorem d_Bh_stop_11 : decode b_Bh_stop 11 = .ok (.ireturn, 1) := by decide +kernel
set_option maxHeartbeats 4000000 in
set_option maxRecDepth 100000 in
theorem c_Bh_stop (l : Launch) (dC : Nat → ClassId) (dI : Nat → Nat → Nat) (cI cB cZ cJ : ClassId) (oB : Nat) (oRu : Nat) (xb : List Value) (hb_run : xb[6]? = some (.ref oRu)) (xn : List Value) (hru_state : xn[4]? = some (.int 4)) (sz : Nat) : Met l y_Bh_stop w_Bh_stop ({ frames := 1, cells := 0, slots := 0, locals := 20 }) (va_Pc [.ref oB] (PW dC dI cI cB cZ cJ [(oB, .inr (0, xb)), (oRu, .inr (10, xn))] sz)) (va_Qi (fun (r : Int32) (_ : Unit) => r = 0) (fun _ _ => True) (va_A [] sz)) 0 0 (va_A [] sz) := by
  refine Met.ofW (cc := b_Bh_stop) (maxL := 1) (ret := (some .boolean)) (by decide) rfl ?_
  intro p e s m args below meth c s₁ B hml hv
  obtain ⟨rfl, hsz, hP, hK, hD⟩ := hv
  have hx := B.exec
  have hb := B.bytes
  have hr := B.returns
  have hts := atoms_spec (ws := w_Bh_stop) B.pre
  have hown : s.vm.findClass R_Bh = some m.cls := findClass_of_methodNamed B.named
  have hlocks := B.notSynchronized
  subst hsz
  generalize hAe : va_A [] s.heap.size = A at ⊢
  have hA : ∀ q : Nat, s.heap.size ≤ q → A q := fun q h => by rw [← hAe]; exact Or.inr h
  have hS : va_S A s.heap s.heap [] := va_S.rf
  have hP : va_P (dC, dI) classes [(oB, .inr (0, xb)), (oRu, .inr (10, xn))] s.heap := hP
  have hl := lv_entry ([.ref oB]) (n := 1) (Nat.le_of_ble_eq_true rfl)
  rw [lg_entry_eq]
  generalize (lg_sl ([.ref oB]) ++ List.replicate (1 - (lg_sl ([.ref oB])).length) Slot.unset).toArray = ls at hl ⊢
  have hl : lv_has ls 1 [(0, .ref oB)] := hl
  refine lv_aload_n hx hb d_Bh_stop_0 rfl (lv_at hl 0 rfl) ?_
  refine va_get (D := (dC, dI)) (ci := 0) (v := .ref oRu) (C := R_Bh) (T := F_Bh) (N := 16) hx hb hts (fun w h => List.mem_cons_of_mem _ (in_Bh w h)) hown hK.1 hP 0 rfl rfl 6 (by decide) (hts _ (List.mem_cons_of_mem _ mw_690)) (fun _ h9 => h9) hb_run d_Bh_stop_1 ?_
  have hPc := hP.sub (ws' := [(oRu, .inr (10, xn))]) [1] rfl
  have hDc := hD.sub (ws' := [(oRu, .inr (10, xn))]) [1] (by decide) rfl
  have hFc := pu_free hS hA
  refine va_calli (va_runV (C := R_Ru) (As := []) (rest := []) ⟨hx, hb, hml, hown, hts⟩ (c_Ru_isAlive l dC dI cI cB cZ cJ oRu xn hru_state s.heap.size) (cwV 0 hts (tb_V mw_1297 mw_1298 mw_1299 mw_11 mw_1300) rfl rfl rfl ⟨rfl, by decide +kernel, by decide +kernel, by decide +kernel⟩ ⟨(Nat.le_of_ble_eq_true rfl), (Nat.le_of_ble_eq_true rfl)⟩) ⟨pw_blind, va_recv (q := (R_Ru, F_Ru, 21)) hK.1 hP (ci := 10) (q0 := 1) rfl rfl, pw_pre hPc hK hDc⟩ rfl rfl hl.1 rfl (lv_room (Nat.le_of_ble_eq_true rfl)) d_Bh_stop_4 ⟨(Nat.le_of_ble_eq_true rfl), (Nat.le_of_ble_eq_true rfl)⟩) hS (fun q _ h => hFc q h) hFc (fun r u t H locs ht hvm hw hB hz1 hk1 hS => ?_)
  have hP := pu_kept hP hk1
  obtain rfl : r = 0 := hw
  refine lv_if_ne (tgt := 12) hx hb d_Bh_stop_7 (by decide) (fun h => absurd rfl h) (fun _ => ?_)
  refine lv_iconst (v := 0) hx hb d_Bh_stop_10 (by decide) ?_
  exact W.zret (v := 0) (ty := .boolean) hx hb hr (by decide) (fun t ht hW => ⟨⟨_, (), rfl, (rfl), trivial⟩, hS.F ht⟩) hS.2.2 d_Bh_stop_11
theorem d_Bh_start_0 : decode b_Bh_start 0 = .ok (.aload_n 0, 1) := by decide +kernel
theorem d_Bh_start_1 : decode b_Bh_start 1 = .ok (.getfield 62, 3) := by decide +kernel
theorem d_Bh_start_4 : decode b_Bh_start 4 = .ok (.getfield 183, 3) := by decide +kernel
theorem d_Bh_start_7 : decode b_Bh_start 7 = .ok (.getfield 267, 3) := by decide +kernel
theorem d_Bh_start_10 : decode b_Bh_start 10 = .ok (.ifCond .ge 5, 3) := by decide +kernel
theorem d_Bh_start_13 : decode b_Bh_start 13 = .ok (.iconst 0, 1) := by decide +kernel
theorem d_Bh_start_14 : decode b_Bh_start 14 = .ok (.ireturn, 1) := by decide +kernel
set_option maxHeartbeats 4000000 in
set_option maxRecDepth 100000 in
theorem c_Bh_start (l : Launch) (dC : Nat → ClassId) (dI : Nat → Nat → Nat) (cI cB cZ cJ : ClassId) (oB : Nat) (oRu : Nat) (oG1 : Nat) (xb : List Value) (hb_run : xb[6]? = some (.ref oRu)) (xn : List Value) (hru_program : xn[3]? = some (.ref oG1)) (xg : List Value) (hxg_opening : xg[2]? = some (.int (-1))) (sz : Nat) : Met l y_Bh_start w_Bh_start ({ frames := 0, cells := 0, slots := 0, locals := 0 }) (va_Pc [.ref oB] (PW dC dI cI cB cZ cJ [(oB, .inr (0, xb)), (oRu, .inr (10, xn)), (oG1, .inr (8, xg))] sz)) (va_Qi (fun (r : Int32) (_ : Unit) => r = 0) (fun _ _ => True) (va_A [] sz)) 0 0 (va_A [] sz) := by
  refine Met.ofW (cc := b_Bh_start) (maxL := 1) (ret := (some .boolean)) (by decide) rfl ?_
  intro p e s m args below meth c s₁ B hml hv
  obtain ⟨rfl, hsz, hP, hK, hD⟩ := hv
  have hx := B.exec
  have hb := B.bytes
  have hr := B.returns
  have hts := atoms_spec (ws := w_Bh_start) B.pre
  have hown : s.vm.findClass R_Bh = some m.cls := findClass_of_methodNamed B.named
  have hlocks := B.notSynchronized
  subst hsz
  generalize hAe : va_A [] s.heap.size = A at ⊢
  have hA : ∀ q : Nat, s.heap.size ≤ q → A q := fun q h => by rw [← hAe]; exact Or.inr h
  have hS : va_S A s.heap s.heap [] := va_S.rf
  have hP : va_P (dC, dI) classes [(oB, .inr (0, xb)), (oRu, .inr (10, xn)), (oG1, .inr (8, xg))] s.heap := hP
  have hl := lv_entry ([.ref oB]) (n := 1) (Nat.le_of_ble_eq_true rfl)
  rw [lg_entry_eq]
  generalize (lg_sl ([.ref oB]) ++ List.replicate (1 - (lg_sl ([.ref oB])).length) Slot.unset).toArray = ls at hl ⊢
  have hl : lv_has ls 1 [(0, .ref oB)] := hl
  refine lv_aload_n hx hb d_Bh_start_0 rfl (lv_at hl 0 rfl) ?_
  refine va_get (D := (dC, dI)) (ci := 0) (v := .ref oRu) (C := R_Bh) (T := F_Bh) (N := 16) hx hb hts (fun w h => List.mem_cons_of_mem _ (in_Bh w h)) hown hK.1 hP 0 rfl rfl 6 (by decide) (hts _ (List.mem_cons_of_mem _ mw_690)) (fun _ h9 => h9) hb_run d_Bh_start_1 ?_
  refine va_get (D := (dC, dI)) (ci := 10) (v := .ref oG1) (C := R_Ru) (T := F_Ru) (N := 21) hx hb hts (fun w h => List.mem_cons_of_mem _ (in_Ru w h)) hown hK.1 hP 1 rfl rfl 3 (by decide) (hts _ (List.mem_cons_of_mem _ mw_515)) (fun _ h9 => h9) hru_program d_Bh_start_4 ?_
  refine va_get (D := (dC, dI)) (ci := 8) (v := .int (-1)) (C := R_Pr) (T := F_Pr) (N := 18) hx hb hts (fun w h => List.mem_cons_of_mem _ (in_Pr w h)) hown hK.1 hP 2 rfl rfl 2 (by decide) (hts _ (List.mem_cons_of_mem _ mw_436)) (fun _ h9 => h9) hxg_opening d_Bh_start_7 ?_
  refine lv_if_ge (tgt := 15) hx hb d_Bh_start_10 (by decide) (fun h => absurd h (by decide)) (fun _ => ?_)
  refine lv_iconst (v := 0) hx hb d_Bh_start_13 (by decide) ?_
  exact W.zret (v := 0) (ty := .boolean) hx hb hr (by decide) (fun t ht hW => ⟨⟨_, (), rfl, (rfl), trivial⟩, hS.F ht⟩) hS.2.2 d_Bh_start_14
theorem d_Ro_has_0 : decode b_Ro_has 0 = .ok (.iload_n 1, 1) := by decide +kernel
theorem d_Ro_has_1 : decode b_Ro_has 1 = .ok (.iconst 1, 1) := by decide +kernel
theorem d_Ro_has_2 : decode b_Ro_has 2 = .ok (.if_icmp .lt 15, 3) := by decide +kernel
theorem d_Ro_has_5 : decode b_Ro_has 5 = .ok (.iload_n 1, 1) := by decide +kernel
theorem d_Ro_has_6 : decode b_Ro_has 6 = .ok (.aload_n 0, 1) := by decide +kernel
theorem d_Ro_has_7 : decode b_Ro_has 7 = .ok (.getfield 37, 3) := by decide +kernel
theorem d_Ro_has_10 : decode b_Ro_has 10 = .ok (.if_icmp .gt 7, 3) := by decide +kernel
theorem d_Ro_has_17 : decode b_Ro_has 17 = .ok (.iconst 0, 1) := by decide +kernel
theorem d_Ro_has_18 : decode b_Ro_has 18 = .ok (.ireturn, 1) := by decide +kernel
set_option maxHeartbeats 4000000 in
set_option maxRecDepth 100000 in
theorem c_Ro_has (l : Launch) (dC : Nat → ClassId) (dI : Nat → Nat → Nat) (cI cB cZ cJ : ClassId) (rr : Int32) (oR1 : Nat) (xr : List Value) (hxr_count : xr[0]? = some (.int 0)) (sz : Nat) : Met l y_Ro_has w_Ro_has ({ frames := 0, cells := 0, slots := 0, locals := 0 }) (va_Pc [.ref oR1, .int rr] (PW dC dI cI cB cZ cJ [(oR1, .inr (7, xr))] sz)) (va_Qi (fun (r : Int32) (_ : Unit) => r = 0) (fun _ _ => True) (va_A [] sz)) 0 0 (va_A [] sz) := by
  refine Met.ofW (cc := b_Ro_has) (maxL := 2) (ret := (some .boolean)) (by decide) rfl ?_
  intro p e s m args below meth c s₁ B hml hv
  obtain ⟨rfl, hsz, hP, hK, hD⟩ := hv
  have hx := B.exec
  have hb := B.bytes
  have hr := B.returns
  have hts := atoms_spec (ws := w_Ro_has) B.pre
  have hown : s.vm.findClass R_Ro = some m.cls := findClass_of_methodNamed B.named
  have hlocks := B.notSynchronized
  subst hsz
  generalize hAe : va_A [] s.heap.size = A at ⊢
  have hA : ∀ q : Nat, s.heap.size ≤ q → A q := fun q h => by rw [← hAe]; exact Or.inr h
  have hS : va_S A s.heap s.heap [] := va_S.rf
  have hP : va_P (dC, dI) classes [(oR1, .inr (7, xr))] s.heap := hP
  have hl := lv_entry ([.ref oR1, .int rr]) (n := 2) (Nat.le_of_ble_eq_true rfl)
  rw [lg_entry_eq]
  generalize (lg_sl ([.ref oR1, .int rr]) ++ List.replicate (2 - (lg_sl ([.ref oR1, .int rr])).length) Slot.unset).toArray = ls at hl ⊢
  have hl : lv_has ls 2 [(0, .ref oR1), (1, .int rr)] := hl
  refine lv_iload_n hx hb d_Ro_has_0 rfl (lv_at hl 1 rfl) ?_
  refine lv_iconst (v := 1) hx hb d_Ro_has_1 (by decide) ?_
  refine lv_icmp_lt (tgt := 17) hx hb d_Ro_has_2 (by decide) (fun h2 => ?_) (fun h2 => ?_)
  · refine lv_iconst (v := 0) hx hb d_Ro_has_17 (by decide) ?_
    exact W.zret (v := 0) (ty := .boolean) hx hb hr (by decide) (fun t ht hW => ⟨⟨_, (), rfl, (rfl), trivial⟩, hS.F ht⟩) hS.2.2 d_Ro_has_18
  · refine lv_iload_n hx hb d_Ro_has_5 rfl (lv_at hl 1 rfl) ?_
    refine lv_aload_n hx hb d_Ro_has_6 rfl (lv_at hl 0 rfl) ?_
    refine va_get (D := (dC, dI)) (ci := 7) (v := .int 0) (C := R_Ro) (T := F_Ro) (N := 18) hx hb hts (fun w h => List.mem_cons_of_mem _ (in_Ro w h)) hown hK.1 hP 0 rfl rfl 0 (by decide) (hts _ (List.mem_cons_of_mem _ mw_329)) (fun _ h9 => h9) hxr_count d_Ro_has_7 ?_
    refine lv_icmp_gt (tgt := 17) hx hb d_Ro_has_10 (by decide) (fun _ => ?_) (fun h => absurd (nd_lt h2 (by decide)) h)
    refine lv_iconst (v := 0) hx hb d_Ro_has_17 (by decide) ?_
    exact W.zret (v := 0) (ty := .boolean) hx hb hr (by decide) (fun t ht hW => ⟨⟨_, (), rfl, (rfl), trivial⟩, hS.F ht⟩) hS.2.2 d_Ro_has_18
theorem d_Bh_pass_0 : decode b_Bh_pass 0 = .ok (.aload_n 0, 1) := by decide +kernel
theorem d_Bh_pass_1 : decode b_Bh_pass 1 = .ok (.getfield 53, 3) := by decide +kernel
theorem d_Bh_pass_4 : decode b_Bh_pass 4 = .ok (.getfield 174, 3) := by decide +kernel
theorem d_Bh_pass_7 : decode b_Bh_pass 7 = .ok (.iload_n 1, 1) := by decide +kernel
theorem d_Bh_pass_8 : decode b_Bh_pass 8 = .ok (.invokevirtual 320, 3) := by decide +kernel
theorem d_Bh_pass_11 : decode b_Bh_pass 11 = .ok (.ifCond .ne 5, 3) := by decide +kernel
theorem d_Bh_pass_14 : decode b_Bh_pass 14 = .ok (.iconst (-1), 1) := by decide +kernel
theorem d_Bh_pass_15 : decode b_Bh_pass 15 = .ok (.ireturn, 1) := by decide +kernel
set_option maxHeartbeats 4000000 in
set_option maxRecDepth 100000 in
theorem c_Bh_pass (l : Launch) (dC : Nat → ClassId) (dI : Nat → Nat → Nat) (cI cB cZ cJ : ClassId) (rr : Int32) (pa : Int32) (pb : Int32) (se : Int32) (oB : Nat) (oAc : Nat) (oR1 : Nat) (xb : List Value) (hb_acts : xb[5]? = some (.ref oAc)) (xc : List Value) (hac_rows : xc[3]? = some (.ref oR1)) (xr : List Value) (hxr_count : xr[0]? = some (.int 0)) (sz : Nat) : Met l y_Bh_pass w_Bh_pass ({ frames := 1, cells := 0, slots := 0, locals := 21 }) (va_Pc [.ref oB, .int rr, .int pa, .int pb, .int se] (PW dC dI cI cB cZ cJ [(oB, .inr (0, xb)), (oAc, .inr (11, xc)), (oR1, .inr (7, xr))] sz)) (va_Qi (fun (r : Int32) (_ : Unit) => r = (-1)) (fun _ _ => True) (va_A [] sz)) 0 0 (va_A [] sz) := by
  refine Met.ofW (cc := b_Bh_pass) (maxL := 5) (ret := (some .int)) (by decide) rfl ?_
  intro p e s m args below meth c s₁ B hml hv
  obtain ⟨rfl, hsz, hP, hK, hD⟩ := hv
  have hx := B.exec
  have hb := B.bytes
  have hr := B.returns
  have hts := atoms_spec (ws := w_Bh_pass) B.pre
  have hown : s.vm.findClass R_Bh = some m.cls := findClass_of_methodNamed B.named
  have hlocks := B.notSynchronized
  subst hsz
  generalize hAe : va_A [] s.heap.size = A at ⊢
  have hA : ∀ q : Nat, s.heap.size ≤ q → A q := fun q h => by rw [← hAe]; exact Or.inr h
  have hS : va_S A s.heap s.heap [] := va_S.rf
  have hP : va_P (dC, dI) classes [(oB, .inr (0, xb)), (oAc, .inr (11, xc)), (oR1, .inr (7, xr))] s.heap := hP
  have hl := lv_entry ([.ref oB, .int rr, .int pa, .int pb, .int se]) (n := 5) (Nat.le_of_ble_eq_true rfl)
  rw [lg_entry_eq]
  generalize (lg_sl ([.ref oB, .int rr, .int pa, .int pb, .int se]) ++ List.replicate (5 - (lg_sl ([.ref oB, .int rr, .int pa, .int pb, .int se])).length) Slot.unset).toArray = ls at hl ⊢
  have hl : lv_has ls 5 [(0, .ref oB), (1, .int rr), (2, .int pa), (3, .int pb), (4, .int se)] := hl
  refine lv_aload_n hx hb d_Bh_pass_0 rfl (lv_at hl 0 rfl) ?_
  refine va_get (D := (dC, dI)) (ci := 0) (v := .ref oAc) (C := R_Bh) (T := F_Bh) (N := 16) hx hb hts (fun w h => List.mem_cons_of_mem _ (in_Bh w h)) hown hK.1 hP 0 rfl rfl 5 (by decide) (hts _ (List.mem_cons_of_mem _ mw_689)) (fun _ h9 => h9) hb_acts d_Bh_pass_1 ?_
  refine va_get (D := (dC, dI)) (ci := 11) (v := .ref oR1) (C := R_Ac) (T := F_Ac) (N := 8) hx hb hts (fun w h => List.mem_cons_of_mem _ (in_Ac w h)) hown hK.1 hP 1 rfl rfl 3 (by decide) (hts _ (List.mem_cons_of_mem _ mw_394)) (fun _ h9 => h9) hac_rows d_Bh_pass_4 ?_
  refine lv_iload_n hx hb d_Bh_pass_7 rfl (lv_at hl 1 rfl) ?_
  have hPc := hP.sub (ws' := [(oR1, .inr (7, xr))]) [2] rfl
  have hDc := hD.sub (ws' := [(oR1, .inr (7, xr))]) [2] (by decide) rfl
  have hFc := pu_free hS hA
  refine va_calli (va_runV (C := R_Ro) (As := [.int rr]) (rest := []) ⟨hx, hb, hml, hown, hts⟩ (c_Ro_has l dC dI cI cB cZ cJ rr oR1 xr hxr_count s.heap.size) (cwV 1 hts (tb_V mw_1484 mw_1485 mw_1486 mw_10 mw_1487) rfl rfl rfl ⟨rfl, by decide +kernel, by decide +kernel, by decide +kernel⟩ ⟨(Nat.le_of_ble_eq_true rfl), (Nat.le_of_ble_eq_true rfl)⟩) ⟨pw_blind, va_recv (q := (R_Ro, F_Ro, 18)) hK.1 hP (ci := 7) (q0 := 2) rfl rfl, pw_pre hPc hK hDc⟩ rfl rfl hl.1 rfl (lv_room (Nat.le_of_ble_eq_true rfl)) d_Bh_pass_8 ⟨(Nat.le_of_ble_eq_true rfl), (Nat.le_of_ble_eq_true rfl)⟩) hS (fun q _ h => hFc q h) hFc (fun r u t H locs ht hvm hw hB hz1 hk1 hS => ?_)
  have hP := pu_kept hP hk1
  obtain rfl : r = 0 := hw
  refine lv_if_ne (tgt := 16) hx hb d_Bh_pass_11 (by decide) (fun h => absurd rfl h) (fun _ => ?_)
  refine lv_iconst (v := (-1)) hx hb d_Bh_pass_14 (by decide) ?_
  exact W.iret (v := (-1)) hx hb hr (fun t ht hW => ⟨⟨_, (), rfl, (rfl), trivial⟩, hS.F ht⟩) hS.2.2 d_Bh_pass_15
theorem d_Bh_reset_0 : decode b_Bh_reset 0 = .ok (.aload_n 0, 1) := by decide +kernel
theorem d_Bh_reset_1 : decode b_Bh_reset 1 = .ok (.getfield 53, 3) := by decide +kernel
theorem d_Bh_reset_4 : decode b_Bh_reset 4 = .ok (.getfield 174, 3) := by decide +kernel
theorem d_Bh_reset_7 : decode b_Bh_reset 7 = .ok (.astore_n 2, 1) := by decide +kernel
theorem d_Bh_reset_8 : decode b_Bh_reset 8 = .ok (.aload_n 2, 1) := by decide +kernel
theorem d_Bh_reset_9 : decode b_Bh_reset 9 = .ok (.iload_n 1, 1) := by decide +kernel
theorem d_Bh_reset_10 : decode b_Bh_reset 10 = .ok (.invokevirtual 320, 3) := by decide +kernel
theorem d_Bh_reset_13 : decode b_Bh_reset 13 = .ok (.ifCond .eq 24, 3) := by decide +kernel
theorem d_Bh_reset_37 : decode b_Bh_reset 37 = .ok (.iconst 0, 1) := by decide +kernel
theorem d_Bh_reset_38 : decode b_Bh_reset 38 = .ok (.ireturn, 1) := by decide +kernel
set_option maxHeartbeats 4000000 in
set_option maxRecDepth 100000 in
theorem c_Bh_reset (l : Launch) (dC : Nat → ClassId) (dI : Nat → Nat → Nat) (cI cB cZ cJ : ClassId) (rr : Int32) (oB : Nat) (oAc : Nat) (oR1 : Nat) (xb : List Value) (hb_acts : xb[5]? = some (.ref oAc)) (xc : List Value) (hac_rows : xc[3]? = some (.ref oR1)) (xr : List Value) (hxr_count : xr[0]? = some (.int 0)) (sz : Nat) : Met l y_Bh_reset w_Bh_reset ({ frames := 1, cells := 0, slots := 0, locals := 21 }) (va_Pc [.ref oB, .int rr] (PW dC dI cI cB cZ cJ [(oB, .inr (0, xb)), (oAc, .inr (11, xc)), (oR1, .inr (7, xr))] sz)) (va_Qi (fun (r : Int32) (_ : Unit) => r = 0) (fun _ _ => True) (va_A [] sz)) 0 0 (va_A [] sz) := by
  refine Met.ofW (cc := b_Bh_reset) (maxL := 3) (ret := (some .boolean)) (by decide) rfl ?_
  intro p e s m args below meth c s₁ B hml hv
  obtain ⟨rfl, hsz, hP, hK, hD⟩ := hv
  have hx := B.exec
  have hb := B.bytes
  have hr := B.returns
  have hts := atoms_spec (ws := w_Bh_reset) B.pre
  have hown : s.vm.findClass R_Bh = some m.cls := findClass_of_methodNamed B.named
  have hlocks := B.notSynchronized
  subst hsz
  generalize hAe : va_A [] s.heap.size = A at ⊢
  have hA : ∀ q : Nat, s.heap.size ≤ q → A q := fun q h => by rw [← hAe]; exact Or.inr h
  have hS : va_S A s.heap s.heap [] := va_S.rf
  have hP : va_P (dC, dI) classes [(oB, .inr (0, xb)), (oAc, .inr (11, xc)), (oR1, .inr (7, xr))] s.heap := hP
  have hl := lv_entry ([.ref oB, .int rr]) (n := 3) (Nat.le_of_ble_eq_true rfl)
  rw [lg_entry_eq]
  generalize (lg_sl ([.ref oB, .int rr]) ++ List.replicate (3 - (lg_sl ([.ref oB, .int rr])).length) Slot.unset).toArray = ls at hl ⊢
  have hl : lv_has ls 3 [(0, .ref oB), (1, .int rr)] := hl
  refine lv_aload_n hx hb d_Bh_reset_0 rfl (lv_at hl 0 rfl) ?_
  refine va_get (D := (dC, dI)) (ci := 0) (v := .ref oAc) (C := R_Bh) (T := F_Bh) (N := 16) hx hb hts (fun w h => List.mem_cons_of_mem _ (in_Bh w h)) hown hK.1 hP 0 rfl rfl 5 (by decide) (hts _ (List.mem_cons_of_mem _ mw_689)) (fun _ h9 => h9) hb_acts d_Bh_reset_1 ?_
  refine va_get (D := (dC, dI)) (ci := 11) (v := .ref oR1) (C := R_Ac) (T := F_Ac) (N := 8) hx hb hts (fun w h => List.mem_cons_of_mem _ (in_Ac w h)) hown hK.1 hP 1 rfl rfl 3 (by decide) (hts _ (List.mem_cons_of_mem _ mw_394)) (fun _ h9 => h9) hac_rows d_Bh_reset_4 ?_
  refine lv_astore_n hx hb d_Bh_reset_7 rfl hl (by decide) rfl (fun ls hl => ?_)
  have hl : lv_has ls 3 [(2, .ref oR1), (0, .ref oB), (1, .int rr)] := hl
  refine lv_aload_n hx hb d_Bh_reset_8 rfl (lv_at hl 0 rfl) ?_
  refine lv_iload_n hx hb d_Bh_reset_9 rfl (lv_at hl 2 rfl) ?_
  have hPc := hP.sub (ws' := [(oR1, .inr (7, xr))]) [2] rfl
  have hDc := hD.sub (ws' := [(oR1, .inr (7, xr))]) [2] (by decide) rfl
  have hFc := pu_free hS hA
  refine va_calli (va_runV (C := R_Ro) (As := [.int rr]) (rest := []) ⟨hx, hb, hml, hown, hts⟩ (c_Ro_has l dC dI cI cB cZ cJ rr oR1 xr hxr_count s.heap.size) (cwV 1 hts (tb_V mw_1484 mw_1485 mw_1486 mw_10 mw_1487) rfl rfl rfl ⟨rfl, by decide +kernel, by decide +kernel, by decide +kernel⟩ ⟨(Nat.le_of_ble_eq_true rfl), (Nat.le_of_ble_eq_true rfl)⟩) ⟨pw_blind, va_recv (q := (R_Ro, F_Ro, 18)) hK.1 hP (ci := 7) (q0 := 2) rfl rfl, pw_pre hPc hK hDc⟩ rfl rfl hl.1 rfl (lv_room (Nat.le_of_ble_eq_true rfl)) d_Bh_reset_10 ⟨(Nat.le_of_ble_eq_true rfl), (Nat.le_of_ble_eq_true rfl)⟩) hS (fun q _ h => hFc q h) hFc (fun r u t H locs ht hvm hw hB hz1 hk1 hS => ?_)
  have hP := pu_kept hP hk1
  obtain rfl : r = 0 := hw
  refine lv_if_eq (tgt := 37) hx hb d_Bh_reset_13 (by decide) (fun _ => ?_) (fun h => absurd (by decide) h)
  refine lv_iconst (v := 0) hx hb d_Bh_reset_37 (by decide) ?_
  exact W.zret (v := 0) (ty := .boolean) hx hb hr (by decide) (fun t ht hW => ⟨⟨_, (), rfl, (rfl), trivial⟩, hS.F ht⟩) hS.2.2 d_Bh_reset_38
theorem d_Bh_row_0 : decode b_Bh_row 0 = .ok (.aload_n 0, 1) := by decide +kernel
theorem d_Bh_row_1 : decode b_Bh_row 1 = .ok (.getfield 53, 3) := by decide +kernel
theorem d_Bh_row_4 : decode b_Bh_row 4 = .ok (.getfield 174, 3) := by decide +kernel
theorem d_Bh_row_7 : decode b_Bh_row 7 = .ok (.astore_n 3, 1) := by decide +kernel
theorem d_Bh_row_8 : decode b_Bh_row 8 = .ok (.aload_n 3, 1) := by decide +kernel
theorem d_Bh_row_9 : decode b_Bh_row 9 = .ok (.iload_n 1, 1) := by decide +kernel
theorem d_Bh_row_10 : decode b_Bh_row 10 = .ok (.invokevirtual 320, 3) := by decide +kernel
theorem d_Bh_row_13 : decode b_Bh_row 13 = .ok (.ifCond .ne 5, 3) := by decide +kernel
theorem d_Bh_row_16 : decode b_Bh_row 16 = .ok (.iconst (-1), 1) := by decide +kernel
theorem d_Bh_row_17 : decode b_Bh_row 17 = .ok (.ireturn, 1) := by decide +kernel
set_option maxHeartbeats 4000000 in
set_option maxRecDepth 100000 in
theorem c_Bh_row (l : Launch) (dC : Nat → ClassId) (dI : Nat → Nat → Nat) (cI cB cZ cJ : ClassId) (kk : Int32) (wh : Int32) (oB : Nat) (oAc : Nat) (oR1 : Nat) (xb : List Value) (hb_acts : xb[5]? = some (.ref oAc)) (xc : List Value) (hac_rows : xc[3]? = some (.ref oR1)) (xr : List Value) (hxr_count : xr[0]? = some (.int 0)) (sz : Nat) : Met l y_Bh_row w_Bh_row ({ frames := 1, cells := 0, slots := 0, locals := 21 }) (va_Pc [.ref oB, .int kk, .int wh] (PW dC dI cI cB cZ cJ [(oB, .inr (0, xb)), (oAc, .inr (11, xc)), (oR1, .inr (7, xr))] sz)) (va_Qi (fun (r : Int32) (_ : Unit) => r = (-1)) (fun _ _ => True) (va_A [] sz)) 0 0 (va_A [] sz) := by
  refine Met.ofW (cc := b_Bh_row) (maxL := 4) (ret := (some .int)) (by decide) rfl ?_
  intro p e s m args below meth c s₁ B hml hv
  obtain ⟨rfl, hsz, hP, hK, hD⟩ := hv
  have hx := B.exec
  have hb := B.bytes
  have hr := B.returns
  have hts := atoms_spec (ws := w_Bh_row) B.pre
  have hown : s.vm.findClass R_Bh = some m.cls := findClass_of_methodNamed B.named
  have hlocks := B.notSynchronized
  subst hsz
  generalize hAe : va_A [] s.heap.size = A at ⊢
  have hA : ∀ q : Nat, s.heap.size ≤ q → A q := fun q h => by rw [← hAe]; exact Or.inr h
  have hS : va_S A s.heap s.heap [] := va_S.rf
  have hP : va_P (dC, dI) classes [(oB, .inr (0, xb)), (oAc, .inr (11, xc)), (oR1, .inr (7, xr))] s.heap := hP
  have hl := lv_entry ([.ref oB, .int kk, .int wh]) (n := 4) (Nat.le_of_ble_eq_true rfl)
  rw [lg_entry_eq]
  generalize (lg_sl ([.ref oB, .int kk, .int wh]) ++ List.replicate (4 - (lg_sl ([.ref oB, .int kk, .int wh])).length) Slot.unset).toArray = ls at hl ⊢
  have hl : lv_has ls 4 [(0, .ref oB), (1, .int kk), (2, .int wh)] := hl
  refine lv_aload_n hx hb d_Bh_row_0 rfl (lv_at hl 0 rfl) ?_
  refine va_get (D := (dC, dI)) (ci := 0) (v := .ref oAc) (C := R_Bh) (T := F_Bh) (N := 16) hx hb hts (fun w h => List.mem_cons_of_mem _ (in_Bh w h)) hown hK.1 hP 0 rfl rfl 5 (by decide) (hts _ (List.mem_cons_of_mem _ mw_689)) (fun _ h9 => h9) hb_acts d_Bh_row_1 ?_
  refine va_get (D := (dC, dI)) (ci := 11) (v := .ref oR1) (C := R_Ac) (T := F_Ac) (N := 8) hx hb hts (fun w h => List.mem_cons_of_mem _ (in_Ac w h)) hown hK.1 hP 1 rfl rfl 3 (by decide) (hts _ (List.mem_cons_of_mem _ mw_394)) (fun _ h9 => h9) hac_rows d_Bh_row_4 ?_
  refine lv_astore_n hx hb d_Bh_row_7 rfl hl (by decide) rfl (fun ls hl => ?_)
  have hl : lv_has ls 4 [(3, .ref oR1), (0, .ref oB), (1, .int kk), (2, .int wh)] := hl
  refine lv_aload_n hx hb d_Bh_row_8 rfl (lv_at hl 0 rfl) ?_
  refine lv_iload_n hx hb d_Bh_row_9 rfl (lv_at hl 2 rfl) ?_
  have hPc := hP.sub (ws' := [(oR1, .inr (7, xr))]) [2] rfl
  have hDc := hD.sub (ws' := [(oR1, .inr (7, xr))]) [2] (by decide) rfl
  have hFc := pu_free hS hA
  refine va_calli (va_runV (C := R_Ro) (As := [.int kk]) (rest := []) ⟨hx, hb, hml, hown, hts⟩ (c_Ro_has l dC dI cI cB cZ cJ kk oR1 xr hxr_count s.heap.size) (cwV 1 hts (tb_V mw_1484 mw_1485 mw_1486 mw_10 mw_1487) rfl rfl rfl ⟨rfl, by decide +kernel, by decide +kernel, by decide +kernel⟩ ⟨(Nat.le_of_ble_eq_true rfl), (Nat.le_of_ble_eq_true rfl)⟩) ⟨pw_blind, va_recv (q := (R_Ro, F_Ro, 18)) hK.1 hP (ci := 7) (q0 := 2) rfl rfl, pw_pre hPc hK hDc⟩ rfl rfl hl.1 rfl (lv_room (Nat.le_of_ble_eq_true rfl)) d_Bh_row_10 ⟨(Nat.le_of_ble_eq_true rfl), (Nat.le_of_ble_eq_true rfl)⟩) hS (fun q _ h => hFc q h) hFc (fun r u t H locs ht hvm hw hB hz1 hk1 hS => ?_)
  have hP := pu_kept hP hk1
  obtain rfl : r = 0 := hw
  refine lv_if_ne (tgt := 18) hx hb d_Bh_row_13 (by decide) (fun h => absurd rfl h) (fun _ => ?_)
  refine lv_iconst (v := (-1)) hx hb d_Bh_row_16 (by decide) ?_
  exact W.iret (v := (-1)) hx hb hr (fun t ht hW => ⟨⟨_, (), rfl, (rfl), trivial⟩, hS.F ht⟩) hS.2.2 d_Bh_row_17
theorem d_Ac_isAct_0 : decode b_Ac_isAct 0 = .ok (.iload_n 0, 1) := by decide +kernel
theorem d_Ac_isAct_1 : decode b_Ac_isAct 1 = .ok (.ifCond .lt 13, 3) := by decide +kernel
theorem d_Ac_isAct_4 : decode b_Ac_isAct 4 = .ok (.iload_n 0, 1) := by decide +kernel
theorem d_Ac_isAct_5 : decode b_Ac_isAct 5 = .ok (.bipush 32, 2) := by decide +kernel
theorem d_Ac_isAct_7 : decode b_Ac_isAct 7 = .ok (.if_icmp .ge 7, 3) := by decide +kernel
theorem d_Ac_isAct_10 : decode b_Ac_isAct 10 = .ok (.iconst 1, 1) := by decide +kernel
theorem d_Ac_isAct_11 : decode b_Ac_isAct 11 = .ok (.goto 4, 3) := by decide +kernel
theorem d_Ac_isAct_14 : decode b_Ac_isAct 14 = .ok (.iconst 0, 1) := by decide +kernel
theorem d_Ac_isAct_15 : decode b_Ac_isAct 15 = .ok (.ireturn, 1) := by decide +kernel
def fn_Ac_isAct (ka : Int32) : Int32 := (if ka < 0 then 0 else (if 32 ≤ ka then 0 else 1))
set_option maxHeartbeats 4000000 in
set_option maxRecDepth 100000 in
theorem c_Ac_isAct (l : Launch) (dC : Nat → ClassId) (dI : Nat → Nat → Nat) (cI cB cZ cJ : ClassId) (ka : Int32) (sz : Nat) : Met l y_Ac_isAct w_Ac_isAct ({ frames := 0, cells := 0, slots := 0, locals := 0 }) (va_Pc [.int ka] (PW dC dI cI cB cZ cJ [] sz)) (va_Qi (fun (r : Int32) (_ : Unit) => r = fn_Ac_isAct ka) (fun _ _ => True) (va_A [] sz)) 0 0 (va_A [] sz) := by
  refine Met.ofW (cc := b_Ac_isAct) (maxL := 1) (ret := (some .boolean)) (by decide) rfl ?_
  intro p e s m args below meth c s₁ B hml hv
  obtain ⟨rfl, hsz, hP, hK, hD⟩ := hv
  have hx := B.exec
  have hb := B.bytes
  have hr := B.returns
  have hts := atoms_spec (ws := w_Ac_isAct) B.pre
  have hown : s.vm.findClass R_Ac = some m.cls := findClass_of_methodNamed B.named
  have hlocks := B.notSynchronized
  subst hsz
  generalize hAe : va_A [] s.heap.size = A at ⊢
  have hA : ∀ q : Nat, s.heap.size ≤ q → A q := fun q h => by rw [← hAe]; exact Or.inr h
  have hS : va_S A s.heap s.heap [] := va_S.rf
  have hP : va_P (dC, dI) classes [] s.heap := hP
  have hl := lv_entry ([.int ka]) (n := 1) (Nat.le_of_ble_eq_true rfl)
  rw [lg_entry_eq]
  generalize (lg_sl ([.int ka]) ++ List.replicate (1 - (lg_sl ([.int ka])).length) Slot.unset).toArray = ls at hl ⊢
  have hl : lv_has ls 1 [(0, .int ka)] := hl
  refine lv_iload_n hx hb d_Ac_isAct_0 rfl (lv_at hl 0 rfl) ?_
  refine lv_if_lt (tgt := 14) hx hb d_Ac_isAct_1 (by decide) (fun h1 => ?_) (fun h1 => ?_)
  · refine lv_iconst (v := 0) hx hb d_Ac_isAct_14 (by decide) ?_
    exact W.zret (v := 0) (ty := .boolean) hx hb hr (by decide) (fun t ht hW => ⟨⟨_, (), rfl, (by unfold fn_Ac_isAct; rw [if_pos h1]), trivial⟩, hS.F ht⟩) hS.2.2 d_Ac_isAct_15
  · refine lv_iload_n hx hb d_Ac_isAct_4 rfl (lv_at hl 0 rfl) ?_
    refine lv_bipush (v := 32) hx hb d_Ac_isAct_5 (by decide) ?_
    refine lv_icmp_ge (tgt := 14) hx hb d_Ac_isAct_7 (by decide) (fun h7 => ?_) (fun h7 => ?_)
    · refine lv_iconst (v := 0) hx hb d_Ac_isAct_14 (by decide) ?_
      exact W.zret (v := 0) (ty := .boolean) hx hb hr (by decide) (fun t ht hW => ⟨⟨_, (), rfl, (by unfold fn_Ac_isAct; rw [if_neg h1, if_pos h7]), trivial⟩, hS.F ht⟩) hS.2.2 d_Ac_isAct_15
    · refine lv_iconst (v := 1) hx hb d_Ac_isAct_10 (by decide) ?_
      refine lv_goto (tgt := 15) hx hb d_Ac_isAct_11 (by decide) ?_
      exact W.zret (v := 1) (ty := .boolean) hx hb hr (by decide) (fun t ht hW => ⟨⟨_, (), rfl, (by unfold fn_Ac_isAct; rw [if_neg h1, if_neg h7]), trivial⟩, hS.F ht⟩) hS.2.2 d_Ac_isAct_15
theorem d_Ro_barring_0 : decode b_Ro_barring 0 = .ok (.iconst 0, 1) := by decide +kernel
theorem d_Ro_barring_1 : decode b_Ro_barring 1 = .ok (.istore_n 2, 1) := by decide +kernel
theorem d_Ro_barring_2 : decode b_Ro_barring 2 = .ok (.iload_n 2, 1) := by decide +kernel
theorem d_Ro_barring_3 : decode b_Ro_barring 3 = .ok (.aload_n 0, 1) := by decide +kernel
theorem d_Ro_barring_4 : decode b_Ro_barring 4 = .ok (.getfield 37, 3) := by decide +kernel
theorem d_Ro_barring_7 : decode b_Ro_barring 7 = .ok (.if_icmp .ge 77, 3) := by decide +kernel
theorem d_Ro_barring_84 : decode b_Ro_barring 84 = .ok (.iconst 0, 1) := by decide +kernel
theorem d_Ro_barring_85 : decode b_Ro_barring 85 = .ok (.ireturn, 1) := by decide +kernel
set_option maxHeartbeats 4000000 in
set_option maxRecDepth 100000 in
theorem c_Ro_barring (l : Launch) (dC : Nat → ClassId) (dI : Nat → Nat → Nat) (cI cB cZ cJ : ClassId) (ka : Int32) (oR1 : Nat) (xr : List Value) (hxr_count : xr[0]? = some (.int 0)) (sz : Nat) : Met l y_Ro_barring w_Ro_barring ({ frames := 0, cells := 0, slots := 0, locals := 0 }) (va_Pc [.ref oR1, .int ka] (PW dC dI cI cB cZ cJ [(oR1, .inr (7, xr))] sz)) (va_Qi (fun (r : Int32) (_ : Unit) => r = 0) (fun _ _ => True) (va_A [] sz)) 0 0 (va_A [] sz) := by
  refine Met.ofW (cc := b_Ro_barring) (maxL := 4) (ret := (some .int)) (by decide) rfl ?_
  intro p e s m args below meth c s₁ B hml hv
  obtain ⟨rfl, hsz, hP, hK, hD⟩ := hv
  have hx := B.exec
  have hb := B.bytes
  have hr := B.returns
  have hts := atoms_spec (ws := w_Ro_barring) B.pre
  have hown : s.vm.findClass R_Ro = some m.cls := findClass_of_methodNamed B.named
  have hlocks := B.notSynchronized
  subst hsz
  generalize hAe : va_A [] s.heap.size = A at ⊢
  have hA : ∀ q : Nat, s.heap.size ≤ q → A q := fun q h => by rw [← hAe]; exact Or.inr h
  have hS : va_S A s.heap s.heap [] := va_S.rf
  have hP : va_P (dC, dI) classes [(oR1, .inr (7, xr))] s.heap := hP
  have hl := lv_entry ([.ref oR1, .int ka]) (n := 4) (Nat.le_of_ble_eq_true rfl)
  rw [lg_entry_eq]
  generalize (lg_sl ([.ref oR1, .int ka]) ++ List.replicate (4 - (lg_sl ([.ref oR1, .int ka])).length) Slot.unset).toArray = ls at hl ⊢
  have hl : lv_has ls 4 [(0, .ref oR1), (1, .int ka)] := hl
  refine lv_iconst (v := 0) hx hb d_Ro_barring_0 (by decide) ?_
  refine lv_istore_n hx hb d_Ro_barring_1 rfl hl (by decide) rfl (fun ls hl => ?_)
  have hl : lv_has ls 4 [(2, .int 0), (0, .ref oR1), (1, .int ka)] := hl
  refine lv_iload_n hx hb d_Ro_barring_2 rfl (lv_at hl 0 rfl) ?_
  refine lv_aload_n hx hb d_Ro_barring_3 rfl (lv_at hl 1 rfl) ?_
  refine va_get (D := (dC, dI)) (ci := 7) (v := .int 0) (C := R_Ro) (T := F_Ro) (N := 18) hx hb hts (fun w h => List.mem_cons_of_mem _ (in_Ro w h)) hown hK.1 hP 0 rfl rfl 0 (by decide) (hts _ (List.mem_cons_of_mem _ mw_329)) (fun _ h9 => h9) hxr_count d_Ro_barring_4 ?_
  refine lv_icmp_ge (tgt := 84) hx hb d_Ro_barring_7 (by decide) (fun _ => ?_) (fun h => absurd (by decide) h)
  refine lv_iconst (v := 0) hx hb d_Ro_barring_84 (by decide) ?_
  exact W.iret (v := 0) hx hb hr (fun t ht hW => ⟨⟨_, (), rfl, (rfl), trivial⟩, hS.F ht⟩) hS.2.2 d_Ro_barring_85
theorem d_Bh_write_0 : decode b_Bh_write 0 = .ok (.iload_n 1, 1) := by decide +kernel
theorem d_Bh_write_1 : decode b_Bh_write 1 = .ok (.ifCond .lt 20, 3) := by decide +kernel
theorem d_Bh_write_4 : decode b_Bh_write 4 = .ok (.iload_n 1, 1) := by decide +kernel
theorem d_Bh_write_5 : decode b_Bh_write 5 = .ok (.aload_n 0, 1) := by decide +kernel
theorem d_Bh_write_6 : decode b_Bh_write 6 = .ok (.getfield 168, 3) := by decide +kernel
theorem d_Bh_write_9 : decode b_Bh_write 9 = .ok (.if_icmp .ge 12, 3) := by decide +kernel
theorem d_Bh_write_21 : decode b_Bh_write 21 = .ok (.iconst (-1), 1) := by decide +kernel
theorem d_Bh_write_22 : decode b_Bh_write 22 = .ok (.ireturn, 1) := by decide +kernel
set_option maxHeartbeats 4000000 in
set_option maxRecDepth 100000 in
theorem c_Bh_write (l : Launch) (dC : Nat → ClassId) (dI : Nat → Nat → Nat) (cI cB cZ cJ : ClassId) (ii : Int32) (oB : Nat) (xb : List Value) (hb_plantTextLength : xb[12]? = some (.int 0)) (sz : Nat) : Met l y_Bh_write w_Bh_write ({ frames := 0, cells := 0, slots := 0, locals := 0 }) (va_Pc [.ref oB, .int ii] (PW dC dI cI cB cZ cJ [(oB, .inr (0, xb))] sz)) (va_Qi (fun (r : Int32) (_ : Unit) => r = (-1)) (fun _ _ => True) (va_A [] sz)) 0 0 (va_A [] sz) := by
  refine Met.ofW (cc := b_Bh_write) (maxL := 2) (ret := (some .int)) (by decide) rfl ?_
  intro p e s m args below meth c s₁ B hml hv
  obtain ⟨rfl, hsz, hP, hK, hD⟩ := hv
  have hx := B.exec
  have hb := B.bytes
  have hr := B.returns
  have hts := atoms_spec (ws := w_Bh_write) B.pre
  have hown : s.vm.findClass R_Bh = some m.cls := findClass_of_methodNamed B.named
  have hlocks := B.notSynchronized
  subst hsz
  generalize hAe : va_A [] s.heap.size = A at ⊢
  have hA : ∀ q : Nat, s.heap.size ≤ q → A q := fun q h => by rw [← hAe]; exact Or.inr h
  have hS : va_S A s.heap s.heap [] := va_S.rf
  have hP : va_P (dC, dI) classes [(oB, .inr (0, xb))] s.heap := hP
  have hl := lv_entry ([.ref oB, .int ii]) (n := 2) (Nat.le_of_ble_eq_true rfl)
  rw [lg_entry_eq]
  generalize (lg_sl ([.ref oB, .int ii]) ++ List.replicate (2 - (lg_sl ([.ref oB, .int ii])).length) Slot.unset).toArray = ls at hl ⊢
  have hl : lv_has ls 2 [(0, .ref oB), (1, .int ii)] := hl
  refine lv_iload_n hx hb d_Bh_write_0 rfl (lv_at hl 1 rfl) ?_
  refine lv_if_lt (tgt := 21) hx hb d_Bh_write_1 (by decide) (fun h1 => ?_) (fun h1 => ?_)
  · refine lv_iconst (v := (-1)) hx hb d_Bh_write_21 (by decide) ?_
    exact W.iret (v := (-1)) hx hb hr (fun t ht hW => ⟨⟨_, (), rfl, (rfl), trivial⟩, hS.F ht⟩) hS.2.2 d_Bh_write_22
  · refine lv_iload_n hx hb d_Bh_write_4 rfl (lv_at hl 1 rfl) ?_
    refine lv_aload_n hx hb d_Bh_write_5 rfl (lv_at hl 0 rfl) ?_
    refine va_get (D := (dC, dI)) (ci := 0) (v := .int 0) (C := R_Bh) (T := F_Bh) (N := 16) hx hb hts (fun w h => List.mem_cons_of_mem _ (in_Bh w h)) hown hK.1 hP 0 rfl rfl 12 (by decide) (hts _ (List.mem_cons_of_mem _ mw_696)) (fun _ h9 => h9) hb_plantTextLength d_Bh_write_6 ?_
    refine lv_icmp_ge (tgt := 21) hx hb d_Bh_write_9 (by decide) (fun _ => ?_) (fun h => absurd (nd_le h1 (by decide)) h)
    refine lv_iconst (v := (-1)) hx hb d_Bh_write_21 (by decide) ?_
    exact W.iret (v := (-1)) hx hb hr (fun t ht hW => ⟨⟨_, (), rfl, (rfl), trivial⟩, hS.F ht⟩) hS.2.2 d_Bh_write_22
