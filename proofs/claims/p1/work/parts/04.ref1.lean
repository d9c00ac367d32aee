abbrev b_Mo_isThing : ByteArray := prog_14_method_16_code
def y_Mo_isThing : MethodName := ⟨R_Mo, "isThing", "(I)Z"⟩
abbrev w_Mo_isThing : List Cond := .code y_Mo_isThing b_Mo_isThing 2 (some .boolean) :: lw_gd
abbrev b_Mo_second : ByteArray := prog_14_method_91_code
def y_Mo_second : MethodName := ⟨R_Mo, "second", "()I"⟩
abbrev w_Mo_second : List Cond := .code y_Mo_second b_Mo_second 1 (some .int) :: lw_gd
abbrev b_Mo_state : ByteArray := prog_14_method_88_code
def y_Mo_state : MethodName := ⟨R_Mo, "state", "()I"⟩
abbrev w_Mo_state : List Cond := .code y_Mo_state b_Mo_state 1 (some .int) :: lw_gd
abbrev b_Mo_isTank : ByteArray := prog_14_method_17_code
def y_Mo_isTank : MethodName := ⟨R_Mo, "isTank", "(I)Z"⟩
abbrev w_Mo_isTank : List Cond := .code y_Mo_isTank b_Mo_isTank 2 (some .boolean) :: lw_gd
abbrev b_Mo_isValve : ByteArray := prog_14_method_18_code
def y_Mo_isValve : MethodName := ⟨R_Mo, "isValve", "(I)Z"⟩
abbrev w_Mo_isValve : List Cond := .code y_Mo_isValve b_Mo_isValve 2 (some .boolean) :: lw_gd
abbrev b_Mo_isPipe : ByteArray := prog_14_method_19_code
def y_Mo_isPipe : MethodName := ⟨R_Mo, "isPipe", "(I)Z"⟩
abbrev w_Mo_isPipe : List Cond := .code y_Mo_isPipe b_Mo_isPipe 2 (some .boolean) :: lw_gd
abbrev b_Mo_holdsLiquid : ByteArray := prog_14_method_20_code
def y_Mo_holdsLiquid : MethodName := ⟨R_Mo, "holdsLiquid", "(I)Z"⟩
abbrev w_Mo_holdsLiquid : List Cond := .code y_Mo_holdsLiquid b_Mo_holdsLiquid 2 (some .boolean) :: lw_gd
abbrev b_Mo_isRole : ByteArray := prog_14_method_58_code
def y_Mo_isRole : MethodName := ⟨R_Mo, "isRole", "(II)Z"⟩
abbrev w_Mo_isRole : List Cond := .code y_Mo_isRole b_Mo_isRole 3 (some .boolean) :: lw_gd
abbrev b_Mo_sense : ByteArray := prog_14_method_59_code
def y_Mo_sense : MethodName := ⟨R_Mo, "sense", "(III)Z"⟩
abbrev w_Mo_sense : List Cond := .code y_Mo_sense b_Mo_sense 4 (some .boolean) :: lw_gd
abbrev b_Mo_signal : ByteArray := prog_14_method_61_code
def y_Mo_signal : MethodName := ⟨R_Mo, "signal", "(IJ)Z"⟩
abbrev w_Mo_signal : List Cond := .code y_Mo_signal b_Mo_signal 4 (some .boolean) :: lw_gd
abbrev b_Mo_value : ByteArray := prog_14_method_62_code
def y_Mo_value : MethodName := ⟨R_Mo, "value", "(I)J"⟩
abbrev w_Mo_value : List Cond := .code y_Mo_value b_Mo_value 2 (some .long) :: lw_gd
abbrev b_Mo_fill : ByteArray := prog_14_method_50_code
def y_Mo_fill : MethodName := ⟨R_Mo, "fill", "(IIJ)Z"⟩
abbrev w_Mo_fill : List Cond := .code y_Mo_fill b_Mo_fill 5 (some .boolean) :: lw_gd
abbrev b_Mo_space : ByteArray := prog_14_method_49_code
def y_Mo_space : MethodName := ⟨R_Mo, "space", "(II)I"⟩
abbrev w_Mo_space : List Cond := .code y_Mo_space b_Mo_space 3 (some .int) :: lw_gd
abbrev b_Mo_way : ByteArray := prog_14_method_48_code
def y_Mo_way : MethodName := ⟨R_Mo, "way", "(II)I"⟩
abbrev w_Mo_way : List Cond := .code y_Mo_way b_Mo_way 3 (some .int) :: lw_gd
abbrev b_Mo_alarm : ByteArray := prog_14_method_90_code
def y_Mo_alarm : MethodName := ⟨R_Mo, "alarm", "(II)I"⟩
abbrev w_Mo_alarm : List Cond := .code y_Mo_alarm b_Mo_alarm 3 (some .int) :: lw_gd
abbrev b_Mo_hold : ByteArray := prog_14_method_86_code
def y_Mo_hold : MethodName := ⟨R_Mo, "hold", "(Z)Z"⟩
abbrev w_Mo_hold : List Cond := .code y_Mo_hold b_Mo_hold 2 (some .boolean) :: lw_gd
abbrev b_Mo_stop : ByteArray := prog_14_method_87_code
def y_Mo_stop : MethodName := ⟨R_Mo, "stop", "()Z"⟩
abbrev w_Mo_stop : List Cond := .code y_Mo_stop b_Mo_stop 1 (some .boolean) :: lw_gd
abbrev b_Mo_start : ByteArray := prog_14_method_73_code
def y_Mo_start : MethodName := ⟨R_Mo, "start", "()Z"⟩
abbrev w_Mo_start : List Cond := .code y_Mo_start b_Mo_start 5 (some .boolean) :: lw_gd
abbrev b_Mr_isRow : ByteArray := prog_15_method_24_code
def y_Mr_isRow : MethodName := ⟨R_Mr, "isRow", "(I)Z"⟩
abbrev w_Mr_isRow : List Cond := .code y_Mr_isRow b_Mr_isRow 2 (some .boolean) :: lw_gd
abbrev b_Mr_pass : ByteArray := prog_15_method_25_code
def y_Mr_pass : MethodName := ⟨R_Mr, "pass", "(IIII)I"⟩
abbrev w_Mr_pass : List Cond := .code y_Mr_pass b_Mr_pass 5 (some .int) :: lw_gd
abbrev b_Mr_reset : ByteArray := prog_15_method_27_code
def y_Mr_reset : MethodName := ⟨R_Mr, "reset", "(I)Z"⟩
abbrev w_Mr_reset : List Cond := .code y_Mr_reset b_Mr_reset 2 (some .boolean) :: lw_gd
abbrev b_Mr_act1 : ByteArray := prog_15_method_22_code
def y_Mr_act1 : MethodName := ⟨R_Mr, "act", "(I)I"⟩
abbrev w_Mr_act1 : List Cond := .code y_Mr_act1 b_Mr_act1 4 (some .int) :: lw_gd
abbrev b_Mo_pass : ByteArray := prog_14_method_65_code
def y_Mo_pass : MethodName := ⟨R_Mo, "pass", "(IIII)I"⟩
abbrev w_Mo_pass : List Cond := .code y_Mo_pass b_Mo_pass 5 (some .int) :: lw_gd
abbrev b_Mo_reset : ByteArray := prog_14_method_66_code
def y_Mo_reset : MethodName := ⟨R_Mo, "reset", "(I)Z"⟩
abbrev w_Mo_reset : List Cond := .code y_Mo_reset b_Mo_reset 2 (some .boolean) :: lw_gd
abbrev b_Mo_bars : ByteArray := prog_14_method_67_code
def y_Mo_bars : MethodName := ⟨R_Mo, "bars", "(I)I"⟩
abbrev w_Mo_bars : List Cond := .code y_Mo_bars b_Mo_bars 2 (some .int) :: lw_gd
abbrev b_Mo_row : ByteArray := prog_14_method_68_code
def y_Mo_row : MethodName := ⟨R_Mo, "row", "(II)I"⟩
abbrev w_Mo_row : List Cond := .code y_Mo_row b_Mo_row 3 (some .int) :: lw_gd
theorem mw_18 : (.initialized "BreweryHouseModel" : Cond) ∈ lw_gd := tb_mem (i := 18) (by decide +kernel) (by decide +kernel)
theorem mw_20 : (.initialized "BreweryHouseModel$Rows" : Cond) ∈ lw_gd := tb_mem (i := 20) (by decide +kernel) (by decide +kernel)
theorem mw_1732 : (.fieldLink "BreweryHouseModel$Rows" 133 "BreweryHouseModel$Rows" "rows" "I" : Cond) ∈ lw_gd := tb_mem (i := 1732) (by decide +kernel) (by decide +kernel)
theorem mw_1796 : (.fieldLink "BreweryHouseModel" 16 "BreweryHouseModel" "program" "LBreweryHouseModel$Text;" : Cond) ∈ lw_gd := tb_mem (i := 1796) (by decide +kernel) (by decide +kernel)
theorem mw_1797 : (.fieldLink "BreweryHouseModel" 23 "BreweryHouseModel" "interlocks" "LBreweryHouseModel$Rows;" : Cond) ∈ lw_gd := tb_mem (i := 1797) (by decide +kernel) (by decide +kernel)
theorem mw_1798 : (.fieldLink "BreweryHouseModel" 278 "BreweryHouseModel" "things" "I" : Cond) ∈ lw_gd := tb_mem (i := 1798) (by decide +kernel) (by decide +kernel)
theorem mw_1805 : (.fieldLink "BreweryHouseModel" 281 "BreweryHouseModel" "pipes" "I" : Cond) ∈ lw_gd := tb_mem (i := 1805) (by decide +kernel) (by decide +kernel)
theorem mw_1820 : (.fieldLink "BreweryHouseModel" 284 "BreweryHouseModel" "ways" "I" : Cond) ∈ lw_gd := tb_mem (i := 1820) (by decide +kernel) (by decide +kernel)
theorem mw_1853 : (.fieldLink "BreweryHouseModel" 162 "BreweryHouseModel" "state" "I" : Cond) ∈ lw_gd := tb_mem (i := 1853) (by decide +kernel) (by decide +kernel)
theorem mw_1872 : (.fieldLink "BreweryHouseModel" 326 "BreweryHouseModel" "now" "I" : Cond) ∈ lw_gd := tb_mem (i := 1872) (by decide +kernel) (by decide +kernel)
theorem mw_1873 : (.fieldLink "BreweryHouseModel" 433 "BreweryHouseModel" "alarms" "I" : Cond) ∈ lw_gd := tb_mem (i := 1873) (by decide +kernel) (by decide +kernel)
theorem mw_2412 : (.methodLink "BreweryHouseModel" 412 y_Mo_isValve : Cond) ∈ lw_gd := tb_mem (i := 2412) (by decide +kernel) (by decide +kernel)
theorem mw_2414 : (.instanceMethod y_Mo_isValve : Cond) ∈ lw_gd := tb_mem (i := 2414) (by decide +kernel) (by decide +kernel)
theorem mw_2415 : (.code y_Mo_isValve b_Mo_isValve 2 (some .boolean) : Cond) ∈ lw_gd := tb_mem (i := 2415) (by decide +kernel) (by decide +kernel)
theorem mw_2416 : (.methodLink "BreweryHouseModel" 314 y_Mo_isThing : Cond) ∈ lw_gd := tb_mem (i := 2416) (by decide +kernel) (by decide +kernel)
theorem mw_2418 : (.instanceMethod y_Mo_isThing : Cond) ∈ lw_gd := tb_mem (i := 2418) (by decide +kernel) (by decide +kernel)
theorem mw_2419 : (.code y_Mo_isThing b_Mo_isThing 2 (some .boolean) : Cond) ∈ lw_gd := tb_mem (i := 2419) (by decide +kernel) (by decide +kernel)
theorem mw_2420 : (.methodLink "BreweryHouseModel" 415 y_Mo_holdsLiquid : Cond) ∈ lw_gd := tb_mem (i := 2420) (by decide +kernel) (by decide +kernel)
theorem mw_2422 : (.instanceMethod y_Mo_holdsLiquid : Cond) ∈ lw_gd := tb_mem (i := 2422) (by decide +kernel) (by decide +kernel)
theorem mw_2423 : (.code y_Mo_holdsLiquid b_Mo_holdsLiquid 2 (some .boolean) : Cond) ∈ lw_gd := tb_mem (i := 2423) (by decide +kernel) (by decide +kernel)
theorem mw_2424 : (.methodLink "BreweryHouseModel" 317 y_Mo_isTank : Cond) ∈ lw_gd := tb_mem (i := 2424) (by decide +kernel) (by decide +kernel)
theorem mw_2426 : (.instanceMethod y_Mo_isTank : Cond) ∈ lw_gd := tb_mem (i := 2426) (by decide +kernel) (by decide +kernel)
theorem mw_2427 : (.code y_Mo_isTank b_Mo_isTank 2 (some .boolean) : Cond) ∈ lw_gd := tb_mem (i := 2427) (by decide +kernel) (by decide +kernel)
theorem mw_2428 : (.methodLink "BreweryHouseModel" 320 y_Mo_isPipe : Cond) ∈ lw_gd := tb_mem (i := 2428) (by decide +kernel) (by decide +kernel)
theorem mw_2430 : (.instanceMethod y_Mo_isPipe : Cond) ∈ lw_gd := tb_mem (i := 2430) (by decide +kernel) (by decide +kernel)
theorem mw_2431 : (.code y_Mo_isPipe b_Mo_isPipe 2 (some .boolean) : Cond) ∈ lw_gd := tb_mem (i := 2431) (by decide +kernel) (by decide +kernel)
theorem mw_2478 : (.methodLink "BreweryHouseModel" 424 y_Mr_act1 : Cond) ∈ lw_gd := tb_mem (i := 2478) (by decide +kernel) (by decide +kernel)
theorem mw_2479 : (.instanceMethod y_Mr_act1 : Cond) ∈ lw_gd := tb_mem (i := 2479) (by decide +kernel) (by decide +kernel)
theorem mw_2480 : (.selects "BreweryHouseModel$Rows" y_Mr_act1 y_Mr_act1 : Cond) ∈ lw_gd := tb_mem (i := 2480) (by decide +kernel) (by decide +kernel)
theorem mw_2481 : (.code y_Mr_act1 b_Mr_act1 4 (some .int) : Cond) ∈ lw_gd := tb_mem (i := 2481) (by decide +kernel) (by decide +kernel)
theorem mw_2529 : (.methodLink "BreweryHouseModel" 451 y_Mo_isRole : Cond) ∈ lw_gd := tb_mem (i := 2529) (by decide +kernel) (by decide +kernel)
theorem mw_2531 : (.instanceMethod y_Mo_isRole : Cond) ∈ lw_gd := tb_mem (i := 2531) (by decide +kernel) (by decide +kernel)
theorem mw_2532 : (.code y_Mo_isRole b_Mo_isRole 3 (some .boolean) : Cond) ∈ lw_gd := tb_mem (i := 2532) (by decide +kernel) (by decide +kernel)
theorem mw_2549 : (.methodLink "BreweryHouseModel" 463 y_Mr_pass : Cond) ∈ lw_gd := tb_mem (i := 2549) (by decide +kernel) (by decide +kernel)
theorem mw_2550 : (.instanceMethod y_Mr_pass : Cond) ∈ lw_gd := tb_mem (i := 2550) (by decide +kernel) (by decide +kernel)
theorem mw_2551 : (.selects "BreweryHouseModel$Rows" y_Mr_pass y_Mr_pass : Cond) ∈ lw_gd := tb_mem (i := 2551) (by decide +kernel) (by decide +kernel)
theorem mw_2552 : (.code y_Mr_pass b_Mr_pass 5 (some .int) : Cond) ∈ lw_gd := tb_mem (i := 2552) (by decide +kernel) (by decide +kernel)
theorem mw_2553 : (.methodLink "BreweryHouseModel$Rows" 151 y_Mr_isRow : Cond) ∈ lw_gd := tb_mem (i := 2553) (by decide +kernel) (by decide +kernel)
theorem mw_2555 : (.instanceMethod y_Mr_isRow : Cond) ∈ lw_gd := tb_mem (i := 2555) (by decide +kernel) (by decide +kernel)
theorem mw_2556 : (.code y_Mr_isRow b_Mr_isRow 2 (some .boolean) : Cond) ∈ lw_gd := tb_mem (i := 2556) (by decide +kernel) (by decide +kernel)
theorem mw_2561 : (.methodLink "BreweryHouseModel" 467 y_Mr_reset : Cond) ∈ lw_gd := tb_mem (i := 2561) (by decide +kernel) (by decide +kernel)
theorem mw_2562 : (.instanceMethod y_Mr_reset : Cond) ∈ lw_gd := tb_mem (i := 2562) (by decide +kernel) (by decide +kernel)
theorem mw_2563 : (.selects "BreweryHouseModel$Rows" y_Mr_reset y_Mr_reset : Cond) ∈ lw_gd := tb_mem (i := 2563) (by decide +kernel) (by decide +kernel)
theorem mw_2564 : (.code y_Mr_reset b_Mr_reset 2 (some .boolean) : Cond) ∈ lw_gd := tb_mem (i := 2564) (by decide +kernel) (by decide +kernel)
theorem nw_1618 : (.fieldLinkNest "BreweryHouseModel" 514 "BreweryHouseModel$Text" "topCount" "I" "BreweryHouseModel" : Cond) ∈ lw_nest := nw_mem (i := 1618) (by decide +kernel) rfl
theorem nw_1620 : (.fieldLinkNest "BreweryHouseModel" 442 "BreweryHouseModel$Text" "nameCount" "I" "BreweryHouseModel" : Cond) ∈ lw_nest := nw_mem (i := 1620) (by decide +kernel) rfl
theorem nw_1733 : (.fieldLinkNest "BreweryHouseModel" 470 "BreweryHouseModel$Rows" "rows" "I" "BreweryHouseModel" : Cond) ∈ lw_nest := nw_mem (i := 1733) (by decide +kernel) rfl
theorem sl_153 : (.selects "BreweryHouseModel" y_Mo_isValve y_Mo_isValve : Cond) ∈ lw_gd := List.mem_filter.mpr ⟨List.mem_append_left _ (List.mem_of_getElem? (i := 153) (by decide +kernel)), by decide +kernel⟩
theorem sl_154 : (.selects "BreweryHouseModel" y_Mo_isThing y_Mo_isThing : Cond) ∈ lw_gd := List.mem_filter.mpr ⟨List.mem_append_left _ (List.mem_of_getElem? (i := 154) (by decide +kernel)), by decide +kernel⟩
theorem sl_155 : (.selects "BreweryHouseModel" y_Mo_holdsLiquid y_Mo_holdsLiquid : Cond) ∈ lw_gd := List.mem_filter.mpr ⟨List.mem_append_left _ (List.mem_of_getElem? (i := 155) (by decide +kernel)), by decide +kernel⟩
theorem sl_156 : (.selects "BreweryHouseModel" y_Mo_isTank y_Mo_isTank : Cond) ∈ lw_gd := List.mem_filter.mpr ⟨List.mem_append_left _ (List.mem_of_getElem? (i := 156) (by decide +kernel)), by decide +kernel⟩
theorem sl_157 : (.selects "BreweryHouseModel" y_Mo_isPipe y_Mo_isPipe : Cond) ∈ lw_gd := List.mem_filter.mpr ⟨List.mem_append_left _ (List.mem_of_getElem? (i := 157) (by decide +kernel)), by decide +kernel⟩
theorem sl_173 : (.selects "BreweryHouseModel" y_Mo_isRole y_Mo_isRole : Cond) ∈ lw_gd := List.mem_filter.mpr ⟨List.mem_append_left _ (List.mem_of_getElem? (i := 173) (by decide +kernel)), by decide +kernel⟩
theorem sl_174 : (.selects "BreweryHouseModel$Rows" y_Mr_isRow y_Mr_isRow : Cond) ∈ lw_gd := List.mem_filter.mpr ⟨List.mem_append_left _ (List.mem_of_getElem? (i := 174) (by decide +kernel)), by decide +kernel⟩
abbrev t_Mo_isThing_17 : List UInt8 := 172 :: []
abbrev t_Mo_isThing_16 : List UInt8 := 3 :: t_Mo_isThing_17
abbrev t_Mo_isThing_13 : List UInt8 := 167 :: 0 :: 4 :: t_Mo_isThing_16
abbrev t_Mo_isThing_12 : List UInt8 := 4 :: t_Mo_isThing_13
abbrev t_Mo_isThing_9 : List UInt8 := 162 :: 0 :: 7 :: t_Mo_isThing_12
abbrev t_Mo_isThing_6 : List UInt8 := 180 :: 1 :: 22 :: t_Mo_isThing_9
abbrev t_Mo_isThing_5 : List UInt8 := 42 :: t_Mo_isThing_6
abbrev t_Mo_isThing_4 : List UInt8 := 27 :: t_Mo_isThing_5
abbrev t_Mo_isThing_1 : List UInt8 := 155 :: 0 :: 15 :: t_Mo_isThing_4
abbrev t_Mo_isThing_0 : List UInt8 := 27 :: t_Mo_isThing_1
theorem a_Mo_isThing_0 : dk_at b_Mo_isThing 0 t_Mo_isThing_0 := dk_start (by decide +kernel)
theorem a_Mo_isThing_1 : dk_at b_Mo_isThing 1 t_Mo_isThing_1 := dk_go 1 a_Mo_isThing_0 rfl
theorem a_Mo_isThing_4 : dk_at b_Mo_isThing 4 t_Mo_isThing_4 := dk_go 3 a_Mo_isThing_1 rfl
theorem a_Mo_isThing_5 : dk_at b_Mo_isThing 5 t_Mo_isThing_5 := dk_go 1 a_Mo_isThing_4 rfl
theorem a_Mo_isThing_6 : dk_at b_Mo_isThing 6 t_Mo_isThing_6 := dk_go 1 a_Mo_isThing_5 rfl
theorem a_Mo_isThing_9 : dk_at b_Mo_isThing 9 t_Mo_isThing_9 := dk_go 3 a_Mo_isThing_6 rfl
theorem a_Mo_isThing_12 : dk_at b_Mo_isThing 12 t_Mo_isThing_12 := dk_go 3 a_Mo_isThing_9 rfl
theorem a_Mo_isThing_13 : dk_at b_Mo_isThing 13 t_Mo_isThing_13 := dk_go 1 a_Mo_isThing_12 rfl
theorem a_Mo_isThing_16 : dk_at b_Mo_isThing 16 t_Mo_isThing_16 := dk_go 3 a_Mo_isThing_13 rfl
theorem a_Mo_isThing_17 : dk_at b_Mo_isThing 17 t_Mo_isThing_17 := dk_go 1 a_Mo_isThing_16 rfl
theorem d_Mo_isThing_0 : decode b_Mo_isThing 0 = .ok (.iload_n 1, 1) := dk_0 a_Mo_isThing_0 (dko_27 _)
theorem d_Mo_isThing_1 : decode b_Mo_isThing 1 = .ok (.ifCond .lt 15, 3) := dk_S2 a_Mo_isThing_1 (dko_155 _) (by decide +kernel)
theorem d_Mo_isThing_4 : decode b_Mo_isThing 4 = .ok (.iload_n 1, 1) := dk_0 a_Mo_isThing_4 (dko_27 _)
theorem d_Mo_isThing_5 : decode b_Mo_isThing 5 = .ok (.aload_n 0, 1) := dk_0 a_Mo_isThing_5 (dko_42 _)
theorem d_Mo_isThing_6 : decode b_Mo_isThing 6 = .ok (.getfield 278, 3) := dk_U2 a_Mo_isThing_6 (dko_180 _) rfl
theorem d_Mo_isThing_9 : decode b_Mo_isThing 9 = .ok (.if_icmp .ge 7, 3) := dk_S2 a_Mo_isThing_9 (dko_162 _) (by decide +kernel)
theorem d_Mo_isThing_16 : decode b_Mo_isThing 16 = .ok (.iconst 0, 1) := dk_0 a_Mo_isThing_16 (dko_3 _)
theorem d_Mo_isThing_17 : decode b_Mo_isThing 17 = .ok (.ireturn, 1) := dk_0 a_Mo_isThing_17 (dko_172 _)
set_option maxHeartbeats 4000000 in
set_option maxRecDepth 100000 in
theorem c_Mo_isThing (l : Launch) (dC : Nat → ClassId) (dI : Nat → Nat → Nat) (cI cB cZ cJ : ClassId) (th : Int32) (oM : Nat) (fm : List Value) (hm_things : fx fm 4 (.int 0)) (sz : Nat) : Met l y_Mo_isThing w_Mo_isThing ({ frames := 0, cells := 0, slots := 0, locals := 0 }) (va_Pc [.ref oM, .int th] (PW dC dI cI cB cZ cJ [(oM, .inr (12, fm))] sz)) (va_Qi (fun (r : Int32) (_ : Unit) => r = 0) (fun _ _ => True) (va_A [] sz)) 0 0 (va_A [] sz) := by
  refine Met.ofW (cc := b_Mo_isThing) (maxL := 2) (ret := (some .boolean)) (by decide) rfl ?_
  intro p e s m args below meth c s₁ B hml hv
  obtain ⟨rfl, hsz, hP, hK, hD⟩ := hv
  have hx := B.exec
  have hb := B.bytes
  have hr := B.returns
  have hts := atoms_spec (ws := w_Mo_isThing) B.pre
  have hown : s.vm.findClass R_Mo = some m.cls := findClass_of_methodNamed B.named
  have hlocks := B.notSynchronized
  subst hsz
  generalize hAe : va_A [] s.heap.size = A at ⊢
  have hA : ∀ q : Nat, s.heap.size ≤ q → A q := fun q h => by rw [← hAe]; exact Or.inr h
  have hS : va_S A s.heap s.heap [] := va_S.rf
  have hP : va_P (dC, dI) classes [(oM, .inr (12, fm))] s.heap := hP
  have hl := lv_entry ([.ref oM, .int th]) (n := 2) (Nat.le_of_ble_eq_true rfl)
  rw [lg_entry_eq]
  generalize (lg_sl ([.ref oM, .int th]) ++ List.replicate (2 - (lg_sl ([.ref oM, .int th])).length) Slot.unset).toArray = ls at hl ⊢
  have hl : lv_has ls 2 [(0, .ref oM), (1, .int th)] := hl
  refine lv_iload_n hx hb d_Mo_isThing_0 rfl (lv_at hl 1 rfl) ?_
  refine lv_if_lt (tgt := 16) hx hb d_Mo_isThing_1 (by decide) (fun h1 => ?_) (fun h1 => ?_)
  · refine lv_iconst (v := 0) hx hb d_Mo_isThing_16 (by decide) ?_
    exact W.zret (v := 0) (ty := .boolean) hx hb hr (by decide) (fun t ht hW => ⟨⟨_, (), rfl, (rfl), trivial⟩, hS.F ht⟩) hS.2.2 d_Mo_isThing_17
  · refine lv_iload_n hx hb d_Mo_isThing_4 rfl (lv_at hl 1 rfl) ?_
    refine lv_aload_n hx hb d_Mo_isThing_5 rfl (lv_at hl 0 rfl) ?_
    refine va_get (D := (dC, dI)) (ci := 12) (v := .int 0) (C := R_Mo) (T := F_Mo) (N := 87) hx hb hts (fun w h => List.mem_cons_of_mem _ (in_Mo w h)) hown hK.1 hP 0 rfl rfl 4 (by decide) (hts _ (List.mem_cons_of_mem _ mw_1798)) (fun _ h9 => h9) hm_things d_Mo_isThing_6 ?_
    refine lv_icmp_ge (tgt := 16) hx hb d_Mo_isThing_9 (by decide) (fun _ => ?_) (fun h => absurd (nd_le h1 (by decide)) h)
    refine lv_iconst (v := 0) hx hb d_Mo_isThing_16 (by decide) ?_
    exact W.zret (v := 0) (ty := .boolean) hx hb hr (by decide) (fun t ht hW => ⟨⟨_, (), rfl, (rfl), trivial⟩, hS.F ht⟩) hS.2.2 d_Mo_isThing_17
abbrev t_Mo_second_4 : List UInt8 := 172 :: []
abbrev t_Mo_second_1 : List UInt8 := 180 :: 1 :: 70 :: t_Mo_second_4
abbrev t_Mo_second_0 : List UInt8 := 42 :: t_Mo_second_1
theorem a_Mo_second_0 : dk_at b_Mo_second 0 t_Mo_second_0 := dk_start (by decide +kernel)
theorem a_Mo_second_1 : dk_at b_Mo_second 1 t_Mo_second_1 := dk_go 1 a_Mo_second_0 rfl
theorem a_Mo_second_4 : dk_at b_Mo_second 4 t_Mo_second_4 := dk_go 3 a_Mo_second_1 rfl
theorem d_Mo_second_0 : decode b_Mo_second 0 = .ok (.aload_n 0, 1) := dk_0 a_Mo_second_0 (dko_42 _)
theorem d_Mo_second_1 : decode b_Mo_second 1 = .ok (.getfield 326, 3) := dk_U2 a_Mo_second_1 (dko_180 _) rfl
theorem d_Mo_second_4 : decode b_Mo_second 4 = .ok (.ireturn, 1) := dk_0 a_Mo_second_4 (dko_172 _)
set_option maxHeartbeats 4000000 in
set_option maxRecDepth 100000 in
theorem c_Mo_second (l : Launch) (dC : Nat → ClassId) (dI : Nat → Nat → Nat) (cI cB cZ cJ : ClassId) (oM : Nat) (fm : List Value) (hm_now : fx fm 78 (.int 0)) (sz : Nat) : Met l y_Mo_second w_Mo_second ({ frames := 0, cells := 0, slots := 0, locals := 0 }) (va_Pc [.ref oM] (PW dC dI cI cB cZ cJ [(oM, .inr (12, fm))] sz)) (va_Qi (fun (r : Int32) (_ : Unit) => r = 0) (fun _ _ => True) (va_A [] sz)) 0 0 (va_A [] sz) := by
  refine Met.ofW (cc := b_Mo_second) (maxL := 1) (ret := (some .int)) (by decide) rfl ?_
  intro p e s m args below meth c s₁ B hml hv
  obtain ⟨rfl, hsz, hP, hK, hD⟩ := hv
  have hx := B.exec
  have hb := B.bytes
  have hr := B.returns
  have hts := atoms_spec (ws := w_Mo_second) B.pre
  have hown : s.vm.findClass R_Mo = some m.cls := findClass_of_methodNamed B.named
  have hlocks := B.notSynchronized
  subst hsz
  generalize hAe : va_A [] s.heap.size = A at ⊢
  have hA : ∀ q : Nat, s.heap.size ≤ q → A q := fun q h => by rw [← hAe]; exact Or.inr h
  have hS : va_S A s.heap s.heap [] := va_S.rf
  have hP : va_P (dC, dI) classes [(oM, .inr (12, fm))] s.heap := hP
  have hl := lv_entry ([.ref oM]) (n := 1) (Nat.le_of_ble_eq_true rfl)
  rw [lg_entry_eq]
  generalize (lg_sl ([.ref oM]) ++ List.replicate (1 - (lg_sl ([.ref oM])).length) Slot.unset).toArray = ls at hl ⊢
  have hl : lv_has ls 1 [(0, .ref oM)] := hl
  refine lv_aload_n hx hb d_Mo_second_0 rfl (lv_at hl 0 rfl) ?_
  refine va_get (D := (dC, dI)) (ci := 12) (v := .int 0) (C := R_Mo) (T := F_Mo) (N := 87) hx hb hts (fun w h => List.mem_cons_of_mem _ (in_Mo w h)) hown hK.1 hP 0 rfl rfl 78 (by decide) (hts _ (List.mem_cons_of_mem _ mw_1872)) (fun _ h9 => h9) hm_now d_Mo_second_1 ?_
  exact W.iret (v := 0) hx hb hr (fun t ht hW => ⟨⟨_, (), rfl, (rfl), trivial⟩, hS.F ht⟩) hS.2.2 d_Mo_second_4
abbrev t_Mo_state_4 : List UInt8 := 172 :: []
abbrev t_Mo_state_1 : List UInt8 := 180 :: 0 :: 162 :: t_Mo_state_4
abbrev t_Mo_state_0 : List UInt8 := 42 :: t_Mo_state_1
theorem a_Mo_state_0 : dk_at b_Mo_state 0 t_Mo_state_0 := dk_start (by decide +kernel)
theorem a_Mo_state_1 : dk_at b_Mo_state 1 t_Mo_state_1 := dk_go 1 a_Mo_state_0 rfl
theorem a_Mo_state_4 : dk_at b_Mo_state 4 t_Mo_state_4 := dk_go 3 a_Mo_state_1 rfl
theorem d_Mo_state_0 : decode b_Mo_state 0 = .ok (.aload_n 0, 1) := dk_0 a_Mo_state_0 (dko_42 _)
theorem d_Mo_state_1 : decode b_Mo_state 1 = .ok (.getfield 162, 3) := dk_U2 a_Mo_state_1 (dko_180 _) rfl
theorem d_Mo_state_4 : decode b_Mo_state 4 = .ok (.ireturn, 1) := dk_0 a_Mo_state_4 (dko_172 _)
set_option maxHeartbeats 4000000 in
set_option maxRecDepth 100000 in
theorem c_Mo_state (l : Launch) (dC : Nat → ClassId) (dI : Nat → Nat → Nat) (cI cB cZ cJ : ClassId) (oM : Nat) (fm : List Value) (hm_state : fx fm 59 (.int 4)) (sz : Nat) : Met l y_Mo_state w_Mo_state ({ frames := 0, cells := 0, slots := 0, locals := 0 }) (va_Pc [.ref oM] (PW dC dI cI cB cZ cJ [(oM, .inr (12, fm))] sz)) (va_Qi (fun (r : Int32) (_ : Unit) => r = 4) (fun _ _ => True) (va_A [] sz)) 0 0 (va_A [] sz) := by
  refine Met.ofW (cc := b_Mo_state) (maxL := 1) (ret := (some .int)) (by decide) rfl ?_
  intro p e s m args below meth c s₁ B hml hv
  obtain ⟨rfl, hsz, hP, hK, hD⟩ := hv
  have hx := B.exec
  have hb := B.bytes
  have hr := B.returns
  have hts := atoms_spec (ws := w_Mo_state) B.pre
  have hown : s.vm.findClass R_Mo = some m.cls := findClass_of_methodNamed B.named
  have hlocks := B.notSynchronized
  subst hsz
  generalize hAe : va_A [] s.heap.size = A at ⊢
  have hA : ∀ q : Nat, s.heap.size ≤ q → A q := fun q h => by rw [← hAe]; exact Or.inr h
  have hS : va_S A s.heap s.heap [] := va_S.rf
  have hP : va_P (dC, dI) classes [(oM, .inr (12, fm))] s.heap := hP
  have hl := lv_entry ([.ref oM]) (n := 1) (Nat.le_of_ble_eq_true rfl)
  rw [lg_entry_eq]
  generalize (lg_sl ([.ref oM]) ++ List.replicate (1 - (lg_sl ([.ref oM])).length) Slot.unset).toArray = ls at hl ⊢
  have hl : lv_has ls 1 [(0, .ref oM)] := hl
  refine lv_aload_n hx hb d_Mo_state_0 rfl (lv_at hl 0 rfl) ?_
  refine va_get (D := (dC, dI)) (ci := 12) (v := .int 4) (C := R_Mo) (T := F_Mo) (N := 87) hx hb hts (fun w h => List.mem_cons_of_mem _ (in_Mo w h)) hown hK.1 hP 0 rfl rfl 59 (by decide) (hts _ (List.mem_cons_of_mem _ mw_1853)) (fun _ h9 => h9) hm_state d_Mo_state_1 ?_
  exact W.iret (v := 4) hx hb hr (fun t ht hW => ⟨⟨_, (), rfl, (rfl), trivial⟩, hS.F ht⟩) hS.2.2 d_Mo_state_4
abbrev t_Mo_isTank_22 : List UInt8 := 172 :: []
abbrev t_Mo_isTank_21 : List UInt8 := 3 :: t_Mo_isTank_22
abbrev t_Mo_isTank_18 : List UInt8 := 167 :: 0 :: 4 :: t_Mo_isTank_21
abbrev t_Mo_isTank_17 : List UInt8 := 4 :: t_Mo_isTank_18
abbrev t_Mo_isTank_14 : List UInt8 := 154 :: 0 :: 7 :: t_Mo_isTank_17
abbrev t_Mo_isTank_13 : List UInt8 := 46 :: t_Mo_isTank_14
abbrev t_Mo_isTank_12 : List UInt8 := 27 :: t_Mo_isTank_13
abbrev t_Mo_isTank_9 : List UInt8 := 180 :: 0 :: 27 :: t_Mo_isTank_12
abbrev t_Mo_isTank_8 : List UInt8 := 42 :: t_Mo_isTank_9
abbrev t_Mo_isTank_5 : List UInt8 := 153 :: 0 :: 16 :: t_Mo_isTank_8
abbrev t_Mo_isTank_2 : List UInt8 := 182 :: 1 :: 58 :: t_Mo_isTank_5
abbrev t_Mo_isTank_1 : List UInt8 := 27 :: t_Mo_isTank_2
abbrev t_Mo_isTank_0 : List UInt8 := 42 :: t_Mo_isTank_1
theorem a_Mo_isTank_0 : dk_at b_Mo_isTank 0 t_Mo_isTank_0 := dk_start (by decide +kernel)
theorem a_Mo_isTank_1 : dk_at b_Mo_isTank 1 t_Mo_isTank_1 := dk_go 1 a_Mo_isTank_0 rfl
theorem a_Mo_isTank_2 : dk_at b_Mo_isTank 2 t_Mo_isTank_2 := dk_go 1 a_Mo_isTank_1 rfl
theorem a_Mo_isTank_5 : dk_at b_Mo_isTank 5 t_Mo_isTank_5 := dk_go 3 a_Mo_isTank_2 rfl
theorem a_Mo_isTank_8 : dk_at b_Mo_isTank 8 t_Mo_isTank_8 := dk_go 3 a_Mo_isTank_5 rfl
theorem a_Mo_isTank_9 : dk_at b_Mo_isTank 9 t_Mo_isTank_9 := dk_go 1 a_Mo_isTank_8 rfl
theorem a_Mo_isTank_12 : dk_at b_Mo_isTank 12 t_Mo_isTank_12 := dk_go 3 a_Mo_isTank_9 rfl
theorem a_Mo_isTank_13 : dk_at b_Mo_isTank 13 t_Mo_isTank_13 := dk_go 1 a_Mo_isTank_12 rfl
theorem a_Mo_isTank_14 : dk_at b_Mo_isTank 14 t_Mo_isTank_14 := dk_go 1 a_Mo_isTank_13 rfl
theorem a_Mo_isTank_17 : dk_at b_Mo_isTank 17 t_Mo_isTank_17 := dk_go 3 a_Mo_isTank_14 rfl
theorem a_Mo_isTank_18 : dk_at b_Mo_isTank 18 t_Mo_isTank_18 := dk_go 1 a_Mo_isTank_17 rfl
theorem a_Mo_isTank_21 : dk_at b_Mo_isTank 21 t_Mo_isTank_21 := dk_go 3 a_Mo_isTank_18 rfl
theorem a_Mo_isTank_22 : dk_at b_Mo_isTank 22 t_Mo_isTank_22 := dk_go 1 a_Mo_isTank_21 rfl
theorem d_Mo_isTank_0 : decode b_Mo_isTank 0 = .ok (.aload_n 0, 1) := dk_0 a_Mo_isTank_0 (dko_42 _)
theorem d_Mo_isTank_1 : decode b_Mo_isTank 1 = .ok (.iload_n 1, 1) := dk_0 a_Mo_isTank_1 (dko_27 _)
theorem d_Mo_isTank_2 : decode b_Mo_isTank 2 = .ok (.invokevirtual 314, 3) := dk_U2 a_Mo_isTank_2 (dko_182 _) rfl
theorem d_Mo_isTank_5 : decode b_Mo_isTank 5 = .ok (.ifCond .eq 16, 3) := dk_S2 a_Mo_isTank_5 (dko_153 _) (by decide +kernel)
theorem d_Mo_isTank_21 : decode b_Mo_isTank 21 = .ok (.iconst 0, 1) := dk_0 a_Mo_isTank_21 (dko_3 _)
theorem d_Mo_isTank_22 : decode b_Mo_isTank 22 = .ok (.ireturn, 1) := dk_0 a_Mo_isTank_22 (dko_172 _)
set_option maxHeartbeats 4000000 in
set_option maxRecDepth 100000 in
theorem c_Mo_isTank (l : Launch) (dC : Nat → ClassId) (dI : Nat → Nat → Nat) (cI cB cZ cJ : ClassId) (th : Int32) (oM : Nat) (fm : List Value) (hm_things : fx fm 4 (.int 0)) (sz : Nat) : Met l y_Mo_isTank w_Mo_isTank ({ frames := 1, cells := 0, slots := 0, locals := 21 }) (va_Pc [.ref oM, .int th] (PW dC dI cI cB cZ cJ [(oM, .inr (12, fm))] sz)) (va_Qi (fun (r : Int32) (_ : Unit) => r = 0) (fun _ _ => True) (va_A [] sz)) 0 0 (va_A [] sz) := by
  refine Met.ofW (cc := b_Mo_isTank) (maxL := 2) (ret := (some .boolean)) (by decide) rfl ?_
  intro p e s m args below meth c s₁ B hml hv
  obtain ⟨rfl, hsz, hP, hK, hD⟩ := hv
  have hx := B.exec
  have hb := B.bytes
  have hr := B.returns
  have hts := atoms_spec (ws := w_Mo_isTank) B.pre
  have hown : s.vm.findClass R_Mo = some m.cls := findClass_of_methodNamed B.named
  have hlocks := B.notSynchronized
  subst hsz
  generalize hAe : va_A [] s.heap.size = A at ⊢
  have hA : ∀ q : Nat, s.heap.size ≤ q → A q := fun q h => by rw [← hAe]; exact Or.inr h
  have hS : va_S A s.heap s.heap [] := va_S.rf
  have hP : va_P (dC, dI) classes [(oM, .inr (12, fm))] s.heap := hP
  have hl := lv_entry ([.ref oM, .int th]) (n := 2) (Nat.le_of_ble_eq_true rfl)
  rw [lg_entry_eq]
  generalize (lg_sl ([.ref oM, .int th]) ++ List.replicate (2 - (lg_sl ([.ref oM, .int th])).length) Slot.unset).toArray = ls at hl ⊢
  have hl : lv_has ls 2 [(0, .ref oM), (1, .int th)] := hl
  refine lv_aload_n hx hb d_Mo_isTank_0 rfl (lv_at hl 0 rfl) ?_
  refine lv_iload_n hx hb d_Mo_isTank_1 rfl (lv_at hl 1 rfl) ?_
  have hPc := hP.sub (ws' := [(oM, .inr (12, fm))]) [0] rfl
  have hDc := hD.sub (ws' := [(oM, .inr (12, fm))]) [0] (by decide) rfl
  have hFc := pu_free hS hA
  refine va_calli (va_runV (C := R_Mo) (As := [.int th]) (rest := []) ⟨hx, hb, hml, hown, hts⟩ (c_Mo_isThing l dC dI cI cB cZ cJ th oM fm hm_things s.heap.size) (cwV 1 hts (tb_V mw_2416 mw_2418 sl_154 mw_18 mw_2419) rfl rfl rfl ⟨rfl, by decide +kernel, by decide +kernel, by decide +kernel⟩ ⟨(Nat.le_of_ble_eq_true rfl), (Nat.le_of_ble_eq_true rfl)⟩) ⟨pw_blind, va_recv (q := (R_Mo, F_Mo, 87)) hK.1 hP (ci := 12) (q0 := 0) rfl rfl, pw_pre hPc hK hDc⟩ rfl rfl hl.1 rfl (lv_room (Nat.le_of_ble_eq_true rfl)) d_Mo_isTank_2 ⟨(Nat.le_of_ble_eq_true rfl), (Nat.le_of_ble_eq_true rfl)⟩) hS (fun q _ h => hFc q h) hFc (fun r u t H locs ht hvm hw hB hz1 hk1 hS => ?_)
  have hP := pu_kept hP hk1
  obtain rfl : r = 0 := hw
  refine lv_if_eq (tgt := 21) hx hb d_Mo_isTank_5 (by decide) (fun _ => ?_) (fun h => absurd (by decide) h)
  refine lv_iconst (v := 0) hx hb d_Mo_isTank_21 (by decide) ?_
  exact W.zret (v := 0) (ty := .boolean) hx hb hr (by decide) (fun t ht hW => ⟨⟨_, (), rfl, (rfl), trivial⟩, hS.F ht⟩) hS.2.2 d_Mo_isTank_22
abbrev t_Mo_isValve_23 : List UInt8 := 172 :: []
abbrev t_Mo_isValve_22 : List UInt8 := 3 :: t_Mo_isValve_23
abbrev t_Mo_isValve_19 : List UInt8 := 167 :: 0 :: 4 :: t_Mo_isValve_22
abbrev t_Mo_isValve_18 : List UInt8 := 4 :: t_Mo_isValve_19
abbrev t_Mo_isValve_15 : List UInt8 := 161 :: 0 :: 7 :: t_Mo_isValve_18
abbrev t_Mo_isValve_14 : List UInt8 := 5 :: t_Mo_isValve_15
abbrev t_Mo_isValve_13 : List UInt8 := 46 :: t_Mo_isValve_14
abbrev t_Mo_isValve_12 : List UInt8 := 27 :: t_Mo_isValve_13
abbrev t_Mo_isValve_9 : List UInt8 := 180 :: 0 :: 27 :: t_Mo_isValve_12
abbrev t_Mo_isValve_8 : List UInt8 := 42 :: t_Mo_isValve_9
abbrev t_Mo_isValve_5 : List UInt8 := 153 :: 0 :: 17 :: t_Mo_isValve_8
abbrev t_Mo_isValve_2 : List UInt8 := 182 :: 1 :: 58 :: t_Mo_isValve_5
abbrev t_Mo_isValve_1 : List UInt8 := 27 :: t_Mo_isValve_2
abbrev t_Mo_isValve_0 : List UInt8 := 42 :: t_Mo_isValve_1
theorem a_Mo_isValve_0 : dk_at b_Mo_isValve 0 t_Mo_isValve_0 := dk_start (by decide +kernel)
theorem a_Mo_isValve_1 : dk_at b_Mo_isValve 1 t_Mo_isValve_1 := dk_go 1 a_Mo_isValve_0 rfl
theorem a_Mo_isValve_2 : dk_at b_Mo_isValve 2 t_Mo_isValve_2 := dk_go 1 a_Mo_isValve_1 rfl
theorem a_Mo_isValve_5 : dk_at b_Mo_isValve 5 t_Mo_isValve_5 := dk_go 3 a_Mo_isValve_2 rfl
theorem a_Mo_isValve_8 : dk_at b_Mo_isValve 8 t_Mo_isValve_8 := dk_go 3 a_Mo_isValve_5 rfl
theorem a_Mo_isValve_9 : dk_at b_Mo_isValve 9 t_Mo_isValve_9 := dk_go 1 a_Mo_isValve_8 rfl
theorem a_Mo_isValve_12 : dk_at b_Mo_isValve 12 t_Mo_isValve_12 := dk_go 3 a_Mo_isValve_9 rfl
theorem a_Mo_isValve_13 : dk_at b_Mo_isValve 13 t_Mo_isValve_13 := dk_go 1 a_Mo_isValve_12 rfl
theorem a_Mo_isValve_14 : dk_at b_Mo_isValve 14 t_Mo_isValve_14 := dk_go 1 a_Mo_isValve_13 rfl
theorem a_Mo_isValve_15 : dk_at b_Mo_isValve 15 t_Mo_isValve_15 := dk_go 1 a_Mo_isValve_14 rfl
theorem a_Mo_isValve_18 : dk_at b_Mo_isValve 18 t_Mo_isValve_18 := dk_go 3 a_Mo_isValve_15 rfl
theorem a_Mo_isValve_19 : dk_at b_Mo_isValve 19 t_Mo_isValve_19 := dk_go 1 a_Mo_isValve_18 rfl
theorem a_Mo_isValve_22 : dk_at b_Mo_isValve 22 t_Mo_isValve_22 := dk_go 3 a_Mo_isValve_19 rfl
theorem a_Mo_isValve_23 : dk_at b_Mo_isValve 23 t_Mo_isValve_23 := dk_go 1 a_Mo_isValve_22 rfl
theorem d_Mo_isValve_0 : decode b_Mo_isValve 0 = .ok (.aload_n 0, 1) := dk_0 a_Mo_isValve_0 (dko_42 _)
theorem d_Mo_isValve_1 : decode b_Mo_isValve 1 = .ok (.iload_n 1, 1) := dk_0 a_Mo_isValve_1 (dko_27 _)
theorem d_Mo_isValve_2 : decode b_Mo_isValve 2 = .ok (.invokevirtual 314, 3) := dk_U2 a_Mo_isValve_2 (dko_182 _) rfl
theorem d_Mo_isValve_5 : decode b_Mo_isValve 5 = .ok (.ifCond .eq 17, 3) := dk_S2 a_Mo_isValve_5 (dko_153 _) (by decide +kernel)
theorem d_Mo_isValve_22 : decode b_Mo_isValve 22 = .ok (.iconst 0, 1) := dk_0 a_Mo_isValve_22 (dko_3 _)
theorem d_Mo_isValve_23 : decode b_Mo_isValve 23 = .ok (.ireturn, 1) := dk_0 a_Mo_isValve_23 (dko_172 _)
set_option maxHeartbeats 4000000 in
set_option maxRecDepth 100000 in
theorem c_Mo_isValve (l : Launch) (dC : Nat → ClassId) (dI : Nat → Nat → Nat) (cI cB cZ cJ : ClassId) (th : Int32) (oM : Nat) (fm : List Value) (hm_things : fx fm 4 (.int 0)) (sz : Nat) : Met l y_Mo_isValve w_Mo_isValve ({ frames := 1, cells := 0, slots := 0, locals := 21 }) (va_Pc [.ref oM, .int th] (PW dC dI cI cB cZ cJ [(oM, .inr (12, fm))] sz)) (va_Qi (fun (r : Int32) (_ : Unit) => r = 0) (fun _ _ => True) (va_A [] sz)) 0 0 (va_A [] sz) := by
  refine Met.ofW (cc := b_Mo_isValve) (maxL := 2) (ret := (some .boolean)) (by decide) rfl ?_
  intro p e s m args below meth c s₁ B hml hv
  obtain ⟨rfl, hsz, hP, hK, hD⟩ := hv
  have hx := B.exec
  have hb := B.bytes
  have hr := B.returns
  have hts := atoms_spec (ws := w_Mo_isValve) B.pre
  have hown : s.vm.findClass R_Mo = some m.cls := findClass_of_methodNamed B.named
  have hlocks := B.notSynchronized
  subst hsz
  generalize hAe : va_A [] s.heap.size = A at ⊢
  have hA : ∀ q : Nat, s.heap.size ≤ q → A q := fun q h => by rw [← hAe]; exact Or.inr h
  have hS : va_S A s.heap s.heap [] := va_S.rf
  have hP : va_P (dC, dI) classes [(oM, .inr (12, fm))] s.heap := hP
  have hl := lv_entry ([.ref oM, .int th]) (n := 2) (Nat.le_of_ble_eq_true rfl)
  rw [lg_entry_eq]
  generalize (lg_sl ([.ref oM, .int th]) ++ List.replicate (2 - (lg_sl ([.ref oM, .int th])).length) Slot.unset).toArray = ls at hl ⊢
  have hl : lv_has ls 2 [(0, .ref oM), (1, .int th)] := hl
  refine lv_aload_n hx hb d_Mo_isValve_0 rfl (lv_at hl 0 rfl) ?_
  refine lv_iload_n hx hb d_Mo_isValve_1 rfl (lv_at hl 1 rfl) ?_
  have hPc := hP.sub (ws' := [(oM, .inr (12, fm))]) [0] rfl
  have hDc := hD.sub (ws' := [(oM, .inr (12, fm))]) [0] (by decide) rfl
  have hFc := pu_free hS hA
  refine va_calli (va_runV (C := R_Mo) (As := [.int th]) (rest := []) ⟨hx, hb, hml, hown, hts⟩ (c_Mo_isThing l dC dI cI cB cZ cJ th oM fm hm_things s.heap.size) (cwV 1 hts (tb_V mw_2416 mw_2418 sl_154 mw_18 mw_2419) rfl rfl rfl ⟨rfl, by decide +kernel, by decide +kernel, by decide +kernel⟩ ⟨(Nat.le_of_ble_eq_true rfl), (Nat.le_of_ble_eq_true rfl)⟩) ⟨pw_blind, va_recv (q := (R_Mo, F_Mo, 87)) hK.1 hP (ci := 12) (q0 := 0) rfl rfl, pw_pre hPc hK hDc⟩ rfl rfl hl.1 rfl (lv_room (Nat.le_of_ble_eq_true rfl)) d_Mo_isValve_2 ⟨(Nat.le_of_ble_eq_true rfl), (Nat.le_of_ble_eq_true rfl)⟩) hS (fun q _ h => hFc q h) hFc (fun r u t H locs ht hvm hw hB hz1 hk1 hS => ?_)
  have hP := pu_kept hP hk1
  obtain rfl : r = 0 := hw
  refine lv_if_eq (tgt := 22) hx hb d_Mo_isValve_5 (by decide) (fun _ => ?_) (fun h => absurd (by decide) h)
  refine lv_iconst (v := 0) hx hb d_Mo_isValve_22 (by decide) ?_
  exact W.zret (v := 0) (ty := .boolean) hx hb hr (by decide) (fun t ht hW => ⟨⟨_, (), rfl, (rfl), trivial⟩, hS.F ht⟩) hS.2.2 d_Mo_isValve_23
abbrev t_Mo_isPipe_26 : List UInt8 := 172 :: []
abbrev t_Mo_isPipe_25 : List UInt8 := 3 :: t_Mo_isPipe_26
abbrev t_Mo_isPipe_22 : List UInt8 := 167 :: 0 :: 4 :: t_Mo_isPipe_25
abbrev t_Mo_isPipe_21 : List UInt8 := 4 :: t_Mo_isPipe_22
abbrev t_Mo_isPipe_18 : List UInt8 := 162 :: 0 :: 7 :: t_Mo_isPipe_21
abbrev t_Mo_isPipe_17 : List UInt8 := 96 :: t_Mo_isPipe_18
abbrev t_Mo_isPipe_14 : List UInt8 := 180 :: 1 :: 25 :: t_Mo_isPipe_17
abbrev t_Mo_isPipe_13 : List UInt8 := 42 :: t_Mo_isPipe_14
abbrev t_Mo_isPipe_10 : List UInt8 := 180 :: 1 :: 22 :: t_Mo_isPipe_13
abbrev t_Mo_isPipe_9 : List UInt8 := 42 :: t_Mo_isPipe_10
abbrev t_Mo_isPipe_8 : List UInt8 := 27 :: t_Mo_isPipe_9
abbrev t_Mo_isPipe_5 : List UInt8 := 161 :: 0 :: 20 :: t_Mo_isPipe_8
abbrev t_Mo_isPipe_2 : List UInt8 := 180 :: 1 :: 22 :: t_Mo_isPipe_5
abbrev t_Mo_isPipe_1 : List UInt8 := 42 :: t_Mo_isPipe_2
abbrev t_Mo_isPipe_0 : List UInt8 := 27 :: t_Mo_isPipe_1
theorem a_Mo_isPipe_0 : dk_at b_Mo_isPipe 0 t_Mo_isPipe_0 := dk_start (by decide +kernel)
theorem a_Mo_isPipe_1 : dk_at b_Mo_isPipe 1 t_Mo_isPipe_1 := dk_go 1 a_Mo_isPipe_0 rfl
theorem a_Mo_isPipe_2 : dk_at b_Mo_isPipe 2 t_Mo_isPipe_2 := dk_go 1 a_Mo_isPipe_1 rfl
theorem a_Mo_isPipe_5 : dk_at b_Mo_isPipe 5 t_Mo_isPipe_5 := dk_go 3 a_Mo_isPipe_2 rfl
theorem a_Mo_isPipe_8 : dk_at b_Mo_isPipe 8 t_Mo_isPipe_8 := dk_go 3 a_Mo_isPipe_5 rfl
theorem a_Mo_isPipe_9 : dk_at b_Mo_isPipe 9 t_Mo_isPipe_9 := dk_go 1 a_Mo_isPipe_8 rfl
theorem a_Mo_isPipe_10 : dk_at b_Mo_isPipe 10 t_Mo_isPipe_10 := dk_go 1 a_Mo_isPipe_9 rfl
theorem a_Mo_isPipe_13 : dk_at b_Mo_isPipe 13 t_Mo_isPipe_13 := dk_go 3 a_Mo_isPipe_10 rfl
theorem a_Mo_isPipe_14 : dk_at b_Mo_isPipe 14 t_Mo_isPipe_14 := dk_go 1 a_Mo_isPipe_13 rfl
theorem a_Mo_isPipe_17 : dk_at b_Mo_isPipe 17 t_Mo_isPipe_17 := dk_go 3 a_Mo_isPipe_14 rfl
theorem a_Mo_isPipe_18 : dk_at b_Mo_isPipe 18 t_Mo_isPipe_18 := dk_go 1 a_Mo_isPipe_17 rfl
theorem a_Mo_isPipe_21 : dk_at b_Mo_isPipe 21 t_Mo_isPipe_21 := dk_go 3 a_Mo_isPipe_18 rfl
theorem a_Mo_isPipe_22 : dk_at b_Mo_isPipe 22 t_Mo_isPipe_22 := dk_go 1 a_Mo_isPipe_21 rfl
theorem a_Mo_isPipe_25 : dk_at b_Mo_isPipe 25 t_Mo_isPipe_25 := dk_go 3 a_Mo_isPipe_22 rfl
theorem a_Mo_isPipe_26 : dk_at b_Mo_isPipe 26 t_Mo_isPipe_26 := dk_go 1 a_Mo_isPipe_25 rfl
theorem d_Mo_isPipe_0 : decode b_Mo_isPipe 0 = .ok (.iload_n 1, 1) := dk_0 a_Mo_isPipe_0 (dko_27 _)
theorem d_Mo_isPipe_1 : decode b_Mo_isPipe 1 = .ok (.aload_n 0, 1) := dk_0 a_Mo_isPipe_1 (dko_42 _)
theorem d_Mo_isPipe_2 : decode b_Mo_isPipe 2 = .ok (.getfield 278, 3) := dk_U2 a_Mo_isPipe_2 (dko_180 _) rfl
theorem d_Mo_isPipe_5 : decode b_Mo_isPipe 5 = .ok (.if_icmp .lt 20, 3) := dk_S2 a_Mo_isPipe_5 (dko_161 _) (by decide +kernel)
theorem d_Mo_isPipe_8 : decode b_Mo_isPipe 8 = .ok (.iload_n 1, 1) := dk_0 a_Mo_isPipe_8 (dko_27 _)
theorem d_Mo_isPipe_9 : decode b_Mo_isPipe 9 = .ok (.aload_n 0, 1) := dk_0 a_Mo_isPipe_9 (dko_42 _)
theorem d_Mo_isPipe_10 : decode b_Mo_isPipe 10 = .ok (.getfield 278, 3) := dk_U2 a_Mo_isPipe_10 (dko_180 _) rfl
theorem d_Mo_isPipe_13 : decode b_Mo_isPipe 13 = .ok (.aload_n 0, 1) := dk_0 a_Mo_isPipe_13 (dko_42 _)
theorem d_Mo_isPipe_14 : decode b_Mo_isPipe 14 = .ok (.getfield 281, 3) := dk_U2 a_Mo_isPipe_14 (dko_180 _) rfl
theorem d_Mo_isPipe_17 : decode b_Mo_isPipe 17 = .ok (.iadd, 1) := dk_0 a_Mo_isPipe_17 (dko_96 _)
theorem d_Mo_isPipe_18 : decode b_Mo_isPipe 18 = .ok (.if_icmp .ge 7, 3) := dk_S2 a_Mo_isPipe_18 (dko_162 _) (by decide +kernel)
theorem d_Mo_isPipe_25 : decode b_Mo_isPipe 25 = .ok (.iconst 0, 1) := dk_0 a_Mo_isPipe_25 (dko_3 _)
theorem d_Mo_isPipe_26 : decode b_Mo_isPipe 26 = .ok (.ireturn, 1) := dk_0 a_Mo_isPipe_26 (dko_172 _)
set_option maxHeartbeats 4000000 in
set_option maxRecDepth 100000 in
theorem c_Mo_isPipe (l : Launch) (dC : Nat → ClassId) (dI : Nat → Nat → Nat) (cI cB cZ cJ : ClassId) (th : Int32) (oM : Nat) (fm : List Value) (hm_things : fx fm 4 (.int 0)) (hm_pipes : fx fm 11 (.int 0)) (sz : Nat) : Met l y_Mo_isPipe w_Mo_isPipe ({ frames := 0, cells := 0, slots := 0, locals := 0 }) (va_Pc [.ref oM, .int th] (PW dC dI cI cB cZ cJ [(oM, .inr (12, fm))] sz)) (va_Qi (fun (r : Int32) (_ : Unit) => r = 0) (fun _ _ => True) (va_A [] sz)) 0 0 (va_A [] sz) := by
  refine Met.ofW (cc := b_Mo_isPipe) (maxL := 2) (ret := (some .boolean)) (by decide) rfl ?_
  intro p e s m args below meth c s₁ B hml hv
  obtain ⟨rfl, hsz, hP, hK, hD⟩ := hv
  have hx := B.exec
  have hb := B.bytes
  have hr := B.returns
  have hts := atoms_spec (ws := w_Mo_isPipe) B.pre
  have hown : s.vm.findClass R_Mo = some m.cls := findClass_of_methodNamed B.named
  have hlocks := B.notSynchronized
  subst hsz
  generalize hAe : va_A [] s.heap.size = A at ⊢
  have hA : ∀ q : Nat, s.heap.size ≤ q → A q := fun q h => by rw [← hAe]; exact Or.inr h
  have hS : va_S A s.heap s.heap [] := va_S.rf
  have hP : va_P (dC, dI) classes [(oM, .inr (12, fm))] s.heap := hP
  have hl := lv_entry ([.ref oM, .int th]) (n := 2) (Nat.le_of_ble_eq_true rfl)
  rw [lg_entry_eq]
  generalize (lg_sl ([.ref oM, .int th]) ++ List.replicate (2 - (lg_sl ([.ref oM, .int th])).length) Slot.unset).toArray = ls at hl ⊢
  have hl : lv_has ls 2 [(0, .ref oM), (1, .int th)] := hl
  refine lv_iload_n hx hb d_Mo_isPipe_0 rfl (lv_at hl 1 rfl) ?_
  refine lv_aload_n hx hb d_Mo_isPipe_1 rfl (lv_at hl 0 rfl) ?_
  refine va_get (D := (dC, dI)) (ci := 12) (v := .int 0) (C := R_Mo) (T := F_Mo) (N := 87) hx hb hts (fun w h => List.mem_cons_of_mem _ (in_Mo w h)) hown hK.1 hP 0 rfl rfl 4 (by decide) (hts _ (List.mem_cons_of_mem _ mw_1798)) (fun _ h9 => h9) hm_things d_Mo_isPipe_2 ?_
  refine lv_icmp_lt (tgt := 25) hx hb d_Mo_isPipe_5 (by decide) (fun h5 => ?_) (fun h5 => ?_)
  · refine lv_iconst (v := 0) hx hb d_Mo_isPipe_25 (by decide) ?_
    exact W.zret (v := 0) (ty := .boolean) hx hb hr (by decide) (fun t ht hW => ⟨⟨_, (), rfl, (rfl), trivial⟩, hS.F ht⟩) hS.2.2 d_Mo_isPipe_26
  · refine lv_iload_n hx hb d_Mo_isPipe_8 rfl (lv_at hl 1 rfl) ?_
    refine lv_aload_n hx hb d_Mo_isPipe_9 rfl (lv_at hl 0 rfl) ?_
    refine va_get (D := (dC, dI)) (ci := 12) (v := .int 0) (C := R_Mo) (T := F_Mo) (N := 87) hx hb hts (fun w h => List.mem_cons_of_mem _ (in_Mo w h)) hown hK.1 hP 0 rfl rfl 4 (by decide) (hts _ (List.mem_cons_of_mem _ mw_1798)) (fun _ h9 => h9) hm_things d_Mo_isPipe_10 ?_
    refine lv_aload_n hx hb d_Mo_isPipe_13 rfl (lv_at hl 0 rfl) ?_
    refine va_get (D := (dC, dI)) (ci := 12) (v := .int 0) (C := R_Mo) (T := F_Mo) (N := 87) hx hb hts (fun w h => List.mem_cons_of_mem _ (in_Mo w h)) hown hK.1 hP 0 rfl rfl 11 (by decide) (hts _ (List.mem_cons_of_mem _ mw_1805)) (fun _ h9 => h9) hm_pipes d_Mo_isPipe_14 ?_
    refine lv_iadd hx hb d_Mo_isPipe_17 ?_
    refine lv_topi (fun x0 e0 => ?_)
    obtain rfl : x0 = 0 := e0.trans (by decide)
    refine lv_icmp_ge (tgt := 25) hx hb d_Mo_isPipe_18 (by decide) (fun _ => ?_) (fun h => absurd (nd_le h5 (by decide)) h)
    refine lv_iconst (v := 0) hx hb d_Mo_isPipe_25 (by decide) ?_
    exact W.zret (v := 0) (ty := .boolean) hx hb hr (by decide) (fun t ht hW => ⟨⟨_, (), rfl, (rfl), trivial⟩, hS.F ht⟩) hS.2.2 d_Mo_isPipe_26
abbrev t_Mo_holdsLiquid_21 : List UInt8 := 172 :: []
abbrev t_Mo_holdsLiquid_20 : List UInt8 := 3 :: t_Mo_holdsLiquid_21
abbrev t_Mo_holdsLiquid_17 : List UInt8 := 167 :: 0 :: 4 :: t_Mo_holdsLiquid_20
abbrev t_Mo_holdsLiquid_16 : List UInt8 := 4 :: t_Mo_holdsLiquid_17
abbrev t_Mo_holdsLiquid_13 : List UInt8 := 153 :: 0 :: 7 :: t_Mo_holdsLiquid_16
abbrev t_Mo_holdsLiquid_10 : List UInt8 := 182 :: 1 :: 64 :: t_Mo_holdsLiquid_13
abbrev t_Mo_holdsLiquid_9 : List UInt8 := 27 :: t_Mo_holdsLiquid_10
abbrev t_Mo_holdsLiquid_8 : List UInt8 := 42 :: t_Mo_holdsLiquid_9
abbrev t_Mo_holdsLiquid_5 : List UInt8 := 154 :: 0 :: 11 :: t_Mo_holdsLiquid_8
abbrev t_Mo_holdsLiquid_2 : List UInt8 := 182 :: 1 :: 61 :: t_Mo_holdsLiquid_5
abbrev t_Mo_holdsLiquid_1 : List UInt8 := 27 :: t_Mo_holdsLiquid_2
abbrev t_Mo_holdsLiquid_0 : List UInt8 := 42 :: t_Mo_holdsLiquid_1
theorem a_Mo_holdsLiquid_0 : dk_at b_Mo_holdsLiquid 0 t_Mo_holdsLiquid_0 := dk_start (by decide +kernel)
theorem a_Mo_holdsLiquid_1 : dk_at b_Mo_holdsLiquid 1 t_Mo_holdsLiquid_1 := dk_go 1 a_Mo_holdsLiquid_0 rfl
theorem a_Mo_holdsLiquid_2 : dk_at b_Mo_holdsLiquid 2 t_Mo_holdsLiquid_2 := dk_go 1 a_Mo_holdsLiquid_1 rfl
theorem a_Mo_holdsLiquid_5 : dk_at b_Mo_holdsLiquid 5 t_Mo_holdsLiquid_5 := dk_go 3 a_Mo_holdsLiquid_2 rfl
theorem a_Mo_holdsLiquid_8 : dk_at b_Mo_holdsLiquid 8 t_Mo_holdsLiquid_8 := dk_go 3 a_Mo_holdsLiquid_5 rfl
theorem a_Mo_holdsLiquid_9 : dk_at b_Mo_holdsLiquid 9 t_Mo_holdsLiquid_9 := dk_go 1 a_Mo_holdsLiquid_8 rfl
theorem a_Mo_holdsLiquid_10 : dk_at b_Mo_holdsLiquid 10 t_Mo_holdsLiquid_10 := dk_go 1 a_Mo_holdsLiquid_9 rfl
theorem a_Mo_holdsLiquid_13 : dk_at b_Mo_holdsLiquid 13 t_Mo_holdsLiquid_13 := dk_go 3 a_Mo_holdsLiquid_10 rfl
theorem a_Mo_holdsLiquid_16 : dk_at b_Mo_holdsLiquid 16 t_Mo_holdsLiquid_16 := dk_go 3 a_Mo_holdsLiquid_13 rfl
theorem a_Mo_holdsLiquid_17 : dk_at b_Mo_holdsLiquid 17 t_Mo_holdsLiquid_17 := dk_go 1 a_Mo_holdsLiquid_16 rfl
theorem a_Mo_holdsLiquid_20 : dk_at b_Mo_holdsLiquid 20 t_Mo_holdsLiquid_20 := dk_go 3 a_Mo_holdsLiquid_17 rfl
theorem a_Mo_holdsLiquid_21 : dk_at b_Mo_holdsLiquid 21 t_Mo_holdsLiquid_21 := dk_go 1 a_Mo_holdsLiquid_20 rfl
theorem d_Mo_holdsLiquid_0 : decode b_Mo_holdsLiquid 0 = .ok (.aload_n 0, 1) := dk_0 a_Mo_holdsLiquid_0 (dko_42 _)
theorem d_Mo_holdsLiquid_1 : decode b_Mo_holdsLiquid 1 = .ok (.iload_n 1, 1) := dk_0 a_Mo_holdsLiquid_1 (dko_27 _)
theorem d_Mo_holdsLiquid_2 : decode b_Mo_holdsLiquid 2 = .ok (.invokevirtual 317, 3) := dk_U2 a_Mo_holdsLiquid_2 (dko_182 _) rfl
theorem d_Mo_holdsLiquid_5 : decode b_Mo_holdsLiquid 5 = .ok (.ifCond .ne 11, 3) := dk_S2 a_Mo_holdsLiquid_5 (dko_154 _) (by decide +kernel)
theorem d_Mo_holdsLiquid_8 : decode b_Mo_holdsLiquid 8 = .ok (.aload_n 0, 1) := dk_0 a_Mo_holdsLiquid_8 (dko_42 _)
theorem d_Mo_holdsLiquid_9 : decode b_Mo_holdsLiquid 9 = .ok (.iload_n 1, 1) := dk_0 a_Mo_holdsLiquid_9 (dko_27 _)
theorem d_Mo_holdsLiquid_10 : decode b_Mo_holdsLiquid 10 = .ok (.invokevirtual 320, 3) := dk_U2 a_Mo_holdsLiquid_10 (dko_182 _) rfl
theorem d_Mo_holdsLiquid_13 : decode b_Mo_holdsLiquid 13 = .ok (.ifCond .eq 7, 3) := dk_S2 a_Mo_holdsLiquid_13 (dko_153 _) (by decide +kernel)
theorem d_Mo_holdsLiquid_20 : decode b_Mo_holdsLiquid 20 = .ok (.iconst 0, 1) := dk_0 a_Mo_holdsLiquid_20 (dko_3 _)
theorem d_Mo_holdsLiquid_21 : decode b_Mo_holdsLiquid 21 = .ok (.ireturn, 1) := dk_0 a_Mo_holdsLiquid_21 (dko_172 _)
set_option maxHeartbeats 4000000 in
set_option maxRecDepth 100000 in
theorem c_Mo_holdsLiquid (l : Launch) (dC : Nat → ClassId) (dI : Nat → Nat → Nat) (cI cB cZ cJ : ClassId) (th : Int32) (oM : Nat) (fm : List Value) (hm_things : fx fm 4 (.int 0)) (hm_pipes : fx fm 11 (.int 0)) (sz : Nat) : Met l y_Mo_holdsLiquid w_Mo_holdsLiquid ({ frames := 2, cells := 0, slots := 0, locals := 42 }) (va_Pc [.ref oM, .int th] (PW dC dI cI cB cZ cJ [(oM, .inr (12, fm))] sz)) (va_Qi (fun (r : Int32) (_ : Unit) => r = 0) (fun _ _ => True) (va_A [] sz)) 0 0 (va_A [] sz) := by
  refine Met.ofW (cc := b_Mo_holdsLiquid) (maxL := 2) (ret := (some .boolean)) (by decide) rfl ?_
  intro p e s m args below meth c s₁ B hml hv
  obtain ⟨rfl, hsz, hP, hK, hD⟩ := hv
  have hx := B.exec
  have hb := B.bytes
  have hr := B.returns
  have hts := atoms_spec (ws := w_Mo_holdsLiquid) B.pre
  have hown : s.vm.findClass R_Mo = some m.cls := findClass_of_methodNamed B.named
  have hlocks := B.notSynchronized
  subst hsz
  generalize hAe : va_A [] s.heap.size = A at ⊢
  have hA : ∀ q : Nat, s.heap.size ≤ q → A q := fun q h => by rw [← hAe]; exact Or.inr h
  have hS : va_S A s.heap s.heap [] := va_S.rf
  have hP : va_P (dC, dI) classes [(oM, .inr (12, fm))] s.heap := hP
  have hl := lv_entry ([.ref oM, .int th]) (n := 2) (Nat.le_of_ble_eq_true rfl)
  rw [lg_entry_eq]
  generalize (lg_sl ([.ref oM, .int th]) ++ List.replicate (2 - (lg_sl ([.ref oM, .int th])).length) Slot.unset).toArray = ls at hl ⊢
  have hl : lv_has ls 2 [(0, .ref oM), (1, .int th)] := hl
  refine lv_aload_n hx hb d_Mo_holdsLiquid_0 rfl (lv_at hl 0 rfl) ?_
  refine lv_iload_n hx hb d_Mo_holdsLiquid_1 rfl (lv_at hl 1 rfl) ?_
  have hPc := hP.sub (ws' := [(oM, .inr (12, fm))]) [0] rfl
  have hDc := hD.sub (ws' := [(oM, .inr (12, fm))]) [0] (by decide) rfl
  have hFc := pu_free hS hA
  refine va_calli (va_runV (C := R_Mo) (As := [.int th]) (rest := []) ⟨hx, hb, hml, hown, hts⟩ (c_Mo_isTank l dC dI cI cB cZ cJ th oM fm hm_things s.heap.size) (cwV 1 hts (tb_V mw_2424 mw_2426 sl_156 mw_18 mw_2427) rfl rfl rfl ⟨rfl, by decide +kernel, by decide +kernel, by decide +kernel⟩ ⟨(Nat.le_of_ble_eq_true rfl), (Nat.le_of_ble_eq_true rfl)⟩) ⟨pw_blind, va_recv (q := (R_Mo, F_Mo, 87)) hK.1 hP (ci := 12) (q0 := 0) rfl rfl, pw_pre hPc hK hDc⟩ rfl rfl hl.1 rfl (lv_room (Nat.le_of_ble_eq_true rfl)) d_Mo_holdsLiquid_2 ⟨(Nat.le_of_ble_eq_true rfl), (Nat.le_of_ble_eq_true rfl)⟩) hS (fun q _ h => hFc q h) hFc (fun r u t H locs ht hvm hw hB hz1 hk1 hS => ?_)
  have hP := pu_kept hP hk1
  obtain rfl : r = 0 := hw
  refine lv_if_ne (tgt := 16) hx hb d_Mo_holdsLiquid_5 (by decide) (fun h => absurd rfl h) (fun _ => ?_)
  refine lv_aload_n hx hb d_Mo_holdsLiquid_8 rfl (lv_at hl 0 rfl) ?_
  refine lv_iload_n hx hb d_Mo_holdsLiquid_9 rfl (lv_at hl 1 rfl) ?_
  have hPc := hP.sub (ws' := [(oM, .inr (12, fm))]) [0] rfl
  have hDc := hD.sub (ws' := [(oM, .inr (12, fm))]) [0] (by decide) rfl
  have hFc := pu_free hS hA
  refine va_calli (va_runV (C := R_Mo) (As := [.int th]) (rest := []) ⟨hx, hb, hml, hown, hts⟩ (c_Mo_isPipe l dC dI cI cB cZ cJ th oM fm hm_things hm_pipes H.size) (cwV 1 hts (tb_V mw_2428 mw_2430 sl_157 mw_18 mw_2431) rfl rfl rfl ⟨rfl, by decide +kernel, by decide +kernel, by decide +kernel⟩ ⟨(Nat.le_of_ble_eq_true rfl), (Nat.le_of_ble_eq_true rfl)⟩) ⟨pw_blind, va_recv (q := (R_Mo, F_Mo, 87)) hK.1 hP (ci := 12) (q0 := 0) rfl rfl, pw_pre hPc hK hDc⟩ rfl rfl hl.1 rfl (lv_room (Nat.le_of_ble_eq_true rfl)) d_Mo_holdsLiquid_10 ⟨(Nat.le_of_ble_eq_true rfl), (Nat.le_of_ble_eq_true rfl)⟩) hS (fun q _ h => hFc q h) hFc (fun r u t H locs ht hvm hw hB hz1 hk1 hS => ?_)
  have hP := pu_kept hP hk1
  obtain rfl : r = 0 := hw
  refine lv_if_eq (tgt := 20) hx hb d_Mo_holdsLiquid_13 (by decide) (fun _ => ?_) (fun h => absurd (by decide) h)
  refine lv_iconst (v := 0) hx hb d_Mo_holdsLiquid_20 (by decide) ?_
  exact W.zret (v := 0) (ty := .boolean) hx hb hr (by decide) (fun t ht hW => ⟨⟨_, (), rfl, (rfl), trivial⟩, hS.F ht⟩) hS.2.2 d_Mo_holdsLiquid_21
abbrev t_Mo_isRole_44 : List UInt8 := 172 :: []
abbrev t_Mo_isRole_43 : List UInt8 := 3 :: t_Mo_isRole_44
abbrev t_Mo_isRole_40 : List UInt8 := 167 :: 0 :: 4 :: t_Mo_isRole_43
abbrev t_Mo_isRole_39 : List UInt8 := 4 :: t_Mo_isRole_40
abbrev t_Mo_isRole_36 : List UInt8 := 160 :: 0 :: 7 :: t_Mo_isRole_39
abbrev t_Mo_isRole_35 : List UInt8 := 28 :: t_Mo_isRole_36
abbrev t_Mo_isRole_34 : List UInt8 := 46 :: t_Mo_isRole_35
abbrev t_Mo_isRole_33 : List UInt8 := 96 :: t_Mo_isRole_34
abbrev t_Mo_isRole_32 : List UInt8 := 27 :: t_Mo_isRole_33
abbrev t_Mo_isRole_31 : List UInt8 := 104 :: t_Mo_isRole_32
abbrev t_Mo_isRole_28 : List UInt8 := 180 :: 1 :: 192 :: t_Mo_isRole_31
abbrev t_Mo_isRole_25 : List UInt8 := 180 :: 0 :: 16 :: t_Mo_isRole_28
abbrev t_Mo_isRole_24 : List UInt8 := 42 :: t_Mo_isRole_25
abbrev t_Mo_isRole_22 : List UInt8 := 16 :: 40 :: t_Mo_isRole_24
abbrev t_Mo_isRole_19 : List UInt8 := 180 :: 1 :: 189 :: t_Mo_isRole_22
abbrev t_Mo_isRole_16 : List UInt8 := 180 :: 0 :: 16 :: t_Mo_isRole_19
abbrev t_Mo_isRole_15 : List UInt8 := 42 :: t_Mo_isRole_16
abbrev t_Mo_isRole_12 : List UInt8 := 162 :: 0 :: 31 :: t_Mo_isRole_15
abbrev t_Mo_isRole_9 : List UInt8 := 180 :: 1 :: 186 :: t_Mo_isRole_12
abbrev t_Mo_isRole_6 : List UInt8 := 180 :: 0 :: 16 :: t_Mo_isRole_9
abbrev t_Mo_isRole_5 : List UInt8 := 42 :: t_Mo_isRole_6
abbrev t_Mo_isRole_4 : List UInt8 := 27 :: t_Mo_isRole_5
abbrev t_Mo_isRole_1 : List UInt8 := 155 :: 0 :: 42 :: t_Mo_isRole_4
abbrev t_Mo_isRole_0 : List UInt8 := 27 :: t_Mo_isRole_1
theorem a_Mo_isRole_0 : dk_at b_Mo_isRole 0 t_Mo_isRole_0 := dk_start (by decide +kernel)
theorem a_Mo_isRole_1 : dk_at b_Mo_isRole 1 t_Mo_isRole_1 := dk_go 1 a_Mo_isRole_0 rfl
theorem a_Mo_isRole_4 : dk_at b_Mo_isRole 4 t_Mo_isRole_4 := dk_go 3 a_Mo_isRole_1 rfl
theorem a_Mo_isRole_5 : dk_at b_Mo_isRole 5 t_Mo_isRole_5 := dk_go 1 a_Mo_isRole_4 rfl
theorem a_Mo_isRole_6 : dk_at b_Mo_isRole 6 t_Mo_isRole_6 := dk_go 1 a_Mo_isRole_5 rfl
theorem a_Mo_isRole_9 : dk_at b_Mo_isRole 9 t_Mo_isRole_9 := dk_go 3 a_Mo_isRole_6 rfl
theorem a_Mo_isRole_12 : dk_at b_Mo_isRole 12 t_Mo_isRole_12 := dk_go 3 a_Mo_isRole_9 rfl
theorem a_Mo_isRole_15 : dk_at b_Mo_isRole 15 t_Mo_isRole_15 := dk_go 3 a_Mo_isRole_12 rfl
theorem a_Mo_isRole_16 : dk_at b_Mo_isRole 16 t_Mo_isRole_16 := dk_go 1 a_Mo_isRole_15 rfl
theorem a_Mo_isRole_19 : dk_at b_Mo_isRole 19 t_Mo_isRole_19 := dk_go 3 a_Mo_isRole_16 rfl
theorem a_Mo_isRole_22 : dk_at b_Mo_isRole 22 t_Mo_isRole_22 := dk_go 3 a_Mo_isRole_19 rfl
theorem a_Mo_isRole_24 : dk_at b_Mo_isRole 24 t_Mo_isRole_24 := dk_go 2 a_Mo_isRole_22 rfl
theorem a_Mo_isRole_25 : dk_at b_Mo_isRole 25 t_Mo_isRole_25 := dk_go 1 a_Mo_isRole_24 rfl
theorem a_Mo_isRole_28 : dk_at b_Mo_isRole 28 t_Mo_isRole_28 := dk_go 3 a_Mo_isRole_25 rfl
theorem a_Mo_isRole_31 : dk_at b_Mo_isRole 31 t_Mo_isRole_31 := dk_go 3 a_Mo_isRole_28 rfl
theorem a_Mo_isRole_32 : dk_at b_Mo_isRole 32 t_Mo_isRole_32 := dk_go 1 a_Mo_isRole_31 rfl
theorem a_Mo_isRole_33 : dk_at b_Mo_isRole 33 t_Mo_isRole_33 := dk_go 1 a_Mo_isRole_32 rfl
theorem a_Mo_isRole_34 : dk_at b_Mo_isRole 34 t_Mo_isRole_34 := dk_go 1 a_Mo_isRole_33 rfl
theorem a_Mo_isRole_35 : dk_at b_Mo_isRole 35 t_Mo_isRole_35 := dk_go 1 a_Mo_isRole_34 rfl
theorem a_Mo_isRole_36 : dk_at b_Mo_isRole 36 t_Mo_isRole_36 := dk_go 1 a_Mo_isRole_35 rfl
theorem a_Mo_isRole_39 : dk_at b_Mo_isRole 39 t_Mo_isRole_39 := dk_go 3 a_Mo_isRole_36 rfl
theorem a_Mo_isRole_40 : dk_at b_Mo_isRole 40 t_Mo_isRole_40 := dk_go 1 a_Mo_isRole_39 rfl
theorem a_Mo_isRole_43 : dk_at b_Mo_isRole 43 t_Mo_isRole_43 := dk_go 3 a_Mo_isRole_40 rfl
theorem a_Mo_isRole_44 : dk_at b_Mo_isRole 44 t_Mo_isRole_44 := dk_go 1 a_Mo_isRole_43 rfl
theorem d_Mo_isRole_0 : decode b_Mo_isRole 0 = .ok (.iload_n 1, 1) := dk_0 a_Mo_isRole_0 (dko_27 _)
theorem d_Mo_isRole_1 : decode b_Mo_isRole 1 = .ok (.ifCond .lt 42, 3) := dk_S2 a_Mo_isRole_1 (dko_155 _) (by decide +kernel)
theorem d_Mo_isRole_4 : decode b_Mo_isRole 4 = .ok (.iload_n 1, 1) := dk_0 a_Mo_isRole_4 (dko_27 _)
theorem d_Mo_isRole_5 : decode b_Mo_isRole 5 = .ok (.aload_n 0, 1) := dk_0 a_Mo_isRole_5 (dko_42 _)
theorem d_Mo_isRole_6 : decode b_Mo_isRole 6 = .ok (.getfield 16, 3) := dk_U2 a_Mo_isRole_6 (dko_180 _) rfl
theorem d_Mo_isRole_9 : decode b_Mo_isRole 9 = .ok (.getfield 442, 3) := dk_U2 a_Mo_isRole_9 (dko_180 _) rfl
theorem d_Mo_isRole_12 : decode b_Mo_isRole 12 = .ok (.if_icmp .ge 31, 3) := dk_S2 a_Mo_isRole_12 (dko_162 _) (by decide +kernel)
theorem d_Mo_isRole_43 : decode b_Mo_isRole 43 = .ok (.iconst 0, 1) := dk_0 a_Mo_isRole_43 (dko_3 _)
theorem d_Mo_isRole_44 : decode b_Mo_isRole 44 = .ok (.ireturn, 1) := dk_0 a_Mo_isRole_44 (dko_172 _)
set_option maxHeartbeats 4000000 in
set_option maxRecDepth 100000 in
theorem c_Mo_isRole (l : Launch) (dC : Nat → ClassId) (dI : Nat → Nat → Nat) (cI cB cZ cJ : ClassId) (na : Int32) (ro : Int32) (oM : Nat) (oT : Nat) (fm : List Value) (hm_program : fx fm 2 (.ref oT)) (ft : List Value) (ht_nameCount : fx ft 32 (.int 0)) (sz : Nat) : Met l y_Mo_isRole w_Mo_isRole ({ frames := 0, cells := 0, slots := 0, locals := 0 }) (va_Pc [.ref oM, .int na, .int ro] (PW dC dI cI cB cZ cJ [(oM, .inr (12, fm)), (oT, .inr (13, ft))] sz)) (va_Qi (fun (r : Int32) (_ : Unit) => r = 0) (fun _ _ => True) (va_A [] sz)) 0 0 (va_A [] sz) := by
  refine Met.ofW (cc := b_Mo_isRole) (maxL := 3) (ret := (some .boolean)) (by decide) rfl ?_
  intro p e s m args below meth c s₁ B hml hv
  obtain ⟨rfl, hsz, hP, hK, hD⟩ := hv
  have hx := B.exec
  have hb := B.bytes
  have hr := B.returns
  have hts := atoms_spec (ws := w_Mo_isRole) B.pre
  have hown : s.vm.findClass R_Mo = some m.cls := findClass_of_methodNamed B.named
  have hlocks := B.notSynchronized
  subst hsz
  generalize hAe : va_A [] s.heap.size = A at ⊢
  have hA : ∀ q : Nat, s.heap.size ≤ q → A q := fun q h => by rw [← hAe]; exact Or.inr h
  have hS : va_S A s.heap s.heap [] := va_S.rf
  have hP : va_P (dC, dI) classes [(oM, .inr (12, fm)), (oT, .inr (13, ft))] s.heap := hP
  have hl := lv_entry ([.ref oM, .int na, .int ro]) (n := 3) (Nat.le_of_ble_eq_true rfl)
  rw [lg_entry_eq]
  generalize (lg_sl ([.ref oM, .int na, .int ro]) ++ List.replicate (3 - (lg_sl ([.ref oM, .int na, .int ro])).length) Slot.unset).toArray = ls at hl ⊢
  have hl : lv_has ls 3 [(0, .ref oM), (1, .int na), (2, .int ro)] := hl
  refine lv_iload_n hx hb d_Mo_isRole_0 rfl (lv_at hl 1 rfl) ?_
  refine lv_if_lt (tgt := 43) hx hb d_Mo_isRole_1 (by decide) (fun h1 => ?_) (fun h1 => ?_)
  · refine lv_iconst (v := 0) hx hb d_Mo_isRole_43 (by decide) ?_
    exact W.zret (v := 0) (ty := .boolean) hx hb hr (by decide) (fun t ht hW => ⟨⟨_, (), rfl, (rfl), trivial⟩, hS.F ht⟩) hS.2.2 d_Mo_isRole_44
  · refine lv_iload_n hx hb d_Mo_isRole_4 rfl (lv_at hl 1 rfl) ?_
    refine lv_aload_n hx hb d_Mo_isRole_5 rfl (lv_at hl 0 rfl) ?_
    refine va_get (D := (dC, dI)) (ci := 12) (v := .ref oT) (C := R_Mo) (T := F_Mo) (N := 87) hx hb hts (fun w h => List.mem_cons_of_mem _ (in_Mo w h)) hown hK.1 hP 0 rfl rfl 2 (by decide) (hts _ (List.mem_cons_of_mem _ mw_1796)) (fun _ h9 => h9) hm_program d_Mo_isRole_6 ?_
    refine va_getN (D := (dC, dI)) (ci := 13) (v := .int 0) (C := R_Tx) (T := F_Tx) (N := 39) hx hb hts (fun w h => List.mem_cons_of_mem _ (in_Tx w h)) hown hK.1 hP 1 rfl rfl 32 (by decide) (va_Nw.use rfl (hK.2 _ nw_1620)) (fun _ h9 => h9) ht_nameCount d_Mo_isRole_9 ?_
    refine lv_icmp_ge (tgt := 43) hx hb d_Mo_isRole_12 (by decide) (fun _ => ?_) (fun h => absurd (nd_le h1 (by decide)) h)
    refine lv_iconst (v := 0) hx hb d_Mo_isRole_43 (by decide) ?_
    exact W.zret (v := 0) (ty := .boolean) hx hb hr (by decide) (fun t ht hW => ⟨⟨_, (), rfl, (rfl), trivial⟩, hS.F ht⟩) hS.2.2 d_Mo_isRole_44
abbrev t_Mo_sense_36 : List UInt8 := 172 :: []
abbrev t_Mo_sense_35 : List UInt8 := 4 :: t_Mo_sense_36
abbrev t_Mo_sense_34 : List UInt8 := 79 :: t_Mo_sense_35
abbrev t_Mo_sense_33 : List UInt8 := 29 :: t_Mo_sense_34
abbrev t_Mo_sense_32 : List UInt8 := 27 :: t_Mo_sense_33
abbrev t_Mo_sense_29 : List UInt8 := 180 :: 0 :: 147 :: t_Mo_sense_32
abbrev t_Mo_sense_28 : List UInt8 := 42 :: t_Mo_sense_29
abbrev t_Mo_sense_27 : List UInt8 := 79 :: t_Mo_sense_28
abbrev t_Mo_sense_26 : List UInt8 := 28 :: t_Mo_sense_27
abbrev t_Mo_sense_25 : List UInt8 := 27 :: t_Mo_sense_26
abbrev t_Mo_sense_22 : List UInt8 := 180 :: 0 :: 144 :: t_Mo_sense_25
abbrev t_Mo_sense_21 : List UInt8 := 42 :: t_Mo_sense_22
abbrev t_Mo_sense_20 : List UInt8 := 172 :: t_Mo_sense_21
abbrev t_Mo_sense_19 : List UInt8 := 3 :: t_Mo_sense_20
abbrev t_Mo_sense_16 : List UInt8 := 164 :: 0 :: 5 :: t_Mo_sense_19
abbrev t_Mo_sense_15 : List UInt8 := 8 :: t_Mo_sense_16
abbrev t_Mo_sense_14 : List UInt8 := 28 :: t_Mo_sense_15
abbrev t_Mo_sense_11 : List UInt8 := 155 :: 0 :: 8 :: t_Mo_sense_14
abbrev t_Mo_sense_10 : List UInt8 := 28 :: t_Mo_sense_11
abbrev t_Mo_sense_7 : List UInt8 := 153 :: 0 :: 12 :: t_Mo_sense_10
abbrev t_Mo_sense_4 : List UInt8 := 182 :: 1 :: 195 :: t_Mo_sense_7
abbrev t_Mo_sense_2 : List UInt8 := 16 :: 30 :: t_Mo_sense_4
abbrev t_Mo_sense_1 : List UInt8 := 27 :: t_Mo_sense_2
abbrev t_Mo_sense_0 : List UInt8 := 42 :: t_Mo_sense_1
theorem a_Mo_sense_0 : dk_at b_Mo_sense 0 t_Mo_sense_0 := dk_start (by decide +kernel)
theorem a_Mo_sense_1 : dk_at b_Mo_sense 1 t_Mo_sense_1 := dk_go 1 a_Mo_sense_0 rfl
theorem a_Mo_sense_2 : dk_at b_Mo_sense 2 t_Mo_sense_2 := dk_go 1 a_Mo_sense_1 rfl
theorem a_Mo_sense_4 : dk_at b_Mo_sense 4 t_Mo_sense_4 := dk_go 2 a_Mo_sense_2 rfl
theorem a_Mo_sense_7 : dk_at b_Mo_sense 7 t_Mo_sense_7 := dk_go 3 a_Mo_sense_4 rfl
theorem a_Mo_sense_10 : dk_at b_Mo_sense 10 t_Mo_sense_10 := dk_go 3 a_Mo_sense_7 rfl
theorem a_Mo_sense_11 : dk_at b_Mo_sense 11 t_Mo_sense_11 := dk_go 1 a_Mo_sense_10 rfl
theorem a_Mo_sense_14 : dk_at b_Mo_sense 14 t_Mo_sense_14 := dk_go 3 a_Mo_sense_11 rfl
theorem a_Mo_sense_15 : dk_at b_Mo_sense 15 t_Mo_sense_15 := dk_go 1 a_Mo_sense_14 rfl
theorem a_Mo_sense_16 : dk_at b_Mo_sense 16 t_Mo_sense_16 := dk_go 1 a_Mo_sense_15 rfl
theorem a_Mo_sense_19 : dk_at b_Mo_sense 19 t_Mo_sense_19 := dk_go 3 a_Mo_sense_16 rfl
theorem a_Mo_sense_20 : dk_at b_Mo_sense 20 t_Mo_sense_20 := dk_go 1 a_Mo_sense_19 rfl
theorem a_Mo_sense_21 : dk_at b_Mo_sense 21 t_Mo_sense_21 := dk_go 1 a_Mo_sense_20 rfl
theorem a_Mo_sense_22 : dk_at b_Mo_sense 22 t_Mo_sense_22 := dk_go 1 a_Mo_sense_21 rfl
theorem a_Mo_sense_25 : dk_at b_Mo_sense 25 t_Mo_sense_25 := dk_go 3 a_Mo_sense_22 rfl
theorem a_Mo_sense_26 : dk_at b_Mo_sense 26 t_Mo_sense_26 := dk_go 1 a_Mo_sense_25 rfl
theorem a_Mo_sense_27 : dk_at b_Mo_sense 27 t_Mo_sense_27 := dk_go 1 a_Mo_sense_26 rfl
theorem a_Mo_sense_28 : dk_at b_Mo_sense 28 t_Mo_sense_28 := dk_go 1 a_Mo_sense_27 rfl
theorem a_Mo_sense_29 : dk_at b_Mo_sense 29 t_Mo_sense_29 := dk_go 1 a_Mo_sense_28 rfl
theorem a_Mo_sense_32 : dk_at b_Mo_sense 32 t_Mo_sense_32 := dk_go 3 a_Mo_sense_29 rfl
theorem a_Mo_sense_33 : dk_at b_Mo_sense 33 t_Mo_sense_33 := dk_go 1 a_Mo_sense_32 rfl
theorem a_Mo_sense_34 : dk_at b_Mo_sense 34 t_Mo_sense_34 := dk_go 1 a_Mo_sense_33 rfl
theorem a_Mo_sense_35 : dk_at b_Mo_sense 35 t_Mo_sense_35 := dk_go 1 a_Mo_sense_34 rfl
theorem a_Mo_sense_36 : dk_at b_Mo_sense 36 t_Mo_sense_36 := dk_go 1 a_Mo_sense_35 rfl
theorem d_Mo_sense_0 : decode b_Mo_sense 0 = .ok (.aload_n 0, 1) := dk_0 a_Mo_sense_0 (dko_42 _)
theorem d_Mo_sense_1 : decode b_Mo_sense 1 = .ok (.iload_n 1, 1) := dk_0 a_Mo_sense_1 (dko_27 _)
theorem d_Mo_sense_2 : decode b_Mo_sense 2 = .ok (.bipush 30, 2) := dk_S1 a_Mo_sense_2 (dko_16 _) (by decide +kernel)
theorem d_Mo_sense_4 : decode b_Mo_sense 4 = .ok (.invokevirtual 451, 3) := dk_U2 a_Mo_sense_4 (dko_182 _) rfl
theorem d_Mo_sense_7 : decode b_Mo_sense 7 = .ok (.ifCond .eq 12, 3) := dk_S2 a_Mo_sense_7 (dko_153 _) (by decide +kernel)
theorem d_Mo_sense_19 : decode b_Mo_sense 19 = .ok (.iconst 0, 1) := dk_0 a_Mo_sense_19 (dko_3 _)
theorem d_Mo_sense_20 : decode b_Mo_sense 20 = .ok (.ireturn, 1) := dk_0 a_Mo_sense_20 (dko_172 _)
set_option maxHeartbeats 4000000 in
set_option maxRecDepth 100000 in
theorem c_Mo_sense (l : Launch) (dC : Nat → ClassId) (dI : Nat → Nat → Nat) (cI cB cZ cJ : ClassId) (na : Int32) (wh : Int32) (xx : Int32) (oM : Nat) (oT : Nat) (fm : List Value) (hm_program : fx fm 2 (.ref oT)) (ft : List Value) (ht_nameCount : fx ft 32 (.int 0)) (sz : Nat) : Met l y_Mo_sense w_Mo_sense ({ frames := 1, cells := 0, slots := 0, locals := 22 }) (va_Pc [.ref oM, .int na, .int wh, .int xx] (PW dC dI cI cB cZ cJ [(oM, .inr (12, fm)), (oT, .inr (13, ft))] sz)) (va_Qi (fun (r : Int32) (_ : Unit) => r = 0) (fun _ _ => True) (va_A [] sz)) 0 0 (va_A [] sz) := by
  refine Met.ofW (cc := b_Mo_sense) (maxL := 4) (ret := (some .boolean)) (by decide) rfl ?_
  intro p e s m args below meth c s₁ B hml hv
  obtain ⟨rfl, hsz, hP, hK, hD⟩ := hv
  have hx := B.exec
  have hb := B.bytes
  have hr := B.returns
  have hts := atoms_spec (ws := w_Mo_sense) B.pre
  have hown : s.vm.findClass R_Mo = some m.cls := findClass_of_methodNamed B.named
  have hlocks := B.notSynchronized
  subst hsz
  generalize hAe : va_A [] s.heap.size = A at ⊢
  have hA : ∀ q : Nat, s.heap.size ≤ q → A q := fun q h => by rw [← hAe]; exact Or.inr h
  have hS : va_S A s.heap s.heap [] := va_S.rf
  have hP : va_P (dC, dI) classes [(oM, .inr (12, fm)), (oT, .inr (13, ft))] s.heap := hP
  have hl := lv_entry ([.ref oM, .int na, .int wh, .int xx]) (n := 4) (Nat.le_of_ble_eq_true rfl)
  rw [lg_entry_eq]
  generalize (lg_sl ([.ref oM, .int na, .int wh, .int xx]) ++ List.replicate (4 - (lg_sl ([.ref oM, .int na, .int wh, .int xx])).length) Slot.unset).toArray = ls at hl ⊢
  have hl : lv_has ls 4 [(0, .ref oM), (1, .int na), (2, .int wh), (3, .int xx)] := hl
  refine lv_aload_n hx hb d_Mo_sense_0 rfl (lv_at hl 0 rfl) ?_
  refine lv_iload_n hx hb d_Mo_sense_1 rfl (lv_at hl 1 rfl) ?_
  refine lv_bipush (v := 30) hx hb d_Mo_sense_2 (by decide) ?_
  have hPc := hP.sub (ws' := [(oM, .inr (12, fm)), (oT, .inr (13, ft))]) [0, 1] rfl
  have hDc := hD.sub (ws' := [(oM, .inr (12, fm)), (oT, .inr (13, ft))]) [0, 1] (by decide) rfl
  have hFc := pu_free hS hA
  refine va_calli (va_runV (C := R_Mo) (As := [.int na, .int 30]) (rest := []) ⟨hx, hb, hml, hown, hts⟩ (c_Mo_isRole l dC dI cI cB cZ cJ na 30 oM oT fm hm_program ft ht_nameCount s.heap.size) (cwV 2 hts (tb_V mw_2529 mw_2531 sl_173 mw_18 mw_2532) rfl rfl rfl ⟨rfl, by decide +kernel, by decide +kernel, by decide +kernel⟩ ⟨(Nat.le_of_ble_eq_true rfl), (Nat.le_of_ble_eq_true rfl)⟩) ⟨pw_blind, va_recv (q := (R_Mo, F_Mo, 87)) hK.1 hP (ci := 12) (q0 := 0) rfl rfl, pw_pre hPc hK hDc⟩ rfl rfl hl.1 rfl (lv_room (Nat.le_of_ble_eq_true rfl)) d_Mo_sense_4 ⟨(Nat.le_of_ble_eq_true rfl), (Nat.le_of_ble_eq_true rfl)⟩) hS (fun q _ h => hFc q h) hFc (fun r u t H locs ht hvm hw hB hz1 hk1 hS => ?_)
  have hP := pu_kept hP hk1
  obtain rfl : r = 0 := hw
  refine lv_if_eq (tgt := 19) hx hb d_Mo_sense_7 (by decide) (fun _ => ?_) (fun h => absurd (by decide) h)
  refine lv_iconst (v := 0) hx hb d_Mo_sense_19 (by decide) ?_
  exact W.zret (v := 0) (ty := .boolean) hx hb hr (by decide) (fun t ht hW => ⟨⟨_, (), rfl, (rfl), trivial⟩, hS.F ht⟩) hS.2.2 d_Mo_sense_20
abbrev t_Mo_signal_20 : List UInt8 := 172 :: []
abbrev t_Mo_signal_19 : List UInt8 := 4 :: t_Mo_signal_20
abbrev t_Mo_signal_18 : List UInt8 := 80 :: t_Mo_signal_19
abbrev t_Mo_signal_17 : List UInt8 := 32 :: t_Mo_signal_18
abbrev t_Mo_signal_16 : List UInt8 := 27 :: t_Mo_signal_17
abbrev t_Mo_signal_13 : List UInt8 := 180 :: 0 :: 159 :: t_Mo_signal_16
abbrev t_Mo_signal_12 : List UInt8 := 42 :: t_Mo_signal_13
abbrev t_Mo_signal_11 : List UInt8 := 172 :: t_Mo_signal_12
abbrev t_Mo_signal_10 : List UInt8 := 3 :: t_Mo_signal_11
abbrev t_Mo_signal_7 : List UInt8 := 154 :: 0 :: 5 :: t_Mo_signal_10
abbrev t_Mo_signal_4 : List UInt8 := 182 :: 1 :: 195 :: t_Mo_signal_7
abbrev t_Mo_signal_2 : List UInt8 := 16 :: 30 :: t_Mo_signal_4
abbrev t_Mo_signal_1 : List UInt8 := 27 :: t_Mo_signal_2
abbrev t_Mo_signal_0 : List UInt8 := 42 :: t_Mo_signal_1
theorem a_Mo_signal_0 : dk_at b_Mo_signal 0 t_Mo_signal_0 := dk_start (by decide +kernel)
theorem a_Mo_signal_1 : dk_at b_Mo_signal 1 t_Mo_signal_1 := dk_go 1 a_Mo_signal_0 rfl
theorem a_Mo_signal_2 : dk_at b_Mo_signal 2 t_Mo_signal_2 := dk_go 1 a_Mo_signal_1 rfl
theorem a_Mo_signal_4 : dk_at b_Mo_signal 4 t_Mo_signal_4 := dk_go 2 a_Mo_signal_2 rfl
theorem a_Mo_signal_7 : dk_at b_Mo_signal 7 t_Mo_signal_7 := dk_go 3 a_Mo_signal_4 rfl
theorem a_Mo_signal_10 : dk_at b_Mo_signal 10 t_Mo_signal_10 := dk_go 3 a_Mo_signal_7 rfl
theorem a_Mo_signal_11 : dk_at b_Mo_signal 11 t_Mo_signal_11 := dk_go 1 a_Mo_signal_10 rfl
theorem a_Mo_signal_12 : dk_at b_Mo_signal 12 t_Mo_signal_12 := dk_go 1 a_Mo_signal_11 rfl
theorem a_Mo_signal_13 : dk_at b_Mo_signal 13 t_Mo_signal_13 := dk_go 1 a_Mo_signal_12 rfl
theorem a_Mo_signal_16 : dk_at b_Mo_signal 16 t_Mo_signal_16 := dk_go 3 a_Mo_signal_13 rfl
theorem a_Mo_signal_17 : dk_at b_Mo_signal 17 t_Mo_signal_17 := dk_go 1 a_Mo_signal_16 rfl
theorem a_Mo_signal_18 : dk_at b_Mo_signal 18 t_Mo_signal_18 := dk_go 1 a_Mo_signal_17 rfl
theorem a_Mo_signal_19 : dk_at b_Mo_signal 19 t_Mo_signal_19 := dk_go 1 a_Mo_signal_18 rfl
theorem a_Mo_signal_20 : dk_at b_Mo_signal 20 t_Mo_signal_20 := dk_go 1 a_Mo_signal_19 rfl
theorem d_Mo_signal_0 : decode b_Mo_signal 0 = .ok (.aload_n 0, 1) := dk_0 a_Mo_signal_0 (dko_42 _)
theorem d_Mo_signal_1 : decode b_Mo_signal 1 = .ok (.iload_n 1, 1) := dk_0 a_Mo_signal_1 (dko_27 _)
theorem d_Mo_signal_2 : decode b_Mo_signal 2 = .ok (.bipush 30, 2) := dk_S1 a_Mo_signal_2 (dko_16 _) (by decide +kernel)
theorem d_Mo_signal_4 : decode b_Mo_signal 4 = .ok (.invokevirtual 451, 3) := dk_U2 a_Mo_signal_4 (dko_182 _) rfl
theorem d_Mo_signal_7 : decode b_Mo_signal 7 = .ok (.ifCond .ne 5, 3) := dk_S2 a_Mo_signal_7 (dko_154 _) (by decide +kernel)
theorem d_Mo_signal_10 : decode b_Mo_signal 10 = .ok (.iconst 0, 1) := dk_0 a_Mo_signal_10 (dko_3 _)
theorem d_Mo_signal_11 : decode b_Mo_signal 11 = .ok (.ireturn, 1) := dk_0 a_Mo_signal_11 (dko_172 _)
set_option maxHeartbeats 4000000 in
set_option maxRecDepth 100000 in
theorem c_Mo_signal (l : Launch) (dC : Nat → ClassId) (dI : Nat → Nat → Nat) (cI cB cZ cJ : ClassId) (na : Int32) (vv : Int64) (oM : Nat) (oT : Nat) (fm : List Value) (hm_program : fx fm 2 (.ref oT)) (ft : List Value) (ht_nameCount : fx ft 32 (.int 0)) (sz : Nat) : Met l y_Mo_signal w_Mo_signal ({ frames := 1, cells := 0, slots := 0, locals := 22 }) (va_Pc [.ref oM, .int na, .long vv] (PW dC dI cI cB cZ cJ [(oM, .inr (12, fm)), (oT, .inr (13, ft))] sz)) (va_Qi (fun (r : Int32) (_ : Unit) => r = 0) (fun _ _ => True) (va_A [] sz)) 0 0 (va_A [] sz) := by
  refine Met.ofW (cc := b_Mo_signal) (maxL := 4) (ret := (some .boolean)) (by decide) rfl ?_
  intro p e s m args below meth c s₁ B hml hv
  obtain ⟨rfl, hsz, hP, hK, hD⟩ := hv
  have hx := B.exec
  have hb := B.bytes
  have hr := B.returns
  have hts := atoms_spec (ws := w_Mo_signal) B.pre
  have hown : s.vm.findClass R_Mo = some m.cls := findClass_of_methodNamed B.named
  have hlocks := B.notSynchronized
  subst hsz
  generalize hAe : va_A [] s.heap.size = A at ⊢
  have hA : ∀ q : Nat, s.heap.size ≤ q → A q := fun q h => by rw [← hAe]; exact Or.inr h
  have hS : va_S A s.heap s.heap [] := va_S.rf
  have hP : va_P (dC, dI) classes [(oM, .inr (12, fm)), (oT, .inr (13, ft))] s.heap := hP
  have hl := lv_entry ([.ref oM, .int na, .long vv]) (n := 4) (Nat.le_of_ble_eq_true rfl)
  rw [lg_entry_eq]
  generalize (lg_sl ([.ref oM, .int na, .long vv]) ++ List.replicate (4 - (lg_sl ([.ref oM, .int na, .long vv])).length) Slot.unset).toArray = ls at hl ⊢
  have hl : lv_has ls 4 [(0, .ref oM), (1, .int na), (2, .long vv)] := hl
  refine lv_aload_n hx hb d_Mo_signal_0 rfl (lv_at hl 0 rfl) ?_
  refine lv_iload_n hx hb d_Mo_signal_1 rfl (lv_at hl 1 rfl) ?_
  refine lv_bipush (v := 30) hx hb d_Mo_signal_2 (by decide) ?_
  have hPc := hP.sub (ws' := [(oM, .inr (12, fm)), (oT, .inr (13, ft))]) [0, 1] rfl
  have hDc := hD.sub (ws' := [(oM, .inr (12, fm)), (oT, .inr (13, ft))]) [0, 1] (by decide) rfl
  have hFc := pu_free hS hA
  refine va_calli (va_runV (C := R_Mo) (As := [.int na, .int 30]) (rest := []) ⟨hx, hb, hml, hown, hts⟩ (c_Mo_isRole l dC dI cI cB cZ cJ na 30 oM oT fm hm_program ft ht_nameCount s.heap.size) (cwV 2 hts (tb_V mw_2529 mw_2531 sl_173 mw_18 mw_2532) rfl rfl rfl ⟨rfl, by decide +kernel, by decide +kernel, by decide +kernel⟩ ⟨(Nat.le_of_ble_eq_true rfl), (Nat.le_of_ble_eq_true rfl)⟩) ⟨pw_blind, va_recv (q := (R_Mo, F_Mo, 87)) hK.1 hP (ci := 12) (q0 := 0) rfl rfl, pw_pre hPc hK hDc⟩ rfl rfl hl.1 rfl (lv_room (Nat.le_of_ble_eq_true rfl)) d_Mo_signal_4 ⟨(Nat.le_of_ble_eq_true rfl), (Nat.le_of_ble_eq_true rfl)⟩) hS (fun q _ h => hFc q h) hFc (fun r u t H locs ht hvm hw hB hz1 hk1 hS => ?_)
  have hP := pu_kept hP hk1
  obtain rfl : r = 0 := hw
  refine lv_if_ne (tgt := 12) hx hb d_Mo_signal_7 (by decide) (fun h => absurd rfl h) (fun _ => ?_)
  refine lv_iconst (v := 0) hx hb d_Mo_signal_10 (by decide) ?_
  exact W.zret (v := 0) (ty := .boolean) hx hb hr (by decide) (fun t ht hW => ⟨⟨_, (), rfl, (rfl), trivial⟩, hS.F ht⟩) hS.2.2 d_Mo_signal_11
abbrev t_Mo_value_30 : List UInt8 := 173 :: []
abbrev t_Mo_value_29 : List UInt8 := 9 :: t_Mo_value_30
abbrev t_Mo_value_26 : List UInt8 := 167 :: 0 :: 4 :: t_Mo_value_29
abbrev t_Mo_value_25 : List UInt8 := 47 :: t_Mo_value_26
abbrev t_Mo_value_24 : List UInt8 := 27 :: t_Mo_value_25
abbrev t_Mo_value_21 : List UInt8 := 180 :: 0 :: 159 :: t_Mo_value_24
abbrev t_Mo_value_20 : List UInt8 := 42 :: t_Mo_value_21
abbrev t_Mo_value_17 : List UInt8 := 153 :: 0 :: 12 :: t_Mo_value_20
abbrev t_Mo_value_14 : List UInt8 := 182 :: 1 :: 195 :: t_Mo_value_17
abbrev t_Mo_value_12 : List UInt8 := 16 :: 31 :: t_Mo_value_14
abbrev t_Mo_value_11 : List UInt8 := 27 :: t_Mo_value_12
abbrev t_Mo_value_10 : List UInt8 := 42 :: t_Mo_value_11
abbrev t_Mo_value_7 : List UInt8 := 154 :: 0 :: 13 :: t_Mo_value_10
abbrev t_Mo_value_4 : List UInt8 := 182 :: 1 :: 195 :: t_Mo_value_7
abbrev t_Mo_value_2 : List UInt8 := 16 :: 30 :: t_Mo_value_4
abbrev t_Mo_value_1 : List UInt8 := 27 :: t_Mo_value_2
abbrev t_Mo_value_0 : List UInt8 := 42 :: t_Mo_value_1
theorem a_Mo_value_0 : dk_at b_Mo_value 0 t_Mo_value_0 := dk_start (by decide +kernel)
theorem a_Mo_value_1 : dk_at b_Mo_value 1 t_Mo_value_1 := dk_go 1 a_Mo_value_0 rfl
theorem a_Mo_value_2 : dk_at b_Mo_value 2 t_Mo_value_2 := dk_go 1 a_Mo_value_1 rfl
theorem a_Mo_value_4 : dk_at b_Mo_value 4 t_Mo_value_4 := dk_go 2 a_Mo_value_2 rfl
theorem a_Mo_value_7 : dk_at b_Mo_value 7 t_Mo_value_7 := dk_go 3 a_Mo_value_4 rfl
theorem a_Mo_value_10 : dk_at b_Mo_value 10 t_Mo_value_10 := dk_go 3 a_Mo_value_7 rfl
theorem a_Mo_value_11 : dk_at b_Mo_value 11 t_Mo_value_11 := dk_go 1 a_Mo_value_10 rfl
theorem a_Mo_value_12 : dk_at b_Mo_value 12 t_Mo_value_12 := dk_go 1 a_Mo_value_11 rfl
theorem a_Mo_value_14 : dk_at b_Mo_value 14 t_Mo_value_14 := dk_go 2 a_Mo_value_12 rfl
theorem a_Mo_value_17 : dk_at b_Mo_value 17 t_Mo_value_17 := dk_go 3 a_Mo_value_14 rfl
theorem a_Mo_value_20 : dk_at b_Mo_value 20 t_Mo_value_20 := dk_go 3 a_Mo_value_17 rfl
theorem a_Mo_value_21 : dk_at b_Mo_value 21 t_Mo_value_21 := dk_go 1 a_Mo_value_20 rfl
theorem a_Mo_value_24 : dk_at b_Mo_value 24 t_Mo_value_24 := dk_go 3 a_Mo_value_21 rfl
theorem a_Mo_value_25 : dk_at b_Mo_value 25 t_Mo_value_25 := dk_go 1 a_Mo_value_24 rfl
theorem a_Mo_value_26 : dk_at b_Mo_value 26 t_Mo_value_26 := dk_go 1 a_Mo_value_25 rfl
theorem a_Mo_value_29 : dk_at b_Mo_value 29 t_Mo_value_29 := dk_go 3 a_Mo_value_26 rfl
theorem a_Mo_value_30 : dk_at b_Mo_value 30 t_Mo_value_30 := dk_go 1 a_Mo_value_29 rfl
theorem d_Mo_value_0 : decode b_Mo_value 0 = .ok (.aload_n 0, 1) := dk_0 a_Mo_value_0 (dko_42 _)
theorem d_Mo_value_1 : decode b_Mo_value 1 = .ok (.iload_n 1, 1) := dk_0 a_Mo_value_1 (dko_27 _)
theorem d_Mo_value_2 : decode b_Mo_value 2 = .ok (.bipush 30, 2) := dk_S1 a_Mo_value_2 (dko_16 _) (by decide +kernel)
theorem d_Mo_value_4 : decode b_Mo_value 4 = .ok (.invokevirtual 451, 3) := dk_U2 a_Mo_value_4 (dko_182 _) rfl
theorem d_Mo_value_7 : decode b_Mo_value 7 = .ok (.ifCond .ne 13, 3) := dk_S2 a_Mo_value_7 (dko_154 _) (by decide +kernel)
theorem d_Mo_value_10 : decode b_Mo_value 10 = .ok (.aload_n 0, 1) := dk_0 a_Mo_value_10 (dko_42 _)
theorem d_Mo_value_11 : decode b_Mo_value 11 = .ok (.iload_n 1, 1) := dk_0 a_Mo_value_11 (dko_27 _)
theorem d_Mo_value_12 : decode b_Mo_value 12 = .ok (.bipush 31, 2) := dk_S1 a_Mo_value_12 (dko_16 _) (by decide +kernel)
theorem d_Mo_value_14 : decode b_Mo_value 14 = .ok (.invokevirtual 451, 3) := dk_U2 a_Mo_value_14 (dko_182 _) rfl
theorem d_Mo_value_17 : decode b_Mo_value 17 = .ok (.ifCond .eq 12, 3) := dk_S2 a_Mo_value_17 (dko_153 _) (by decide +kernel)
theorem d_Mo_value_29 : decode b_Mo_value 29 = .ok (.lconst 0, 1) := dk_0 a_Mo_value_29 (dko_9 _)
theorem d_Mo_value_30 : decode b_Mo_value 30 = .ok (.lreturn, 1) := dk_0 a_Mo_value_30 (dko_173 _)
set_option maxHeartbeats 4000000 in
set_option maxRecDepth 100000 in
theorem c_Mo_value (l : Launch) (dC : Nat → ClassId) (dI : Nat → Nat → Nat) (cI cB cZ cJ : ClassId) (na : Int32) (oM : Nat) (oT : Nat) (fm : List Value) (hm_program : fx fm 2 (.ref oT)) (ft : List Value) (ht_nameCount : fx ft 32 (.int 0)) (sz : Nat) : Met l y_Mo_value w_Mo_value ({ frames := 1, cells := 0, slots := 0, locals := 22 }) (va_Pc [.ref oM, .int na] (PW dC dI cI cB cZ cJ [(oM, .inr (12, fm)), (oT, .inr (13, ft))] sz)) (va_Ql (fun (r : Int64) (_ : Unit) => r = 0) (fun _ _ => True) (va_A [] sz)) 0 0 (va_A [] sz) := by
  refine Met.ofW (cc := b_Mo_value) (maxL := 2) (ret := (some .long)) (by decide) rfl ?_
  intro p e s m args below meth c s₁ B hml hv
  obtain ⟨rfl, hsz, hP, hK, hD⟩ := hv
  have hx := B.exec
  have hb := B.bytes
  have hr := B.returns
  have hts := atoms_spec (ws := w_Mo_value) B.pre
  have hown : s.vm.findClass R_Mo = some m.cls := findClass_of_methodNamed B.named
  have hlocks := B.notSynchronized
  subst hsz
  generalize hAe : va_A [] s.heap.size = A at ⊢
  have hA : ∀ q : Nat, s.heap.size ≤ q → A q := fun q h => by rw [← hAe]; exact Or.inr h
  have hS : va_S A s.heap s.heap [] := va_S.rf
  have hP : va_P (dC, dI) classes [(oM, .inr (12, fm)), (oT, .inr (13, ft))] s.heap := hP
  have hl := lv_entry ([.ref oM, .int na]) (n := 2) (Nat.le_of_ble_eq_true rfl)
  rw [lg_entry_eq]
  generalize (lg_sl ([.ref oM, .int na]) ++ List.replicate (2 - (lg_sl ([.ref oM, .int na])).length) Slot.unset).toArray = ls at hl ⊢
  have hl : lv_has ls 2 [(0, .ref oM), (1, .int na)] := hl
  refine lv_aload_n hx hb d_Mo_value_0 rfl (lv_at hl 0 rfl) ?_
  refine lv_iload_n hx hb d_Mo_value_1 rfl (lv_at hl 1 rfl) ?_
  refine lv_bipush (v := 30) hx hb d_Mo_value_2 (by decide) ?_
  have hPc := hP.sub (ws' := [(oM, .inr (12, fm)), (oT, .inr (13, ft))]) [0, 1] rfl
  have hDc := hD.sub (ws' := [(oM, .inr (12, fm)), (oT, .inr (13, ft))]) [0, 1] (by decide) rfl
  have hFc := pu_free hS hA
  refine va_calli (va_runV (C := R_Mo) (As := [.int na, .int 30]) (rest := []) ⟨hx, hb, hml, hown, hts⟩ (c_Mo_isRole l dC dI cI cB cZ cJ na 30 oM oT fm hm_program ft ht_nameCount s.heap.size) (cwV 2 hts (tb_V mw_2529 mw_2531 sl_173 mw_18 mw_2532) rfl rfl rfl ⟨rfl, by decide +kernel, by decide +kernel, by decide +kernel⟩ ⟨(Nat.le_of_ble_eq_true rfl), (Nat.le_of_ble_eq_true rfl)⟩) ⟨pw_blind, va_recv (q := (R_Mo, F_Mo, 87)) hK.1 hP (ci := 12) (q0 := 0) rfl rfl, pw_pre hPc hK hDc⟩ rfl rfl hl.1 rfl (lv_room (Nat.le_of_ble_eq_true rfl)) d_Mo_value_4 ⟨(Nat.le_of_ble_eq_true rfl), (Nat.le_of_ble_eq_true rfl)⟩) hS (fun q _ h => hFc q h) hFc (fun r u t H locs ht hvm hw hB hz1 hk1 hS => ?_)
  have hP := pu_kept hP hk1
  obtain rfl : r = 0 := hw
  refine lv_if_ne (tgt := 20) hx hb d_Mo_value_7 (by decide) (fun h => absurd rfl h) (fun _ => ?_)
  refine lv_aload_n hx hb d_Mo_value_10 rfl (lv_at hl 0 rfl) ?_
  refine lv_iload_n hx hb d_Mo_value_11 rfl (lv_at hl 1 rfl) ?_
  refine lv_bipush (v := 31) hx hb d_Mo_value_12 (by decide) ?_
  have hPc := hP.sub (ws' := [(oM, .inr (12, fm)), (oT, .inr (13, ft))]) [0, 1] rfl
  have hDc := hD.sub (ws' := [(oM, .inr (12, fm)), (oT, .inr (13, ft))]) [0, 1] (by decide) rfl
  have hFc := pu_free hS hA
  refine va_calli (va_runV (C := R_Mo) (As := [.int na, .int 31]) (rest := []) ⟨hx, hb, hml, hown, hts⟩ (c_Mo_isRole l dC dI cI cB cZ cJ na 31 oM oT fm hm_program ft ht_nameCount H.size) (cwV 2 hts (tb_V mw_2529 mw_2531 sl_173 mw_18 mw_2532) rfl rfl rfl ⟨rfl, by decide +kernel, by decide +kernel, by decide +kernel⟩ ⟨(Nat.le_of_ble_eq_true rfl), (Nat.le_of_ble_eq_true rfl)⟩) ⟨pw_blind, va_recv (q := (R_Mo, F_Mo, 87)) hK.1 hP (ci := 12) (q0 := 0) rfl rfl, pw_pre hPc hK hDc⟩ rfl rfl hl.1 rfl (lv_room (Nat.le_of_ble_eq_true rfl)) d_Mo_value_14 ⟨(Nat.le_of_ble_eq_true rfl), (Nat.le_of_ble_eq_true rfl)⟩) hS (fun q _ h => hFc q h) hFc (fun r u t H locs ht hvm hw hB hz1 hk1 hS => ?_)
  have hP := pu_kept hP hk1
  obtain rfl : r = 0 := hw
  refine lv_if_eq (tgt := 29) hx hb d_Mo_value_17 (by decide) (fun _ => ?_) (fun h => absurd (by decide) h)
  refine lv_lconst (v := 0) hx hb d_Mo_value_29 (by decide) ?_
  exact W.lret (v := 0) hx hb hr (fun t ht hW => ⟨⟨_, (), rfl, (rfl), trivial⟩, hS.F ht⟩) hS.2.2 d_Mo_value_30
abbrev t_Mo_fill_108 : List UInt8 := 172 :: []
abbrev t_Mo_fill_107 : List UInt8 := 4 :: t_Mo_fill_108
abbrev t_Mo_fill_104 : List UInt8 := 182 :: 1 :: 153 :: t_Mo_fill_107
abbrev t_Mo_fill_103 : List UInt8 := 27 :: t_Mo_fill_104
abbrev t_Mo_fill_102 : List UInt8 := 42 :: t_Mo_fill_103
abbrev t_Mo_fill_101 : List UInt8 := 79 :: t_Mo_fill_102
abbrev t_Mo_fill_100 : List UInt8 := 96 :: t_Mo_fill_101
abbrev t_Mo_fill_99 : List UInt8 := 136 :: t_Mo_fill_100
abbrev t_Mo_fill_98 : List UInt8 := 33 :: t_Mo_fill_99
abbrev t_Mo_fill_97 : List UInt8 := 46 :: t_Mo_fill_98
abbrev t_Mo_fill_96 : List UInt8 := 92 :: t_Mo_fill_97
abbrev t_Mo_fill_95 : List UInt8 := 27 :: t_Mo_fill_96
abbrev t_Mo_fill_92 : List UInt8 := 180 :: 0 :: 34 :: t_Mo_fill_95
abbrev t_Mo_fill_91 : List UInt8 := 42 :: t_Mo_fill_92
abbrev t_Mo_fill_90 : List UInt8 := 79 :: t_Mo_fill_91
abbrev t_Mo_fill_89 : List UInt8 := 28 :: t_Mo_fill_90
abbrev t_Mo_fill_88 : List UInt8 := 27 :: t_Mo_fill_89
abbrev t_Mo_fill_85 : List UInt8 := 180 :: 0 :: 37 :: t_Mo_fill_88
abbrev t_Mo_fill_84 : List UInt8 := 42 :: t_Mo_fill_85
abbrev t_Mo_fill_83 : List UInt8 := 172 :: t_Mo_fill_84
abbrev t_Mo_fill_82 : List UInt8 := 3 :: t_Mo_fill_83
abbrev t_Mo_fill_79 : List UInt8 := 154 :: 0 :: 5 :: t_Mo_fill_82
abbrev t_Mo_fill_76 : List UInt8 := 182 :: 1 :: 113 :: t_Mo_fill_79
abbrev t_Mo_fill_75 : List UInt8 := 42 :: t_Mo_fill_76
abbrev t_Mo_fill_74 : List UInt8 := 79 :: t_Mo_fill_75
abbrev t_Mo_fill_73 : List UInt8 := 28 :: t_Mo_fill_74
abbrev t_Mo_fill_72 : List UInt8 := 27 :: t_Mo_fill_73
abbrev t_Mo_fill_69 : List UInt8 := 180 :: 0 :: 122 :: t_Mo_fill_72
abbrev t_Mo_fill_68 : List UInt8 := 42 :: t_Mo_fill_69
abbrev t_Mo_fill_65 : List UInt8 := 182 :: 1 :: 110 :: t_Mo_fill_68
abbrev t_Mo_fill_64 : List UInt8 := 42 :: t_Mo_fill_65
abbrev t_Mo_fill_63 : List UInt8 := 172 :: t_Mo_fill_64
abbrev t_Mo_fill_62 : List UInt8 := 3 :: t_Mo_fill_63
abbrev t_Mo_fill_59 : List UInt8 := 154 :: 0 :: 5 :: t_Mo_fill_62
abbrev t_Mo_fill_56 : List UInt8 := 182 :: 1 :: 144 :: t_Mo_fill_59
abbrev t_Mo_fill_55 : List UInt8 := 27 :: t_Mo_fill_56
abbrev t_Mo_fill_54 : List UInt8 := 28 :: t_Mo_fill_55
abbrev t_Mo_fill_53 : List UInt8 := 42 :: t_Mo_fill_54
abbrev t_Mo_fill_50 : List UInt8 := 157 :: 0 :: 12 :: t_Mo_fill_53
abbrev t_Mo_fill_49 : List UInt8 := 148 :: t_Mo_fill_50
abbrev t_Mo_fill_48 : List UInt8 := 133 :: t_Mo_fill_49
abbrev t_Mo_fill_47 : List UInt8 := 46 :: t_Mo_fill_48
abbrev t_Mo_fill_46 : List UInt8 := 27 :: t_Mo_fill_47
abbrev t_Mo_fill_43 : List UInt8 := 180 :: 0 :: 31 :: t_Mo_fill_46
abbrev t_Mo_fill_42 : List UInt8 := 42 :: t_Mo_fill_43
abbrev t_Mo_fill_41 : List UInt8 := 97 :: t_Mo_fill_42
abbrev t_Mo_fill_40 : List UInt8 := 33 :: t_Mo_fill_41
abbrev t_Mo_fill_39 : List UInt8 := 133 :: t_Mo_fill_40
abbrev t_Mo_fill_38 : List UInt8 := 46 :: t_Mo_fill_39
abbrev t_Mo_fill_37 : List UInt8 := 27 :: t_Mo_fill_38
abbrev t_Mo_fill_34 : List UInt8 := 180 :: 0 :: 34 :: t_Mo_fill_37
abbrev t_Mo_fill_33 : List UInt8 := 42 :: t_Mo_fill_34
abbrev t_Mo_fill_30 : List UInt8 := 157 :: 0 :: 32 :: t_Mo_fill_33
abbrev t_Mo_fill_29 : List UInt8 := 148 :: t_Mo_fill_30
abbrev t_Mo_fill_26 : List UInt8 := 20 :: 1 :: 165 :: t_Mo_fill_29
abbrev t_Mo_fill_25 : List UInt8 := 33 :: t_Mo_fill_26
abbrev t_Mo_fill_22 : List UInt8 := 155 :: 0 :: 40 :: t_Mo_fill_25
abbrev t_Mo_fill_21 : List UInt8 := 148 :: t_Mo_fill_22
abbrev t_Mo_fill_20 : List UInt8 := 10 :: t_Mo_fill_21
abbrev t_Mo_fill_19 : List UInt8 := 33 :: t_Mo_fill_20
abbrev t_Mo_fill_16 : List UInt8 := 163 :: 0 :: 46 :: t_Mo_fill_19
abbrev t_Mo_fill_14 : List UInt8 := 16 :: 14 :: t_Mo_fill_16
abbrev t_Mo_fill_13 : List UInt8 := 28 :: t_Mo_fill_14
abbrev t_Mo_fill_10 : List UInt8 := 161 :: 0 :: 52 :: t_Mo_fill_13
abbrev t_Mo_fill_9 : List UInt8 := 4 :: t_Mo_fill_10
abbrev t_Mo_fill_8 : List UInt8 := 28 :: t_Mo_fill_9
abbrev t_Mo_fill_5 : List UInt8 := 153 :: 0 :: 57 :: t_Mo_fill_8
abbrev t_Mo_fill_2 : List UInt8 := 182 :: 1 :: 61 :: t_Mo_fill_5
abbrev t_Mo_fill_1 : List UInt8 := 27 :: t_Mo_fill_2
abbrev t_Mo_fill_0 : List UInt8 := 42 :: t_Mo_fill_1
theorem a_Mo_fill_0 : dk_at b_Mo_fill 0 t_Mo_fill_0 := dk_start (by decide +kernel)
theorem a_Mo_fill_1 : dk_at b_Mo_fill 1 t_Mo_fill_1 := dk_go 1 a_Mo_fill_0 rfl
theorem a_Mo_fill_2 : dk_at b_Mo_fill 2 t_Mo_fill_2 := dk_go 1 a_Mo_fill_1 rfl
theorem a_Mo_fill_5 : dk_at b_Mo_fill 5 t_Mo_fill_5 := dk_go 3 a_Mo_fill_2 rfl
theorem a_Mo_fill_8 : dk_at b_Mo_fill 8 t_Mo_fill_8 := dk_go 3 a_Mo_fill_5 rfl
theorem a_Mo_fill_9 : dk_at b_Mo_fill 9 t_Mo_fill_9 := dk_go 1 a_Mo_fill_8 rfl
theorem a_Mo_fill_10 : dk_at b_Mo_fill 10 t_Mo_fill_10 := dk_go 1 a_Mo_fill_9 rfl
theorem a_Mo_fill_13 : dk_at b_Mo_fill 13 t_Mo_fill_13 := dk_go 3 a_Mo_fill_10 rfl
theorem a_Mo_fill_14 : dk_at b_Mo_fill 14 t_Mo_fill_14 := dk_go 1 a_Mo_fill_13 rfl
theorem a_Mo_fill_16 : dk_at b_Mo_fill 16 t_Mo_fill_16 := dk_go 2 a_Mo_fill_14 rfl
theorem a_Mo_fill_19 : dk_at b_Mo_fill 19 t_Mo_fill_19 := dk_go 3 a_Mo_fill_16 rfl
theorem a_Mo_fill_20 : dk_at b_Mo_fill 20 t_Mo_fill_20 := dk_go 1 a_Mo_fill_19 rfl
theorem a_Mo_fill_21 : dk_at b_Mo_fill 21 t_Mo_fill_21 := dk_go 1 a_Mo_fill_20 rfl
theorem a_Mo_fill_22 : dk_at b_Mo_fill 22 t_Mo_fill_22 := dk_go 1 a_Mo_fill_21 rfl
theorem a_Mo_fill_25 : dk_at b_Mo_fill 25 t_Mo_fill_25 := dk_go 3 a_Mo_fill_22 rfl
theorem a_Mo_fill_26 : dk_at b_Mo_fill 26 t_Mo_fill_26 := dk_go 1 a_Mo_fill_25 rfl
theorem a_Mo_fill_29 : dk_at b_Mo_fill 29 t_Mo_fill_29 := dk_go 3 a_Mo_fill_26 rfl
theorem a_Mo_fill_30 : dk_at b_Mo_fill 30 t_Mo_fill_30 := dk_go 1 a_Mo_fill_29 rfl
theorem a_Mo_fill_33 : dk_at b_Mo_fill 33 t_Mo_fill_33 := dk_go 3 a_Mo_fill_30 rfl
theorem a_Mo_fill_34 : dk_at b_Mo_fill 34 t_Mo_fill_34 := dk_go 1 a_Mo_fill_33 rfl
theorem a_Mo_fill_37 : dk_at b_Mo_fill 37 t_Mo_fill_37 := dk_go 3 a_Mo_fill_34 rfl
theorem a_Mo_fill_38 : dk_at b_Mo_fill 38 t_Mo_fill_38 := dk_go 1 a_Mo_fill_37 rfl
theorem a_Mo_fill_39 : dk_at b_Mo_fill 39 t_Mo_fill_39 := dk_go 1 a_Mo_fill_38 rfl
theorem a_Mo_fill_40 : dk_at b_Mo_fill 40 t_Mo_fill_40 := dk_go 1 a_Mo_fill_39 rfl
theorem a_Mo_fill_41 : dk_at b_Mo_fill 41 t_Mo_fill_41 := dk_go 1 a_Mo_fill_40 rfl
theorem a_Mo_fill_42 : dk_at b_Mo_fill 42 t_Mo_fill_42 := dk_go 1 a_Mo_fill_41 rfl
theorem a_Mo_fill_43 : dk_at b_Mo_fill 43 t_Mo_fill_43 := dk_go 1 a_Mo_fill_42 rfl
theorem a_Mo_fill_46 : dk_at b_Mo_fill 46 t_Mo_fill_46 := dk_go 3 a_Mo_fill_43 rfl
theorem a_Mo_fill_47 : dk_at b_Mo_fill 47 t_Mo_fill_47 := dk_go 1 a_Mo_fill_46 rfl
theorem a_Mo_fill_48 : dk_at b_Mo_fill 48 t_Mo_fill_48 := dk_go 1 a_Mo_fill_47 rfl
theorem a_Mo_fill_49 : dk_at b_Mo_fill 49 t_Mo_fill_49 := dk_go 1 a_Mo_fill_48 rfl
theorem a_Mo_fill_50 : dk_at b_Mo_fill 50 t_Mo_fill_50 := dk_go 1 a_Mo_fill_49 rfl
theorem a_Mo_fill_53 : dk_at b_Mo_fill 53 t_Mo_fill_53 := dk_go 3 a_Mo_fill_50 rfl
theorem a_Mo_fill_54 : dk_at b_Mo_fill 54 t_Mo_fill_54 := dk_go 1 a_Mo_fill_53 rfl
theorem a_Mo_fill_55 : dk_at b_Mo_fill 55 t_Mo_fill_55 := dk_go 1 a_Mo_fill_54 rfl
theorem a_Mo_fill_56 : dk_at b_Mo_fill 56 t_Mo_fill_56 := dk_go 1 a_Mo_fill_55 rfl
theorem a_Mo_fill_59 : dk_at b_Mo_fill 59 t_Mo_fill_59 := dk_go 3 a_Mo_fill_56 rfl
theorem a_Mo_fill_62 : dk_at b_Mo_fill 62 t_Mo_fill_62 := dk_go 3 a_Mo_fill_59 rfl
theorem a_Mo_fill_63 : dk_at b_Mo_fill 63 t_Mo_fill_63 := dk_go 1 a_Mo_fill_62 rfl
theorem a_Mo_fill_64 : dk_at b_Mo_fill 64 t_Mo_fill_64 := dk_go 1 a_Mo_fill_63 rfl
theorem a_Mo_fill_65 : dk_at b_Mo_fill 65 t_Mo_fill_65 := dk_go 1 a_Mo_fill_64 rfl
theorem a_Mo_fill_68 : dk_at b_Mo_fill 68 t_Mo_fill_68 := dk_go 3 a_Mo_fill_65 rfl
theorem a_Mo_fill_69 : dk_at b_Mo_fill 69 t_Mo_fill_69 := dk_go 1 a_Mo_fill_68 rfl
theorem a_Mo_fill_72 : dk_at b_Mo_fill 72 t_Mo_fill_72 := dk_go 3 a_Mo_fill_69 rfl
theorem a_Mo_fill_73 : dk_at b_Mo_fill 73 t_Mo_fill_73 := dk_go 1 a_Mo_fill_72 rfl
theorem a_Mo_fill_74 : dk_at b_Mo_fill 74 t_Mo_fill_74 := dk_go 1 a_Mo_fill_73 rfl
theorem a_Mo_fill_75 : dk_at b_Mo_fill 75 t_Mo_fill_75 := dk_go 1 a_Mo_fill_74 rfl
theorem a_Mo_fill_76 : dk_at b_Mo_fill 76 t_Mo_fill_76 := dk_go 1 a_Mo_fill_75 rfl
theorem a_Mo_fill_79 : dk_at b_Mo_fill 79 t_Mo_fill_79 := dk_go 3 a_Mo_fill_76 rfl
theorem a_Mo_fill_82 : dk_at b_Mo_fill 82 t_Mo_fill_82 := dk_go 3 a_Mo_fill_79 rfl
theorem a_Mo_fill_83 : dk_at b_Mo_fill 83 t_Mo_fill_83 := dk_go 1 a_Mo_fill_82 rfl
theorem a_Mo_fill_84 : dk_at b_Mo_fill 84 t_Mo_fill_84 := dk_go 1 a_Mo_fill_83 rfl
theorem a_Mo_fill_85 : dk_at b_Mo_fill 85 t_Mo_fill_85 := dk_go 1 a_Mo_fill_84 rfl
theorem a_Mo_fill_88 : dk_at b_Mo_fill 88 t_Mo_fill_88 := dk_go 3 a_Mo_fill_85 rfl
theorem a_Mo_fill_89 : dk_at b_Mo_fill 89 t_Mo_fill_89 := dk_go 1 a_Mo_fill_88 rfl
theorem a_Mo_fill_90 : dk_at b_Mo_fill 90 t_Mo_fill_90 := dk_go 1 a_Mo_fill_89 rfl
theorem a_Mo_fill_91 : dk_at b_Mo_fill 91 t_Mo_fill_91 := dk_go 1 a_Mo_fill_90 rfl
theorem a_Mo_fill_92 : dk_at b_Mo_fill 92 t_Mo_fill_92 := dk_go 1 a_Mo_fill_91 rfl
theorem a_Mo_fill_95 : dk_at b_Mo_fill 95 t_Mo_fill_95 := dk_go 3 a_Mo_fill_92 rfl
theorem a_Mo_fill_96 : dk_at b_Mo_fill 96 t_Mo_fill_96 := dk_go 1 a_Mo_fill_95 rfl
theorem a_Mo_fill_97 : dk_at b_Mo_fill 97 t_Mo_fill_97 := dk_go 1 a_Mo_fill_96 rfl
theorem a_Mo_fill_98 : dk_at b_Mo_fill 98 t_Mo_fill_98 := dk_go 1 a_Mo_fill_97 rfl
theorem a_Mo_fill_99 : dk_at b_Mo_fill 99 t_Mo_fill_99 := dk_go 1 a_Mo_fill_98 rfl
theorem a_Mo_fill_100 : dk_at b_Mo_fill 100 t_Mo_fill_100 := dk_go 1 a_Mo_fill_99 rfl
theorem a_Mo_fill_101 : dk_at b_Mo_fill 101 t_Mo_fill_101 := dk_go 1 a_Mo_fill_100 rfl
theorem a_Mo_fill_102 : dk_at b_Mo_fill 102 t_Mo_fill_102 := dk_go 1 a_Mo_fill_101 rfl
theorem a_Mo_fill_103 : dk_at b_Mo_fill 103 t_Mo_fill_103 := dk_go 1 a_Mo_fill_102 rfl
theorem a_Mo_fill_104 : dk_at b_Mo_fill 104 t_Mo_fill_104 := dk_go 1 a_Mo_fill_103 rfl
theorem a_Mo_fill_107 : dk_at b_Mo_fill 107 t_Mo_fill_107 := dk_go 3 a_Mo_fill_104 rfl
theorem a_Mo_fill_108 : dk_at b_Mo_fill 108 t_Mo_fill_108 := dk_go 1 a_Mo_fill_107 rfl
theorem d_Mo_fill_0 : decode b_Mo_fill 0 = .ok (.aload_n 0, 1) := dk_0 a_Mo_fill_0 (dko_42 _)
theorem d_Mo_fill_1 : decode b_Mo_fill 1 = .ok (.iload_n 1, 1) := dk_0 a_Mo_fill_1 (dko_27 _)
theorem d_Mo_fill_2 : decode b_Mo_fill 2 = .ok (.invokevirtual 317, 3) := dk_U2 a_Mo_fill_2 (dko_182 _) rfl
theorem d_Mo_fill_5 : decode b_Mo_fill 5 = .ok (.ifCond .eq 57, 3) := dk_S2 a_Mo_fill_5 (dko_153 _) (by decide +kernel)
theorem d_Mo_fill_62 : decode b_Mo_fill 62 = .ok (.iconst 0, 1) := dk_0 a_Mo_fill_62 (dko_3 _)
theorem d_Mo_fill_63 : decode b_Mo_fill 63 = .ok (.ireturn, 1) := dk_0 a_Mo_fill_63 (dko_172 _)
set_option maxHeartbeats 4000000 in
set_option maxRecDepth 100000 in
theorem c_Mo_fill (l : Launch) (dC : Nat → ClassId) (dI : Nat → Nat → Nat) (cI cB cZ cJ : ClassId) (ta : Int32) (li : Int32) (nn : Int64) (oM : Nat) (fm : List Value) (hm_things : fx fm 4 (.int 0)) (sz : Nat) : Met l y_Mo_fill w_Mo_fill ({ frames := 2, cells := 0, slots := 0, locals := 42 }) (va_Pc [.ref oM, .int ta, .int li, .long nn] (PW dC dI cI cB cZ cJ [(oM, .inr (12, fm))] sz)) (va_Qi (fun (r : Int32) (_ : Unit) => r = 0) (fun _ _ => True) (va_A [] sz)) 0 0 (va_A [] sz) := by
  refine Met.ofW (cc := b_Mo_fill) (maxL := 5) (ret := (some .boolean)) (by decide) rfl ?_
  intro p e s m args below meth c s₁ B hml hv
  obtain ⟨rfl, hsz, hP, hK, hD⟩ := hv
  have hx := B.exec
  have hb := B.bytes
  have hr := B.returns
  have hts := atoms_spec (ws := w_Mo_fill) B.pre
  have hown : s.vm.findClass R_Mo = some m.cls := findClass_of_methodNamed B.named
  have hlocks := B.notSynchronized
  subst hsz
  generalize hAe : va_A [] s.heap.size = A at ⊢
  have hA : ∀ q : Nat, s.heap.size ≤ q → A q := fun q h => by rw [← hAe]; exact Or.inr h
  have hS : va_S A s.heap s.heap [] := va_S.rf
  have hP : va_P (dC, dI) classes [(oM, .inr (12, fm))] s.heap := hP
  have hl := lv_entry ([.ref oM, .int ta, .int li, .long nn]) (n := 5) (Nat.le_of_ble_eq_true rfl)
  rw [lg_entry_eq]
  generalize (lg_sl ([.ref oM, .int ta, .int li, .long nn]) ++ List.replicate (5 - (lg_sl ([.ref oM, .int ta, .int li, .long nn])).length) Slot.unset).toArray = ls at hl ⊢
  have hl : lv_has ls 5 [(0, .ref oM), (1, .int ta), (2, .int li), (3, .long nn)] := hl
  refine lv_aload_n hx hb d_Mo_fill_0 rfl (lv_at hl 0 rfl) ?_
  refine lv_iload_n hx hb d_Mo_fill_1 rfl (lv_at hl 1 rfl) ?_
  have hPc := hP.sub (ws' := [(oM, .inr (12, fm))]) [0] rfl
  have hDc := hD.sub (ws' := [(oM, .inr (12, fm))]) [0] (by decide) rfl
  have hFc := pu_free hS hA
  refine va_calli (va_runV (C := R_Mo) (As := [.int ta]) (rest := []) ⟨hx, hb, hml, hown, hts⟩ (c_Mo_isTank l dC dI cI cB cZ cJ ta oM fm hm_things s.heap.size) (cwV 1 hts (tb_V mw_2424 mw_2426 sl_156 mw_18 mw_2427) rfl rfl rfl ⟨rfl, by decide +kernel, by decide +kernel, by decide +kernel⟩ ⟨(Nat.le_of_ble_eq_true rfl), (Nat.le_of_ble_eq_true rfl)⟩) ⟨pw_blind, va_recv (q := (R_Mo, F_Mo, 87)) hK.1 hP (ci := 12) (q0 := 0) rfl rfl, pw_pre hPc hK hDc⟩ rfl rfl hl.1 rfl (lv_room (Nat.le_of_ble_eq_true rfl)) d_Mo_fill_2 ⟨(Nat.le_of_ble_eq_true rfl), (Nat.le_of_ble_eq_true rfl)⟩) hS (fun q _ h => hFc q h) hFc (fun r u t H locs ht hvm hw hB hz1 hk1 hS => ?_)
  have hP := pu_kept hP hk1
  obtain rfl : r = 0 := hw
  refine lv_if_eq (tgt := 62) hx hb d_Mo_fill_5 (by decide) (fun _ => ?_) (fun h => absurd (by decide) h)
  refine lv_iconst (v := 0) hx hb d_Mo_fill_62 (by decide) ?_
  exact W.zret (v := 0) (ty := .boolean) hx hb hr (by decide) (fun t ht hW => ⟨⟨_, (), rfl, (rfl), trivial⟩, hS.F ht⟩) hS.2.2 d_Mo_fill_63
abbrev t_Mo_space_87 : List UInt8 := 172 :: []
abbrev t_Mo_space_84 : List UInt8 := 182 :: 1 :: 73 :: t_Mo_space_87
abbrev t_Mo_space_83 : List UInt8 := 27 :: t_Mo_space_84
abbrev t_Mo_space_82 : List UInt8 := 42 :: t_Mo_space_83
abbrev t_Mo_space_79 : List UInt8 := 167 :: 0 :: 8 :: t_Mo_space_82
abbrev t_Mo_space_78 : List UInt8 := 46 :: t_Mo_space_79
abbrev t_Mo_space_77 : List UInt8 := 27 :: t_Mo_space_78
abbrev t_Mo_space_74 : List UInt8 := 180 :: 0 :: 58 :: t_Mo_space_77
abbrev t_Mo_space_73 : List UInt8 := 42 :: t_Mo_space_74
abbrev t_Mo_space_70 : List UInt8 := 160 :: 0 :: 12 :: t_Mo_space_73
abbrev t_Mo_space_69 : List UInt8 := 5 :: t_Mo_space_70
abbrev t_Mo_space_68 : List UInt8 := 28 :: t_Mo_space_69
abbrev t_Mo_space_65 : List UInt8 := 167 :: 0 :: 22 :: t_Mo_space_68
abbrev t_Mo_space_62 : List UInt8 := 182 :: 1 :: 162 :: t_Mo_space_65
abbrev t_Mo_space_61 : List UInt8 := 27 :: t_Mo_space_62
abbrev t_Mo_space_60 : List UInt8 := 42 :: t_Mo_space_61
abbrev t_Mo_space_57 : List UInt8 := 160 :: 0 :: 11 :: t_Mo_space_60
abbrev t_Mo_space_56 : List UInt8 := 4 :: t_Mo_space_57
abbrev t_Mo_space_55 : List UInt8 := 28 :: t_Mo_space_56
abbrev t_Mo_space_52 : List UInt8 := 167 :: 0 :: 35 :: t_Mo_space_55
abbrev t_Mo_space_49 : List UInt8 := 182 :: 1 :: 67 :: t_Mo_space_52
abbrev t_Mo_space_48 : List UInt8 := 27 :: t_Mo_space_49
abbrev t_Mo_space_47 : List UInt8 := 42 :: t_Mo_space_48
abbrev t_Mo_space_44 : List UInt8 := 154 :: 0 :: 11 :: t_Mo_space_47
abbrev t_Mo_space_43 : List UInt8 := 28 :: t_Mo_space_44
abbrev t_Mo_space_42 : List UInt8 := 172 :: t_Mo_space_43
abbrev t_Mo_space_41 : List UInt8 := 2 :: t_Mo_space_42
abbrev t_Mo_space_38 : List UInt8 := 164 :: 0 :: 5 :: t_Mo_space_41
abbrev t_Mo_space_37 : List UInt8 := 6 :: t_Mo_space_38
abbrev t_Mo_space_36 : List UInt8 := 28 :: t_Mo_space_37
abbrev t_Mo_space_33 : List UInt8 := 155 :: 0 :: 8 :: t_Mo_space_36
abbrev t_Mo_space_32 : List UInt8 := 28 :: t_Mo_space_33
abbrev t_Mo_space_29 : List UInt8 := 153 :: 0 :: 12 :: t_Mo_space_32
abbrev t_Mo_space_26 : List UInt8 := 182 :: 1 :: 159 :: t_Mo_space_29
abbrev t_Mo_space_25 : List UInt8 := 27 :: t_Mo_space_26
abbrev t_Mo_space_24 : List UInt8 := 42 :: t_Mo_space_25
abbrev t_Mo_space_23 : List UInt8 := 172 :: t_Mo_space_24
abbrev t_Mo_space_22 : List UInt8 := 2 :: t_Mo_space_23
abbrev t_Mo_space_19 : List UInt8 := 167 :: 0 :: 4 :: t_Mo_space_22
abbrev t_Mo_space_18 : List UInt8 := 46 :: t_Mo_space_19
abbrev t_Mo_space_17 : List UInt8 := 27 :: t_Mo_space_18
abbrev t_Mo_space_14 : List UInt8 := 180 :: 0 :: 40 :: t_Mo_space_17
abbrev t_Mo_space_13 : List UInt8 := 42 :: t_Mo_space_14
abbrev t_Mo_space_10 : List UInt8 := 153 :: 0 :: 12 :: t_Mo_space_13
abbrev t_Mo_space_7 : List UInt8 := 182 :: 1 :: 156 :: t_Mo_space_10
abbrev t_Mo_space_6 : List UInt8 := 27 :: t_Mo_space_7
abbrev t_Mo_space_5 : List UInt8 := 42 :: t_Mo_space_6
abbrev t_Mo_space_2 : List UInt8 := 160 :: 0 :: 22 :: t_Mo_space_5
abbrev t_Mo_space_1 : List UInt8 := 7 :: t_Mo_space_2
abbrev t_Mo_space_0 : List UInt8 := 28 :: t_Mo_space_1
theorem a_Mo_space_0 : dk_at b_Mo_space 0 t_Mo_space_0 := dk_start (by decide +kernel)
theorem a_Mo_space_1 : dk_at b_Mo_space 1 t_Mo_space_1 := dk_go 1 a_Mo_space_0 rfl
theorem a_Mo_space_2 : dk_at b_Mo_space 2 t_Mo_space_2 := dk_go 1 a_Mo_space_1 rfl
theorem a_Mo_space_5 : dk_at b_Mo_space 5 t_Mo_space_5 := dk_go 3 a_Mo_space_2 rfl
theorem a_Mo_space_6 : dk_at b_Mo_space 6 t_Mo_space_6 := dk_go 1 a_Mo_space_5 rfl
theorem a_Mo_space_7 : dk_at b_Mo_space 7 t_Mo_space_7 := dk_go 1 a_Mo_space_6 rfl
theorem a_Mo_space_10 : dk_at b_Mo_space 10 t_Mo_space_10 := dk_go 3 a_Mo_space_7 rfl
theorem a_Mo_space_13 : dk_at b_Mo_space 13 t_Mo_space_13 := dk_go 3 a_Mo_space_10 rfl
theorem a_Mo_space_14 : dk_at b_Mo_space 14 t_Mo_space_14 := dk_go 1 a_Mo_space_13 rfl
theorem a_Mo_space_17 : dk_at b_Mo_space 17 t_Mo_space_17 := dk_go 3 a_Mo_space_14 rfl
theorem a_Mo_space_18 : dk_at b_Mo_space 18 t_Mo_space_18 := dk_go 1 a_Mo_space_17 rfl
theorem a_Mo_space_19 : dk_at b_Mo_space 19 t_Mo_space_19 := dk_go 1 a_Mo_space_18 rfl
theorem a_Mo_space_22 : dk_at b_Mo_space 22 t_Mo_space_22 := dk_go 3 a_Mo_space_19 rfl
theorem a_Mo_space_23 : dk_at b_Mo_space 23 t_Mo_space_23 := dk_go 1 a_Mo_space_22 rfl
theorem a_Mo_space_24 : dk_at b_Mo_space 24 t_Mo_space_24 := dk_go 1 a_Mo_space_23 rfl
theorem a_Mo_space_25 : dk_at b_Mo_space 25 t_Mo_space_25 := dk_go 1 a_Mo_space_24 rfl
theorem a_Mo_space_26 : dk_at b_Mo_space 26 t_Mo_space_26 := dk_go 1 a_Mo_space_25 rfl
theorem a_Mo_space_29 : dk_at b_Mo_space 29 t_Mo_space_29 := dk_go 3 a_Mo_space_26 rfl
theorem a_Mo_space_32 : dk_at b_Mo_space 32 t_Mo_space_32 := dk_go 3 a_Mo_space_29 rfl
theorem a_Mo_space_33 : dk_at b_Mo_space 33 t_Mo_space_33 := dk_go 1 a_Mo_space_32 rfl
theorem a_Mo_space_36 : dk_at b_Mo_space 36 t_Mo_space_36 := dk_go 3 a_Mo_space_33 rfl
theorem a_Mo_space_37 : dk_at b_Mo_space 37 t_Mo_space_37 := dk_go 1 a_Mo_space_36 rfl
theorem a_Mo_space_38 : dk_at b_Mo_space 38 t_Mo_space_38 := dk_go 1 a_Mo_space_37 rfl
theorem a_Mo_space_41 : dk_at b_Mo_space 41 t_Mo_space_41 := dk_go 3 a_Mo_space_38 rfl
theorem a_Mo_space_42 : dk_at b_Mo_space 42 t_Mo_space_42 := dk_go 1 a_Mo_space_41 rfl
theorem a_Mo_space_43 : dk_at b_Mo_space 43 t_Mo_space_43 := dk_go 1 a_Mo_space_42 rfl
theorem a_Mo_space_44 : dk_at b_Mo_space 44 t_Mo_space_44 := dk_go 1 a_Mo_space_43 rfl
theorem a_Mo_space_47 : dk_at b_Mo_space 47 t_Mo_space_47 := dk_go 3 a_Mo_space_44 rfl
theorem a_Mo_space_48 : dk_at b_Mo_space 48 t_Mo_space_48 := dk_go 1 a_Mo_space_47 rfl
theorem a_Mo_space_49 : dk_at b_Mo_space 49 t_Mo_space_49 := dk_go 1 a_Mo_space_48 rfl
theorem a_Mo_space_52 : dk_at b_Mo_space 52 t_Mo_space_52 := dk_go 3 a_Mo_space_49 rfl
theorem a_Mo_space_55 : dk_at b_Mo_space 55 t_Mo_space_55 := dk_go 3 a_Mo_space_52 rfl
theorem a_Mo_space_56 : dk_at b_Mo_space 56 t_Mo_space_56 := dk_go 1 a_Mo_space_55 rfl
theorem a_Mo_space_57 : dk_at b_Mo_space 57 t_Mo_space_57 := dk_go 1 a_Mo_space_56 rfl
theorem a_Mo_space_60 : dk_at b_Mo_space 60 t_Mo_space_60 := dk_go 3 a_Mo_space_57 rfl
theorem a_Mo_space_61 : dk_at b_Mo_space 61 t_Mo_space_61 := dk_go 1 a_Mo_space_60 rfl
theorem a_Mo_space_62 : dk_at b_Mo_space 62 t_Mo_space_62 := dk_go 1 a_Mo_space_61 rfl
theorem a_Mo_space_65 : dk_at b_Mo_space 65 t_Mo_space_65 := dk_go 3 a_Mo_space_62 rfl
theorem a_Mo_space_68 : dk_at b_Mo_space 68 t_Mo_space_68 := dk_go 3 a_Mo_space_65 rfl
theorem a_Mo_space_69 : dk_at b_Mo_space 69 t_Mo_space_69 := dk_go 1 a_Mo_space_68 rfl
theorem a_Mo_space_70 : dk_at b_Mo_space 70 t_Mo_space_70 := dk_go 1 a_Mo_space_69 rfl
theorem a_Mo_space_73 : dk_at b_Mo_space 73 t_Mo_space_73 := dk_go 3 a_Mo_space_70 rfl
theorem a_Mo_space_74 : dk_at b_Mo_space 74 t_Mo_space_74 := dk_go 1 a_Mo_space_73 rfl
theorem a_Mo_space_77 : dk_at b_Mo_space 77 t_Mo_space_77 := dk_go 3 a_Mo_space_74 rfl
theorem a_Mo_space_78 : dk_at b_Mo_space 78 t_Mo_space_78 := dk_go 1 a_Mo_space_77 rfl
theorem a_Mo_space_79 : dk_at b_Mo_space 79 t_Mo_space_79 := dk_go 1 a_Mo_space_78 rfl
theorem a_Mo_space_82 : dk_at b_Mo_space 82 t_Mo_space_82 := dk_go 3 a_Mo_space_79 rfl
theorem a_Mo_space_83 : dk_at b_Mo_space 83 t_Mo_space_83 := dk_go 1 a_Mo_space_82 rfl
theorem a_Mo_space_84 : dk_at b_Mo_space 84 t_Mo_space_84 := dk_go 1 a_Mo_space_83 rfl
theorem a_Mo_space_87 : dk_at b_Mo_space 87 t_Mo_space_87 := dk_go 3 a_Mo_space_84 rfl
theorem d_Mo_space_0 : decode b_Mo_space 0 = .ok (.iload_n 2, 1) := dk_0 a_Mo_space_0 (dko_28 _)
theorem d_Mo_space_1 : decode b_Mo_space 1 = .ok (.iconst 4, 1) := dk_0 a_Mo_space_1 (dko_7 _)
theorem d_Mo_space_2 : decode b_Mo_space 2 = .ok (.if_icmp .ne 22, 3) := dk_S2 a_Mo_space_2 (dko_160 _) (by decide +kernel)
theorem d_Mo_space_5 : decode b_Mo_space 5 = .ok (.aload_n 0, 1) := dk_0 a_Mo_space_5 (dko_42 _)
theorem d_Mo_space_6 : decode b_Mo_space 6 = .ok (.iload_n 1, 1) := dk_0 a_Mo_space_6 (dko_27 _)
theorem d_Mo_space_7 : decode b_Mo_space 7 = .ok (.invokevirtual 412, 3) := dk_U2 a_Mo_space_7 (dko_182 _) rfl
theorem d_Mo_space_10 : decode b_Mo_space 10 = .ok (.ifCond .eq 12, 3) := dk_S2 a_Mo_space_10 (dko_153 _) (by decide +kernel)
theorem d_Mo_space_22 : decode b_Mo_space 22 = .ok (.iconst (-1), 1) := dk_0 a_Mo_space_22 (dko_2 _)
theorem d_Mo_space_23 : decode b_Mo_space 23 = .ok (.ireturn, 1) := dk_0 a_Mo_space_23 (dko_172 _)
theorem d_Mo_space_24 : decode b_Mo_space 24 = .ok (.aload_n 0, 1) := dk_0 a_Mo_space_24 (dko_42 _)
theorem d_Mo_space_25 : decode b_Mo_space 25 = .ok (.iload_n 1, 1) := dk_0 a_Mo_space_25 (dko_27 _)
theorem d_Mo_space_26 : decode b_Mo_space 26 = .ok (.invokevirtual 415, 3) := dk_U2 a_Mo_space_26 (dko_182 _) rfl
theorem d_Mo_space_29 : decode b_Mo_space 29 = .ok (.ifCond .eq 12, 3) := dk_S2 a_Mo_space_29 (dko_153 _) (by decide +kernel)
theorem d_Mo_space_41 : decode b_Mo_space 41 = .ok (.iconst (-1), 1) := dk_0 a_Mo_space_41 (dko_2 _)
theorem d_Mo_space_42 : decode b_Mo_space 42 = .ok (.ireturn, 1) := dk_0 a_Mo_space_42 (dko_172 _)
set_option maxHeartbeats 4000000 in
set_option maxRecDepth 100000 in
theorem c_Mo_space (l : Launch) (dC : Nat → ClassId) (dI : Nat → Nat → Nat) (cI cB cZ cJ : ClassId) (xx : Int32) (wh : Int32) (oM : Nat) (fm : List Value) (hm_things : fx fm 4 (.int 0)) (hm_pipes : fx fm 11 (.int 0)) (sz : Nat) : Met l y_Mo_space w_Mo_space ({ frames := 3, cells := 0, slots := 0, locals := 63 }) (va_Pc [.ref oM, .int xx, .int wh] (PW dC dI cI cB cZ cJ [(oM, .inr (12, fm))] sz)) (va_Qi (fun (r : Int32) (_ : Unit) => r = (-1)) (fun _ _ => True) (va_A [] sz)) 0 0 (va_A [] sz) := by
  refine Met.ofW (cc := b_Mo_space) (maxL := 3) (ret := (some .int)) (by decide) rfl ?_
  intro p e s m args below meth c s₁ B hml hv
  obtain ⟨rfl, hsz, hP, hK, hD⟩ := hv
  have hx := B.exec
  have hb := B.bytes
  have hr := B.returns
  have hts := atoms_spec (ws := w_Mo_space) B.pre
  have hown : s.vm.findClass R_Mo = some m.cls := findClass_of_methodNamed B.named
  have hlocks := B.notSynchronized
  subst hsz
  generalize hAe : va_A [] s.heap.size = A at ⊢
  have hA : ∀ q : Nat, s.heap.size ≤ q → A q := fun q h => by rw [← hAe]; exact Or.inr h
  have hS : va_S A s.heap s.heap [] := va_S.rf
  have hP : va_P (dC, dI) classes [(oM, .inr (12, fm))] s.heap := hP
  have hl := lv_entry ([.ref oM, .int xx, .int wh]) (n := 3) (Nat.le_of_ble_eq_true rfl)
  rw [lg_entry_eq]
  generalize (lg_sl ([.ref oM, .int xx, .int wh]) ++ List.replicate (3 - (lg_sl ([.ref oM, .int xx, .int wh])).length) Slot.unset).toArray = ls at hl ⊢
  have hl : lv_has ls 3 [(0, .ref oM), (1, .int xx), (2, .int wh)] := hl
  refine lv_iload_n hx hb d_Mo_space_0 rfl (lv_at hl 2 rfl) ?_
  refine lv_iconst (v := 4) hx hb d_Mo_space_1 (by decide) ?_
  refine lv_icmp_ne (tgt := 24) hx hb d_Mo_space_2 (by decide) (fun h2 => ?_) (fun h2 => ?_)
  · refine lv_aload_n hx hb d_Mo_space_24 rfl (lv_at hl 0 rfl) ?_
    refine lv_iload_n hx hb d_Mo_space_25 rfl (lv_at hl 1 rfl) ?_
    have hPc := hP.sub (ws' := [(oM, .inr (12, fm))]) [0] rfl
    have hDc := hD.sub (ws' := [(oM, .inr (12, fm))]) [0] (by decide) rfl
    have hFc := pu_free hS hA
    refine va_calli (va_runV (C := R_Mo) (As := [.int xx]) (rest := []) ⟨hx, hb, hml, hown, hts⟩ (c_Mo_holdsLiquid l dC dI cI cB cZ cJ xx oM fm hm_things hm_pipes s.heap.size) (cwV 1 hts (tb_V mw_2420 mw_2422 sl_155 mw_18 mw_2423) rfl rfl rfl ⟨rfl, by decide +kernel, by decide +kernel, by decide +kernel⟩ ⟨(Nat.le_of_ble_eq_true rfl), (Nat.le_of_ble_eq_true rfl)⟩) ⟨pw_blind, va_recv (q := (R_Mo, F_Mo, 87)) hK.1 hP (ci := 12) (q0 := 0) rfl rfl, pw_pre hPc hK hDc⟩ rfl rfl hl.1 rfl (lv_room (Nat.le_of_ble_eq_true rfl)) d_Mo_space_26 ⟨(Nat.le_of_ble_eq_true rfl), (Nat.le_of_ble_eq_true rfl)⟩) hS (fun q _ h => hFc q h) hFc (fun r u t H locs ht hvm hw hB hz1 hk1 hS => ?_)
    have hP := pu_kept hP hk1
    obtain rfl : r = 0 := hw
    refine lv_if_eq (tgt := 41) hx hb d_Mo_space_29 (by decide) (fun _ => ?_) (fun h => absurd (by decide) h)
    refine lv_iconst (v := (-1)) hx hb d_Mo_space_41 (by decide) ?_
    exact W.iret (v := (-1)) hx hb hr (fun t ht hW => ⟨⟨_, (), rfl, (rfl), trivial⟩, hS.F ht⟩) hS.2.2 d_Mo_space_42
  · refine lv_aload_n hx hb d_Mo_space_5 rfl (lv_at hl 0 rfl) ?_
    refine lv_iload_n hx hb d_Mo_space_6 rfl (lv_at hl 1 rfl) ?_
    have hPc := hP.sub (ws' := [(oM, .inr (12, fm))]) [0] rfl
    have hDc := hD.sub (ws' := [(oM, .inr (12, fm))]) [0] (by decide) rfl
    have hFc := pu_free hS hA
    refine va_calli (va_runV (C := R_Mo) (As := [.int xx]) (rest := []) ⟨hx, hb, hml, hown, hts⟩ (c_Mo_isValve l dC dI cI cB cZ cJ xx oM fm hm_things s.heap.size) (cwV 1 hts (tb_V mw_2412 mw_2414 sl_153 mw_18 mw_2415) rfl rfl rfl ⟨rfl, by decide +kernel, by decide +kernel, by decide +kernel⟩ ⟨(Nat.le_of_ble_eq_true rfl), (Nat.le_of_ble_eq_true rfl)⟩) ⟨pw_blind, va_recv (q := (R_Mo, F_Mo, 87)) hK.1 hP (ci := 12) (q0 := 0) rfl rfl, pw_pre hPc hK hDc⟩ rfl rfl hl.1 rfl (lv_room (Nat.le_of_ble_eq_true rfl)) d_Mo_space_7 ⟨(Nat.le_of_ble_eq_true rfl), (Nat.le_of_ble_eq_true rfl)⟩) hS (fun q _ h => hFc q h) hFc (fun r u t H locs ht hvm hw hB hz1 hk1 hS => ?_)
    have hP := pu_kept hP hk1
    obtain rfl : r = 0 := hw
    refine lv_if_eq (tgt := 22) hx hb d_Mo_space_10 (by decide) (fun _ => ?_) (fun h => absurd (by decide) h)
    refine lv_iconst (v := (-1)) hx hb d_Mo_space_22 (by decide) ?_
    exact W.iret (v := (-1)) hx hb hr (fun t ht hW => ⟨⟨_, (), rfl, (rfl), trivial⟩, hS.F ht⟩) hS.2.2 d_Mo_space_23
abbrev t_Mo_way_86 : List UInt8 := 172 :: []
abbrev t_Mo_way_85 : List UInt8 := 108 :: t_Mo_way_86
abbrev t_Mo_way_84 : List UInt8 := 5 :: t_Mo_way_85
abbrev t_Mo_way_83 : List UInt8 := 46 :: t_Mo_way_84
abbrev t_Mo_way_82 : List UInt8 := 100 :: t_Mo_way_83
abbrev t_Mo_way_81 : List UInt8 := 6 :: t_Mo_way_82
abbrev t_Mo_way_80 : List UInt8 := 96 :: t_Mo_way_81
abbrev t_Mo_way_79 : List UInt8 := 28 :: t_Mo_way_80
abbrev t_Mo_way_78 : List UInt8 := 104 :: t_Mo_way_79
abbrev t_Mo_way_77 : List UInt8 := 27 :: t_Mo_way_78
abbrev t_Mo_way_75 : List UInt8 := 16 :: 24 :: t_Mo_way_77
abbrev t_Mo_way_72 : List UInt8 := 180 :: 0 :: 98 :: t_Mo_way_75
abbrev t_Mo_way_71 : List UInt8 := 42 :: t_Mo_way_72
abbrev t_Mo_way_68 : List UInt8 := 167 :: 0 :: 18 :: t_Mo_way_71
abbrev t_Mo_way_67 : List UInt8 := 46 :: t_Mo_way_68
abbrev t_Mo_way_66 : List UInt8 := 27 :: t_Mo_way_67
abbrev t_Mo_way_63 : List UInt8 := 180 :: 0 :: 95 :: t_Mo_way_66
abbrev t_Mo_way_62 : List UInt8 := 42 :: t_Mo_way_63
abbrev t_Mo_way_59 : List UInt8 := 160 :: 0 :: 12 :: t_Mo_way_62
abbrev t_Mo_way_58 : List UInt8 := 5 :: t_Mo_way_59
abbrev t_Mo_way_57 : List UInt8 := 28 :: t_Mo_way_58
abbrev t_Mo_way_54 : List UInt8 := 167 :: 0 :: 32 :: t_Mo_way_57
abbrev t_Mo_way_53 : List UInt8 := 46 :: t_Mo_way_54
abbrev t_Mo_way_52 : List UInt8 := 27 :: t_Mo_way_53
abbrev t_Mo_way_49 : List UInt8 := 180 :: 0 :: 86 :: t_Mo_way_52
abbrev t_Mo_way_48 : List UInt8 := 42 :: t_Mo_way_49
abbrev t_Mo_way_45 : List UInt8 := 160 :: 0 :: 12 :: t_Mo_way_48
abbrev t_Mo_way_44 : List UInt8 := 4 :: t_Mo_way_45
abbrev t_Mo_way_43 : List UInt8 := 28 :: t_Mo_way_44
abbrev t_Mo_way_40 : List UInt8 := 167 :: 0 :: 46 :: t_Mo_way_43
abbrev t_Mo_way_39 : List UInt8 := 46 :: t_Mo_way_40
abbrev t_Mo_way_38 : List UInt8 := 27 :: t_Mo_way_39
abbrev t_Mo_way_35 : List UInt8 := 180 :: 0 :: 83 :: t_Mo_way_38
abbrev t_Mo_way_34 : List UInt8 := 42 :: t_Mo_way_35
abbrev t_Mo_way_31 : List UInt8 := 154 :: 0 :: 12 :: t_Mo_way_34
abbrev t_Mo_way_30 : List UInt8 := 28 :: t_Mo_way_31
abbrev t_Mo_way_29 : List UInt8 := 172 :: t_Mo_way_30
abbrev t_Mo_way_28 : List UInt8 := 2 :: t_Mo_way_29
abbrev t_Mo_way_25 : List UInt8 := 164 :: 0 :: 5 :: t_Mo_way_28
abbrev t_Mo_way_24 : List UInt8 := 96 :: t_Mo_way_25
abbrev t_Mo_way_23 : List UInt8 := 46 :: t_Mo_way_24
abbrev t_Mo_way_22 : List UInt8 := 27 :: t_Mo_way_23
abbrev t_Mo_way_19 : List UInt8 := 180 :: 0 :: 95 :: t_Mo_way_22
abbrev t_Mo_way_18 : List UInt8 := 42 :: t_Mo_way_19
abbrev t_Mo_way_17 : List UInt8 := 5 :: t_Mo_way_18
abbrev t_Mo_way_16 : List UInt8 := 28 :: t_Mo_way_17
abbrev t_Mo_way_13 : List UInt8 := 155 :: 0 :: 15 :: t_Mo_way_16
abbrev t_Mo_way_12 : List UInt8 := 28 :: t_Mo_way_13
abbrev t_Mo_way_9 : List UInt8 := 162 :: 0 :: 19 :: t_Mo_way_12
abbrev t_Mo_way_6 : List UInt8 := 180 :: 1 :: 28 :: t_Mo_way_9
abbrev t_Mo_way_5 : List UInt8 := 42 :: t_Mo_way_6
abbrev t_Mo_way_4 : List UInt8 := 27 :: t_Mo_way_5
abbrev t_Mo_way_1 : List UInt8 := 155 :: 0 :: 27 :: t_Mo_way_4
abbrev t_Mo_way_0 : List UInt8 := 27 :: t_Mo_way_1
theorem a_Mo_way_0 : dk_at b_Mo_way 0 t_Mo_way_0 := dk_start (by decide +kernel)
theorem a_Mo_way_1 : dk_at b_Mo_way 1 t_Mo_way_1 := dk_go 1 a_Mo_way_0 rfl
theorem a_Mo_way_4 : dk_at b_Mo_way 4 t_Mo_way_4 := dk_go 3 a_Mo_way_1 rfl
theorem a_Mo_way_5 : dk_at b_Mo_way 5 t_Mo_way_5 := dk_go 1 a_Mo_way_4 rfl
theorem a_Mo_way_6 : dk_at b_Mo_way 6 t_Mo_way_6 := dk_go 1 a_Mo_way_5 rfl
theorem a_Mo_way_9 : dk_at b_Mo_way 9 t_Mo_way_9 := dk_go 3 a_Mo_way_6 rfl
theorem a_Mo_way_12 : dk_at b_Mo_way 12 t_Mo_way_12 := dk_go 3 a_Mo_way_9 rfl
theorem a_Mo_way_13 : dk_at b_Mo_way 13 t_Mo_way_13 := dk_go 1 a_Mo_way_12 rfl
theorem a_Mo_way_16 : dk_at b_Mo_way 16 t_Mo_way_16 := dk_go 3 a_Mo_way_13 rfl
theorem a_Mo_way_17 : dk_at b_Mo_way 17 t_Mo_way_17 := dk_go 1 a_Mo_way_16 rfl
theorem a_Mo_way_18 : dk_at b_Mo_way 18 t_Mo_way_18 := dk_go 1 a_Mo_way_17 rfl
theorem a_Mo_way_19 : dk_at b_Mo_way 19 t_Mo_way_19 := dk_go 1 a_Mo_way_18 rfl
theorem a_Mo_way_22 : dk_at b_Mo_way 22 t_Mo_way_22 := dk_go 3 a_Mo_way_19 rfl
theorem a_Mo_way_23 : dk_at b_Mo_way 23 t_Mo_way_23 := dk_go 1 a_Mo_way_22 rfl
theorem a_Mo_way_24 : dk_at b_Mo_way 24 t_Mo_way_24 := dk_go 1 a_Mo_way_23 rfl
theorem a_Mo_way_25 : dk_at b_Mo_way 25 t_Mo_way_25 := dk_go 1 a_Mo_way_24 rfl
theorem a_Mo_way_28 : dk_at b_Mo_way 28 t_Mo_way_28 := dk_go 3 a_Mo_way_25 rfl
theorem a_Mo_way_29 : dk_at b_Mo_way 29 t_Mo_way_29 := dk_go 1 a_Mo_way_28 rfl
theorem a_Mo_way_30 : dk_at b_Mo_way 30 t_Mo_way_30 := dk_go 1 a_Mo_way_29 rfl
theorem a_Mo_way_31 : dk_at b_Mo_way 31 t_Mo_way_31 := dk_go 1 a_Mo_way_30 rfl
theorem a_Mo_way_34 : dk_at b_Mo_way 34 t_Mo_way_34 := dk_go 3 a_Mo_way_31 rfl
theorem a_Mo_way_35 : dk_at b_Mo_way 35 t_Mo_way_35 := dk_go 1 a_Mo_way_34 rfl
theorem a_Mo_way_38 : dk_at b_Mo_way 38 t_Mo_way_38 := dk_go 3 a_Mo_way_35 rfl
theorem a_Mo_way_39 : dk_at b_Mo_way 39 t_Mo_way_39 := dk_go 1 a_Mo_way_38 rfl
theorem a_Mo_way_40 : dk_at b_Mo_way 40 t_Mo_way_40 := dk_go 1 a_Mo_way_39 rfl
theorem a_Mo_way_43 : dk_at b_Mo_way 43 t_Mo_way_43 := dk_go 3 a_Mo_way_40 rfl
theorem a_Mo_way_44 : dk_at b_Mo_way 44 t_Mo_way_44 := dk_go 1 a_Mo_way_43 rfl
theorem a_Mo_way_45 : dk_at b_Mo_way 45 t_Mo_way_45 := dk_go 1 a_Mo_way_44 rfl
theorem a_Mo_way_48 : dk_at b_Mo_way 48 t_Mo_way_48 := dk_go 3 a_Mo_way_45 rfl
theorem a_Mo_way_49 : dk_at b_Mo_way 49 t_Mo_way_49 := dk_go 1 a_Mo_way_48 rfl
theorem a_Mo_way_52 : dk_at b_Mo_way 52 t_Mo_way_52 := dk_go 3 a_Mo_way_49 rfl
theorem a_Mo_way_53 : dk_at b_Mo_way 53 t_Mo_way_53 := dk_go 1 a_Mo_way_52 rfl
theorem a_Mo_way_54 : dk_at b_Mo_way 54 t_Mo_way_54 := dk_go 1 a_Mo_way_53 rfl
theorem a_Mo_way_57 : dk_at b_Mo_way 57 t_Mo_way_57 := dk_go 3 a_Mo_way_54 rfl
theorem a_Mo_way_58 : dk_at b_Mo_way 58 t_Mo_way_58 := dk_go 1 a_Mo_way_57 rfl
theorem a_Mo_way_59 : dk_at b_Mo_way 59 t_Mo_way_59 := dk_go 1 a_Mo_way_58 rfl
theorem a_Mo_way_62 : dk_at b_Mo_way 62 t_Mo_way_62 := dk_go 3 a_Mo_way_59 rfl
theorem a_Mo_way_63 : dk_at b_Mo_way 63 t_Mo_way_63 := dk_go 1 a_Mo_way_62 rfl
theorem a_Mo_way_66 : dk_at b_Mo_way 66 t_Mo_way_66 := dk_go 3 a_Mo_way_63 rfl
theorem a_Mo_way_67 : dk_at b_Mo_way 67 t_Mo_way_67 := dk_go 1 a_Mo_way_66 rfl
theorem a_Mo_way_68 : dk_at b_Mo_way 68 t_Mo_way_68 := dk_go 1 a_Mo_way_67 rfl
theorem a_Mo_way_71 : dk_at b_Mo_way 71 t_Mo_way_71 := dk_go 3 a_Mo_way_68 rfl
theorem a_Mo_way_72 : dk_at b_Mo_way 72 t_Mo_way_72 := dk_go 1 a_Mo_way_71 rfl
theorem a_Mo_way_75 : dk_at b_Mo_way 75 t_Mo_way_75 := dk_go 3 a_Mo_way_72 rfl
theorem a_Mo_way_77 : dk_at b_Mo_way 77 t_Mo_way_77 := dk_go 2 a_Mo_way_75 rfl
theorem a_Mo_way_78 : dk_at b_Mo_way 78 t_Mo_way_78 := dk_go 1 a_Mo_way_77 rfl
theorem a_Mo_way_79 : dk_at b_Mo_way 79 t_Mo_way_79 := dk_go 1 a_Mo_way_78 rfl
theorem a_Mo_way_80 : dk_at b_Mo_way 80 t_Mo_way_80 := dk_go 1 a_Mo_way_79 rfl
theorem a_Mo_way_81 : dk_at b_Mo_way 81 t_Mo_way_81 := dk_go 1 a_Mo_way_80 rfl
theorem a_Mo_way_82 : dk_at b_Mo_way 82 t_Mo_way_82 := dk_go 1 a_Mo_way_81 rfl
theorem a_Mo_way_83 : dk_at b_Mo_way 83 t_Mo_way_83 := dk_go 1 a_Mo_way_82 rfl
theorem a_Mo_way_84 : dk_at b_Mo_way 84 t_Mo_way_84 := dk_go 1 a_Mo_way_83 rfl
theorem a_Mo_way_85 : dk_at b_Mo_way 85 t_Mo_way_85 := dk_go 1 a_Mo_way_84 rfl
theorem a_Mo_way_86 : dk_at b_Mo_way 86 t_Mo_way_86 := dk_go 1 a_Mo_way_85 rfl
theorem d_Mo_way_0 : decode b_Mo_way 0 = .ok (.iload_n 1, 1) := dk_0 a_Mo_way_0 (dko_27 _)
theorem d_Mo_way_1 : decode b_Mo_way 1 = .ok (.ifCond .lt 27, 3) := dk_S2 a_Mo_way_1 (dko_155 _) (by decide +kernel)
theorem d_Mo_way_4 : decode b_Mo_way 4 = .ok (.iload_n 1, 1) := dk_0 a_Mo_way_4 (dko_27 _)
theorem d_Mo_way_5 : decode b_Mo_way 5 = .ok (.aload_n 0, 1) := dk_0 a_Mo_way_5 (dko_42 _)
theorem d_Mo_way_6 : decode b_Mo_way 6 = .ok (.getfield 284, 3) := dk_U2 a_Mo_way_6 (dko_180 _) rfl
theorem d_Mo_way_9 : decode b_Mo_way 9 = .ok (.if_icmp .ge 19, 3) := dk_S2 a_Mo_way_9 (dko_162 _) (by decide +kernel)
theorem d_Mo_way_28 : decode b_Mo_way 28 = .ok (.iconst (-1), 1) := dk_0 a_Mo_way_28 (dko_2 _)
theorem d_Mo_way_29 : decode b_Mo_way 29 = .ok (.ireturn, 1) := dk_0 a_Mo_way_29 (dko_172 _)
set_option maxHeartbeats 4000000 in
set_option maxRecDepth 100000 in
theorem c_Mo_way (l : Launch) (dC : Nat → ClassId) (dI : Nat → Nat → Nat) (cI cB cZ cJ : ClassId) (kk : Int32) (wh : Int32) (oM : Nat) (fm : List Value) (hm_ways : fx fm 26 (.int 0)) (sz : Nat) : Met l y_Mo_way w_Mo_way ({ frames := 0, cells := 0, slots := 0, locals := 0 }) (va_Pc [.ref oM, .int kk, .int wh] (PW dC dI cI cB cZ cJ [(oM, .inr (12, fm))] sz)) (va_Qi (fun (r : Int32) (_ : Unit) => r = (-1)) (fun _ _ => True) (va_A [] sz)) 0 0 (va_A [] sz) := by
  refine Met.ofW (cc := b_Mo_way) (maxL := 3) (ret := (some .int)) (by decide) rfl ?_
  intro p e s m args below meth c s₁ B hml hv
  obtain ⟨rfl, hsz, hP, hK, hD⟩ := hv
  have hx := B.exec
  have hb := B.bytes
  have hr := B.returns
  have hts := atoms_spec (ws := w_Mo_way) B.pre
  have hown : s.vm.findClass R_Mo = some m.cls := findClass_of_methodNamed B.named
  have hlocks := B.notSynchronized
  subst hsz
  generalize hAe : va_A [] s.heap.size = A at ⊢
  have hA : ∀ q : Nat, s.heap.size ≤ q → A q := fun q h => by rw [← hAe]; exact Or.inr h
  have hS : va_S A s.heap s.heap [] := va_S.rf
  have hP : va_P (dC, dI) classes [(oM, .inr (12, fm))] s.heap := hP
  have hl := lv_entry ([.ref oM, .int kk, .int wh]) (n := 3) (Nat.le_of_ble_eq_true rfl)
  rw [lg_entry_eq]
  generalize (lg_sl ([.ref oM, .int kk, .int wh]) ++ List.replicate (3 - (lg_sl ([.ref oM, .int kk, .int wh])).length) Slot.unset).toArray = ls at hl ⊢
  have hl : lv_has ls 3 [(0, .ref oM), (1, .int kk), (2, .int wh)] := hl
  refine lv_iload_n hx hb d_Mo_way_0 rfl (lv_at hl 1 rfl) ?_
  refine lv_if_lt (tgt := 28) hx hb d_Mo_way_1 (by decide) (fun h1 => ?_) (fun h1 => ?_)
  · refine lv_iconst (v := (-1)) hx hb d_Mo_way_28 (by decide) ?_
    exact W.iret (v := (-1)) hx hb hr (fun t ht hW => ⟨⟨_, (), rfl, (rfl), trivial⟩, hS.F ht⟩) hS.2.2 d_Mo_way_29
  · refine lv_iload_n hx hb d_Mo_way_4 rfl (lv_at hl 1 rfl) ?_
    refine lv_aload_n hx hb d_Mo_way_5 rfl (lv_at hl 0 rfl) ?_
    refine va_get (D := (dC, dI)) (ci := 12) (v := .int 0) (C := R_Mo) (T := F_Mo) (N := 87) hx hb hts (fun w h => List.mem_cons_of_mem _ (in_Mo w h)) hown hK.1 hP 0 rfl rfl 26 (by decide) (hts _ (List.mem_cons_of_mem _ mw_1820)) (fun _ h9 => h9) hm_ways d_Mo_way_6 ?_
    refine lv_icmp_ge (tgt := 28) hx hb d_Mo_way_9 (by decide) (fun _ => ?_) (fun h => absurd (nd_le h1 (by decide)) h)
    refine lv_iconst (v := (-1)) hx hb d_Mo_way_28 (by decide) ?_
    exact W.iret (v := (-1)) hx hb hr (fun t ht hW => ⟨⟨_, (), rfl, (rfl), trivial⟩, hS.F ht⟩) hS.2.2 d_Mo_way_29
abbrev t_Mo_alarm_56 : List UInt8 := 172 :: []
abbrev t_Mo_alarm_55 : List UInt8 := 2 :: t_Mo_alarm_56
abbrev t_Mo_alarm_52 : List UInt8 := 167 :: 0 :: 4 :: t_Mo_alarm_55
abbrev t_Mo_alarm_51 : List UInt8 := 46 :: t_Mo_alarm_52
abbrev t_Mo_alarm_50 : List UInt8 := 27 :: t_Mo_alarm_51
abbrev t_Mo_alarm_47 : List UInt8 := 180 :: 0 :: 208 :: t_Mo_alarm_50
abbrev t_Mo_alarm_46 : List UInt8 := 42 :: t_Mo_alarm_47
abbrev t_Mo_alarm_43 : List UInt8 := 160 :: 0 :: 12 :: t_Mo_alarm_46
abbrev t_Mo_alarm_42 : List UInt8 := 5 :: t_Mo_alarm_43
abbrev t_Mo_alarm_41 : List UInt8 := 28 :: t_Mo_alarm_42
abbrev t_Mo_alarm_38 : List UInt8 := 167 :: 0 :: 18 :: t_Mo_alarm_41
abbrev t_Mo_alarm_37 : List UInt8 := 46 :: t_Mo_alarm_38
abbrev t_Mo_alarm_36 : List UInt8 := 27 :: t_Mo_alarm_37
abbrev t_Mo_alarm_33 : List UInt8 := 180 :: 0 :: 205 :: t_Mo_alarm_36
abbrev t_Mo_alarm_32 : List UInt8 := 42 :: t_Mo_alarm_33
abbrev t_Mo_alarm_29 : List UInt8 := 160 :: 0 :: 12 :: t_Mo_alarm_32
abbrev t_Mo_alarm_28 : List UInt8 := 4 :: t_Mo_alarm_29
abbrev t_Mo_alarm_27 : List UInt8 := 28 :: t_Mo_alarm_28
abbrev t_Mo_alarm_24 : List UInt8 := 167 :: 0 :: 32 :: t_Mo_alarm_27
abbrev t_Mo_alarm_23 : List UInt8 := 46 :: t_Mo_alarm_24
abbrev t_Mo_alarm_22 : List UInt8 := 27 :: t_Mo_alarm_23
abbrev t_Mo_alarm_19 : List UInt8 := 180 :: 0 :: 202 :: t_Mo_alarm_22
abbrev t_Mo_alarm_18 : List UInt8 := 42 :: t_Mo_alarm_19
abbrev t_Mo_alarm_15 : List UInt8 := 154 :: 0 :: 12 :: t_Mo_alarm_18
abbrev t_Mo_alarm_14 : List UInt8 := 28 :: t_Mo_alarm_15
abbrev t_Mo_alarm_13 : List UInt8 := 172 :: t_Mo_alarm_14
abbrev t_Mo_alarm_12 : List UInt8 := 2 :: t_Mo_alarm_13
abbrev t_Mo_alarm_9 : List UInt8 := 161 :: 0 :: 5 :: t_Mo_alarm_12
abbrev t_Mo_alarm_6 : List UInt8 := 180 :: 1 :: 177 :: t_Mo_alarm_9
abbrev t_Mo_alarm_5 : List UInt8 := 42 :: t_Mo_alarm_6
abbrev t_Mo_alarm_4 : List UInt8 := 27 :: t_Mo_alarm_5
abbrev t_Mo_alarm_1 : List UInt8 := 155 :: 0 :: 11 :: t_Mo_alarm_4
abbrev t_Mo_alarm_0 : List UInt8 := 27 :: t_Mo_alarm_1
theorem a_Mo_alarm_0 : dk_at b_Mo_alarm 0 t_Mo_alarm_0 := dk_start (by decide +kernel)
theorem a_Mo_alarm_1 : dk_at b_Mo_alarm 1 t_Mo_alarm_1 := dk_go 1 a_Mo_alarm_0 rfl
theorem a_Mo_alarm_4 : dk_at b_Mo_alarm 4 t_Mo_alarm_4 := dk_go 3 a_Mo_alarm_1 rfl
theorem a_Mo_alarm_5 : dk_at b_Mo_alarm 5 t_Mo_alarm_5 := dk_go 1 a_Mo_alarm_4 rfl
theorem a_Mo_alarm_6 : dk_at b_Mo_alarm 6 t_Mo_alarm_6 := dk_go 1 a_Mo_alarm_5 rfl
theorem a_Mo_alarm_9 : dk_at b_Mo_alarm 9 t_Mo_alarm_9 := dk_go 3 a_Mo_alarm_6 rfl
theorem a_Mo_alarm_12 : dk_at b_Mo_alarm 12 t_Mo_alarm_12 := dk_go 3 a_Mo_alarm_9 rfl
theorem a_Mo_alarm_13 : dk_at b_Mo_alarm 13 t_Mo_alarm_13 := dk_go 1 a_Mo_alarm_12 rfl
theorem a_Mo_alarm_14 : dk_at b_Mo_alarm 14 t_Mo_alarm_14 := dk_go 1 a_Mo_alarm_13 rfl
theorem a_Mo_alarm_15 : dk_at b_Mo_alarm 15 t_Mo_alarm_15 := dk_go 1 a_Mo_alarm_14 rfl
theorem a_Mo_alarm_18 : dk_at b_Mo_alarm 18 t_Mo_alarm_18 := dk_go 3 a_Mo_alarm_15 rfl
theorem a_Mo_alarm_19 : dk_at b_Mo_alarm 19 t_Mo_alarm_19 := dk_go 1 a_Mo_alarm_18 rfl
theorem a_Mo_alarm_22 : dk_at b_Mo_alarm 22 t_Mo_alarm_22 := dk_go 3 a_Mo_alarm_19 rfl
theorem a_Mo_alarm_23 : dk_at b_Mo_alarm 23 t_Mo_alarm_23 := dk_go 1 a_Mo_alarm_22 rfl
theorem a_Mo_alarm_24 : dk_at b_Mo_alarm 24 t_Mo_alarm_24 := dk_go 1 a_Mo_alarm_23 rfl
theorem a_Mo_alarm_27 : dk_at b_Mo_alarm 27 t_Mo_alarm_27 := dk_go 3 a_Mo_alarm_24 rfl
theorem a_Mo_alarm_28 : dk_at b_Mo_alarm 28 t_Mo_alarm_28 := dk_go 1 a_Mo_alarm_27 rfl
theorem a_Mo_alarm_29 : dk_at b_Mo_alarm 29 t_Mo_alarm_29 := dk_go 1 a_Mo_alarm_28 rfl
theorem a_Mo_alarm_32 : dk_at b_Mo_alarm 32 t_Mo_alarm_32 := dk_go 3 a_Mo_alarm_29 rfl
theorem a_Mo_alarm_33 : dk_at b_Mo_alarm 33 t_Mo_alarm_33 := dk_go 1 a_Mo_alarm_32 rfl
theorem a_Mo_alarm_36 : dk_at b_Mo_alarm 36 t_Mo_alarm_36 := dk_go 3 a_Mo_alarm_33 rfl
theorem a_Mo_alarm_37 : dk_at b_Mo_alarm 37 t_Mo_alarm_37 := dk_go 1 a_Mo_alarm_36 rfl
theorem a_Mo_alarm_38 : dk_at b_Mo_alarm 38 t_Mo_alarm_38 := dk_go 1 a_Mo_alarm_37 rfl
theorem a_Mo_alarm_41 : dk_at b_Mo_alarm 41 t_Mo_alarm_41 := dk_go 3 a_Mo_alarm_38 rfl
theorem a_Mo_alarm_42 : dk_at b_Mo_alarm 42 t_Mo_alarm_42 := dk_go 1 a_Mo_alarm_41 rfl
theorem a_Mo_alarm_43 : dk_at b_Mo_alarm 43 t_Mo_alarm_43 := dk_go 1 a_Mo_alarm_42 rfl
theorem a_Mo_alarm_46 : dk_at b_Mo_alarm 46 t_Mo_alarm_46 := dk_go 3 a_Mo_alarm_43 rfl
theorem a_Mo_alarm_47 : dk_at b_Mo_alarm 47 t_Mo_alarm_47 := dk_go 1 a_Mo_alarm_46 rfl
theorem a_Mo_alarm_50 : dk_at b_Mo_alarm 50 t_Mo_alarm_50 := dk_go 3 a_Mo_alarm_47 rfl
theorem a_Mo_alarm_51 : dk_at b_Mo_alarm 51 t_Mo_alarm_51 := dk_go 1 a_Mo_alarm_50 rfl
theorem a_Mo_alarm_52 : dk_at b_Mo_alarm 52 t_Mo_alarm_52 := dk_go 1 a_Mo_alarm_51 rfl
theorem a_Mo_alarm_55 : dk_at b_Mo_alarm 55 t_Mo_alarm_55 := dk_go 3 a_Mo_alarm_52 rfl
theorem a_Mo_alarm_56 : dk_at b_Mo_alarm 56 t_Mo_alarm_56 := dk_go 1 a_Mo_alarm_55 rfl
theorem d_Mo_alarm_0 : decode b_Mo_alarm 0 = .ok (.iload_n 1, 1) := dk_0 a_Mo_alarm_0 (dko_27 _)
theorem d_Mo_alarm_1 : decode b_Mo_alarm 1 = .ok (.ifCond .lt 11, 3) := dk_S2 a_Mo_alarm_1 (dko_155 _) (by decide +kernel)
theorem d_Mo_alarm_4 : decode b_Mo_alarm 4 = .ok (.iload_n 1, 1) := dk_0 a_Mo_alarm_4 (dko_27 _)
theorem d_Mo_alarm_5 : decode b_Mo_alarm 5 = .ok (.aload_n 0, 1) := dk_0 a_Mo_alarm_5 (dko_42 _)
theorem d_Mo_alarm_6 : decode b_Mo_alarm 6 = .ok (.getfield 433, 3) := dk_U2 a_Mo_alarm_6 (dko_180 _) rfl
theorem d_Mo_alarm_9 : decode b_Mo_alarm 9 = .ok (.if_icmp .lt 5, 3) := dk_S2 a_Mo_alarm_9 (dko_161 _) (by decide +kernel)
theorem d_Mo_alarm_12 : decode b_Mo_alarm 12 = .ok (.iconst (-1), 1) := dk_0 a_Mo_alarm_12 (dko_2 _)
theorem d_Mo_alarm_13 : decode b_Mo_alarm 13 = .ok (.ireturn, 1) := dk_0 a_Mo_alarm_13 (dko_172 _)
set_option maxHeartbeats 4000000 in
set_option maxRecDepth 100000 in
theorem c_Mo_alarm (l : Launch) (dC : Nat → ClassId) (dI : Nat → Nat → Nat) (cI cB cZ cJ : ClassId) (kk : Int32) (wh : Int32) (oM : Nat) (fm : List Value) (hm_alarms : fx fm 79 (.int 0)) (sz : Nat) : Met l y_Mo_alarm w_Mo_alarm ({ frames := 0, cells := 0, slots := 0, locals := 0 }) (va_Pc [.ref oM, .int kk, .int wh] (PW dC dI cI cB cZ cJ [(oM, .inr (12, fm))] sz)) (va_Qi (fun (r : Int32) (_ : Unit) => r = (-1)) (fun _ _ => True) (va_A [] sz)) 0 0 (va_A [] sz) := by
  refine Met.ofW (cc := b_Mo_alarm) (maxL := 3) (ret := (some .int)) (by decide) rfl ?_
  intro p e s m args below meth c s₁ B hml hv
  obtain ⟨rfl, hsz, hP, hK, hD⟩ := hv
  have hx := B.exec
  have hb := B.bytes
  have hr := B.returns
  have hts := atoms_spec (ws := w_Mo_alarm) B.pre
  have hown : s.vm.findClass R_Mo = some m.cls := findClass_of_methodNamed B.named
  have hlocks := B.notSynchronized
  subst hsz
  generalize hAe : va_A [] s.heap.size = A at ⊢
  have hA : ∀ q : Nat, s.heap.size ≤ q → A q := fun q h => by rw [← hAe]; exact Or.inr h
  have hS : va_S A s.heap s.heap [] := va_S.rf
  have hP : va_P (dC, dI) classes [(oM, .inr (12, fm))] s.heap := hP
  have hl := lv_entry ([.ref oM, .int kk, .int wh]) (n := 3) (Nat.le_of_ble_eq_true rfl)
  rw [lg_entry_eq]
  generalize (lg_sl ([.ref oM, .int kk, .int wh]) ++ List.replicate (3 - (lg_sl ([.ref oM, .int kk, .int wh])).length) Slot.unset).toArray = ls at hl ⊢
  have hl : lv_has ls 3 [(0, .ref oM), (1, .int kk), (2, .int wh)] := hl
  refine lv_iload_n hx hb d_Mo_alarm_0 rfl (lv_at hl 1 rfl) ?_
  refine lv_if_lt (tgt := 12) hx hb d_Mo_alarm_1 (by decide) (fun h1 => ?_) (fun h1 => ?_)
  · refine lv_iconst (v := (-1)) hx hb d_Mo_alarm_12 (by decide) ?_
    exact W.iret (v := (-1)) hx hb hr (fun t ht hW => ⟨⟨_, (), rfl, (rfl), trivial⟩, hS.F ht⟩) hS.2.2 d_Mo_alarm_13
  · refine lv_iload_n hx hb d_Mo_alarm_4 rfl (lv_at hl 1 rfl) ?_
    refine lv_aload_n hx hb d_Mo_alarm_5 rfl (lv_at hl 0 rfl) ?_
    refine va_get (D := (dC, dI)) (ci := 12) (v := .int 0) (C := R_Mo) (T := F_Mo) (N := 87) hx hb hts (fun w h => List.mem_cons_of_mem _ (in_Mo w h)) hown hK.1 hP 0 rfl rfl 79 (by decide) (hts _ (List.mem_cons_of_mem _ mw_1873)) (fun _ h9 => h9) hm_alarms d_Mo_alarm_6 ?_
    refine lv_icmp_lt (tgt := 14) hx hb d_Mo_alarm_9 (by decide) (fun h => absurd h (nv_lt h1 (by decide))) (fun _ => ?_)
    refine lv_iconst (v := (-1)) hx hb d_Mo_alarm_12 (by decide) ?_
    exact W.iret (v := (-1)) hx hb hr (fun t ht hW => ⟨⟨_, (), rfl, (rfl), trivial⟩, hS.F ht⟩) hS.2.2 d_Mo_alarm_13
abbrev t_Mo_hold_46 : List UInt8 := 172 :: []
abbrev t_Mo_hold_45 : List UInt8 := 4 :: t_Mo_hold_46
abbrev t_Mo_hold_42 : List UInt8 := 182 :: 0 :: 231 :: t_Mo_hold_45
abbrev t_Mo_hold_41 : List UInt8 := 42 :: t_Mo_hold_42
abbrev t_Mo_hold_38 : List UInt8 := 153 :: 0 :: 7 :: t_Mo_hold_41
abbrev t_Mo_hold_37 : List UInt8 := 27 :: t_Mo_hold_38
abbrev t_Mo_hold_34 : List UInt8 := 181 :: 0 :: 162 :: t_Mo_hold_37
abbrev t_Mo_hold_33 : List UInt8 := 3 :: t_Mo_hold_34
abbrev t_Mo_hold_30 : List UInt8 := 167 :: 0 :: 4 :: t_Mo_hold_33
abbrev t_Mo_hold_29 : List UInt8 := 5 :: t_Mo_hold_30
abbrev t_Mo_hold_26 : List UInt8 := 153 :: 0 :: 7 :: t_Mo_hold_29
abbrev t_Mo_hold_25 : List UInt8 := 27 :: t_Mo_hold_26
abbrev t_Mo_hold_24 : List UInt8 := 42 :: t_Mo_hold_25
abbrev t_Mo_hold_23 : List UInt8 := 172 :: t_Mo_hold_24
abbrev t_Mo_hold_22 : List UInt8 := 3 :: t_Mo_hold_23
abbrev t_Mo_hold_19 : List UInt8 := 159 :: 0 :: 5 :: t_Mo_hold_22
abbrev t_Mo_hold_18 : List UInt8 := 5 :: t_Mo_hold_19
abbrev t_Mo_hold_15 : List UInt8 := 180 :: 0 :: 162 :: t_Mo_hold_18
abbrev t_Mo_hold_14 : List UInt8 := 42 :: t_Mo_hold_15
abbrev t_Mo_hold_11 : List UInt8 := 167 :: 0 :: 11 :: t_Mo_hold_14
abbrev t_Mo_hold_8 : List UInt8 := 153 :: 0 :: 16 :: t_Mo_hold_11
abbrev t_Mo_hold_5 : List UInt8 := 180 :: 0 :: 162 :: t_Mo_hold_8
abbrev t_Mo_hold_4 : List UInt8 := 42 :: t_Mo_hold_5
abbrev t_Mo_hold_1 : List UInt8 := 153 :: 0 :: 13 :: t_Mo_hold_4
abbrev t_Mo_hold_0 : List UInt8 := 27 :: t_Mo_hold_1
theorem a_Mo_hold_0 : dk_at b_Mo_hold 0 t_Mo_hold_0 := dk_start (by decide +kernel)
theorem a_Mo_hold_1 : dk_at b_Mo_hold 1 t_Mo_hold_1 := dk_go 1 a_Mo_hold_0 rfl
theorem a_Mo_hold_4 : dk_at b_Mo_hold 4 t_Mo_hold_4 := dk_go 3 a_Mo_hold_1 rfl
theorem a_Mo_hold_5 : dk_at b_Mo_hold 5 t_Mo_hold_5 := dk_go 1 a_Mo_hold_4 rfl
theorem a_Mo_hold_8 : dk_at b_Mo_hold 8 t_Mo_hold_8 := dk_go 3 a_Mo_hold_5 rfl
theorem a_Mo_hold_11 : dk_at b_Mo_hold 11 t_Mo_hold_11 := dk_go 3 a_Mo_hold_8 rfl
theorem a_Mo_hold_14 : dk_at b_Mo_hold 14 t_Mo_hold_14 := dk_go 3 a_Mo_hold_11 rfl
theorem a_Mo_hold_15 : dk_at b_Mo_hold 15 t_Mo_hold_15 := dk_go 1 a_Mo_hold_14 rfl
theorem a_Mo_hold_18 : dk_at b_Mo_hold 18 t_Mo_hold_18 := dk_go 3 a_Mo_hold_15 rfl
theorem a_Mo_hold_19 : dk_at b_Mo_hold 19 t_Mo_hold_19 := dk_go 1 a_Mo_hold_18 rfl
theorem a_Mo_hold_22 : dk_at b_Mo_hold 22 t_Mo_hold_22 := dk_go 3 a_Mo_hold_19 rfl
theorem a_Mo_hold_23 : dk_at b_Mo_hold 23 t_Mo_hold_23 := dk_go 1 a_Mo_hold_22 rfl
theorem a_Mo_hold_24 : dk_at b_Mo_hold 24 t_Mo_hold_24 := dk_go 1 a_Mo_hold_23 rfl
theorem a_Mo_hold_25 : dk_at b_Mo_hold 25 t_Mo_hold_25 := dk_go 1 a_Mo_hold_24 rfl
theorem a_Mo_hold_26 : dk_at b_Mo_hold 26 t_Mo_hold_26 := dk_go 1 a_Mo_hold_25 rfl
theorem a_Mo_hold_29 : dk_at b_Mo_hold 29 t_Mo_hold_29 := dk_go 3 a_Mo_hold_26 rfl
theorem a_Mo_hold_30 : dk_at b_Mo_hold 30 t_Mo_hold_30 := dk_go 1 a_Mo_hold_29 rfl
theorem a_Mo_hold_33 : dk_at b_Mo_hold 33 t_Mo_hold_33 := dk_go 3 a_Mo_hold_30 rfl
theorem a_Mo_hold_34 : dk_at b_Mo_hold 34 t_Mo_hold_34 := dk_go 1 a_Mo_hold_33 rfl
theorem a_Mo_hold_37 : dk_at b_Mo_hold 37 t_Mo_hold_37 := dk_go 3 a_Mo_hold_34 rfl
theorem a_Mo_hold_38 : dk_at b_Mo_hold 38 t_Mo_hold_38 := dk_go 1 a_Mo_hold_37 rfl
theorem a_Mo_hold_41 : dk_at b_Mo_hold 41 t_Mo_hold_41 := dk_go 3 a_Mo_hold_38 rfl
theorem a_Mo_hold_42 : dk_at b_Mo_hold 42 t_Mo_hold_42 := dk_go 1 a_Mo_hold_41 rfl
theorem a_Mo_hold_45 : dk_at b_Mo_hold 45 t_Mo_hold_45 := dk_go 3 a_Mo_hold_42 rfl
theorem a_Mo_hold_46 : dk_at b_Mo_hold 46 t_Mo_hold_46 := dk_go 1 a_Mo_hold_45 rfl
theorem d_Mo_hold_0 : decode b_Mo_hold 0 = .ok (.iload_n 1, 1) := dk_0 a_Mo_hold_0 (dko_27 _)
theorem d_Mo_hold_1 : decode b_Mo_hold 1 = .ok (.ifCond .eq 13, 3) := dk_S2 a_Mo_hold_1 (dko_153 _) (by decide +kernel)
theorem d_Mo_hold_4 : decode b_Mo_hold 4 = .ok (.aload_n 0, 1) := dk_0 a_Mo_hold_4 (dko_42 _)
theorem d_Mo_hold_5 : decode b_Mo_hold 5 = .ok (.getfield 162, 3) := dk_U2 a_Mo_hold_5 (dko_180 _) rfl
theorem d_Mo_hold_8 : decode b_Mo_hold 8 = .ok (.ifCond .eq 16, 3) := dk_S2 a_Mo_hold_8 (dko_153 _) (by decide +kernel)
theorem d_Mo_hold_11 : decode b_Mo_hold 11 = .ok (.goto 11, 3) := dk_S2 a_Mo_hold_11 (dko_167 _) (by decide +kernel)
theorem d_Mo_hold_14 : decode b_Mo_hold 14 = .ok (.aload_n 0, 1) := dk_0 a_Mo_hold_14 (dko_42 _)
theorem d_Mo_hold_15 : decode b_Mo_hold 15 = .ok (.getfield 162, 3) := dk_U2 a_Mo_hold_15 (dko_180 _) rfl
theorem d_Mo_hold_18 : decode b_Mo_hold 18 = .ok (.iconst 2, 1) := dk_0 a_Mo_hold_18 (dko_5 _)
theorem d_Mo_hold_19 : decode b_Mo_hold 19 = .ok (.if_icmp .eq 5, 3) := dk_S2 a_Mo_hold_19 (dko_159 _) (by decide +kernel)
theorem d_Mo_hold_22 : decode b_Mo_hold 22 = .ok (.iconst 0, 1) := dk_0 a_Mo_hold_22 (dko_3 _)
theorem d_Mo_hold_23 : decode b_Mo_hold 23 = .ok (.ireturn, 1) := dk_0 a_Mo_hold_23 (dko_172 _)
set_option maxHeartbeats 4000000 in
set_option maxRecDepth 100000 in
theorem c_Mo_hold (l : Launch) (dC : Nat → ClassId) (dI : Nat → Nat → Nat) (cI cB cZ cJ : ClassId) (on : Int32) (oM : Nat) (fm : List Value) (hm_state : fx fm 59 (.int 4)) (sz : Nat) : Met l y_Mo_hold w_Mo_hold ({ frames := 0, cells := 0, slots := 0, locals := 0 }) (va_Pc [.ref oM, .int on] (PW dC dI cI cB cZ cJ [(oM, .inr (12, fm))] sz)) (va_Qi (fun (r : Int32) (_ : Unit) => r = 0) (fun _ _ => True) (va_A [] sz)) 0 0 (va_A [] sz) := by
  refine Met.ofW (cc := b_Mo_hold) (maxL := 2) (ret := (some .boolean)) (by decide) rfl ?_
  intro p e s m args below meth c s₁ B hml hv
  obtain ⟨rfl, hsz, hP, hK, hD⟩ := hv
  have hx := B.exec
  have hb := B.bytes
  have hr := B.returns
  have hts := atoms_spec (ws := w_Mo_hold) B.pre
  have hown : s.vm.findClass R_Mo = some m.cls := findClass_of_methodNamed B.named
  have hlocks := B.notSynchronized
  subst hsz
  generalize hAe : va_A [] s.heap.size = A at ⊢
  have hA : ∀ q : Nat, s.heap.size ≤ q → A q := fun q h => by rw [← hAe]; exact Or.inr h
  have hS : va_S A s.heap s.heap [] := va_S.rf
  have hP : va_P (dC, dI) classes [(oM, .inr (12, fm))] s.heap := hP
  have hl := lv_entry ([.ref oM, .int on]) (n := 2) (Nat.le_of_ble_eq_true rfl)
  rw [lg_entry_eq]
  generalize (lg_sl ([.ref oM, .int on]) ++ List.replicate (2 - (lg_sl ([.ref oM, .int on])).length) Slot.unset).toArray = ls at hl ⊢
  have hl : lv_has ls 2 [(0, .ref oM), (1, .int on)] := hl
  refine lv_iload_n hx hb d_Mo_hold_0 rfl (lv_at hl 1 rfl) ?_
  refine lv_if_eq (tgt := 14) hx hb d_Mo_hold_1 (by decide) (fun h1 => ?_) (fun h1 => ?_)
  · refine lv_aload_n hx hb d_Mo_hold_14 rfl (lv_at hl 0 rfl) ?_
    refine va_get (D := (dC, dI)) (ci := 12) (v := .int 4) (C := R_Mo) (T := F_Mo) (N := 87) hx hb hts (fun w h => List.mem_cons_of_mem _ (in_Mo w h)) hown hK.1 hP 0 rfl rfl 59 (by decide) (hts _ (List.mem_cons_of_mem _ mw_1853)) (fun _ h9 => h9) hm_state d_Mo_hold_15 ?_
    refine lv_iconst (v := 2) hx hb d_Mo_hold_18 (by decide) ?_
    refine lv_icmp_eq (tgt := 24) hx hb d_Mo_hold_19 (by decide) (fun h => absurd h (by decide)) (fun _ => ?_)
    refine lv_iconst (v := 0) hx hb d_Mo_hold_22 (by decide) ?_
    exact W.zret (v := 0) (ty := .boolean) hx hb hr (by decide) (fun t ht hW => ⟨⟨_, (), rfl, (rfl), trivial⟩, hS.F ht⟩) hS.2.2 d_Mo_hold_23
  · refine lv_aload_n hx hb d_Mo_hold_4 rfl (lv_at hl 0 rfl) ?_
    refine va_get (D := (dC, dI)) (ci := 12) (v := .int 4) (C := R_Mo) (T := F_Mo) (N := 87) hx hb hts (fun w h => List.mem_cons_of_mem _ (in_Mo w h)) hown hK.1 hP 0 rfl rfl 59 (by decide) (hts _ (List.mem_cons_of_mem _ mw_1853)) (fun _ h9 => h9) hm_state d_Mo_hold_5 ?_
    refine lv_if_eq (tgt := 24) hx hb d_Mo_hold_8 (by decide) (fun h => absurd h (by decide)) (fun _ => ?_)
    refine lv_goto (tgt := 22) hx hb d_Mo_hold_11 (by decide) ?_
    refine lv_iconst (v := 0) hx hb d_Mo_hold_22 (by decide) ?_
    exact W.zret (v := 0) (ty := .boolean) hx hb hr (by decide) (fun t ht hW => ⟨⟨_, (), rfl, (rfl), trivial⟩, hS.F ht⟩) hS.2.2 d_Mo_hold_23
abbrev t_Mo_stop_27 : List UInt8 := 172 :: []
abbrev t_Mo_stop_26 : List UInt8 := 4 :: t_Mo_stop_27
abbrev t_Mo_stop_23 : List UInt8 := 182 :: 0 :: 231 :: t_Mo_stop_26
abbrev t_Mo_stop_22 : List UInt8 := 42 :: t_Mo_stop_23
abbrev t_Mo_stop_19 : List UInt8 := 181 :: 0 :: 162 :: t_Mo_stop_22
abbrev t_Mo_stop_18 : List UInt8 := 6 :: t_Mo_stop_19
abbrev t_Mo_stop_17 : List UInt8 := 42 :: t_Mo_stop_18
abbrev t_Mo_stop_16 : List UInt8 := 172 :: t_Mo_stop_17
abbrev t_Mo_stop_15 : List UInt8 := 3 :: t_Mo_stop_16
abbrev t_Mo_stop_12 : List UInt8 := 159 :: 0 :: 5 :: t_Mo_stop_15
abbrev t_Mo_stop_11 : List UInt8 := 5 :: t_Mo_stop_12
abbrev t_Mo_stop_8 : List UInt8 := 180 :: 0 :: 162 :: t_Mo_stop_11
abbrev t_Mo_stop_7 : List UInt8 := 42 :: t_Mo_stop_8
abbrev t_Mo_stop_4 : List UInt8 := 153 :: 0 :: 13 :: t_Mo_stop_7
abbrev t_Mo_stop_1 : List UInt8 := 180 :: 0 :: 162 :: t_Mo_stop_4
abbrev t_Mo_stop_0 : List UInt8 := 42 :: t_Mo_stop_1
theorem a_Mo_stop_0 : dk_at b_Mo_stop 0 t_Mo_stop_0 := dk_start (by decide +kernel)
theorem a_Mo_stop_1 : dk_at b_Mo_stop 1 t_Mo_stop_1 := dk_go 1 a_Mo_stop_0 rfl
theorem a_Mo_stop_4 : dk_at b_Mo_stop 4 t_Mo_stop_4 := dk_go 3 a_Mo_stop_1 rfl
theorem a_Mo_stop_7 : dk_at b_Mo_stop 7 t_Mo_stop_7 := dk_go 3 a_Mo_stop_4 rfl
theorem a_Mo_stop_8 : dk_at b_Mo_stop 8 t_Mo_stop_8 := dk_go 1 a_Mo_stop_7 rfl
theorem a_Mo_stop_11 : dk_at b_Mo_stop 11 t_Mo_stop_11 := dk_go 3 a_Mo_stop_8 rfl
theorem a_Mo_stop_12 : dk_at b_Mo_stop 12 t_Mo_stop_12 := dk_go 1 a_Mo_stop_11 rfl
theorem a_Mo_stop_15 : dk_at b_Mo_stop 15 t_Mo_stop_15 := dk_go 3 a_Mo_stop_12 rfl
theorem a_Mo_stop_16 : dk_at b_Mo_stop 16 t_Mo_stop_16 := dk_go 1 a_Mo_stop_15 rfl
theorem a_Mo_stop_17 : dk_at b_Mo_stop 17 t_Mo_stop_17 := dk_go 1 a_Mo_stop_16 rfl
theorem a_Mo_stop_18 : dk_at b_Mo_stop 18 t_Mo_stop_18 := dk_go 1 a_Mo_stop_17 rfl
theorem a_Mo_stop_19 : dk_at b_Mo_stop 19 t_Mo_stop_19 := dk_go 1 a_Mo_stop_18 rfl
theorem a_Mo_stop_22 : dk_at b_Mo_stop 22 t_Mo_stop_22 := dk_go 3 a_Mo_stop_19 rfl
theorem a_Mo_stop_23 : dk_at b_Mo_stop 23 t_Mo_stop_23 := dk_go 1 a_Mo_stop_22 rfl
theorem a_Mo_stop_26 : dk_at b_Mo_stop 26 t_Mo_stop_26 := dk_go 3 a_Mo_stop_23 rfl
theorem a_Mo_stop_27 : dk_at b_Mo_stop 27 t_Mo_stop_27 := dk_go 1 a_Mo_stop_26 rfl
theorem d_Mo_stop_0 : decode b_Mo_stop 0 = .ok (.aload_n 0, 1) := dk_0 a_Mo_stop_0 (dko_42 _)
theorem d_Mo_stop_1 : decode b_Mo_stop 1 = .ok (.getfield 162, 3) := dk_U2 a_Mo_stop_1 (dko_180 _) rfl
theorem d_Mo_stop_4 : decode b_Mo_stop 4 = .ok (.ifCond .eq 13, 3) := dk_S2 a_Mo_stop_4 (dko_153 _) (by decide +kernel)
theorem d_Mo_stop_7 : decode b_Mo_stop 7 = .ok (.aload_n 0, 1) := dk_0 a_Mo_stop_7 (dko_42 _)
theorem d_Mo_stop_8 : decode b_Mo_stop 8 = .ok (.getfield 162, 3) := dk_U2 a_Mo_stop_8 (dko_180 _) rfl
theorem d_Mo_stop_11 : decode b_Mo_stop 11 = .ok (.iconst 2, 1) := dk_0 a_Mo_stop_11 (dko_5 _)
theorem d_Mo_stop_12 : decode b_Mo_stop 12 = .ok (.if_icmp .eq 5, 3) := dk_S2 a_Mo_stop_12 (dko_159 _) (by decide +kernel)
theorem d_Mo_stop_15 : decode b_Mo_stop 15 = .ok (.iconst 0, 1) := dk_0 a_Mo_stop_15 (dko_3 _)
theorem d_Mo_stop_16 : decode b_Mo_stop 16 = .ok (.ireturn, 1) := dk_0 a_Mo_stop_16 (dko_172 _)
set_option maxHeartbeats 4000000 in
set_option maxRecDepth 100000 in
theorem c_Mo_stop (l : Launch) (dC : Nat → ClassId) (dI : Nat → Nat → Nat) (cI cB cZ cJ : ClassId) (oM : Nat) (fm : List Value) (hm_state : fx fm 59 (.int 4)) (sz : Nat) : Met l y_Mo_stop w_Mo_stop ({ frames := 0, cells := 0, slots := 0, locals := 0 }) (va_Pc [.ref oM] (PW dC dI cI cB cZ cJ [(oM, .inr (12, fm))] sz)) (va_Qi (fun (r : Int32) (_ : Unit) => r = 0) (fun _ _ => True) (va_A [] sz)) 0 0 (va_A [] sz) := by
  refine Met.ofW (cc := b_Mo_stop) (maxL := 1) (ret := (some .boolean)) (by decide) rfl ?_
  intro p e s m args below meth c s₁ B hml hv
  obtain ⟨rfl, hsz, hP, hK, hD⟩ := hv
  have hx := B.exec
  have hb := B.bytes
  have hr := B.returns
  have hts := atoms_spec (ws := w_Mo_stop) B.pre
  have hown : s.vm.findClass R_Mo = some m.cls := findClass_of_methodNamed B.named
  have hlocks := B.notSynchronized
  subst hsz
  generalize hAe : va_A [] s.heap.size = A at ⊢
  have hA : ∀ q : Nat, s.heap.size ≤ q → A q := fun q h => by rw [← hAe]; exact Or.inr h
  have hS : va_S A s.heap s.heap [] := va_S.rf
  have hP : va_P (dC, dI) classes [(oM, .inr (12, fm))] s.heap := hP
  have hl := lv_entry ([.ref oM]) (n := 1) (Nat.le_of_ble_eq_true rfl)
  rw [lg_entry_eq]
  generalize (lg_sl ([.ref oM]) ++ List.replicate (1 - (lg_sl ([.ref oM])).length) Slot.unset).toArray = ls at hl ⊢
  have hl : lv_has ls 1 [(0, .ref oM)] := hl
  refine lv_aload_n hx hb d_Mo_stop_0 rfl (lv_at hl 0 rfl) ?_
  refine va_get (D := (dC, dI)) (ci := 12) (v := .int 4) (C := R_Mo) (T := F_Mo) (N := 87) hx hb hts (fun w h => List.mem_cons_of_mem _ (in_Mo w h)) hown hK.1 hP 0 rfl rfl 59 (by decide) (hts _ (List.mem_cons_of_mem _ mw_1853)) (fun _ h9 => h9) hm_state d_Mo_stop_1 ?_
  refine lv_if_eq (tgt := 17) hx hb d_Mo_stop_4 (by decide) (fun h => absurd h (by decide)) (fun _ => ?_)
  refine lv_aload_n hx hb d_Mo_stop_7 rfl (lv_at hl 0 rfl) ?_
  refine va_get (D := (dC, dI)) (ci := 12) (v := .int 4) (C := R_Mo) (T := F_Mo) (N := 87) hx hb hts (fun w h => List.mem_cons_of_mem _ (in_Mo w h)) hown hK.1 hP 0 rfl rfl 59 (by decide) (hts _ (List.mem_cons_of_mem _ mw_1853)) (fun _ h9 => h9) hm_state d_Mo_stop_8 ?_
  refine lv_iconst (v := 2) hx hb d_Mo_stop_11 (by decide) ?_
  refine lv_icmp_eq (tgt := 17) hx hb d_Mo_stop_12 (by decide) (fun h => absurd h (by decide)) (fun _ => ?_)
  refine lv_iconst (v := 0) hx hb d_Mo_stop_15 (by decide) ?_
  exact W.zret (v := 0) (ty := .boolean) hx hb hr (by decide) (fun t ht hW => ⟨⟨_, (), rfl, (rfl), trivial⟩, hS.F ht⟩) hS.2.2 d_Mo_stop_16
abbrev t_Mo_start_309 : List UInt8 := 172 :: []
abbrev t_Mo_start_308 : List UInt8 := 4 :: t_Mo_start_309
abbrev t_Mo_start_305 : List UInt8 := 181 :: 1 :: 177 :: t_Mo_start_308
abbrev t_Mo_start_304 : List UInt8 := 3 :: t_Mo_start_305
abbrev t_Mo_start_303 : List UInt8 := 42 :: t_Mo_start_304
abbrev t_Mo_start_300 : List UInt8 := 181 :: 2 :: 8 :: t_Mo_start_303
abbrev t_Mo_start_299 : List UInt8 := 3 :: t_Mo_start_300
abbrev t_Mo_start_298 : List UInt8 := 42 :: t_Mo_start_299
abbrev t_Mo_start_295 : List UInt8 := 181 :: 0 :: 162 :: t_Mo_start_298
abbrev t_Mo_start_294 : List UInt8 := 3 :: t_Mo_start_295
abbrev t_Mo_start_293 : List UInt8 := 42 :: t_Mo_start_294
abbrev t_Mo_start_290 : List UInt8 := 167 :: 255 :: 189 :: t_Mo_start_293
abbrev t_Mo_start_287 : List UInt8 := 132 :: 3 :: 1 :: t_Mo_start_290
abbrev t_Mo_start_286 : List UInt8 := 80 :: t_Mo_start_287
abbrev t_Mo_start_285 : List UInt8 := 9 :: t_Mo_start_286
abbrev t_Mo_start_282 : List UInt8 := 167 :: 0 :: 4 :: t_Mo_start_285
abbrev t_Mo_start_281 : List UInt8 := 47 :: t_Mo_start_282
abbrev t_Mo_start_280 : List UInt8 := 29 :: t_Mo_start_281
abbrev t_Mo_start_277 : List UInt8 := 180 :: 0 :: 159 :: t_Mo_start_280
abbrev t_Mo_start_276 : List UInt8 := 42 :: t_Mo_start_277
abbrev t_Mo_start_273 : List UInt8 := 153 :: 0 :: 12 :: t_Mo_start_276
abbrev t_Mo_start_271 : List UInt8 := 21 :: 4 :: t_Mo_start_273
abbrev t_Mo_start_270 : List UInt8 := 29 :: t_Mo_start_271
abbrev t_Mo_start_267 : List UInt8 := 180 :: 0 :: 159 :: t_Mo_start_270
abbrev t_Mo_start_266 : List UInt8 := 42 :: t_Mo_start_267
abbrev t_Mo_start_264 : List UInt8 := 54 :: 4 :: t_Mo_start_266
abbrev t_Mo_start_263 : List UInt8 := 3 :: t_Mo_start_264
abbrev t_Mo_start_260 : List UInt8 := 167 :: 0 :: 4 :: t_Mo_start_263
abbrev t_Mo_start_259 : List UInt8 := 4 :: t_Mo_start_260
abbrev t_Mo_start_256 : List UInt8 := 162 :: 0 :: 7 :: t_Mo_start_259
abbrev t_Mo_start_255 : List UInt8 := 8 :: t_Mo_start_256
abbrev t_Mo_start_254 : List UInt8 := 46 :: t_Mo_start_255
abbrev t_Mo_start_253 : List UInt8 := 29 :: t_Mo_start_254
abbrev t_Mo_start_250 : List UInt8 := 180 :: 0 :: 144 :: t_Mo_start_253
abbrev t_Mo_start_249 : List UInt8 := 42 :: t_Mo_start_250
abbrev t_Mo_start_246 : List UInt8 := 159 :: 0 :: 17 :: t_Mo_start_249
abbrev t_Mo_start_245 : List UInt8 := 2 :: t_Mo_start_246
abbrev t_Mo_start_244 : List UInt8 := 46 :: t_Mo_start_245
abbrev t_Mo_start_243 : List UInt8 := 29 :: t_Mo_start_244
abbrev t_Mo_start_240 : List UInt8 := 180 :: 0 :: 144 :: t_Mo_start_243
abbrev t_Mo_start_239 : List UInt8 := 42 :: t_Mo_start_240
abbrev t_Mo_start_236 : List UInt8 := 153 :: 0 :: 27 :: t_Mo_start_239
abbrev t_Mo_start_233 : List UInt8 := 182 :: 1 :: 195 :: t_Mo_start_236
abbrev t_Mo_start_231 : List UInt8 := 16 :: 30 :: t_Mo_start_233
abbrev t_Mo_start_230 : List UInt8 := 29 :: t_Mo_start_231
abbrev t_Mo_start_229 : List UInt8 := 42 :: t_Mo_start_230
abbrev t_Mo_start_226 : List UInt8 := 162 :: 0 :: 67 :: t_Mo_start_229
abbrev t_Mo_start_224 : List UInt8 := 16 :: 40 :: t_Mo_start_226
abbrev t_Mo_start_223 : List UInt8 := 29 :: t_Mo_start_224
abbrev t_Mo_start_222 : List UInt8 := 62 :: t_Mo_start_223
abbrev t_Mo_start_221 : List UInt8 := 3 :: t_Mo_start_222
abbrev t_Mo_start_220 : List UInt8 := 79 :: t_Mo_start_221
abbrev t_Mo_start_219 : List UInt8 := 46 :: t_Mo_start_220
abbrev t_Mo_start_218 : List UInt8 := 3 :: t_Mo_start_219
abbrev t_Mo_start_215 : List UInt8 := 180 :: 0 :: 169 :: t_Mo_start_218
abbrev t_Mo_start_214 : List UInt8 := 42 :: t_Mo_start_215
abbrev t_Mo_start_213 : List UInt8 := 3 :: t_Mo_start_214
abbrev t_Mo_start_210 : List UInt8 := 180 :: 0 :: 184 :: t_Mo_start_213
abbrev t_Mo_start_209 : List UInt8 := 42 :: t_Mo_start_210
abbrev t_Mo_start_206 : List UInt8 := 167 :: 255 :: 184 :: t_Mo_start_209
abbrev t_Mo_start_203 : List UInt8 := 132 :: 3 :: 1 :: t_Mo_start_206
abbrev t_Mo_start_202 : List UInt8 := 61 :: t_Mo_start_203
abbrev t_Mo_start_199 : List UInt8 := 182 :: 1 :: 255 :: t_Mo_start_202
abbrev t_Mo_start_196 : List UInt8 := 182 :: 1 :: 249 :: t_Mo_start_199
abbrev t_Mo_start_194 : List UInt8 := 21 :: 4 :: t_Mo_start_196
abbrev t_Mo_start_193 : List UInt8 := 42 :: t_Mo_start_194
abbrev t_Mo_start_192 : List UInt8 := 28 :: t_Mo_start_193
abbrev t_Mo_start_191 : List UInt8 := 3 :: t_Mo_start_192
abbrev t_Mo_start_190 : List UInt8 := 42 :: t_Mo_start_191
abbrev t_Mo_start_187 : List UInt8 := 159 :: 0 :: 16 :: t_Mo_start_190
abbrev t_Mo_start_185 : List UInt8 := 16 :: 24 :: t_Mo_start_187
abbrev t_Mo_start_184 : List UInt8 := 46 :: t_Mo_start_185
abbrev t_Mo_start_181 : List UInt8 := 182 :: 1 :: 231 :: t_Mo_start_184
abbrev t_Mo_start_179 : List UInt8 := 21 :: 4 :: t_Mo_start_181
abbrev t_Mo_start_176 : List UInt8 := 180 :: 0 :: 16 :: t_Mo_start_179
abbrev t_Mo_start_175 : List UInt8 := 42 :: t_Mo_start_176
abbrev t_Mo_start_172 : List UInt8 := 180 :: 1 :: 228 :: t_Mo_start_175
abbrev t_Mo_start_169 : List UInt8 := 180 :: 0 :: 16 :: t_Mo_start_172
abbrev t_Mo_start_168 : List UInt8 := 42 :: t_Mo_start_169
abbrev t_Mo_start_166 : List UInt8 := 54 :: 4 :: t_Mo_start_168
abbrev t_Mo_start_165 : List UInt8 := 46 :: t_Mo_start_166
abbrev t_Mo_start_164 : List UInt8 := 96 :: t_Mo_start_165
abbrev t_Mo_start_163 : List UInt8 := 29 :: t_Mo_start_164
abbrev t_Mo_start_162 : List UInt8 := 104 :: t_Mo_start_163
abbrev t_Mo_start_159 : List UInt8 := 180 :: 1 :: 192 :: t_Mo_start_162
abbrev t_Mo_start_156 : List UInt8 := 180 :: 0 :: 16 :: t_Mo_start_159
abbrev t_Mo_start_155 : List UInt8 := 42 :: t_Mo_start_156
abbrev t_Mo_start_152 : List UInt8 := 17 :: 1 :: 44 :: t_Mo_start_155
abbrev t_Mo_start_149 : List UInt8 := 180 :: 2 :: 5 :: t_Mo_start_152
abbrev t_Mo_start_146 : List UInt8 := 180 :: 0 :: 16 :: t_Mo_start_149
abbrev t_Mo_start_145 : List UInt8 := 42 :: t_Mo_start_146
abbrev t_Mo_start_142 : List UInt8 := 162 :: 0 :: 67 :: t_Mo_start_145
abbrev t_Mo_start_139 : List UInt8 := 180 :: 2 :: 2 :: t_Mo_start_142
abbrev t_Mo_start_136 : List UInt8 := 180 :: 0 :: 16 :: t_Mo_start_139
abbrev t_Mo_start_135 : List UInt8 := 42 :: t_Mo_start_136
abbrev t_Mo_start_134 : List UInt8 := 29 :: t_Mo_start_135
abbrev t_Mo_start_133 : List UInt8 := 62 :: t_Mo_start_134
abbrev t_Mo_start_132 : List UInt8 := 3 :: t_Mo_start_133
abbrev t_Mo_start_131 : List UInt8 := 61 :: t_Mo_start_132
abbrev t_Mo_start_130 : List UInt8 := 2 :: t_Mo_start_131
abbrev t_Mo_start_129 : List UInt8 := 79 :: t_Mo_start_130
abbrev t_Mo_start_128 : List UInt8 := 2 :: t_Mo_start_129
abbrev t_Mo_start_127 : List UInt8 := 3 :: t_Mo_start_128
abbrev t_Mo_start_124 : List UInt8 := 180 :: 0 :: 172 :: t_Mo_start_127
abbrev t_Mo_start_123 : List UInt8 := 42 :: t_Mo_start_124
abbrev t_Mo_start_122 : List UInt8 := 79 :: t_Mo_start_123
abbrev t_Mo_start_121 : List UInt8 := 2 :: t_Mo_start_122
abbrev t_Mo_start_120 : List UInt8 := 3 :: t_Mo_start_121
abbrev t_Mo_start_117 : List UInt8 := 180 :: 0 :: 169 :: t_Mo_start_120
abbrev t_Mo_start_116 : List UInt8 := 42 :: t_Mo_start_117
abbrev t_Mo_start_115 : List UInt8 := 84 :: t_Mo_start_116
abbrev t_Mo_start_114 : List UInt8 := 4 :: t_Mo_start_115
abbrev t_Mo_start_113 : List UInt8 := 3 :: t_Mo_start_114
abbrev t_Mo_start_110 : List UInt8 := 180 :: 0 :: 175 :: t_Mo_start_113
abbrev t_Mo_start_109 : List UInt8 := 42 :: t_Mo_start_110
abbrev t_Mo_start_108 : List UInt8 := 79 :: t_Mo_start_109
abbrev t_Mo_start_107 : List UInt8 := 2 :: t_Mo_start_108
abbrev t_Mo_start_106 : List UInt8 := 3 :: t_Mo_start_107
abbrev t_Mo_start_103 : List UInt8 := 180 :: 0 :: 166 :: t_Mo_start_106
abbrev t_Mo_start_102 : List UInt8 := 42 :: t_Mo_start_103
abbrev t_Mo_start_99 : List UInt8 := 181 :: 1 :: 237 :: t_Mo_start_102
abbrev t_Mo_start_98 : List UInt8 := 4 :: t_Mo_start_99
abbrev t_Mo_start_97 : List UInt8 := 42 :: t_Mo_start_98
abbrev t_Mo_start_94 : List UInt8 := 182 :: 0 :: 231 :: t_Mo_start_97
abbrev t_Mo_start_93 : List UInt8 := 42 :: t_Mo_start_94
abbrev t_Mo_start_90 : List UInt8 := 160 :: 0 :: 7 :: t_Mo_start_93
abbrev t_Mo_start_89 : List UInt8 := 5 :: t_Mo_start_90
abbrev t_Mo_start_86 : List UInt8 := 180 :: 0 :: 162 :: t_Mo_start_89
abbrev t_Mo_start_85 : List UInt8 := 42 :: t_Mo_start_86
abbrev t_Mo_start_82 : List UInt8 := 153 :: 0 :: 11 :: t_Mo_start_85
abbrev t_Mo_start_79 : List UInt8 := 180 :: 0 :: 162 :: t_Mo_start_82
abbrev t_Mo_start_78 : List UInt8 := 42 :: t_Mo_start_79
abbrev t_Mo_start_77 : List UInt8 := 172 :: t_Mo_start_78
abbrev t_Mo_start_76 : List UInt8 := 3 :: t_Mo_start_77
abbrev t_Mo_start_73 : List UInt8 := 154 :: 0 :: 5 :: t_Mo_start_76
abbrev t_Mo_start_72 : List UInt8 := 27 :: t_Mo_start_73
abbrev t_Mo_start_69 : List UInt8 := 167 :: 255 :: 191 :: t_Mo_start_72
abbrev t_Mo_start_66 : List UInt8 := 132 :: 2 :: 1 :: t_Mo_start_69
abbrev t_Mo_start_65 : List UInt8 := 60 :: t_Mo_start_66
abbrev t_Mo_start_64 : List UInt8 := 3 :: t_Mo_start_65
abbrev t_Mo_start_61 : List UInt8 := 167 :: 0 :: 4 :: t_Mo_start_64
abbrev t_Mo_start_60 : List UInt8 := 4 :: t_Mo_start_61
abbrev t_Mo_start_57 : List UInt8 := 159 :: 0 :: 7 :: t_Mo_start_60
abbrev t_Mo_start_55 : List UInt8 := 16 :: 24 :: t_Mo_start_57
abbrev t_Mo_start_54 : List UInt8 := 46 :: t_Mo_start_55
abbrev t_Mo_start_51 : List UInt8 := 182 :: 1 :: 231 :: t_Mo_start_54
abbrev t_Mo_start_50 : List UInt8 := 46 :: t_Mo_start_51
abbrev t_Mo_start_49 : List UInt8 := 96 :: t_Mo_start_50
abbrev t_Mo_start_48 : List UInt8 := 28 :: t_Mo_start_49
abbrev t_Mo_start_47 : List UInt8 := 104 :: t_Mo_start_48
abbrev t_Mo_start_44 : List UInt8 := 180 :: 1 :: 192 :: t_Mo_start_47
abbrev t_Mo_start_41 : List UInt8 := 180 :: 0 :: 16 :: t_Mo_start_44
abbrev t_Mo_start_40 : List UInt8 := 42 :: t_Mo_start_41
abbrev t_Mo_start_37 : List UInt8 := 17 :: 1 :: 44 :: t_Mo_start_40
abbrev t_Mo_start_34 : List UInt8 := 180 :: 2 :: 5 :: t_Mo_start_37
abbrev t_Mo_start_31 : List UInt8 := 180 :: 0 :: 16 :: t_Mo_start_34
abbrev t_Mo_start_30 : List UInt8 := 42 :: t_Mo_start_31
abbrev t_Mo_start_27 : List UInt8 := 180 :: 0 :: 16 :: t_Mo_start_30
abbrev t_Mo_start_26 : List UInt8 := 42 :: t_Mo_start_27
abbrev t_Mo_start_23 : List UInt8 := 180 :: 1 :: 228 :: t_Mo_start_26
abbrev t_Mo_start_20 : List UInt8 := 180 :: 0 :: 16 :: t_Mo_start_23
abbrev t_Mo_start_19 : List UInt8 := 42 :: t_Mo_start_20
abbrev t_Mo_start_16 : List UInt8 := 154 :: 0 :: 44 :: t_Mo_start_19
abbrev t_Mo_start_15 : List UInt8 := 27 :: t_Mo_start_16
abbrev t_Mo_start_12 : List UInt8 := 162 :: 0 :: 60 :: t_Mo_start_15
abbrev t_Mo_start_9 : List UInt8 := 180 :: 2 :: 2 :: t_Mo_start_12
abbrev t_Mo_start_6 : List UInt8 := 180 :: 0 :: 16 :: t_Mo_start_9
abbrev t_Mo_start_5 : List UInt8 := 42 :: t_Mo_start_6
abbrev t_Mo_start_4 : List UInt8 := 28 :: t_Mo_start_5
abbrev t_Mo_start_3 : List UInt8 := 61 :: t_Mo_start_4
abbrev t_Mo_start_2 : List UInt8 := 3 :: t_Mo_start_3
abbrev t_Mo_start_1 : List UInt8 := 60 :: t_Mo_start_2
abbrev t_Mo_start_0 : List UInt8 := 3 :: t_Mo_start_1
theorem a_Mo_start_0 : dk_at b_Mo_start 0 t_Mo_start_0 := dk_start (by decide +kernel)
theorem a_Mo_start_1 : dk_at b_Mo_start 1 t_Mo_start_1 := dk_go 1 a_Mo_start_0 rfl
theorem a_Mo_start_2 : dk_at b_Mo_start 2 t_Mo_start_2 := dk_go 1 a_Mo_start_1 rfl
theorem a_Mo_start_3 : dk_at b_Mo_start 3 t_Mo_start_3 := dk_go 1 a_Mo_start_2 rfl
theorem a_Mo_start_4 : dk_at b_Mo_start 4 t_Mo_start_4 := dk_go 1 a_Mo_start_3 rfl
theorem a_Mo_start_5 : dk_at b_Mo_start 5 t_Mo_start_5 := dk_go 1 a_Mo_start_4 rfl
theorem a_Mo_start_6 : dk_at b_Mo_start 6 t_Mo_start_6 := dk_go 1 a_Mo_start_5 rfl
theorem a_Mo_start_9 : dk_at b_Mo_start 9 t_Mo_start_9 := dk_go 3 a_Mo_start_6 rfl
theorem a_Mo_start_12 : dk_at b_Mo_start 12 t_Mo_start_12 := dk_go 3 a_Mo_start_9 rfl
theorem a_Mo_start_15 : dk_at b_Mo_start 15 t_Mo_start_15 := dk_go 3 a_Mo_start_12 rfl
theorem a_Mo_start_16 : dk_at b_Mo_start 16 t_Mo_start_16 := dk_go 1 a_Mo_start_15 rfl
theorem a_Mo_start_19 : dk_at b_Mo_start 19 t_Mo_start_19 := dk_go 3 a_Mo_start_16 rfl
theorem a_Mo_start_20 : dk_at b_Mo_start 20 t_Mo_start_20 := dk_go 1 a_Mo_start_19 rfl
theorem a_Mo_start_23 : dk_at b_Mo_start 23 t_Mo_start_23 := dk_go 3 a_Mo_start_20 rfl
theorem a_Mo_start_26 : dk_at b_Mo_start 26 t_Mo_start_26 := dk_go 3 a_Mo_start_23 rfl
theorem a_Mo_start_27 : dk_at b_Mo_start 27 t_Mo_start_27 := dk_go 1 a_Mo_start_26 rfl
theorem a_Mo_start_30 : dk_at b_Mo_start 30 t_Mo_start_30 := dk_go 3 a_Mo_start_27 rfl
theorem a_Mo_start_31 : dk_at b_Mo_start 31 t_Mo_start_31 := dk_go 1 a_Mo_start_30 rfl
theorem a_Mo_start_34 : dk_at b_Mo_start 34 t_Mo_start_34 := dk_go 3 a_Mo_start_31 rfl
theorem a_Mo_start_37 : dk_at b_Mo_start 37 t_Mo_start_37 := dk_go 3 a_Mo_start_34 rfl
theorem a_Mo_start_40 : dk_at b_Mo_start 40 t_Mo_start_40 := dk_go 3 a_Mo_start_37 rfl
theorem a_Mo_start_41 : dk_at b_Mo_start 41 t_Mo_start_41 := dk_go 1 a_Mo_start_40 rfl
theorem a_Mo_start_44 : dk_at b_Mo_start 44 t_Mo_start_44 := dk_go 3 a_Mo_start_41 rfl
theorem a_Mo_start_47 : dk_at b_Mo_start 47 t_Mo_start_47 := dk_go 3 a_Mo_start_44 rfl
theorem a_Mo_start_48 : dk_at b_Mo_start 48 t_Mo_start_48 := dk_go 1 a_Mo_start_47 rfl
theorem a_Mo_start_49 : dk_at b_Mo_start 49 t_Mo_start_49 := dk_go 1 a_Mo_start_48 rfl
theorem a_Mo_start_50 : dk_at b_Mo_start 50 t_Mo_start_50 := dk_go 1 a_Mo_start_49 rfl
theorem a_Mo_start_51 : dk_at b_Mo_start 51 t_Mo_start_51 := dk_go 1 a_Mo_start_50 rfl
theorem a_Mo_start_54 : dk_at b_Mo_start 54 t_Mo_start_54 := dk_go 3 a_Mo_start_51 rfl
theorem a_Mo_start_55 : dk_at b_Mo_start 55 t_Mo_start_55 := dk_go 1 a_Mo_start_54 rfl
theorem a_Mo_start_57 : dk_at b_Mo_start 57 t_Mo_start_57 := dk_go 2 a_Mo_start_55 rfl
theorem a_Mo_start_60 : dk_at b_Mo_start 60 t_Mo_start_60 := dk_go 3 a_Mo_start_57 rfl
theorem a_Mo_start_61 : dk_at b_Mo_start 61 t_Mo_start_61 := dk_go 1 a_Mo_start_60 rfl
theorem a_Mo_start_64 : dk_at b_Mo_start 64 t_Mo_start_64 := dk_go 3 a_Mo_start_61 rfl
theorem a_Mo_start_65 : dk_at b_Mo_start 65 t_Mo_start_65 := dk_go 1 a_Mo_start_64 rfl
theorem a_Mo_start_66 : dk_at b_Mo_start 66 t_Mo_start_66 := dk_go 1 a_Mo_start_65 rfl
theorem a_Mo_start_69 : dk_at b_Mo_start 69 t_Mo_start_69 := dk_go 3 a_Mo_start_66 rfl
theorem a_Mo_start_72 : dk_at b_Mo_start 72 t_Mo_start_72 := dk_go 3 a_Mo_start_69 rfl
theorem a_Mo_start_73 : dk_at b_Mo_start 73 t_Mo_start_73 := dk_go 1 a_Mo_start_72 rfl
theorem a_Mo_start_76 : dk_at b_Mo_start 76 t_Mo_start_76 := dk_go 3 a_Mo_start_73 rfl
theorem a_Mo_start_77 : dk_at b_Mo_start 77 t_Mo_start_77 := dk_go 1 a_Mo_start_76 rfl
theorem a_Mo_start_78 : dk_at b_Mo_start 78 t_Mo_start_78 := dk_go 1 a_Mo_start_77 rfl
theorem a_Mo_start_79 : dk_at b_Mo_start 79 t_Mo_start_79 := dk_go 1 a_Mo_start_78 rfl
theorem a_Mo_start_82 : dk_at b_Mo_start 82 t_Mo_start_82 := dk_go 3 a_Mo_start_79 rfl
theorem a_Mo_start_85 : dk_at b_Mo_start 85 t_Mo_start_85 := dk_go 3 a_Mo_start_82 rfl
theorem a_Mo_start_86 : dk_at b_Mo_start 86 t_Mo_start_86 := dk_go 1 a_Mo_start_85 rfl
theorem a_Mo_start_89 : dk_at b_Mo_start 89 t_Mo_start_89 := dk_go 3 a_Mo_start_86 rfl
theorem a_Mo_start_90 : dk_at b_Mo_start 90 t_Mo_start_90 := dk_go 1 a_Mo_start_89 rfl
theorem a_Mo_start_93 : dk_at b_Mo_start 93 t_Mo_start_93 := dk_go 3 a_Mo_start_90 rfl
theorem a_Mo_start_94 : dk_at b_Mo_start 94 t_Mo_start_94 := dk_go 1 a_Mo_start_93 rfl
theorem a_Mo_start_97 : dk_at b_Mo_start 97 t_Mo_start_97 := dk_go 3 a_Mo_start_94 rfl
theorem a_Mo_start_98 : dk_at b_Mo_start 98 t_Mo_start_98 := dk_go 1 a_Mo_start_97 rfl
theorem a_Mo_start_99 : dk_at b_Mo_start 99 t_Mo_start_99 := dk_go 1 a_Mo_start_98 rfl
theorem a_Mo_start_102 : dk_at b_Mo_start 102 t_Mo_start_102 := dk_go 3 a_Mo_start_99 rfl
theorem a_Mo_start_103 : dk_at b_Mo_start 103 t_Mo_start_103 := dk_go 1 a_Mo_start_102 rfl
theorem a_Mo_start_106 : dk_at b_Mo_start 106 t_Mo_start_106 := dk_go 3 a_Mo_start_103 rfl
theorem a_Mo_start_107 : dk_at b_Mo_start 107 t_Mo_start_107 := dk_go 1 a_Mo_start_106 rfl
theorem a_Mo_start_108 : dk_at b_Mo_start 108 t_Mo_start_108 := dk_go 1 a_Mo_start_107 rfl
theorem a_Mo_start_109 : dk_at b_Mo_start 109 t_Mo_start_109 := dk_go 1 a_Mo_start_108 rfl
theorem a_Mo_start_110 : dk_at b_Mo_start 110 t_Mo_start_110 := dk_go 1 a_Mo_start_109 rfl
theorem a_Mo_start_113 : dk_at b_Mo_start 113 t_Mo_start_113 := dk_go 3 a_Mo_start_110 rfl
theorem a_Mo_start_114 : dk_at b_Mo_start 114 t_Mo_start_114 := dk_go 1 a_Mo_start_113 rfl
theorem a_Mo_start_115 : dk_at b_Mo_start 115 t_Mo_start_115 := dk_go 1 a_Mo_start_114 rfl
theorem a_Mo_start_116 : dk_at b_Mo_start 116 t_Mo_start_116 := dk_go 1 a_Mo_start_115 rfl
theorem a_Mo_start_117 : dk_at b_Mo_start 117 t_Mo_start_117 := dk_go 1 a_Mo_start_116 rfl
theorem a_Mo_start_120 : dk_at b_Mo_start 120 t_Mo_start_120 := dk_go 3 a_Mo_start_117 rfl
theorem a_Mo_start_121 : dk_at b_Mo_start 121 t_Mo_start_121 := dk_go 1 a_Mo_start_120 rfl
theorem a_Mo_start_122 : dk_at b_Mo_start 122 t_Mo_start_122 := dk_go 1 a_Mo_start_121 rfl
theorem a_Mo_start_123 : dk_at b_Mo_start 123 t_Mo_start_123 := dk_go 1 a_Mo_start_122 rfl
theorem a_Mo_start_124 : dk_at b_Mo_start 124 t_Mo_start_124 := dk_go 1 a_Mo_start_123 rfl
theorem a_Mo_start_127 : dk_at b_Mo_start 127 t_Mo_start_127 := dk_go 3 a_Mo_start_124 rfl
theorem a_Mo_start_128 : dk_at b_Mo_start 128 t_Mo_start_128 := dk_go 1 a_Mo_start_127 rfl
theorem a_Mo_start_129 : dk_at b_Mo_start 129 t_Mo_start_129 := dk_go 1 a_Mo_start_128 rfl
theorem a_Mo_start_130 : dk_at b_Mo_start 130 t_Mo_start_130 := dk_go 1 a_Mo_start_129 rfl
theorem a_Mo_start_131 : dk_at b_Mo_start 131 t_Mo_start_131 := dk_go 1 a_Mo_start_130 rfl
theorem a_Mo_start_132 : dk_at b_Mo_start 132 t_Mo_start_132 := dk_go 1 a_Mo_start_131 rfl
theorem a_Mo_start_133 : dk_at b_Mo_start 133 t_Mo_start_133 := dk_go 1 a_Mo_start_132 rfl
theorem a_Mo_start_134 : dk_at b_Mo_start 134 t_Mo_start_134 := dk_go 1 a_Mo_start_133 rfl
theorem a_Mo_start_135 : dk_at b_Mo_start 135 t_Mo_start_135 := dk_go 1 a_Mo_start_134 rfl
theorem a_Mo_start_136 : dk_at b_Mo_start 136 t_Mo_start_136 := dk_go 1 a_Mo_start_135 rfl
theorem a_Mo_start_139 : dk_at b_Mo_start 139 t_Mo_start_139 := dk_go 3 a_Mo_start_136 rfl
theorem a_Mo_start_142 : dk_at b_Mo_start 142 t_Mo_start_142 := dk_go 3 a_Mo_start_139 rfl
theorem a_Mo_start_145 : dk_at b_Mo_start 145 t_Mo_start_145 := dk_go 3 a_Mo_start_142 rfl
theorem a_Mo_start_146 : dk_at b_Mo_start 146 t_Mo_start_146 := dk_go 1 a_Mo_start_145 rfl
theorem a_Mo_start_149 : dk_at b_Mo_start 149 t_Mo_start_149 := dk_go 3 a_Mo_start_146 rfl
theorem a_Mo_start_152 : dk_at b_Mo_start 152 t_Mo_start_152 := dk_go 3 a_Mo_start_149 rfl
theorem a_Mo_start_155 : dk_at b_Mo_start 155 t_Mo_start_155 := dk_go 3 a_Mo_start_152 rfl
theorem a_Mo_start_156 : dk_at b_Mo_start 156 t_Mo_start_156 := dk_go 1 a_Mo_start_155 rfl
theorem a_Mo_start_159 : dk_at b_Mo_start 159 t_Mo_start_159 := dk_go 3 a_Mo_start_156 rfl
theorem a_Mo_start_162 : dk_at b_Mo_start 162 t_Mo_start_162 := dk_go 3 a_Mo_start_159 rfl
theorem a_Mo_start_163 : dk_at b_Mo_start 163 t_Mo_start_163 := dk_go 1 a_Mo_start_162 rfl
theorem a_Mo_start_164 : dk_at b_Mo_start 164 t_Mo_start_164 := dk_go 1 a_Mo_start_163 rfl
theorem a_Mo_start_165 : dk_at b_Mo_start 165 t_Mo_start_165 := dk_go 1 a_Mo_start_164 rfl
theorem a_Mo_start_166 : dk_at b_Mo_start 166 t_Mo_start_166 := dk_go 1 a_Mo_start_165 rfl
theorem a_Mo_start_168 : dk_at b_Mo_start 168 t_Mo_start_168 := dk_go 2 a_Mo_start_166 rfl
theorem a_Mo_start_169 : dk_at b_Mo_start 169 t_Mo_start_169 := dk_go 1 a_Mo_start_168 rfl
theorem a_Mo_start_172 : dk_at b_Mo_start 172 t_Mo_start_172 := dk_go 3 a_Mo_start_169 rfl
theorem a_Mo_start_175 : dk_at b_Mo_start 175 t_Mo_start_175 := dk_go 3 a_Mo_start_172 rfl
theorem a_Mo_start_176 : dk_at b_Mo_start 176 t_Mo_start_176 := dk_go 1 a_Mo_start_175 rfl
theorem a_Mo_start_179 : dk_at b_Mo_start 179 t_Mo_start_179 := dk_go 3 a_Mo_start_176 rfl
theorem a_Mo_start_181 : dk_at b_Mo_start 181 t_Mo_start_181 := dk_go 2 a_Mo_start_179 rfl
theorem a_Mo_start_184 : dk_at b_Mo_start 184 t_Mo_start_184 := dk_go 3 a_Mo_start_181 rfl
theorem a_Mo_start_185 : dk_at b_Mo_start 185 t_Mo_start_185 := dk_go 1 a_Mo_start_184 rfl
theorem a_Mo_start_187 : dk_at b_Mo_start 187 t_Mo_start_187 := dk_go 2 a_Mo_start_185 rfl
theorem a_Mo_start_190 : dk_at b_Mo_start 190 t_Mo_start_190 := dk_go 3 a_Mo_start_187 rfl
theorem a_Mo_start_191 : dk_at b_Mo_start 191 t_Mo_start_191 := dk_go 1 a_Mo_start_190 rfl
theorem a_Mo_start_192 : dk_at b_Mo_start 192 t_Mo_start_192 := dk_go 1 a_Mo_start_191 rfl
theorem a_Mo_start_193 : dk_at b_Mo_start 193 t_Mo_start_193 := dk_go 1 a_Mo_start_192 rfl
theorem a_Mo_start_194 : dk_at b_Mo_start 194 t_Mo_start_194 := dk_go 1 a_Mo_start_193 rfl
theorem a_Mo_start_196 : dk_at b_Mo_start 196 t_Mo_start_196 := dk_go 2 a_Mo_start_194 rfl
theorem a_Mo_start_199 : dk_at b_Mo_start 199 t_Mo_start_199 := dk_go 3 a_Mo_start_196 rfl
theorem a_Mo_start_202 : dk_at b_Mo_start 202 t_Mo_start_202 := dk_go 3 a_Mo_start_199 rfl
theorem a_Mo_start_203 : dk_at b_Mo_start 203 t_Mo_start_203 := dk_go 1 a_Mo_start_202 rfl
theorem a_Mo_start_206 : dk_at b_Mo_start 206 t_Mo_start_206 := dk_go 3 a_Mo_start_203 rfl
theorem a_Mo_start_209 : dk_at b_Mo_start 209 t_Mo_start_209 := dk_go 3 a_Mo_start_206 rfl
theorem a_Mo_start_210 : dk_at b_Mo_start 210 t_Mo_start_210 := dk_go 1 a_Mo_start_209 rfl
theorem a_Mo_start_213 : dk_at b_Mo_start 213 t_Mo_start_213 := dk_go 3 a_Mo_start_210 rfl
theorem a_Mo_start_214 : dk_at b_Mo_start 214 t_Mo_start_214 := dk_go 1 a_Mo_start_213 rfl
theorem a_Mo_start_215 : dk_at b_Mo_start 215 t_Mo_start_215 := dk_go 1 a_Mo_start_214 rfl
theorem a_Mo_start_218 : dk_at b_Mo_start 218 t_Mo_start_218 := dk_go 3 a_Mo_start_215 rfl
theorem a_Mo_start_219 : dk_at b_Mo_start 219 t_Mo_start_219 := dk_go 1 a_Mo_start_218 rfl
theorem a_Mo_start_220 : dk_at b_Mo_start 220 t_Mo_start_220 := dk_go 1 a_Mo_start_219 rfl
theorem a_Mo_start_221 : dk_at b_Mo_start 221 t_Mo_start_221 := dk_go 1 a_Mo_start_220 rfl
theorem a_Mo_start_222 : dk_at b_Mo_start 222 t_Mo_start_222 := dk_go 1 a_Mo_start_221 rfl
theorem a_Mo_start_223 : dk_at b_Mo_start 223 t_Mo_start_223 := dk_go 1 a_Mo_start_222 rfl
theorem a_Mo_start_224 : dk_at b_Mo_start 224 t_Mo_start_224 := dk_go 1 a_Mo_start_223 rfl
theorem a_Mo_start_226 : dk_at b_Mo_start 226 t_Mo_start_226 := dk_go 2 a_Mo_start_224 rfl
theorem a_Mo_start_229 : dk_at b_Mo_start 229 t_Mo_start_229 := dk_go 3 a_Mo_start_226 rfl
theorem a_Mo_start_230 : dk_at b_Mo_start 230 t_Mo_start_230 := dk_go 1 a_Mo_start_229 rfl
theorem a_Mo_start_231 : dk_at b_Mo_start 231 t_Mo_start_231 := dk_go 1 a_Mo_start_230 rfl
theorem a_Mo_start_233 : dk_at b_Mo_start 233 t_Mo_start_233 := dk_go 2 a_Mo_start_231 rfl
theorem a_Mo_start_236 : dk_at b_Mo_start 236 t_Mo_start_236 := dk_go 3 a_Mo_start_233 rfl
theorem a_Mo_start_239 : dk_at b_Mo_start 239 t_Mo_start_239 := dk_go 3 a_Mo_start_236 rfl
theorem a_Mo_start_240 : dk_at b_Mo_start 240 t_Mo_start_240 := dk_go 1 a_Mo_start_239 rfl
theorem a_Mo_start_243 : dk_at b_Mo_start 243 t_Mo_start_243 := dk_go 3 a_Mo_start_240 rfl
theorem a_Mo_start_244 : dk_at b_Mo_start 244 t_Mo_start_244 := dk_go 1 a_Mo_start_243 rfl
theorem a_Mo_start_245 : dk_at b_Mo_start 245 t_Mo_start_245 := dk_go 1 a_Mo_start_244 rfl
theorem a_Mo_start_246 : dk_at b_Mo_start 246 t_Mo_start_246 := dk_go 1 a_Mo_start_245 rfl
theorem a_Mo_start_249 : dk_at b_Mo_start 249 t_Mo_start_249 := dk_go 3 a_Mo_start_246 rfl
theorem a_Mo_start_250 : dk_at b_Mo_start 250 t_Mo_start_250 := dk_go 1 a_Mo_start_249 rfl
theorem a_Mo_start_253 : dk_at b_Mo_start 253 t_Mo_start_253 := dk_go 3 a_Mo_start_250 rfl
theorem a_Mo_start_254 : dk_at b_Mo_start 254 t_Mo_start_254 := dk_go 1 a_Mo_start_253 rfl
theorem a_Mo_start_255 : dk_at b_Mo_start 255 t_Mo_start_255 := dk_go 1 a_Mo_start_254 rfl
theorem a_Mo_start_256 : dk_at b_Mo_start 256 t_Mo_start_256 := dk_go 1 a_Mo_start_255 rfl
theorem a_Mo_start_259 : dk_at b_Mo_start 259 t_Mo_start_259 := dk_go 3 a_Mo_start_256 rfl
theorem a_Mo_start_260 : dk_at b_Mo_start 260 t_Mo_start_260 := dk_go 1 a_Mo_start_259 rfl
theorem a_Mo_start_263 : dk_at b_Mo_start 263 t_Mo_start_263 := dk_go 3 a_Mo_start_260 rfl
theorem a_Mo_start_264 : dk_at b_Mo_start 264 t_Mo_start_264 := dk_go 1 a_Mo_start_263 rfl
theorem a_Mo_start_266 : dk_at b_Mo_start 266 t_Mo_start_266 := dk_go 2 a_Mo_start_264 rfl
theorem a_Mo_start_267 : dk_at b_Mo_start 267 t_Mo_start_267 := dk_go 1 a_Mo_start_266 rfl
theorem a_Mo_start_270 : dk_at b_Mo_start 270 t_Mo_start_270 := dk_go 3 a_Mo_start_267 rfl
theorem a_Mo_start_271 : dk_at b_Mo_start 271 t_Mo_start_271 := dk_go 1 a_Mo_start_270 rfl
theorem a_Mo_start_273 : dk_at b_Mo_start 273 t_Mo_start_273 := dk_go 2 a_Mo_start_271 rfl
theorem a_Mo_start_276 : dk_at b_Mo_start 276 t_Mo_start_276 := dk_go 3 a_Mo_start_273 rfl
theorem a_Mo_start_277 : dk_at b_Mo_start 277 t_Mo_start_277 := dk_go 1 a_Mo_start_276 rfl
theorem a_Mo_start_280 : dk_at b_Mo_start 280 t_Mo_start_280 := dk_go 3 a_Mo_start_277 rfl
theorem a_Mo_start_281 : dk_at b_Mo_start 281 t_Mo_start_281 := dk_go 1 a_Mo_start_280 rfl
theorem a_Mo_start_282 : dk_at b_Mo_start 282 t_Mo_start_282 := dk_go 1 a_Mo_start_281 rfl
theorem a_Mo_start_285 : dk_at b_Mo_start 285 t_Mo_start_285 := dk_go 3 a_Mo_start_282 rfl
theorem a_Mo_start_286 : dk_at b_Mo_start 286 t_Mo_start_286 := dk_go 1 a_Mo_start_285 rfl
theorem a_Mo_start_287 : dk_at b_Mo_start 287 t_Mo_start_287 := dk_go 1 a_Mo_start_286 rfl
theorem a_Mo_start_290 : dk_at b_Mo_start 290 t_Mo_start_290 := dk_go 3 a_Mo_start_287 rfl
theorem a_Mo_start_293 : dk_at b_Mo_start 293 t_Mo_start_293 := dk_go 3 a_Mo_start_290 rfl
theorem a_Mo_start_294 : dk_at b_Mo_start 294 t_Mo_start_294 := dk_go 1 a_Mo_start_293 rfl
theorem a_Mo_start_295 : dk_at b_Mo_start 295 t_Mo_start_295 := dk_go 1 a_Mo_start_294 rfl
theorem a_Mo_start_298 : dk_at b_Mo_start 298 t_Mo_start_298 := dk_go 3 a_Mo_start_295 rfl
theorem a_Mo_start_299 : dk_at b_Mo_start 299 t_Mo_start_299 := dk_go 1 a_Mo_start_298 rfl
theorem a_Mo_start_300 : dk_at b_Mo_start 300 t_Mo_start_300 := dk_go 1 a_Mo_start_299 rfl
theorem a_Mo_start_303 : dk_at b_Mo_start 303 t_Mo_start_303 := dk_go 3 a_Mo_start_300 rfl
theorem a_Mo_start_304 : dk_at b_Mo_start 304 t_Mo_start_304 := dk_go 1 a_Mo_start_303 rfl
theorem a_Mo_start_305 : dk_at b_Mo_start 305 t_Mo_start_305 := dk_go 1 a_Mo_start_304 rfl
theorem a_Mo_start_308 : dk_at b_Mo_start 308 t_Mo_start_308 := dk_go 3 a_Mo_start_305 rfl
theorem a_Mo_start_309 : dk_at b_Mo_start 309 t_Mo_start_309 := dk_go 1 a_Mo_start_308 rfl
theorem d_Mo_start_0 : decode b_Mo_start 0 = .ok (.iconst 0, 1) := dk_0 a_Mo_start_0 (dko_3 _)
theorem d_Mo_start_1 : decode b_Mo_start 1 = .ok (.istore_n 1, 1) := dk_0 a_Mo_start_1 (dko_60 _)
theorem d_Mo_start_2 : decode b_Mo_start 2 = .ok (.iconst 0, 1) := dk_0 a_Mo_start_2 (dko_3 _)
theorem d_Mo_start_3 : decode b_Mo_start 3 = .ok (.istore_n 2, 1) := dk_0 a_Mo_start_3 (dko_61 _)
theorem d_Mo_start_4 : decode b_Mo_start 4 = .ok (.iload_n 2, 1) := dk_0 a_Mo_start_4 (dko_28 _)
theorem d_Mo_start_5 : decode b_Mo_start 5 = .ok (.aload_n 0, 1) := dk_0 a_Mo_start_5 (dko_42 _)
theorem d_Mo_start_6 : decode b_Mo_start 6 = .ok (.getfield 16, 3) := dk_U2 a_Mo_start_6 (dko_180 _) rfl
theorem d_Mo_start_9 : decode b_Mo_start 9 = .ok (.getfield 514, 3) := dk_U2 a_Mo_start_9 (dko_180 _) rfl
theorem d_Mo_start_12 : decode b_Mo_start 12 = .ok (.if_icmp .ge 60, 3) := dk_S2 a_Mo_start_12 (dko_162 _) (by decide +kernel)
theorem d_Mo_start_72 : decode b_Mo_start 72 = .ok (.iload_n 1, 1) := dk_0 a_Mo_start_72 (dko_27 _)
theorem d_Mo_start_73 : decode b_Mo_start 73 = .ok (.ifCond .ne 5, 3) := dk_S2 a_Mo_start_73 (dko_154 _) (by decide +kernel)
theorem d_Mo_start_76 : decode b_Mo_start 76 = .ok (.iconst 0, 1) := dk_0 a_Mo_start_76 (dko_3 _)
theorem d_Mo_start_77 : decode b_Mo_start 77 = .ok (.ireturn, 1) := dk_0 a_Mo_start_77 (dko_172 _)
set_option maxHeartbeats 4000000 in
set_option maxRecDepth 100000 in
theorem c_Mo_start (l : Launch) (dC : Nat → ClassId) (dI : Nat → Nat → Nat) (cI cB cZ cJ : ClassId) (oM : Nat) (oT : Nat) (fm : List Value) (hm_program : fx fm 2 (.ref oT)) (ft : List Value) (ht_topCount : fx ft 31 (.int 0)) (sz : Nat) : Met l y_Mo_start w_Mo_start ({ frames := 0, cells := 0, slots := 0, locals := 0 }) (va_Pc [.ref oM] (PW dC dI cI cB cZ cJ [(oM, .inr (12, fm)), (oT, .inr (13, ft))] sz)) (va_Qi (fun (r : Int32) (_ : Unit) => r = 0) (fun _ _ => True) (va_A [] sz)) 0 0 (va_A [] sz) := by
  refine Met.ofW (cc := b_Mo_start) (maxL := 5) (ret := (some .boolean)) (by decide) rfl ?_
  intro p e s m args below meth c s₁ B hml hv
  obtain ⟨rfl, hsz, hP, hK, hD⟩ := hv
  have hx := B.exec
  have hb := B.bytes
  have hr := B.returns
  have hts := atoms_spec (ws := w_Mo_start) B.pre
  have hown : s.vm.findClass R_Mo = some m.cls := findClass_of_methodNamed B.named
  have hlocks := B.notSynchronized
  subst hsz
  generalize hAe : va_A [] s.heap.size = A at ⊢
  have hA : ∀ q : Nat, s.heap.size ≤ q → A q := fun q h => by rw [← hAe]; exact Or.inr h
  have hS : va_S A s.heap s.heap [] := va_S.rf
  have hP : va_P (dC, dI) classes [(oM, .inr (12, fm)), (oT, .inr (13, ft))] s.heap := hP
  have hl := lv_entry ([.ref oM]) (n := 5) (Nat.le_of_ble_eq_true rfl)
  rw [lg_entry_eq]
  generalize (lg_sl ([.ref oM]) ++ List.replicate (5 - (lg_sl ([.ref oM])).length) Slot.unset).toArray = ls at hl ⊢
  have hl : lv_has ls 5 [(0, .ref oM)] := hl
  refine lv_iconst (v := 0) hx hb d_Mo_start_0 (by decide) ?_
  refine lv_istore_n hx hb d_Mo_start_1 rfl hl (by decide) rfl (fun ls hl => ?_)
  have hl : lv_has ls 5 [(1, .int 0), (0, .ref oM)] := hl
  refine lv_iconst (v := 0) hx hb d_Mo_start_2 (by decide) ?_
  refine lv_istore_n hx hb d_Mo_start_3 rfl hl (by decide) rfl (fun ls hl => ?_)
  have hl : lv_has ls 5 [(2, .int 0), (1, .int 0), (0, .ref oM)] := hl
  refine lv_iload_n hx hb d_Mo_start_4 rfl (lv_at hl 0 rfl) ?_
  refine lv_aload_n hx hb d_Mo_start_5 rfl (lv_at hl 2 rfl) ?_
  refine va_get (D := (dC, dI)) (ci := 12) (v := .ref oT) (C := R_Mo) (T := F_Mo) (N := 87) hx hb hts (fun w h => List.mem_cons_of_mem _ (in_Mo w h)) hown hK.1 hP 0 rfl rfl 2 (by decide) (hts _ (List.mem_cons_of_mem _ mw_1796)) (fun _ h9 => h9) hm_program d_Mo_start_6 ?_
  refine va_getN (D := (dC, dI)) (ci := 13) (v := .int 0) (C := R_Tx) (T := F_Tx) (N := 39) hx hb hts (fun w h => List.mem_cons_of_mem _ (in_Tx w h)) hown hK.1 hP 1 rfl rfl 31 (by decide) (va_Nw.use rfl (hK.2 _ nw_1618)) (fun _ h9 => h9) ht_topCount d_Mo_start_9 ?_
  refine lv_icmp_ge (tgt := 72) hx hb d_Mo_start_12 (by decide) (fun _ => ?_) (fun h => absurd (by decide) h)
  refine lv_iload_n hx hb d_Mo_start_72 rfl (lv_at hl 1 rfl) ?_
  refine lv_if_ne (tgt := 78) hx hb d_Mo_start_73 (by decide) (fun h => absurd rfl h) (fun _ => ?_)
  refine lv_iconst (v := 0) hx hb d_Mo_start_76 (by decide) ?_
  exact W.zret (v := 0) (ty := .boolean) hx hb hr (by decide) (fun t ht hW => ⟨⟨_, (), rfl, (rfl), trivial⟩, hS.F ht⟩) hS.2.2 d_Mo_start_77
abbrev t_Mr_isRow_18 : List UInt8 := 172 :: []
abbrev t_Mr_isRow_17 : List UInt8 := 3 :: t_Mr_isRow_18
abbrev t_Mr_isRow_14 : List UInt8 := 167 :: 0 :: 4 :: t_Mr_isRow_17
abbrev t_Mr_isRow_13 : List UInt8 := 4 :: t_Mr_isRow_14
abbrev t_Mr_isRow_10 : List UInt8 := 163 :: 0 :: 7 :: t_Mr_isRow_13
abbrev t_Mr_isRow_7 : List UInt8 := 180 :: 0 :: 133 :: t_Mr_isRow_10
abbrev t_Mr_isRow_6 : List UInt8 := 42 :: t_Mr_isRow_7
abbrev t_Mr_isRow_5 : List UInt8 := 27 :: t_Mr_isRow_6
abbrev t_Mr_isRow_2 : List UInt8 := 161 :: 0 :: 15 :: t_Mr_isRow_5
abbrev t_Mr_isRow_1 : List UInt8 := 4 :: t_Mr_isRow_2
abbrev t_Mr_isRow_0 : List UInt8 := 27 :: t_Mr_isRow_1
theorem a_Mr_isRow_0 : dk_at b_Mr_isRow 0 t_Mr_isRow_0 := dk_start (by decide +kernel)
theorem a_Mr_isRow_1 : dk_at b_Mr_isRow 1 t_Mr_isRow_1 := dk_go 1 a_Mr_isRow_0 rfl
theorem a_Mr_isRow_2 : dk_at b_Mr_isRow 2 t_Mr_isRow_2 := dk_go 1 a_Mr_isRow_1 rfl
theorem a_Mr_isRow_5 : dk_at b_Mr_isRow 5 t_Mr_isRow_5 := dk_go 3 a_Mr_isRow_2 rfl
theorem a_Mr_isRow_6 : dk_at b_Mr_isRow 6 t_Mr_isRow_6 := dk_go 1 a_Mr_isRow_5 rfl
theorem a_Mr_isRow_7 : dk_at b_Mr_isRow 7 t_Mr_isRow_7 := dk_go 1 a_Mr_isRow_6 rfl
theorem a_Mr_isRow_10 : dk_at b_Mr_isRow 10 t_Mr_isRow_10 := dk_go 3 a_Mr_isRow_7 rfl
theorem a_Mr_isRow_13 : dk_at b_Mr_isRow 13 t_Mr_isRow_13 := dk_go 3 a_Mr_isRow_10 rfl
theorem a_Mr_isRow_14 : dk_at b_Mr_isRow 14 t_Mr_isRow_14 := dk_go 1 a_Mr_isRow_13 rfl
theorem a_Mr_isRow_17 : dk_at b_Mr_isRow 17 t_Mr_isRow_17 := dk_go 3 a_Mr_isRow_14 rfl
theorem a_Mr_isRow_18 : dk_at b_Mr_isRow 18 t_Mr_isRow_18 := dk_go 1 a_Mr_isRow_17 rfl
theorem d_Mr_isRow_0 : decode b_Mr_isRow 0 = .ok (.iload_n 1, 1) := dk_0 a_Mr_isRow_0 (dko_27 _)
theorem d_Mr_isRow_1 : decode b_Mr_isRow 1 = .ok (.iconst 1, 1) := dk_0 a_Mr_isRow_1 (dko_4 _)
theorem d_Mr_isRow_2 : decode b_Mr_isRow 2 = .ok (.if_icmp .lt 15, 3) := dk_S2 a_Mr_isRow_2 (dko_161 _) (by decide +kernel)
theorem d_Mr_isRow_5 : decode b_Mr_isRow 5 = .ok (.iload_n 1, 1) := dk_0 a_Mr_isRow_5 (dko_27 _)
theorem d_Mr_isRow_6 : decode b_Mr_isRow 6 = .ok (.aload_n 0, 1) := dk_0 a_Mr_isRow_6 (dko_42 _)
theorem d_Mr_isRow_7 : decode b_Mr_isRow 7 = .ok (.getfield 133, 3) := dk_U2 a_Mr_isRow_7 (dko_180 _) rfl
theorem d_Mr_isRow_10 : decode b_Mr_isRow 10 = .ok (.if_icmp .gt 7, 3) := dk_S2 a_Mr_isRow_10 (dko_163 _) (by decide +kernel)
theorem d_Mr_isRow_17 : decode b_Mr_isRow 17 = .ok (.iconst 0, 1) := dk_0 a_Mr_isRow_17 (dko_3 _)
theorem d_Mr_isRow_18 : decode b_Mr_isRow 18 = .ok (.ireturn, 1) := dk_0 a_Mr_isRow_18 (dko_172 _)
set_option maxHeartbeats 4000000 in
set_option maxRecDepth 100000 in
theorem c_Mr_isRow (l : Launch) (dC : Nat → ClassId) (dI : Nat → Nat → Nat) (cI cB cZ cJ : ClassId) (rr : Int32) (oR : Nat) (fr : List Value) (hr_rows : fx fr 20 (.int 0)) (sz : Nat) : Met l y_Mr_isRow w_Mr_isRow ({ frames := 0, cells := 0, slots := 0, locals := 0 }) (va_Pc [.ref oR, .int rr] (PW dC dI cI cB cZ cJ [(oR, .inr (14, fr))] sz)) (va_Qi (fun (r : Int32) (_ : Unit) => r = 0) (fun _ _ => True) (va_A [] sz)) 0 0 (va_A [] sz) := by
  refine Met.ofW (cc := b_Mr_isRow) (maxL := 2) (ret := (some .boolean)) (by decide) rfl ?_
  intro p e s m args below meth c s₁ B hml hv
  obtain ⟨rfl, hsz, hP, hK, hD⟩ := hv
  have hx := B.exec
  have hb := B.bytes
  have hr := B.returns
  have hts := atoms_spec (ws := w_Mr_isRow) B.pre
  have hown : s.vm.findClass R_Mr = some m.cls := findClass_of_methodNamed B.named
  have hlocks := B.notSynchronized
  subst hsz
  generalize hAe : va_A [] s.heap.size = A at ⊢
  have hA : ∀ q : Nat, s.heap.size ≤ q → A q := fun q h => by rw [← hAe]; exact Or.inr h
  have hS : va_S A s.heap s.heap [] := va_S.rf
  have hP : va_P (dC, dI) classes [(oR, .inr (14, fr))] s.heap := hP
  have hl := lv_entry ([.ref oR, .int rr]) (n := 2) (Nat.le_of_ble_eq_true rfl)
  rw [lg_entry_eq]
  generalize (lg_sl ([.ref oR, .int rr]) ++ List.replicate (2 - (lg_sl ([.ref oR, .int rr])).length) Slot.unset).toArray = ls at hl ⊢
  have hl : lv_has ls 2 [(0, .ref oR), (1, .int rr)] := hl
  refine lv_iload_n hx hb d_Mr_isRow_0 rfl (lv_at hl 1 rfl) ?_
  refine lv_iconst (v := 1) hx hb d_Mr_isRow_1 (by decide) ?_
  refine lv_icmp_lt (tgt := 17) hx hb d_Mr_isRow_2 (by decide) (fun h2 => ?_) (fun h2 => ?_)
  · refine lv_iconst (v := 0) hx hb d_Mr_isRow_17 (by decide) ?_
    exact W.zret (v := 0) (ty := .boolean) hx hb hr (by decide) (fun t ht hW => ⟨⟨_, (), rfl, (rfl), trivial⟩, hS.F ht⟩) hS.2.2 d_Mr_isRow_18
  · refine lv_iload_n hx hb d_Mr_isRow_5 rfl (lv_at hl 1 rfl) ?_
    refine lv_aload_n hx hb d_Mr_isRow_6 rfl (lv_at hl 0 rfl) ?_
    refine va_get (D := (dC, dI)) (ci := 14) (v := .int 0) (C := R_Mr) (T := F_Mr) (N := 25) hx hb hts (fun w h => List.mem_cons_of_mem _ (in_Mr w h)) hown hK.1 hP 0 rfl rfl 20 (by decide) (hts _ (List.mem_cons_of_mem _ mw_1732)) (fun _ h9 => h9) hr_rows d_Mr_isRow_7 ?_
    refine lv_icmp_gt (tgt := 17) hx hb d_Mr_isRow_10 (by decide) (fun _ => ?_) (fun h => absurd (nd_lt h2 (by decide)) h)
    refine lv_iconst (v := 0) hx hb d_Mr_isRow_17 (by decide) ?_
    exact W.zret (v := 0) (ty := .boolean) hx hb hr (by decide) (fun t ht hW => ⟨⟨_, (), rfl, (rfl), trivial⟩, hS.F ht⟩) hS.2.2 d_Mr_isRow_18
abbrev t_Mr_pass_84 : List UInt8 := 172 :: []
abbrev t_Mr_pass_83 : List UInt8 := 3 :: t_Mr_pass_84
abbrev t_Mr_pass_82 : List UInt8 := 79 :: t_Mr_pass_83
abbrev t_Mr_pass_80 : List UInt8 := 21 :: 4 :: t_Mr_pass_82
abbrev t_Mr_pass_79 : List UInt8 := 100 :: t_Mr_pass_80
abbrev t_Mr_pass_78 : List UInt8 := 4 :: t_Mr_pass_79
abbrev t_Mr_pass_77 : List UInt8 := 27 :: t_Mr_pass_78
abbrev t_Mr_pass_74 : List UInt8 := 180 :: 0 :: 56 :: t_Mr_pass_77
abbrev t_Mr_pass_73 : List UInt8 := 42 :: t_Mr_pass_74
abbrev t_Mr_pass_72 : List UInt8 := 172 :: t_Mr_pass_73
abbrev t_Mr_pass_70 : List UInt8 := 16 :: 252 :: t_Mr_pass_72
abbrev t_Mr_pass_67 : List UInt8 := 158 :: 0 :: 6 :: t_Mr_pass_70
abbrev t_Mr_pass_66 : List UInt8 := 46 :: t_Mr_pass_67
abbrev t_Mr_pass_65 : List UInt8 := 100 :: t_Mr_pass_66
abbrev t_Mr_pass_64 : List UInt8 := 4 :: t_Mr_pass_65
abbrev t_Mr_pass_63 : List UInt8 := 27 :: t_Mr_pass_64
abbrev t_Mr_pass_60 : List UInt8 := 180 :: 0 :: 56 :: t_Mr_pass_63
abbrev t_Mr_pass_59 : List UInt8 := 42 :: t_Mr_pass_60
abbrev t_Mr_pass_58 : List UInt8 := 172 :: t_Mr_pass_59
abbrev t_Mr_pass_56 : List UInt8 := 16 :: 253 :: t_Mr_pass_58
abbrev t_Mr_pass_53 : List UInt8 := 164 :: 0 :: 6 :: t_Mr_pass_56
abbrev t_Mr_pass_50 : List UInt8 := 17 :: 14 :: 16 :: t_Mr_pass_53
abbrev t_Mr_pass_48 : List UInt8 := 21 :: 4 :: t_Mr_pass_50
abbrev t_Mr_pass_45 : List UInt8 := 161 :: 0 :: 11 :: t_Mr_pass_48
abbrev t_Mr_pass_44 : List UInt8 := 4 :: t_Mr_pass_45
abbrev t_Mr_pass_42 : List UInt8 := 21 :: 4 :: t_Mr_pass_44
abbrev t_Mr_pass_41 : List UInt8 := 172 :: t_Mr_pass_42
abbrev t_Mr_pass_39 : List UInt8 := 16 :: 254 :: t_Mr_pass_41
abbrev t_Mr_pass_36 : List UInt8 := 160 :: 0 :: 6 :: t_Mr_pass_39
abbrev t_Mr_pass_35 : List UInt8 := 29 :: t_Mr_pass_36
abbrev t_Mr_pass_34 : List UInt8 := 28 :: t_Mr_pass_35
abbrev t_Mr_pass_31 : List UInt8 := 163 :: 0 :: 8 :: t_Mr_pass_34
abbrev t_Mr_pass_28 : List UInt8 := 17 :: 3 :: 231 :: t_Mr_pass_31
abbrev t_Mr_pass_27 : List UInt8 := 29 :: t_Mr_pass_28
abbrev t_Mr_pass_24 : List UInt8 := 161 :: 0 :: 15 :: t_Mr_pass_27
abbrev t_Mr_pass_23 : List UInt8 := 4 :: t_Mr_pass_24
abbrev t_Mr_pass_22 : List UInt8 := 29 :: t_Mr_pass_23
abbrev t_Mr_pass_19 : List UInt8 := 163 :: 0 :: 20 :: t_Mr_pass_22
abbrev t_Mr_pass_16 : List UInt8 := 17 :: 3 :: 231 :: t_Mr_pass_19
abbrev t_Mr_pass_15 : List UInt8 := 28 :: t_Mr_pass_16
abbrev t_Mr_pass_12 : List UInt8 := 161 :: 0 :: 27 :: t_Mr_pass_15
abbrev t_Mr_pass_11 : List UInt8 := 4 :: t_Mr_pass_12
abbrev t_Mr_pass_10 : List UInt8 := 28 :: t_Mr_pass_11
abbrev t_Mr_pass_9 : List UInt8 := 172 :: t_Mr_pass_10
abbrev t_Mr_pass_8 : List UInt8 := 2 :: t_Mr_pass_9
abbrev t_Mr_pass_5 : List UInt8 := 154 :: 0 :: 5 :: t_Mr_pass_8
abbrev t_Mr_pass_2 : List UInt8 := 182 :: 0 :: 151 :: t_Mr_pass_5
abbrev t_Mr_pass_1 : List UInt8 := 27 :: t_Mr_pass_2
abbrev t_Mr_pass_0 : List UInt8 := 42 :: t_Mr_pass_1
theorem a_Mr_pass_0 : dk_at b_Mr_pass 0 t_Mr_pass_0 := dk_start (by decide +kernel)
theorem a_Mr_pass_1 : dk_at b_Mr_pass 1 t_Mr_pass_1 := dk_go 1 a_Mr_pass_0 rfl
theorem a_Mr_pass_2 : dk_at b_Mr_pass 2 t_Mr_pass_2 := dk_go 1 a_Mr_pass_1 rfl
theorem a_Mr_pass_5 : dk_at b_Mr_pass 5 t_Mr_pass_5 := dk_go 3 a_Mr_pass_2 rfl
theorem a_Mr_pass_8 : dk_at b_Mr_pass 8 t_Mr_pass_8 := dk_go 3 a_Mr_pass_5 rfl
theorem a_Mr_pass_9 : dk_at b_Mr_pass 9 t_Mr_pass_9 := dk_go 1 a_Mr_pass_8 rfl
theorem a_Mr_pass_10 : dk_at b_Mr_pass 10 t_Mr_pass_10 := dk_go 1 a_Mr_pass_9 rfl
theorem a_Mr_pass_11 : dk_at b_Mr_pass 11 t_Mr_pass_11 := dk_go 1 a_Mr_pass_10 rfl
theorem a_Mr_pass_12 : dk_at b_Mr_pass 12 t_Mr_pass_12 := dk_go 1 a_Mr_pass_11 rfl
theorem a_Mr_pass_15 : dk_at b_Mr_pass 15 t_Mr_pass_15 := dk_go 3 a_Mr_pass_12 rfl
theorem a_Mr_pass_16 : dk_at b_Mr_pass 16 t_Mr_pass_16 := dk_go 1 a_Mr_pass_15 rfl
theorem a_Mr_pass_19 : dk_at b_Mr_pass 19 t_Mr_pass_19 := dk_go 3 a_Mr_pass_16 rfl
theorem a_Mr_pass_22 : dk_at b_Mr_pass 22 t_Mr_pass_22 := dk_go 3 a_Mr_pass_19 rfl
theorem a_Mr_pass_23 : dk_at b_Mr_pass 23 t_Mr_pass_23 := dk_go 1 a_Mr_pass_22 rfl
theorem a_Mr_pass_24 : dk_at b_Mr_pass 24 t_Mr_pass_24 := dk_go 1 a_Mr_pass_23 rfl
theorem a_Mr_pass_27 : dk_at b_Mr_pass 27 t_Mr_pass_27 := dk_go 3 a_Mr_pass_24 rfl
theorem a_Mr_pass_28 : dk_at b_Mr_pass 28 t_Mr_pass_28 := dk_go 1 a_Mr_pass_27 rfl
theorem a_Mr_pass_31 : dk_at b_Mr_pass 31 t_Mr_pass_31 := dk_go 3 a_Mr_pass_28 rfl
theorem a_Mr_pass_34 : dk_at b_Mr_pass 34 t_Mr_pass_34 := dk_go 3 a_Mr_pass_31 rfl
theorem a_Mr_pass_35 : dk_at b_Mr_pass 35 t_Mr_pass_35 := dk_go 1 a_Mr_pass_34 rfl
theorem a_Mr_pass_36 : dk_at b_Mr_pass 36 t_Mr_pass_36 := dk_go 1 a_Mr_pass_35 rfl
theorem a_Mr_pass_39 : dk_at b_Mr_pass 39 t_Mr_pass_39 := dk_go 3 a_Mr_pass_36 rfl
theorem a_Mr_pass_41 : dk_at b_Mr_pass 41 t_Mr_pass_41 := dk_go 2 a_Mr_pass_39 rfl
theorem a_Mr_pass_42 : dk_at b_Mr_pass 42 t_Mr_pass_42 := dk_go 1 a_Mr_pass_41 rfl
theorem a_Mr_pass_44 : dk_at b_Mr_pass 44 t_Mr_pass_44 := dk_go 2 a_Mr_pass_42 rfl
theorem a_Mr_pass_45 : dk_at b_Mr_pass 45 t_Mr_pass_45 := dk_go 1 a_Mr_pass_44 rfl
theorem a_Mr_pass_48 : dk_at b_Mr_pass 48 t_Mr_pass_48 := dk_go 3 a_Mr_pass_45 rfl
theorem a_Mr_pass_50 : dk_at b_Mr_pass 50 t_Mr_pass_50 := dk_go 2 a_Mr_pass_48 rfl
theorem a_Mr_pass_53 : dk_at b_Mr_pass 53 t_Mr_pass_53 := dk_go 3 a_Mr_pass_50 rfl
theorem a_Mr_pass_56 : dk_at b_Mr_pass 56 t_Mr_pass_56 := dk_go 3 a_Mr_pass_53 rfl
theorem a_Mr_pass_58 : dk_at b_Mr_pass 58 t_Mr_pass_58 := dk_go 2 a_Mr_pass_56 rfl
theorem a_Mr_pass_59 : dk_at b_Mr_pass 59 t_Mr_pass_59 := dk_go 1 a_Mr_pass_58 rfl
theorem a_Mr_pass_60 : dk_at b_Mr_pass 60 t_Mr_pass_60 := dk_go 1 a_Mr_pass_59 rfl
theorem a_Mr_pass_63 : dk_at b_Mr_pass 63 t_Mr_pass_63 := dk_go 3 a_Mr_pass_60 rfl
theorem a_Mr_pass_64 : dk_at b_Mr_pass 64 t_Mr_pass_64 := dk_go 1 a_Mr_pass_63 rfl
theorem a_Mr_pass_65 : dk_at b_Mr_pass 65 t_Mr_pass_65 := dk_go 1 a_Mr_pass_64 rfl
theorem a_Mr_pass_66 : dk_at b_Mr_pass 66 t_Mr_pass_66 := dk_go 1 a_Mr_pass_65 rfl
theorem a_Mr_pass_67 : dk_at b_Mr_pass 67 t_Mr_pass_67 := dk_go 1 a_Mr_pass_66 rfl
theorem a_Mr_pass_70 : dk_at b_Mr_pass 70 t_Mr_pass_70 := dk_go 3 a_Mr_pass_67 rfl
theorem a_Mr_pass_72 : dk_at b_Mr_pass 72 t_Mr_pass_72 := dk_go 2 a_Mr_pass_70 rfl
theorem a_Mr_pass_73 : dk_at b_Mr_pass 73 t_Mr_pass_73 := dk_go 1 a_Mr_pass_72 rfl
theorem a_Mr_pass_74 : dk_at b_Mr_pass 74 t_Mr_pass_74 := dk_go 1 a_Mr_pass_73 rfl
theorem a_Mr_pass_77 : dk_at b_Mr_pass 77 t_Mr_pass_77 := dk_go 3 a_Mr_pass_74 rfl
theorem a_Mr_pass_78 : dk_at b_Mr_pass 78 t_Mr_pass_78 := dk_go 1 a_Mr_pass_77 rfl
theorem a_Mr_pass_79 : dk_at b_Mr_pass 79 t_Mr_pass_79 := dk_go 1 a_Mr_pass_78 rfl
theorem a_Mr_pass_80 : dk_at b_Mr_pass 80 t_Mr_pass_80 := dk_go 1 a_Mr_pass_79 rfl
theorem a_Mr_pass_82 : dk_at b_Mr_pass 82 t_Mr_pass_82 := dk_go 2 a_Mr_pass_80 rfl
theorem a_Mr_pass_83 : dk_at b_Mr_pass 83 t_Mr_pass_83 := dk_go 1 a_Mr_pass_82 rfl
theorem a_Mr_pass_84 : dk_at b_Mr_pass 84 t_Mr_pass_84 := dk_go 1 a_Mr_pass_83 rfl
theorem d_Mr_pass_0 : decode b_Mr_pass 0 = .ok (.aload_n 0, 1) := dk_0 a_Mr_pass_0 (dko_42 _)
theorem d_Mr_pass_1 : decode b_Mr_pass 1 = .ok (.iload_n 1, 1) := dk_0 a_Mr_pass_1 (dko_27 _)
theorem d_Mr_pass_2 : decode b_Mr_pass 2 = .ok (.invokevirtual 151, 3) := dk_U2 a_Mr_pass_2 (dko_182 _) rfl
theorem d_Mr_pass_5 : decode b_Mr_pass 5 = .ok (.ifCond .ne 5, 3) := dk_S2 a_Mr_pass_5 (dko_154 _) (by decide +kernel)
theorem d_Mr_pass_8 : decode b_Mr_pass 8 = .ok (.iconst (-1), 1) := dk_0 a_Mr_pass_8 (dko_2 _)
theorem d_Mr_pass_9 : decode b_Mr_pass 9 = .ok (.ireturn, 1) := dk_0 a_Mr_pass_9 (dko_172 _)
set_option maxHeartbeats 4000000 in
set_option maxRecDepth 100000 in
theorem c_Mr_pass (l : Launch) (dC : Nat → ClassId) (dI : Nat → Nat → Nat) (cI cB cZ cJ : ClassId) (rr : Int32) (pa : Int32) (pb : Int32) (se : Int32) (oR : Nat) (fr : List Value) (hr_rows : fx fr 20 (.int 0)) (sz : Nat) : Met l y_Mr_pass w_Mr_pass ({ frames := 1, cells := 0, slots := 0, locals := 21 }) (va_Pc [.ref oR, .int rr, .int pa, .int pb, .int se] (PW dC dI cI cB cZ cJ [(oR, .inr (14, fr))] sz)) (va_Qi (fun (r : Int32) (_ : Unit) => r = (-1)) (fun _ _ => True) (va_A [] sz)) 0 0 (va_A [] sz) := by
  refine Met.ofW (cc := b_Mr_pass) (maxL := 5) (ret := (some .int)) (by decide) rfl ?_
  intro p e s m args below meth c s₁ B hml hv
  obtain ⟨rfl, hsz, hP, hK, hD⟩ := hv
  have hx := B.exec
  have hb := B.bytes
  have hr := B.returns
  have hts := atoms_spec (ws := w_Mr_pass) B.pre
  have hown : s.vm.findClass R_Mr = some m.cls := findClass_of_methodNamed B.named
  have hlocks := B.notSynchronized
  subst hsz
  generalize hAe : va_A [] s.heap.size = A at ⊢
  have hA : ∀ q : Nat, s.heap.size ≤ q → A q := fun q h => by rw [← hAe]; exact Or.inr h
  have hS : va_S A s.heap s.heap [] := va_S.rf
  have hP : va_P (dC, dI) classes [(oR, .inr (14, fr))] s.heap := hP
  have hl := lv_entry ([.ref oR, .int rr, .int pa, .int pb, .int se]) (n := 5) (Nat.le_of_ble_eq_true rfl)
  rw [lg_entry_eq]
  generalize (lg_sl ([.ref oR, .int rr, .int pa, .int pb, .int se]) ++ List.replicate (5 - (lg_sl ([.ref oR, .int rr, .int pa, .int pb, .int se])).length) Slot.unset).toArray = ls at hl ⊢
  have hl : lv_has ls 5 [(0, .ref oR), (1, .int rr), (2, .int pa), (3, .int pb), (4, .int se)] := hl
  refine lv_aload_n hx hb d_Mr_pass_0 rfl (lv_at hl 0 rfl) ?_
  refine lv_iload_n hx hb d_Mr_pass_1 rfl (lv_at hl 1 rfl) ?_
  have hPc := hP.sub (ws' := [(oR, .inr (14, fr))]) [0] rfl
  have hDc := hD.sub (ws' := [(oR, .inr (14, fr))]) [0] (by decide) rfl
  have hFc := pu_free hS hA
  refine va_calli (va_runV (C := R_Mr) (As := [.int rr]) (rest := []) ⟨hx, hb, hml, hown, hts⟩ (c_Mr_isRow l dC dI cI cB cZ cJ rr oR fr hr_rows s.heap.size) (cwV 1 hts (tb_V mw_2553 mw_2555 sl_174 mw_20 mw_2556) rfl rfl rfl ⟨rfl, by decide +kernel, by decide +kernel, by decide +kernel⟩ ⟨(Nat.le_of_ble_eq_true rfl), (Nat.le_of_ble_eq_true rfl)⟩) ⟨pw_blind, va_recv (q := (R_Mr, F_Mr, 25)) hK.1 hP (ci := 14) (q0 := 0) rfl rfl, pw_pre hPc hK hDc⟩ rfl rfl hl.1 rfl (lv_room (Nat.le_of_ble_eq_true rfl)) d_Mr_pass_2 ⟨(Nat.le_of_ble_eq_true rfl), (Nat.le_of_ble_eq_true rfl)⟩) hS (fun q _ h => hFc q h) hFc (fun r u t H locs ht hvm hw hB hz1 hk1 hS => ?_)
  have hP := pu_kept hP hk1
  obtain rfl : r = 0 := hw
  refine lv_if_ne (tgt := 10) hx hb d_Mr_pass_5 (by decide) (fun h => absurd rfl h) (fun _ => ?_)
  refine lv_iconst (v := (-1)) hx hb d_Mr_pass_8 (by decide) ?_
  exact W.iret (v := (-1)) hx hb hr (fun t ht hW => ⟨⟨_, (), rfl, (rfl), trivial⟩, hS.F ht⟩) hS.2.2 d_Mr_pass_9
abbrev t_Mr_reset_41 : List UInt8 := 172 :: []
abbrev t_Mr_reset_40 : List UInt8 := 4 :: t_Mr_reset_41
abbrev t_Mr_reset_39 : List UInt8 := 84 :: t_Mr_reset_40
abbrev t_Mr_reset_38 : List UInt8 := 3 :: t_Mr_reset_39
abbrev t_Mr_reset_37 : List UInt8 := 100 :: t_Mr_reset_38
abbrev t_Mr_reset_36 : List UInt8 := 4 :: t_Mr_reset_37
abbrev t_Mr_reset_35 : List UInt8 := 27 :: t_Mr_reset_36
abbrev t_Mr_reset_32 : List UInt8 := 180 :: 0 :: 53 :: t_Mr_reset_35
abbrev t_Mr_reset_31 : List UInt8 := 42 :: t_Mr_reset_32
abbrev t_Mr_reset_30 : List UInt8 := 172 :: t_Mr_reset_31
abbrev t_Mr_reset_29 : List UInt8 := 3 :: t_Mr_reset_30
abbrev t_Mr_reset_26 : List UInt8 := 153 :: 0 :: 5 :: t_Mr_reset_29
abbrev t_Mr_reset_23 : List UInt8 := 182 :: 0 :: 143 :: t_Mr_reset_26
abbrev t_Mr_reset_22 : List UInt8 := 100 :: t_Mr_reset_23
abbrev t_Mr_reset_21 : List UInt8 := 4 :: t_Mr_reset_22
abbrev t_Mr_reset_20 : List UInt8 := 27 :: t_Mr_reset_21
abbrev t_Mr_reset_19 : List UInt8 := 42 :: t_Mr_reset_20
abbrev t_Mr_reset_16 : List UInt8 := 153 :: 0 :: 13 :: t_Mr_reset_19
abbrev t_Mr_reset_15 : List UInt8 := 51 :: t_Mr_reset_16
abbrev t_Mr_reset_14 : List UInt8 := 100 :: t_Mr_reset_15
abbrev t_Mr_reset_13 : List UInt8 := 4 :: t_Mr_reset_14
abbrev t_Mr_reset_12 : List UInt8 := 27 :: t_Mr_reset_13
abbrev t_Mr_reset_9 : List UInt8 := 180 :: 0 :: 53 :: t_Mr_reset_12
abbrev t_Mr_reset_8 : List UInt8 := 42 :: t_Mr_reset_9
abbrev t_Mr_reset_5 : List UInt8 := 153 :: 0 :: 24 :: t_Mr_reset_8
abbrev t_Mr_reset_2 : List UInt8 := 182 :: 0 :: 151 :: t_Mr_reset_5
abbrev t_Mr_reset_1 : List UInt8 := 27 :: t_Mr_reset_2
abbrev t_Mr_reset_0 : List UInt8 := 42 :: t_Mr_reset_1
theorem a_Mr_reset_0 : dk_at b_Mr_reset 0 t_Mr_reset_0 := dk_start (by decide +kernel)
theorem a_Mr_reset_1 : dk_at b_Mr_reset 1 t_Mr_reset_1 := dk_go 1 a_Mr_reset_0 rfl
theorem a_Mr_reset_2 : dk_at b_Mr_reset 2 t_Mr_reset_2 := dk_go 1 a_Mr_reset_1 rfl
theorem a_Mr_reset_5 : dk_at b_Mr_reset 5 t_Mr_reset_5 := dk_go 3 a_Mr_reset_2 rfl
theorem a_Mr_reset_8 : dk_at b_Mr_reset 8 t_Mr_reset_8 := dk_go 3 a_Mr_reset_5 rfl
theorem a_Mr_reset_9 : dk_at b_Mr_reset 9 t_Mr_reset_9 := dk_go 1 a_Mr_reset_8 rfl
theorem a_Mr_reset_12 : dk_at b_Mr_reset 12 t_Mr_reset_12 := dk_go 3 a_Mr_reset_9 rfl
theorem a_Mr_reset_13 : dk_at b_Mr_reset 13 t_Mr_reset_13 := dk_go 1 a_Mr_reset_12 rfl
theorem a_Mr_reset_14 : dk_at b_Mr_reset 14 t_Mr_reset_14 := dk_go 1 a_Mr_reset_13 rfl
theorem a_Mr_reset_15 : dk_at b_Mr_reset 15 t_Mr_reset_15 := dk_go 1 a_Mr_reset_14 rfl
theorem a_Mr_reset_16 : dk_at b_Mr_reset 16 t_Mr_reset_16 := dk_go 1 a_Mr_reset_15 rfl
theorem a_Mr_reset_19 : dk_at b_Mr_reset 19 t_Mr_reset_19 := dk_go 3 a_Mr_reset_16 rfl
theorem a_Mr_reset_20 : dk_at b_Mr_reset 20 t_Mr_reset_20 := dk_go 1 a_Mr_reset_19 rfl
theorem a_Mr_reset_21 : dk_at b_Mr_reset 21 t_Mr_reset_21 := dk_go 1 a_Mr_reset_20 rfl
theorem a_Mr_reset_22 : dk_at b_Mr_reset 22 t_Mr_reset_22 := dk_go 1 a_Mr_reset_21 rfl
theorem a_Mr_reset_23 : dk_at b_Mr_reset 23 t_Mr_reset_23 := dk_go 1 a_Mr_reset_22 rfl
theorem a_Mr_reset_26 : dk_at b_Mr_reset 26 t_Mr_reset_26 := dk_go 3 a_Mr_reset_23 rfl
theorem a_Mr_reset_29 : dk_at b_Mr_reset 29 t_Mr_reset_29 := dk_go 3 a_Mr_reset_26 rfl
theorem a_Mr_reset_30 : dk_at b_Mr_reset 30 t_Mr_reset_30 := dk_go 1 a_Mr_reset_29 rfl
theorem a_Mr_reset_31 : dk_at b_Mr_reset 31 t_Mr_reset_31 := dk_go 1 a_Mr_reset_30 rfl
theorem a_Mr_reset_32 : dk_at b_Mr_reset 32 t_Mr_reset_32 := dk_go 1 a_Mr_reset_31 rfl
theorem a_Mr_reset_35 : dk_at b_Mr_reset 35 t_Mr_reset_35 := dk_go 3 a_Mr_reset_32 rfl
theorem a_Mr_reset_36 : dk_at b_Mr_reset 36 t_Mr_reset_36 := dk_go 1 a_Mr_reset_35 rfl
theorem a_Mr_reset_37 : dk_at b_Mr_reset 37 t_Mr_reset_37 := dk_go 1 a_Mr_reset_36 rfl
theorem a_Mr_reset_38 : dk_at b_Mr_reset 38 t_Mr_reset_38 := dk_go 1 a_Mr_reset_37 rfl
theorem a_Mr_reset_39 : dk_at b_Mr_reset 39 t_Mr_reset_39 := dk_go 1 a_Mr_reset_38 rfl
theorem a_Mr_reset_40 : dk_at b_Mr_reset 40 t_Mr_reset_40 := dk_go 1 a_Mr_reset_39 rfl
theorem a_Mr_reset_41 : dk_at b_Mr_reset 41 t_Mr_reset_41 := dk_go 1 a_Mr_reset_40 rfl
theorem d_Mr_reset_0 : decode b_Mr_reset 0 = .ok (.aload_n 0, 1) := dk_0 a_Mr_reset_0 (dko_42 _)
theorem d_Mr_reset_1 : decode b_Mr_reset 1 = .ok (.iload_n 1, 1) := dk_0 a_Mr_reset_1 (dko_27 _)
theorem d_Mr_reset_2 : decode b_Mr_reset 2 = .ok (.invokevirtual 151, 3) := dk_U2 a_Mr_reset_2 (dko_182 _) rfl
theorem d_Mr_reset_5 : decode b_Mr_reset 5 = .ok (.ifCond .eq 24, 3) := dk_S2 a_Mr_reset_5 (dko_153 _) (by decide +kernel)
theorem d_Mr_reset_29 : decode b_Mr_reset 29 = .ok (.iconst 0, 1) := dk_0 a_Mr_reset_29 (dko_3 _)
theorem d_Mr_reset_30 : decode b_Mr_reset 30 = .ok (.ireturn, 1) := dk_0 a_Mr_reset_30 (dko_172 _)
set_option maxHeartbeats 4000000 in
set_option maxRecDepth 100000 in
theorem c_Mr_reset (l : Launch) (dC : Nat → ClassId) (dI : Nat → Nat → Nat) (cI cB cZ cJ : ClassId) (rr : Int32) (oR : Nat) (fr : List Value) (hr_rows : fx fr 20 (.int 0)) (sz : Nat) : Met l y_Mr_reset w_Mr_reset ({ frames := 1, cells := 0, slots := 0, locals := 21 }) (va_Pc [.ref oR, .int rr] (PW dC dI cI cB cZ cJ [(oR, .inr (14, fr))] sz)) (va_Qi (fun (r : Int32) (_ : Unit) => r = 0) (fun _ _ => True) (va_A [] sz)) 0 0 (va_A [] sz) := by
  refine Met.ofW (cc := b_Mr_reset) (maxL := 2) (ret := (some .boolean)) (by decide) rfl ?_
  intro p e s m args below meth c s₁ B hml hv
  obtain ⟨rfl, hsz, hP, hK, hD⟩ := hv
  have hx := B.exec
  have hb := B.bytes
  have hr := B.returns
  have hts := atoms_spec (ws := w_Mr_reset) B.pre
  have hown : s.vm.findClass R_Mr = some m.cls := findClass_of_methodNamed B.named
  have hlocks := B.notSynchronized
  subst hsz
  generalize hAe : va_A [] s.heap.size = A at ⊢
  have hA : ∀ q : Nat, s.heap.size ≤ q → A q := fun q h => by rw [← hAe]; exact Or.inr h
  have hS : va_S A s.heap s.heap [] := va_S.rf
  have hP : va_P (dC, dI) classes [(oR, .inr (14, fr))] s.heap := hP
  have hl := lv_entry ([.ref oR, .int rr]) (n := 2) (Nat.le_of_ble_eq_true rfl)
  rw [lg_entry_eq]
  generalize (lg_sl ([.ref oR, .int rr]) ++ List.replicate (2 - (lg_sl ([.ref oR, .int rr])).length) Slot.unset).toArray = ls at hl ⊢
  have hl : lv_has ls 2 [(0, .ref oR), (1, .int rr)] := hl
  refine lv_aload_n hx hb d_Mr_reset_0 rfl (lv_at hl 0 rfl) ?_
  refine lv_iload_n hx hb d_Mr_reset_1 rfl (lv_at hl 1 rfl) ?_
  have hPc := hP.sub (ws' := [(oR, .inr (14, fr))]) [0] rfl
  have hDc := hD.sub (ws' := [(oR, .inr (14, fr))]) [0] (by decide) rfl
  have hFc := pu_free hS hA
  refine va_calli (va_runV (C := R_Mr) (As := [.int rr]) (rest := []) ⟨hx, hb, hml, hown, hts⟩ (c_Mr_isRow l dC dI cI cB cZ cJ rr oR fr hr_rows s.heap.size) (cwV 1 hts (tb_V mw_2553 mw_2555 sl_174 mw_20 mw_2556) rfl rfl rfl ⟨rfl, by decide +kernel, by decide +kernel, by decide +kernel⟩ ⟨(Nat.le_of_ble_eq_true rfl), (Nat.le_of_ble_eq_true rfl)⟩) ⟨pw_blind, va_recv (q := (R_Mr, F_Mr, 25)) hK.1 hP (ci := 14) (q0 := 0) rfl rfl, pw_pre hPc hK hDc⟩ rfl rfl hl.1 rfl (lv_room (Nat.le_of_ble_eq_true rfl)) d_Mr_reset_2 ⟨(Nat.le_of_ble_eq_true rfl), (Nat.le_of_ble_eq_true rfl)⟩) hS (fun q _ h => hFc q h) hFc (fun r u t H locs ht hvm hw hB hz1 hk1 hS => ?_)
  have hP := pu_kept hP hk1
  obtain rfl : r = 0 := hw
  refine lv_if_eq (tgt := 29) hx hb d_Mr_reset_5 (by decide) (fun _ => ?_) (fun h => absurd (by decide) h)
  refine lv_iconst (v := 0) hx hb d_Mr_reset_29 (by decide) ?_
  exact W.zret (v := 0) (ty := .boolean) hx hb hr (by decide) (fun t ht hW => ⟨⟨_, (), rfl, (rfl), trivial⟩, hS.F ht⟩) hS.2.2 d_Mr_reset_30
abbrev t_Mr_act1_101 : List UInt8 := 172 :: []
abbrev t_Mr_act1_100 : List UInt8 := 3 :: t_Mr_act1_101
abbrev t_Mr_act1_97 : List UInt8 := 167 :: 255 :: 173 :: t_Mr_act1_100
abbrev t_Mr_act1_94 : List UInt8 := 132 :: 2 :: 1 :: t_Mr_act1_97
abbrev t_Mr_act1_93 : List UInt8 := 172 :: t_Mr_act1_94
abbrev t_Mr_act1_92 : List UInt8 := 96 :: t_Mr_act1_93
abbrev t_Mr_act1_91 : List UInt8 := 4 :: t_Mr_act1_92
abbrev t_Mr_act1_90 : List UInt8 := 28 :: t_Mr_act1_91
abbrev t_Mr_act1_87 : List UInt8 := 153 :: 0 :: 7 :: t_Mr_act1_90
abbrev t_Mr_act1_84 : List UInt8 := 182 :: 0 :: 147 :: t_Mr_act1_87
abbrev t_Mr_act1_83 : List UInt8 := 27 :: t_Mr_act1_84
abbrev t_Mr_act1_82 : List UInt8 := 28 :: t_Mr_act1_83
abbrev t_Mr_act1_81 : List UInt8 := 42 :: t_Mr_act1_82
abbrev t_Mr_act1_78 : List UInt8 := 153 :: 0 :: 16 :: t_Mr_act1_81
abbrev t_Mr_act1_77 : List UInt8 := 29 :: t_Mr_act1_78
abbrev t_Mr_act1_76 : List UInt8 := 62 :: t_Mr_act1_77
abbrev t_Mr_act1_75 : List UInt8 := 3 :: t_Mr_act1_76
abbrev t_Mr_act1_72 : List UInt8 := 167 :: 0 :: 4 :: t_Mr_act1_75
abbrev t_Mr_act1_71 : List UInt8 := 4 :: t_Mr_act1_72
abbrev t_Mr_act1_68 : List UInt8 := 161 :: 0 :: 7 :: t_Mr_act1_71
abbrev t_Mr_act1_67 : List UInt8 := 46 :: t_Mr_act1_68
abbrev t_Mr_act1_66 : List UInt8 := 96 :: t_Mr_act1_67
abbrev t_Mr_act1_65 : List UInt8 := 28 :: t_Mr_act1_66
abbrev t_Mr_act1_64 : List UInt8 := 104 :: t_Mr_act1_65
abbrev t_Mr_act1_61 : List UInt8 := 180 :: 0 :: 85 :: t_Mr_act1_64
abbrev t_Mr_act1_60 : List UInt8 := 42 :: t_Mr_act1_61
abbrev t_Mr_act1_58 : List UInt8 := 16 :: 40 :: t_Mr_act1_60
abbrev t_Mr_act1_55 : List UInt8 := 180 :: 0 :: 40 :: t_Mr_act1_58
abbrev t_Mr_act1_54 : List UInt8 := 42 :: t_Mr_act1_55
abbrev t_Mr_act1_53 : List UInt8 := 46 :: t_Mr_act1_54
abbrev t_Mr_act1_52 : List UInt8 := 28 :: t_Mr_act1_53
abbrev t_Mr_act1_49 : List UInt8 := 180 :: 0 :: 50 :: t_Mr_act1_52
abbrev t_Mr_act1_48 : List UInt8 := 42 :: t_Mr_act1_49
abbrev t_Mr_act1_45 : List UInt8 := 153 :: 0 :: 30 :: t_Mr_act1_48
abbrev t_Mr_act1_42 : List UInt8 := 182 :: 0 :: 143 :: t_Mr_act1_45
abbrev t_Mr_act1_41 : List UInt8 := 28 :: t_Mr_act1_42
abbrev t_Mr_act1_40 : List UInt8 := 42 :: t_Mr_act1_41
abbrev t_Mr_act1_37 : List UInt8 := 154 :: 0 :: 34 :: t_Mr_act1_40
abbrev t_Mr_act1_36 : List UInt8 := 51 :: t_Mr_act1_37
abbrev t_Mr_act1_35 : List UInt8 := 28 :: t_Mr_act1_36
abbrev t_Mr_act1_32 : List UInt8 := 180 :: 0 :: 53 :: t_Mr_act1_35
abbrev t_Mr_act1_31 : List UInt8 := 42 :: t_Mr_act1_32
abbrev t_Mr_act1_28 : List UInt8 := 154 :: 0 :: 47 :: t_Mr_act1_31
abbrev t_Mr_act1_27 : List UInt8 := 46 :: t_Mr_act1_28
abbrev t_Mr_act1_26 : List UInt8 := 28 :: t_Mr_act1_27
abbrev t_Mr_act1_23 : List UInt8 := 180 :: 0 :: 56 :: t_Mr_act1_26
abbrev t_Mr_act1_22 : List UInt8 := 42 :: t_Mr_act1_23
abbrev t_Mr_act1_19 : List UInt8 := 162 :: 0 :: 81 :: t_Mr_act1_22
abbrev t_Mr_act1_16 : List UInt8 := 180 :: 0 :: 133 :: t_Mr_act1_19
abbrev t_Mr_act1_15 : List UInt8 := 42 :: t_Mr_act1_16
abbrev t_Mr_act1_14 : List UInt8 := 28 :: t_Mr_act1_15
abbrev t_Mr_act1_13 : List UInt8 := 61 :: t_Mr_act1_14
abbrev t_Mr_act1_12 : List UInt8 := 3 :: t_Mr_act1_13
abbrev t_Mr_act1_11 : List UInt8 := 172 :: t_Mr_act1_12
abbrev t_Mr_act1_10 : List UInt8 := 2 :: t_Mr_act1_11
abbrev t_Mr_act1_7 : List UInt8 := 164 :: 0 :: 5 :: t_Mr_act1_10
abbrev t_Mr_act1_5 : List UInt8 := 16 :: 31 :: t_Mr_act1_7
abbrev t_Mr_act1_4 : List UInt8 := 27 :: t_Mr_act1_5
abbrev t_Mr_act1_1 : List UInt8 := 155 :: 0 :: 9 :: t_Mr_act1_4
abbrev t_Mr_act1_0 : List UInt8 := 27 :: t_Mr_act1_1
theorem a_Mr_act1_0 : dk_at b_Mr_act1 0 t_Mr_act1_0 := dk_start (by decide +kernel)
theorem a_Mr_act1_1 : dk_at b_Mr_act1 1 t_Mr_act1_1 := dk_go 1 a_Mr_act1_0 rfl
theorem a_Mr_act1_4 : dk_at b_Mr_act1 4 t_Mr_act1_4 := dk_go 3 a_Mr_act1_1 rfl
theorem a_Mr_act1_5 : dk_at b_Mr_act1 5 t_Mr_act1_5 := dk_go 1 a_Mr_act1_4 rfl
theorem a_Mr_act1_7 : dk_at b_Mr_act1 7 t_Mr_act1_7 := dk_go 2 a_Mr_act1_5 rfl
theorem a_Mr_act1_10 : dk_at b_Mr_act1 10 t_Mr_act1_10 := dk_go 3 a_Mr_act1_7 rfl
theorem a_Mr_act1_11 : dk_at b_Mr_act1 11 t_Mr_act1_11 := dk_go 1 a_Mr_act1_10 rfl
theorem a_Mr_act1_12 : dk_at b_Mr_act1 12 t_Mr_act1_12 := dk_go 1 a_Mr_act1_11 rfl
theorem a_Mr_act1_13 : dk_at b_Mr_act1 13 t_Mr_act1_13 := dk_go 1 a_Mr_act1_12 rfl
theorem a_Mr_act1_14 : dk_at b_Mr_act1 14 t_Mr_act1_14 := dk_go 1 a_Mr_act1_13 rfl
theorem a_Mr_act1_15 : dk_at b_Mr_act1 15 t_Mr_act1_15 := dk_go 1 a_Mr_act1_14 rfl
theorem a_Mr_act1_16 : dk_at b_Mr_act1 16 t_Mr_act1_16 := dk_go 1 a_Mr_act1_15 rfl
theorem a_Mr_act1_19 : dk_at b_Mr_act1 19 t_Mr_act1_19 := dk_go 3 a_Mr_act1_16 rfl
theorem a_Mr_act1_22 : dk_at b_Mr_act1 22 t_Mr_act1_22 := dk_go 3 a_Mr_act1_19 rfl
theorem a_Mr_act1_23 : dk_at b_Mr_act1 23 t_Mr_act1_23 := dk_go 1 a_Mr_act1_22 rfl
theorem a_Mr_act1_26 : dk_at b_Mr_act1 26 t_Mr_act1_26 := dk_go 3 a_Mr_act1_23 rfl
theorem a_Mr_act1_27 : dk_at b_Mr_act1 27 t_Mr_act1_27 := dk_go 1 a_Mr_act1_26 rfl
theorem a_Mr_act1_28 : dk_at b_Mr_act1 28 t_Mr_act1_28 := dk_go 1 a_Mr_act1_27 rfl
theorem a_Mr_act1_31 : dk_at b_Mr_act1 31 t_Mr_act1_31 := dk_go 3 a_Mr_act1_28 rfl
theorem a_Mr_act1_32 : dk_at b_Mr_act1 32 t_Mr_act1_32 := dk_go 1 a_Mr_act1_31 rfl
theorem a_Mr_act1_35 : dk_at b_Mr_act1 35 t_Mr_act1_35 := dk_go 3 a_Mr_act1_32 rfl
theorem a_Mr_act1_36 : dk_at b_Mr_act1 36 t_Mr_act1_36 := dk_go 1 a_Mr_act1_35 rfl
theorem a_Mr_act1_37 : dk_at b_Mr_act1 37 t_Mr_act1_37 := dk_go 1 a_Mr_act1_36 rfl
theorem a_Mr_act1_40 : dk_at b_Mr_act1 40 t_Mr_act1_40 := dk_go 3 a_Mr_act1_37 rfl
theorem a_Mr_act1_41 : dk_at b_Mr_act1 41 t_Mr_act1_41 := dk_go 1 a_Mr_act1_40 rfl
theorem a_Mr_act1_42 : dk_at b_Mr_act1 42 t_Mr_act1_42 := dk_go 1 a_Mr_act1_41 rfl
theorem a_Mr_act1_45 : dk_at b_Mr_act1 45 t_Mr_act1_45 := dk_go 3 a_Mr_act1_42 rfl
theorem a_Mr_act1_48 : dk_at b_Mr_act1 48 t_Mr_act1_48 := dk_go 3 a_Mr_act1_45 rfl
theorem a_Mr_act1_49 : dk_at b_Mr_act1 49 t_Mr_act1_49 := dk_go 1 a_Mr_act1_48 rfl
theorem a_Mr_act1_52 : dk_at b_Mr_act1 52 t_Mr_act1_52 := dk_go 3 a_Mr_act1_49 rfl
theorem a_Mr_act1_53 : dk_at b_Mr_act1 53 t_Mr_act1_53 := dk_go 1 a_Mr_act1_52 rfl
theorem a_Mr_act1_54 : dk_at b_Mr_act1 54 t_Mr_act1_54 := dk_go 1 a_Mr_act1_53 rfl
theorem a_Mr_act1_55 : dk_at b_Mr_act1 55 t_Mr_act1_55 := dk_go 1 a_Mr_act1_54 rfl
theorem a_Mr_act1_58 : dk_at b_Mr_act1 58 t_Mr_act1_58 := dk_go 3 a_Mr_act1_55 rfl
theorem a_Mr_act1_60 : dk_at b_Mr_act1 60 t_Mr_act1_60 := dk_go 2 a_Mr_act1_58 rfl
theorem a_Mr_act1_61 : dk_at b_Mr_act1 61 t_Mr_act1_61 := dk_go 1 a_Mr_act1_60 rfl
theorem a_Mr_act1_64 : dk_at b_Mr_act1 64 t_Mr_act1_64 := dk_go 3 a_Mr_act1_61 rfl
theorem a_Mr_act1_65 : dk_at b_Mr_act1 65 t_Mr_act1_65 := dk_go 1 a_Mr_act1_64 rfl
theorem a_Mr_act1_66 : dk_at b_Mr_act1 66 t_Mr_act1_66 := dk_go 1 a_Mr_act1_65 rfl
theorem a_Mr_act1_67 : dk_at b_Mr_act1 67 t_Mr_act1_67 := dk_go 1 a_Mr_act1_66 rfl
theorem a_Mr_act1_68 : dk_at b_Mr_act1 68 t_Mr_act1_68 := dk_go 1 a_Mr_act1_67 rfl
theorem a_Mr_act1_71 : dk_at b_Mr_act1 71 t_Mr_act1_71 := dk_go 3 a_Mr_act1_68 rfl
theorem a_Mr_act1_72 : dk_at b_Mr_act1 72 t_Mr_act1_72 := dk_go 1 a_Mr_act1_71 rfl
theorem a_Mr_act1_75 : dk_at b_Mr_act1 75 t_Mr_act1_75 := dk_go 3 a_Mr_act1_72 rfl
theorem a_Mr_act1_76 : dk_at b_Mr_act1 76 t_Mr_act1_76 := dk_go 1 a_Mr_act1_75 rfl
theorem a_Mr_act1_77 : dk_at b_Mr_act1 77 t_Mr_act1_77 := dk_go 1 a_Mr_act1_76 rfl
theorem a_Mr_act1_78 : dk_at b_Mr_act1 78 t_Mr_act1_78 := dk_go 1 a_Mr_act1_77 rfl
theorem a_Mr_act1_81 : dk_at b_Mr_act1 81 t_Mr_act1_81 := dk_go 3 a_Mr_act1_78 rfl
theorem a_Mr_act1_82 : dk_at b_Mr_act1 82 t_Mr_act1_82 := dk_go 1 a_Mr_act1_81 rfl
theorem a_Mr_act1_83 : dk_at b_Mr_act1 83 t_Mr_act1_83 := dk_go 1 a_Mr_act1_82 rfl
theorem a_Mr_act1_84 : dk_at b_Mr_act1 84 t_Mr_act1_84 := dk_go 1 a_Mr_act1_83 rfl
theorem a_Mr_act1_87 : dk_at b_Mr_act1 87 t_Mr_act1_87 := dk_go 3 a_Mr_act1_84 rfl
theorem a_Mr_act1_90 : dk_at b_Mr_act1 90 t_Mr_act1_90 := dk_go 3 a_Mr_act1_87 rfl
theorem a_Mr_act1_91 : dk_at b_Mr_act1 91 t_Mr_act1_91 := dk_go 1 a_Mr_act1_90 rfl
theorem a_Mr_act1_92 : dk_at b_Mr_act1 92 t_Mr_act1_92 := dk_go 1 a_Mr_act1_91 rfl
theorem a_Mr_act1_93 : dk_at b_Mr_act1 93 t_Mr_act1_93 := dk_go 1 a_Mr_act1_92 rfl
theorem a_Mr_act1_94 : dk_at b_Mr_act1 94 t_Mr_act1_94 := dk_go 1 a_Mr_act1_93 rfl
theorem a_Mr_act1_97 : dk_at b_Mr_act1 97 t_Mr_act1_97 := dk_go 3 a_Mr_act1_94 rfl
theorem a_Mr_act1_100 : dk_at b_Mr_act1 100 t_Mr_act1_100 := dk_go 3 a_Mr_act1_97 rfl
theorem a_Mr_act1_101 : dk_at b_Mr_act1 101 t_Mr_act1_101 := dk_go 1 a_Mr_act1_100 rfl
theorem d_Mr_act1_0 : decode b_Mr_act1 0 = .ok (.iload_n 1, 1) := dk_0 a_Mr_act1_0 (dko_27 _)
theorem d_Mr_act1_1 : decode b_Mr_act1 1 = .ok (.ifCond .lt 9, 3) := dk_S2 a_Mr_act1_1 (dko_155 _) (by decide +kernel)
theorem d_Mr_act1_4 : decode b_Mr_act1 4 = .ok (.iload_n 1, 1) := dk_0 a_Mr_act1_4 (dko_27 _)
theorem d_Mr_act1_5 : decode b_Mr_act1 5 = .ok (.bipush 31, 2) := dk_S1 a_Mr_act1_5 (dko_16 _) (by decide +kernel)
theorem d_Mr_act1_7 : decode b_Mr_act1 7 = .ok (.if_icmp .le 5, 3) := dk_S2 a_Mr_act1_7 (dko_164 _) (by decide +kernel)
theorem d_Mr_act1_10 : decode b_Mr_act1 10 = .ok (.iconst (-1), 1) := dk_0 a_Mr_act1_10 (dko_2 _)
theorem d_Mr_act1_11 : decode b_Mr_act1 11 = .ok (.ireturn, 1) := dk_0 a_Mr_act1_11 (dko_172 _)
theorem d_Mr_act1_12 : decode b_Mr_act1 12 = .ok (.iconst 0, 1) := dk_0 a_Mr_act1_12 (dko_3 _)
theorem d_Mr_act1_13 : decode b_Mr_act1 13 = .ok (.istore_n 2, 1) := dk_0 a_Mr_act1_13 (dko_61 _)
theorem d_Mr_act1_14 : decode b_Mr_act1 14 = .ok (.iload_n 2, 1) := dk_0 a_Mr_act1_14 (dko_28 _)
theorem d_Mr_act1_15 : decode b_Mr_act1 15 = .ok (.aload_n 0, 1) := dk_0 a_Mr_act1_15 (dko_42 _)
theorem d_Mr_act1_16 : decode b_Mr_act1 16 = .ok (.getfield 133, 3) := dk_U2 a_Mr_act1_16 (dko_180 _) rfl
theorem d_Mr_act1_19 : decode b_Mr_act1 19 = .ok (.if_icmp .ge 81, 3) := dk_S2 a_Mr_act1_19 (dko_162 _) (by decide +kernel)
theorem d_Mr_act1_100 : decode b_Mr_act1 100 = .ok (.iconst 0, 1) := dk_0 a_Mr_act1_100 (dko_3 _)
theorem d_Mr_act1_101 : decode b_Mr_act1 101 = .ok (.ireturn, 1) := dk_0 a_Mr_act1_101 (dko_172 _)
def fn_Mr_act1 (ak : Int32) : Int32 := (if ak < 0 then (-1) else (if ak ≤ 31 then 0 else (-1)))
set_option maxHeartbeats 4000000 in
set_option maxRecDepth 100000 in
theorem c_Mr_act1 (l : Launch) (dC : Nat → ClassId) (dI : Nat → Nat → Nat) (cI cB cZ cJ : ClassId) (ak : Int32) (oR : Nat) (fr : List Value) (hr_rows : fx fr 20 (.int 0)) (sz : Nat) : Met l y_Mr_act1 w_Mr_act1 ({ frames := 0, cells := 0, slots := 0, locals := 0 }) (va_Pc [.ref oR, .int ak] (PW dC dI cI cB cZ cJ [(oR, .inr (14, fr))] sz)) (va_Qi (fun (r : Int32) (_ : Unit) => r = fn_Mr_act1 ak) (fun _ _ => True) (va_A [] sz)) 0 0 (va_A [] sz) := by
  refine Met.ofW (cc := b_Mr_act1) (maxL := 4) (ret := (some .int)) (by decide) rfl ?_
  intro p e s m args below meth c s₁ B hml hv
  obtain ⟨rfl, hsz, hP, hK, hD⟩ := hv
  have hx := B.exec
  have hb := B.bytes
  have hr := B.returns
  have hts := atoms_spec (ws := w_Mr_act1) B.pre
  have hown : s.vm.findClass R_Mr = some m.cls := findClass_of_methodNamed B.named
  have hlocks := B.notSynchronized
  subst hsz
  generalize hAe : va_A [] s.heap.size = A at ⊢
  have hA : ∀ q : Nat, s.heap.size ≤ q → A q := fun q h => by rw [← hAe]; exact Or.inr h
  have hS : va_S A s.heap s.heap [] := va_S.rf
  have hP : va_P (dC, dI) classes [(oR, .inr (14, fr))] s.heap := hP
  have hl := lv_entry ([.ref oR, .int ak]) (n := 4) (Nat.le_of_ble_eq_true rfl)
  rw [lg_entry_eq]
  generalize (lg_sl ([.ref oR, .int ak]) ++ List.replicate (4 - (lg_sl ([.ref oR, .int ak])).length) Slot.unset).toArray = ls at hl ⊢
  have hl : lv_has ls 4 [(0, .ref oR), (1, .int ak)] := hl
  refine lv_iload_n hx hb d_Mr_act1_0 rfl (lv_at hl 1 rfl) ?_
  refine lv_if_lt (tgt := 10) hx hb d_Mr_act1_1 (by decide) (fun h1 => ?_) (fun h1 => ?_)
  · refine lv_iconst (v := (-1)) hx hb d_Mr_act1_10 (by decide) ?_
    exact W.iret (v := (-1)) hx hb hr (fun t ht hW => ⟨⟨_, (), rfl, (by unfold fn_Mr_act1; rw [if_pos h1]), trivial⟩, hS.F ht⟩) hS.2.2 d_Mr_act1_11
  · refine lv_iload_n hx hb d_Mr_act1_4 rfl (lv_at hl 1 rfl) ?_
    refine lv_bipush (v := 31) hx hb d_Mr_act1_5 (by decide) ?_
    refine lv_icmp_le (tgt := 12) hx hb d_Mr_act1_7 (by decide) (fun h7 => ?_) (fun h7 => ?_)
    · refine lv_iconst (v := 0) hx hb d_Mr_act1_12 (by decide) ?_
      refine lv_istore_n hx hb d_Mr_act1_13 rfl hl (by decide) rfl (fun ls hl => ?_)
      have hl : lv_has ls 4 [(2, .int 0), (0, .ref oR), (1, .int ak)] := hl
      refine lv_iload_n hx hb d_Mr_act1_14 rfl (lv_at hl 0 rfl) ?_
      refine lv_aload_n hx hb d_Mr_act1_15 rfl (lv_at hl 1 rfl) ?_
      refine va_get (D := (dC, dI)) (ci := 14) (v := .int 0) (C := R_Mr) (T := F_Mr) (N := 25) hx hb hts (fun w h => List.mem_cons_of_mem _ (in_Mr w h)) hown hK.1 hP 0 rfl rfl 20 (by decide) (hts _ (List.mem_cons_of_mem _ mw_1732)) (fun _ h9 => h9) hr_rows d_Mr_act1_16 ?_
      refine lv_icmp_ge (tgt := 100) hx hb d_Mr_act1_19 (by decide) (fun _ => ?_) (fun h => absurd (by decide) h)
      refine lv_iconst (v := 0) hx hb d_Mr_act1_100 (by decide) ?_
      exact W.iret (v := 0) hx hb hr (fun t ht hW => ⟨⟨_, (), rfl, (by unfold fn_Mr_act1; rw [if_neg h1, if_pos h7]), trivial⟩, hS.F ht⟩) hS.2.2 d_Mr_act1_101
    · refine lv_iconst (v := (-1)) hx hb d_Mr_act1_10 (by decide) ?_
      exact W.iret (v := (-1)) hx hb hr (fun t ht hW => ⟨⟨_, (), rfl, (by unfold fn_Mr_act1; rw [if_neg h1, if_neg h7]), trivial⟩, hS.F ht⟩) hS.2.2 d_Mr_act1_11
abbrev t_Mo_pass_12 : List UInt8 := 172 :: []
abbrev t_Mo_pass_9 : List UInt8 := 182 :: 1 :: 207 :: t_Mo_pass_12
abbrev t_Mo_pass_7 : List UInt8 := 21 :: 4 :: t_Mo_pass_9
abbrev t_Mo_pass_6 : List UInt8 := 29 :: t_Mo_pass_7
abbrev t_Mo_pass_5 : List UInt8 := 28 :: t_Mo_pass_6
abbrev t_Mo_pass_4 : List UInt8 := 27 :: t_Mo_pass_5
abbrev t_Mo_pass_1 : List UInt8 := 180 :: 0 :: 23 :: t_Mo_pass_4
abbrev t_Mo_pass_0 : List UInt8 := 42 :: t_Mo_pass_1
theorem a_Mo_pass_0 : dk_at b_Mo_pass 0 t_Mo_pass_0 := dk_start (by decide +kernel)
theorem a_Mo_pass_1 : dk_at b_Mo_pass 1 t_Mo_pass_1 := dk_go 1 a_Mo_pass_0 rfl
theorem a_Mo_pass_4 : dk_at b_Mo_pass 4 t_Mo_pass_4 := dk_go 3 a_Mo_pass_1 rfl
theorem a_Mo_pass_5 : dk_at b_Mo_pass 5 t_Mo_pass_5 := dk_go 1 a_Mo_pass_4 rfl
theorem a_Mo_pass_6 : dk_at b_Mo_pass 6 t_Mo_pass_6 := dk_go 1 a_Mo_pass_5 rfl
theorem a_Mo_pass_7 : dk_at b_Mo_pass 7 t_Mo_pass_7 := dk_go 1 a_Mo_pass_6 rfl
theorem a_Mo_pass_9 : dk_at b_Mo_pass 9 t_Mo_pass_9 := dk_go 2 a_Mo_pass_7 rfl
theorem a_Mo_pass_12 : dk_at b_Mo_pass 12 t_Mo_pass_12 := dk_go 3 a_Mo_pass_9 rfl
theorem d_Mo_pass_0 : decode b_Mo_pass 0 = .ok (.aload_n 0, 1) := dk_0 a_Mo_pass_0 (dko_42 _)
theorem d_Mo_pass_1 : decode b_Mo_pass 1 = .ok (.getfield 23, 3) := dk_U2 a_Mo_pass_1 (dko_180 _) rfl
theorem d_Mo_pass_4 : decode b_Mo_pass 4 = .ok (.iload_n 1, 1) := dk_0 a_Mo_pass_4 (dko_27 _)
theorem d_Mo_pass_5 : decode b_Mo_pass 5 = .ok (.iload_n 2, 1) := dk_0 a_Mo_pass_5 (dko_28 _)
theorem d_Mo_pass_6 : decode b_Mo_pass 6 = .ok (.iload_n 3, 1) := dk_0 a_Mo_pass_6 (dko_29 _)
theorem d_Mo_pass_7 : decode b_Mo_pass 7 = .ok (.iload 4, 2) := dk_U1 a_Mo_pass_7 (dko_21 _) rfl
theorem d_Mo_pass_9 : decode b_Mo_pass 9 = .ok (.invokevirtual 463, 3) := dk_U2 a_Mo_pass_9 (dko_182 _) rfl
theorem d_Mo_pass_12 : decode b_Mo_pass 12 = .ok (.ireturn, 1) := dk_0 a_Mo_pass_12 (dko_172 _)
set_option maxHeartbeats 4000000 in
set_option maxRecDepth 100000 in
theorem c_Mo_pass (l : Launch) (dC : Nat → ClassId) (dI : Nat → Nat → Nat) (cI cB cZ cJ : ClassId) (rr : Int32) (pa : Int32) (pb : Int32) (se : Int32) (oM : Nat) (oR : Nat) (fm : List Value) (hm_interlocks : fx fm 3 (.ref oR)) (fr : List Value) (hr_rows : fx fr 20 (.int 0)) (sz : Nat) : Met l y_Mo_pass w_Mo_pass ({ frames := 2, cells := 0, slots := 0, locals := 45 }) (va_Pc [.ref oM, .int rr, .int pa, .int pb, .int se] (PW dC dI cI cB cZ cJ [(oM, .inr (12, fm)), (oR, .inr (14, fr))] sz)) (va_Qi (fun (r : Int32) (_ : Unit) => r = (-1)) (fun _ _ => True) (va_A [] sz)) 0 0 (va_A [] sz) := by
  refine Met.ofW (cc := b_Mo_pass) (maxL := 5) (ret := (some .int)) (by decide) rfl ?_
  intro p e s m args below meth c s₁ B hml hv
  obtain ⟨rfl, hsz, hP, hK, hD⟩ := hv
  have hx := B.exec
  have hb := B.bytes
  have hr := B.returns
  have hts := atoms_spec (ws := w_Mo_pass) B.pre
  have hown : s.vm.findClass R_Mo = some m.cls := findClass_of_methodNamed B.named
  have hlocks := B.notSynchronized
  subst hsz
  generalize hAe : va_A [] s.heap.size = A at ⊢
  have hA : ∀ q : Nat, s.heap.size ≤ q → A q := fun q h => by rw [← hAe]; exact Or.inr h
  have hS : va_S A s.heap s.heap [] := va_S.rf
  have hP : va_P (dC, dI) classes [(oM, .inr (12, fm)), (oR, .inr (14, fr))] s.heap := hP
  have hl := lv_entry ([.ref oM, .int rr, .int pa, .int pb, .int se]) (n := 5) (Nat.le_of_ble_eq_true rfl)
  rw [lg_entry_eq]
  generalize (lg_sl ([.ref oM, .int rr, .int pa, .int pb, .int se]) ++ List.replicate (5 - (lg_sl ([.ref oM, .int rr, .int pa, .int pb, .int se])).length) Slot.unset).toArray = ls at hl ⊢
  have hl : lv_has ls 5 [(0, .ref oM), (1, .int rr), (2, .int pa), (3, .int pb), (4, .int se)] := hl
  refine lv_aload_n hx hb d_Mo_pass_0 rfl (lv_at hl 0 rfl) ?_
  refine va_get (D := (dC, dI)) (ci := 12) (v := .ref oR) (C := R_Mo) (T := F_Mo) (N := 87) hx hb hts (fun w h => List.mem_cons_of_mem _ (in_Mo w h)) hown hK.1 hP 0 rfl rfl 3 (by decide) (hts _ (List.mem_cons_of_mem _ mw_1797)) (fun _ h9 => h9) hm_interlocks d_Mo_pass_1 ?_
  refine lv_iload_n hx hb d_Mo_pass_4 rfl (lv_at hl 1 rfl) ?_
  refine lv_iload_n hx hb d_Mo_pass_5 rfl (lv_at hl 2 rfl) ?_
  refine lv_iload_n hx hb d_Mo_pass_6 rfl (lv_at hl 3 rfl) ?_
  refine lv_iload hx hb d_Mo_pass_7 (lv_at hl 4 rfl) ?_
  have hPc := hP.sub (ws' := [(oR, .inr (14, fr))]) [1] rfl
  have hDc := hD.sub (ws' := [(oR, .inr (14, fr))]) [1] (by decide) rfl
  have hFc := pu_free hS hA
  refine va_calli (va_runV (C := R_Mr) (As := [.int rr, .int pa, .int pb, .int se]) (rest := []) ⟨hx, hb, hml, hown, hts⟩ (c_Mr_pass l dC dI cI cB cZ cJ rr pa pb se oR fr hr_rows s.heap.size) (cwV 4 hts (tb_V mw_2549 mw_2550 mw_2551 mw_20 mw_2552) rfl rfl rfl ⟨rfl, by decide +kernel, by decide +kernel, by decide +kernel⟩ ⟨(Nat.le_of_ble_eq_true rfl), (Nat.le_of_ble_eq_true rfl)⟩) ⟨pw_blind, va_recv (q := (R_Mr, F_Mr, 25)) hK.1 hP (ci := 14) (q0 := 1) rfl rfl, pw_pre hPc hK hDc⟩ rfl rfl hl.1 rfl (lv_room (Nat.le_of_ble_eq_true rfl)) d_Mo_pass_9 ⟨(Nat.le_of_ble_eq_true rfl), (Nat.le_of_ble_eq_true rfl)⟩) hS (fun q _ h => hFc q h) hFc (fun r u t H locs ht hvm hw hB hz1 hk1 hS => ?_)
  have hP := pu_kept hP hk1
  obtain rfl : r = (-1) := hw
  exact W.iret (v := (-1)) hx hb hr (fun t ht hW => ⟨⟨_, (), rfl, (rfl), trivial⟩, hS.F ht⟩) hS.2.2 d_Mo_pass_12
abbrev t_Mo_reset_8 : List UInt8 := 172 :: []
abbrev t_Mo_reset_5 : List UInt8 := 182 :: 1 :: 211 :: t_Mo_reset_8
abbrev t_Mo_reset_4 : List UInt8 := 27 :: t_Mo_reset_5
abbrev t_Mo_reset_1 : List UInt8 := 180 :: 0 :: 23 :: t_Mo_reset_4
abbrev t_Mo_reset_0 : List UInt8 := 42 :: t_Mo_reset_1
theorem a_Mo_reset_0 : dk_at b_Mo_reset 0 t_Mo_reset_0 := dk_start (by decide +kernel)
theorem a_Mo_reset_1 : dk_at b_Mo_reset 1 t_Mo_reset_1 := dk_go 1 a_Mo_reset_0 rfl
theorem a_Mo_reset_4 : dk_at b_Mo_reset 4 t_Mo_reset_4 := dk_go 3 a_Mo_reset_1 rfl
theorem a_Mo_reset_5 : dk_at b_Mo_reset 5 t_Mo_reset_5 := dk_go 1 a_Mo_reset_4 rfl
theorem a_Mo_reset_8 : dk_at b_Mo_reset 8 t_Mo_reset_8 := dk_go 3 a_Mo_reset_5 rfl
theorem d_Mo_reset_0 : decode b_Mo_reset 0 = .ok (.aload_n 0, 1) := dk_0 a_Mo_reset_0 (dko_42 _)
theorem d_Mo_reset_1 : decode b_Mo_reset 1 = .ok (.getfield 23, 3) := dk_U2 a_Mo_reset_1 (dko_180 _) rfl
theorem d_Mo_reset_4 : decode b_Mo_reset 4 = .ok (.iload_n 1, 1) := dk_0 a_Mo_reset_4 (dko_27 _)
theorem d_Mo_reset_5 : decode b_Mo_reset 5 = .ok (.invokevirtual 467, 3) := dk_U2 a_Mo_reset_5 (dko_182 _) rfl
theorem d_Mo_reset_8 : decode b_Mo_reset 8 = .ok (.ireturn, 1) := dk_0 a_Mo_reset_8 (dko_172 _)
set_option maxHeartbeats 4000000 in
set_option maxRecDepth 100000 in
theorem c_Mo_reset (l : Launch) (dC : Nat → ClassId) (dI : Nat → Nat → Nat) (cI cB cZ cJ : ClassId) (rr : Int32) (oM : Nat) (oR : Nat) (fm : List Value) (hm_interlocks : fx fm 3 (.ref oR)) (fr : List Value) (hr_rows : fx fr 20 (.int 0)) (sz : Nat) : Met l y_Mo_reset w_Mo_reset ({ frames := 2, cells := 0, slots := 0, locals := 42 }) (va_Pc [.ref oM, .int rr] (PW dC dI cI cB cZ cJ [(oM, .inr (12, fm)), (oR, .inr (14, fr))] sz)) (va_Qi (fun (r : Int32) (_ : Unit) => r = 0) (fun _ _ => True) (va_A [] sz)) 0 0 (va_A [] sz) := by
  refine Met.ofW (cc := b_Mo_reset) (maxL := 2) (ret := (some .boolean)) (by decide) rfl ?_
  intro p e s m args below meth c s₁ B hml hv
  obtain ⟨rfl, hsz, hP, hK, hD⟩ := hv
  have hx := B.exec
  have hb := B.bytes
  have hr := B.returns
  have hts := atoms_spec (ws := w_Mo_reset) B.pre
  have hown : s.vm.findClass R_Mo = some m.cls := findClass_of_methodNamed B.named
  have hlocks := B.notSynchronized
  subst hsz
  generalize hAe : va_A [] s.heap.size = A at ⊢
  have hA : ∀ q : Nat, s.heap.size ≤ q → A q := fun q h => by rw [← hAe]; exact Or.inr h
  have hS : va_S A s.heap s.heap [] := va_S.rf
  have hP : va_P (dC, dI) classes [(oM, .inr (12, fm)), (oR, .inr (14, fr))] s.heap := hP
  have hl := lv_entry ([.ref oM, .int rr]) (n := 2) (Nat.le_of_ble_eq_true rfl)
  rw [lg_entry_eq]
  generalize (lg_sl ([.ref oM, .int rr]) ++ List.replicate (2 - (lg_sl ([.ref oM, .int rr])).length) Slot.unset).toArray = ls at hl ⊢
  have hl : lv_has ls 2 [(0, .ref oM), (1, .int rr)] := hl
  refine lv_aload_n hx hb d_Mo_reset_0 rfl (lv_at hl 0 rfl) ?_
  refine va_get (D := (dC, dI)) (ci := 12) (v := .ref oR) (C := R_Mo) (T := F_Mo) (N := 87) hx hb hts (fun w h => List.mem_cons_of_mem _ (in_Mo w h)) hown hK.1 hP 0 rfl rfl 3 (by decide) (hts _ (List.mem_cons_of_mem _ mw_1797)) (fun _ h9 => h9) hm_interlocks d_Mo_reset_1 ?_
  refine lv_iload_n hx hb d_Mo_reset_4 rfl (lv_at hl 1 rfl) ?_
  have hPc := hP.sub (ws' := [(oR, .inr (14, fr))]) [1] rfl
  have hDc := hD.sub (ws' := [(oR, .inr (14, fr))]) [1] (by decide) rfl
  have hFc := pu_free hS hA
  refine va_calli (va_runV (C := R_Mr) (As := [.int rr]) (rest := []) ⟨hx, hb, hml, hown, hts⟩ (c_Mr_reset l dC dI cI cB cZ cJ rr oR fr hr_rows s.heap.size) (cwV 1 hts (tb_V mw_2561 mw_2562 mw_2563 mw_20 mw_2564) rfl rfl rfl ⟨rfl, by decide +kernel, by decide +kernel, by decide +kernel⟩ ⟨(Nat.le_of_ble_eq_true rfl), (Nat.le_of_ble_eq_true rfl)⟩) ⟨pw_blind, va_recv (q := (R_Mr, F_Mr, 25)) hK.1 hP (ci := 14) (q0 := 1) rfl rfl, pw_pre hPc hK hDc⟩ rfl rfl hl.1 rfl (lv_room (Nat.le_of_ble_eq_true rfl)) d_Mo_reset_5 ⟨(Nat.le_of_ble_eq_true rfl), (Nat.le_of_ble_eq_true rfl)⟩) hS (fun q _ h => hFc q h) hFc (fun r u t H locs ht hvm hw hB hz1 hk1 hS => ?_)
  have hP := pu_kept hP hk1
  obtain rfl : r = 0 := hw
  exact W.zret (v := 0) (ty := .boolean) hx hb hr (by decide) (fun t ht hW => ⟨⟨_, (), rfl, (rfl), trivial⟩, hS.F ht⟩) hS.2.2 d_Mo_reset_8
abbrev t_Mo_bars_8 : List UInt8 := 172 :: []
abbrev t_Mo_bars_5 : List UInt8 := 182 :: 1 :: 168 :: t_Mo_bars_8
abbrev t_Mo_bars_4 : List UInt8 := 27 :: t_Mo_bars_5
abbrev t_Mo_bars_1 : List UInt8 := 180 :: 0 :: 23 :: t_Mo_bars_4
abbrev t_Mo_bars_0 : List UInt8 := 42 :: t_Mo_bars_1
theorem a_Mo_bars_0 : dk_at b_Mo_bars 0 t_Mo_bars_0 := dk_start (by decide +kernel)
theorem a_Mo_bars_1 : dk_at b_Mo_bars 1 t_Mo_bars_1 := dk_go 1 a_Mo_bars_0 rfl
theorem a_Mo_bars_4 : dk_at b_Mo_bars 4 t_Mo_bars_4 := dk_go 3 a_Mo_bars_1 rfl
theorem a_Mo_bars_5 : dk_at b_Mo_bars 5 t_Mo_bars_5 := dk_go 1 a_Mo_bars_4 rfl
theorem a_Mo_bars_8 : dk_at b_Mo_bars 8 t_Mo_bars_8 := dk_go 3 a_Mo_bars_5 rfl
theorem d_Mo_bars_0 : decode b_Mo_bars 0 = .ok (.aload_n 0, 1) := dk_0 a_Mo_bars_0 (dko_42 _)
theorem d_Mo_bars_1 : decode b_Mo_bars 1 = .ok (.getfield 23, 3) := dk_U2 a_Mo_bars_1 (dko_180 _) rfl
theorem d_Mo_bars_4 : decode b_Mo_bars 4 = .ok (.iload_n 1, 1) := dk_0 a_Mo_bars_4 (dko_27 _)
theorem d_Mo_bars_5 : decode b_Mo_bars 5 = .ok (.invokevirtual 424, 3) := dk_U2 a_Mo_bars_5 (dko_182 _) rfl
theorem d_Mo_bars_8 : decode b_Mo_bars 8 = .ok (.ireturn, 1) := dk_0 a_Mo_bars_8 (dko_172 _)
set_option maxHeartbeats 4000000 in
set_option maxRecDepth 100000 in
theorem c_Mo_bars (l : Launch) (dC : Nat → ClassId) (dI : Nat → Nat → Nat) (cI cB cZ cJ : ClassId) (ak : Int32) (oM : Nat) (oR : Nat) (fm : List Value) (hm_interlocks : fx fm 3 (.ref oR)) (fr : List Value) (hr_rows : fx fr 20 (.int 0)) (sz : Nat) : Met l y_Mo_bars w_Mo_bars ({ frames := 1, cells := 0, slots := 0, locals := 23 }) (va_Pc [.ref oM, .int ak] (PW dC dI cI cB cZ cJ [(oM, .inr (12, fm)), (oR, .inr (14, fr))] sz)) (va_Qi (fun (r : Int32) (_ : Unit) => r = fn_Mr_act1 ak) (fun _ _ => True) (va_A [] sz)) 0 0 (va_A [] sz) := by
  refine Met.ofW (cc := b_Mo_bars) (maxL := 2) (ret := (some .int)) (by decide) rfl ?_
  intro p e s m args below meth c s₁ B hml hv
  obtain ⟨rfl, hsz, hP, hK, hD⟩ := hv
  have hx := B.exec
  have hb := B.bytes
  have hr := B.returns
  have hts := atoms_spec (ws := w_Mo_bars) B.pre
  have hown : s.vm.findClass R_Mo = some m.cls := findClass_of_methodNamed B.named
  have hlocks := B.notSynchronized
  subst hsz
  generalize hAe : va_A [] s.heap.size = A at ⊢
  have hA : ∀ q : Nat, s.heap.size ≤ q → A q := fun q h => by rw [← hAe]; exact Or.inr h
  have hS : va_S A s.heap s.heap [] := va_S.rf
  have hP : va_P (dC, dI) classes [(oM, .inr (12, fm)), (oR, .inr (14, fr))] s.heap := hP
  have hl := lv_entry ([.ref oM, .int ak]) (n := 2) (Nat.le_of_ble_eq_true rfl)
  rw [lg_entry_eq]
  generalize (lg_sl ([.ref oM, .int ak]) ++ List.replicate (2 - (lg_sl ([.ref oM, .int ak])).length) Slot.unset).toArray = ls at hl ⊢
  have hl : lv_has ls 2 [(0, .ref oM), (1, .int ak)] := hl
  refine lv_aload_n hx hb d_Mo_bars_0 rfl (lv_at hl 0 rfl) ?_
  refine va_get (D := (dC, dI)) (ci := 12) (v := .ref oR) (C := R_Mo) (T := F_Mo) (N := 87) hx hb hts (fun w h => List.mem_cons_of_mem _ (in_Mo w h)) hown hK.1 hP 0 rfl rfl 3 (by decide) (hts _ (List.mem_cons_of_mem _ mw_1797)) (fun _ h9 => h9) hm_interlocks d_Mo_bars_1 ?_
  refine lv_iload_n hx hb d_Mo_bars_4 rfl (lv_at hl 1 rfl) ?_
  have hPc := hP.sub (ws' := [(oR, .inr (14, fr))]) [1] rfl
  have hDc := hD.sub (ws' := [(oR, .inr (14, fr))]) [1] (by decide) rfl
  have hFc := pu_free hS hA
  refine va_calli (va_runV (C := R_Mr) (As := [.int ak]) (rest := []) ⟨hx, hb, hml, hown, hts⟩ (c_Mr_act1 l dC dI cI cB cZ cJ ak oR fr hr_rows s.heap.size) (cwV 1 hts (tb_V mw_2478 mw_2479 mw_2480 mw_20 mw_2481) rfl rfl rfl ⟨rfl, by decide +kernel, by decide +kernel, by decide +kernel⟩ ⟨(Nat.le_of_ble_eq_true rfl), (Nat.le_of_ble_eq_true rfl)⟩) ⟨pw_blind, va_recv (q := (R_Mr, F_Mr, 25)) hK.1 hP (ci := 14) (q0 := 1) rfl rfl, pw_pre hPc hK hDc⟩ rfl rfl hl.1 rfl (lv_room (Nat.le_of_ble_eq_true rfl)) d_Mo_bars_5 ⟨(Nat.le_of_ble_eq_true rfl), (Nat.le_of_ble_eq_true rfl)⟩) hS (fun q _ h => hFc q h) hFc (fun r u t H locs ht hvm hw hB hz1 hk1 hS => ?_)
  have hP := pu_kept hP hk1
  obtain rfl : r = (fn_Mr_act1 ak) := hw
  exact W.iret (v := (fn_Mr_act1 ak)) hx hb hr (fun t ht hW => ⟨⟨_, (), rfl, (by first | rfl | decide), trivial⟩, hS.F ht⟩) hS.2.2 d_Mo_bars_8
abbrev t_Mo_row_109 : List UInt8 := 172 :: []
abbrev t_Mo_row_108 : List UInt8 := 3 :: t_Mo_row_109
abbrev t_Mo_row_105 : List UInt8 := 167 :: 0 :: 4 :: t_Mo_row_108
abbrev t_Mo_row_104 : List UInt8 := 4 :: t_Mo_row_105
abbrev t_Mo_row_101 : List UInt8 := 153 :: 0 :: 7 :: t_Mo_row_104
abbrev t_Mo_row_98 : List UInt8 := 182 :: 1 :: 225 :: t_Mo_row_101
abbrev t_Mo_row_97 : List UInt8 := 100 :: t_Mo_row_98
abbrev t_Mo_row_96 : List UInt8 := 4 :: t_Mo_row_97
abbrev t_Mo_row_95 : List UInt8 := 27 :: t_Mo_row_96
abbrev t_Mo_row_92 : List UInt8 := 180 :: 0 :: 23 :: t_Mo_row_95
abbrev t_Mo_row_91 : List UInt8 := 42 :: t_Mo_row_92
abbrev t_Mo_row_88 : List UInt8 := 167 :: 0 :: 21 :: t_Mo_row_91
abbrev t_Mo_row_87 : List UInt8 := 46 :: t_Mo_row_88
abbrev t_Mo_row_86 : List UInt8 := 100 :: t_Mo_row_87
abbrev t_Mo_row_85 : List UInt8 := 4 :: t_Mo_row_86
abbrev t_Mo_row_84 : List UInt8 := 27 :: t_Mo_row_85
abbrev t_Mo_row_81 : List UInt8 := 180 :: 1 :: 223 :: t_Mo_row_84
abbrev t_Mo_row_78 : List UInt8 := 180 :: 0 :: 23 :: t_Mo_row_81
abbrev t_Mo_row_77 : List UInt8 := 42 :: t_Mo_row_78
abbrev t_Mo_row_74 : List UInt8 := 160 :: 0 :: 17 :: t_Mo_row_77
abbrev t_Mo_row_73 : List UInt8 := 5 :: t_Mo_row_74
abbrev t_Mo_row_72 : List UInt8 := 28 :: t_Mo_row_73
abbrev t_Mo_row_69 : List UInt8 := 167 :: 0 :: 40 :: t_Mo_row_72
abbrev t_Mo_row_68 : List UInt8 := 3 :: t_Mo_row_69
abbrev t_Mo_row_65 : List UInt8 := 167 :: 0 :: 44 :: t_Mo_row_68
abbrev t_Mo_row_64 : List UInt8 := 4 :: t_Mo_row_65
abbrev t_Mo_row_61 : List UInt8 := 153 :: 0 :: 7 :: t_Mo_row_64
abbrev t_Mo_row_60 : List UInt8 := 51 :: t_Mo_row_61
abbrev t_Mo_row_59 : List UInt8 := 100 :: t_Mo_row_60
abbrev t_Mo_row_58 : List UInt8 := 4 :: t_Mo_row_59
abbrev t_Mo_row_57 : List UInt8 := 27 :: t_Mo_row_58
abbrev t_Mo_row_54 : List UInt8 := 180 :: 1 :: 220 :: t_Mo_row_57
abbrev t_Mo_row_51 : List UInt8 := 180 :: 0 :: 23 :: t_Mo_row_54
abbrev t_Mo_row_50 : List UInt8 := 42 :: t_Mo_row_51
abbrev t_Mo_row_47 : List UInt8 := 160 :: 0 :: 25 :: t_Mo_row_50
abbrev t_Mo_row_46 : List UInt8 := 4 :: t_Mo_row_47
abbrev t_Mo_row_45 : List UInt8 := 28 :: t_Mo_row_46
abbrev t_Mo_row_42 : List UInt8 := 167 :: 0 :: 67 :: t_Mo_row_45
abbrev t_Mo_row_41 : List UInt8 := 46 :: t_Mo_row_42
abbrev t_Mo_row_40 : List UInt8 := 100 :: t_Mo_row_41
abbrev t_Mo_row_39 : List UInt8 := 4 :: t_Mo_row_40
abbrev t_Mo_row_38 : List UInt8 := 27 :: t_Mo_row_39
abbrev t_Mo_row_35 : List UInt8 := 180 :: 1 :: 217 :: t_Mo_row_38
abbrev t_Mo_row_32 : List UInt8 := 180 :: 0 :: 23 :: t_Mo_row_35
abbrev t_Mo_row_31 : List UInt8 := 42 :: t_Mo_row_32
abbrev t_Mo_row_28 : List UInt8 := 154 :: 0 :: 17 :: t_Mo_row_31
abbrev t_Mo_row_27 : List UInt8 := 28 :: t_Mo_row_28
abbrev t_Mo_row_26 : List UInt8 := 172 :: t_Mo_row_27
abbrev t_Mo_row_25 : List UInt8 := 2 :: t_Mo_row_26
abbrev t_Mo_row_22 : List UInt8 := 164 :: 0 :: 5 :: t_Mo_row_25
abbrev t_Mo_row_21 : List UInt8 := 6 :: t_Mo_row_22
abbrev t_Mo_row_20 : List UInt8 := 28 :: t_Mo_row_21
abbrev t_Mo_row_17 : List UInt8 := 155 :: 0 :: 8 :: t_Mo_row_20
abbrev t_Mo_row_16 : List UInt8 := 28 :: t_Mo_row_17
abbrev t_Mo_row_13 : List UInt8 := 163 :: 0 :: 12 :: t_Mo_row_16
abbrev t_Mo_row_10 : List UInt8 := 180 :: 1 :: 214 :: t_Mo_row_13
abbrev t_Mo_row_7 : List UInt8 := 180 :: 0 :: 23 :: t_Mo_row_10
abbrev t_Mo_row_6 : List UInt8 := 42 :: t_Mo_row_7
abbrev t_Mo_row_5 : List UInt8 := 27 :: t_Mo_row_6
abbrev t_Mo_row_2 : List UInt8 := 161 :: 0 :: 23 :: t_Mo_row_5
abbrev t_Mo_row_1 : List UInt8 := 4 :: t_Mo_row_2
abbrev t_Mo_row_0 : List UInt8 := 27 :: t_Mo_row_1
theorem a_Mo_row_0 : dk_at b_Mo_row 0 t_Mo_row_0 := dk_start (by decide +kernel)
theorem a_Mo_row_1 : dk_at b_Mo_row 1 t_Mo_row_1 := dk_go 1 a_Mo_row_0 rfl
theorem a_Mo_row_2 : dk_at b_Mo_row 2 t_Mo_row_2 := dk_go 1 a_Mo_row_1 rfl
theorem a_Mo_row_5 : dk_at b_Mo_row 5 t_Mo_row_5 := dk_go 3 a_Mo_row_2 rfl
theorem a_Mo_row_6 : dk_at b_Mo_row 6 t_Mo_row_6 := dk_go 1 a_Mo_row_5 rfl
theorem a_Mo_row_7 : dk_at b_Mo_row 7 t_Mo_row_7 := dk_go 1 a_Mo_row_6 rfl
theorem a_Mo_row_10 : dk_at b_Mo_row 10 t_Mo_row_10 := dk_go 3 a_Mo_row_7 rfl
theorem a_Mo_row_13 : dk_at b_Mo_row 13 t_Mo_row_13 := dk_go 3 a_Mo_row_10 rfl
theorem a_Mo_row_16 : dk_at b_Mo_row 16 t_Mo_row_16 := dk_go 3 a_Mo_row_13 rfl
theorem a_Mo_row_17 : dk_at b_Mo_row 17 t_Mo_row_17 := dk_go 1 a_Mo_row_16 rfl
theorem a_Mo_row_20 : dk_at b_Mo_row 20 t_Mo_row_20 := dk_go 3 a_Mo_row_17 rfl
theorem a_Mo_row_21 : dk_at b_Mo_row 21 t_Mo_row_21 := dk_go 1 a_Mo_row_20 rfl
theorem a_Mo_row_22 : dk_at b_Mo_row 22 t_Mo_row_22 := dk_go 1 a_Mo_row_21 rfl
theorem a_Mo_row_25 : dk_at b_Mo_row 25 t_Mo_row_25 := dk_go 3 a_Mo_row_22 rfl
theorem a_Mo_row_26 : dk_at b_Mo_row 26 t_Mo_row_26 := dk_go 1 a_Mo_row_25 rfl
theorem a_Mo_row_27 : dk_at b_Mo_row 27 t_Mo_row_27 := dk_go 1 a_Mo_row_26 rfl
theorem a_Mo_row_28 : dk_at b_Mo_row 28 t_Mo_row_28 := dk_go 1 a_Mo_row_27 rfl
theorem a_Mo_row_31 : dk_at b_Mo_row 31 t_Mo_row_31 := dk_go 3 a_Mo_row_28 rfl
theorem a_Mo_row_32 : dk_at b_Mo_row 32 t_Mo_row_32 := dk_go 1 a_Mo_row_31 rfl
theorem a_Mo_row_35 : dk_at b_Mo_row 35 t_Mo_row_35 := dk_go 3 a_Mo_row_32 rfl
theorem a_Mo_row_38 : dk_at b_Mo_row 38 t_Mo_row_38 := dk_go 3 a_Mo_row_35 rfl
theorem a_Mo_row_39 : dk_at b_Mo_row 39 t_Mo_row_39 := dk_go 1 a_Mo_row_38 rfl
theorem a_Mo_row_40 : dk_at b_Mo_row 40 t_Mo_row_40 := dk_go 1 a_Mo_row_39 rfl
theorem a_Mo_row_41 : dk_at b_Mo_row 41 t_Mo_row_41 := dk_go 1 a_Mo_row_40 rfl
theorem a_Mo_row_42 : dk_at b_Mo_row 42 t_Mo_row_42 := dk_go 1 a_Mo_row_41 rfl
theorem a_Mo_row_45 : dk_at b_Mo_row 45 t_Mo_row_45 := dk_go 3 a_Mo_row_42 rfl
theorem a_Mo_row_46 : dk_at b_Mo_row 46 t_Mo_row_46 := dk_go 1 a_Mo_row_45 rfl
theorem a_Mo_row_47 : dk_at b_Mo_row 47 t_Mo_row_47 := dk_go 1 a_Mo_row_46 rfl
theorem a_Mo_row_50 : dk_at b_Mo_row 50 t_Mo_row_50 := dk_go 3 a_Mo_row_47 rfl
theorem a_Mo_row_51 : dk_at b_Mo_row 51 t_Mo_row_51 := dk_go 1 a_Mo_row_50 rfl
theorem a_Mo_row_54 : dk_at b_Mo_row 54 t_Mo_row_54 := dk_go 3 a_Mo_row_51 rfl
theorem a_Mo_row_57 : dk_at b_Mo_row 57 t_Mo_row_57 := dk_go 3 a_Mo_row_54 rfl
theorem a_Mo_row_58 : dk_at b_Mo_row 58 t_Mo_row_58 := dk_go 1 a_Mo_row_57 rfl
theorem a_Mo_row_59 : dk_at b_Mo_row 59 t_Mo_row_59 := dk_go 1 a_Mo_row_58 rfl
theorem a_Mo_row_60 : dk_at b_Mo_row 60 t_Mo_row_60 := dk_go 1 a_Mo_row_59 rfl
theorem a_Mo_row_61 : dk_at b_Mo_row 61 t_Mo_row_61 := dk_go 1 a_Mo_row_60 rfl
theorem a_Mo_row_64 : dk_at b_Mo_row 64 t_Mo_row_64 := dk_go 3 a_Mo_row_61 rfl
theorem a_Mo_row_65 : dk_at b_Mo_row 65 t_Mo_row_65 := dk_go 1 a_Mo_row_64 rfl
theorem a_Mo_row_68 : dk_at b_Mo_row 68 t_Mo_row_68 := dk_go 3 a_Mo_row_65 rfl
theorem a_Mo_row_69 : dk_at b_Mo_row 69 t_Mo_row_69 := dk_go 1 a_Mo_row_68 rfl
theorem a_Mo_row_72 : dk_at b_Mo_row 72 t_Mo_row_72 := dk_go 3 a_Mo_row_69 rfl
theorem a_Mo_row_73 : dk_at b_Mo_row 73 t_Mo_row_73 := dk_go 1 a_Mo_row_72 rfl
theorem a_Mo_row_74 : dk_at b_Mo_row 74 t_Mo_row_74 := dk_go 1 a_Mo_row_73 rfl
theorem a_Mo_row_77 : dk_at b_Mo_row 77 t_Mo_row_77 := dk_go 3 a_Mo_row_74 rfl
theorem a_Mo_row_78 : dk_at b_Mo_row 78 t_Mo_row_78 := dk_go 1 a_Mo_row_77 rfl
theorem a_Mo_row_81 : dk_at b_Mo_row 81 t_Mo_row_81 := dk_go 3 a_Mo_row_78 rfl
theorem a_Mo_row_84 : dk_at b_Mo_row 84 t_Mo_row_84 := dk_go 3 a_Mo_row_81 rfl
theorem a_Mo_row_85 : dk_at b_Mo_row 85 t_Mo_row_85 := dk_go 1 a_Mo_row_84 rfl
theorem a_Mo_row_86 : dk_at b_Mo_row 86 t_Mo_row_86 := dk_go 1 a_Mo_row_85 rfl
theorem a_Mo_row_87 : dk_at b_Mo_row 87 t_Mo_row_87 := dk_go 1 a_Mo_row_86 rfl
theorem a_Mo_row_88 : dk_at b_Mo_row 88 t_Mo_row_88 := dk_go 1 a_Mo_row_87 rfl
theorem a_Mo_row_91 : dk_at b_Mo_row 91 t_Mo_row_91 := dk_go 3 a_Mo_row_88 rfl
theorem a_Mo_row_92 : dk_at b_Mo_row 92 t_Mo_row_92 := dk_go 1 a_Mo_row_91 rfl
theorem a_Mo_row_95 : dk_at b_Mo_row 95 t_Mo_row_95 := dk_go 3 a_Mo_row_92 rfl
theorem a_Mo_row_96 : dk_at b_Mo_row 96 t_Mo_row_96 := dk_go 1 a_Mo_row_95 rfl
theorem a_Mo_row_97 : dk_at b_Mo_row 97 t_Mo_row_97 := dk_go 1 a_Mo_row_96 rfl
theorem a_Mo_row_98 : dk_at b_Mo_row 98 t_Mo_row_98 := dk_go 1 a_Mo_row_97 rfl
theorem a_Mo_row_101 : dk_at b_Mo_row 101 t_Mo_row_101 := dk_go 3 a_Mo_row_98 rfl
theorem a_Mo_row_104 : dk_at b_Mo_row 104 t_Mo_row_104 := dk_go 3 a_Mo_row_101 rfl
theorem a_Mo_row_105 : dk_at b_Mo_row 105 t_Mo_row_105 := dk_go 1 a_Mo_row_104 rfl
theorem a_Mo_row_108 : dk_at b_Mo_row 108 t_Mo_row_108 := dk_go 3 a_Mo_row_105 rfl
theorem a_Mo_row_109 : dk_at b_Mo_row 109 t_Mo_row_109 := dk_go 1 a_Mo_row_108 rfl
theorem d_Mo_row_0 : decode b_Mo_row 0 = .ok (.iload_n 1, 1) := dk_0 a_Mo_row_0 (dko_27 _)
theorem d_Mo_row_1 : decode b_Mo_row 1 = .ok (.iconst 1, 1) := dk_0 a_Mo_row_1 (dko_4 _)
theorem d_Mo_row_2 : decode b_Mo_row 2 = .ok (.if_icmp .lt 23, 3) := dk_S2 a_Mo_row_2 (dko_161 _) (by decide +kernel)
theorem d_Mo_row_5 : decode b_Mo_row 5 = .ok (.iload_n 1, 1) := dk_0 a_Mo_row_5 (dko_27 _)
theorem d_Mo_row_6 : decode b_Mo_row 6 = .ok (.aload_n 0, 1) := dk_0 a_Mo_row_6 (dko_42 _)
theorem d_Mo_row_7 : decode b_Mo_row 7 = .ok (.getfield 23, 3) := dk_U2 a_Mo_row_7 (dko_180 _) rfl
theorem d_Mo_row_10 : decode b_Mo_row 10 = .ok (.getfield 470, 3) := dk_U2 a_Mo_row_10 (dko_180 _) rfl
theorem d_Mo_row_13 : decode b_Mo_row 13 = .ok (.if_icmp .gt 12, 3) := dk_S2 a_Mo_row_13 (dko_163 _) (by decide +kernel)
theorem d_Mo_row_25 : decode b_Mo_row 25 = .ok (.iconst (-1), 1) := dk_0 a_Mo_row_25 (dko_2 _)
theorem d_Mo_row_26 : decode b_Mo_row 26 = .ok (.ireturn, 1) := dk_0 a_Mo_row_26 (dko_172 _)
set_option maxHeartbeats 4000000 in
set_option maxRecDepth 100000 in
theorem c_Mo_row (l : Launch) (dC : Nat → ClassId) (dI : Nat → Nat → Nat) (cI cB cZ cJ : ClassId) (kk : Int32) (wh : Int32) (oM : Nat) (oR : Nat) (fm : List Value) (hm_interlocks : fx fm 3 (.ref oR)) (fr : List Value) (hr_rows : fx fr 20 (.int 0)) (sz : Nat) : Met l y_Mo_row w_Mo_row ({ frames := 0, cells := 0, slots := 0, locals := 0 }) (va_Pc [.ref oM, .int kk, .int wh] (PW dC dI cI cB cZ cJ [(oM, .inr (12, fm)), (oR, .inr (14, fr))] sz)) (va_Qi (fun (r : Int32) (_ : Unit) => r = (-1)) (fun _ _ => True) (va_A [] sz)) 0 0 (va_A [] sz) := by
  refine Met.ofW (cc := b_Mo_row) (maxL := 3) (ret := (some .int)) (by decide) rfl ?_
  intro p e s m args below meth c s₁ B hml hv
  obtain ⟨rfl, hsz, hP, hK, hD⟩ := hv
  have hx := B.exec
  have hb := B.bytes
  have hr := B.returns
  have hts := atoms_spec (ws := w_Mo_row) B.pre
  have hown : s.vm.findClass R_Mo = some m.cls := findClass_of_methodNamed B.named
  have hlocks := B.notSynchronized
  subst hsz
  generalize hAe : va_A [] s.heap.size = A at ⊢
  have hA : ∀ q : Nat, s.heap.size ≤ q → A q := fun q h => by rw [← hAe]; exact Or.inr h
  have hS : va_S A s.heap s.heap [] := va_S.rf
  have hP : va_P (dC, dI) classes [(oM, .inr (12, fm)), (oR, .inr (14, fr))] s.heap := hP
  have hl := lv_entry ([.ref oM, .int kk, .int wh]) (n := 3) (Nat.le_of_ble_eq_true rfl)
  rw [lg_entry_eq]
  generalize (lg_sl ([.ref oM, .int kk, .int wh]) ++ List.replicate (3 - (lg_sl ([.ref oM, .int kk, .int wh])).length) Slot.unset).toArray = ls at hl ⊢
  have hl : lv_has ls 3 [(0, .ref oM), (1, .int kk), (2, .int wh)] := hl
  refine lv_iload_n hx hb d_Mo_row_0 rfl (lv_at hl 1 rfl) ?_
  refine lv_iconst (v := 1) hx hb d_Mo_row_1 (by decide) ?_
  refine lv_icmp_lt (tgt := 25) hx hb d_Mo_row_2 (by decide) (fun h2 => ?_) (fun h2 => ?_)
  · refine lv_iconst (v := (-1)) hx hb d_Mo_row_25 (by decide) ?_
    exact W.iret (v := (-1)) hx hb hr (fun t ht hW => ⟨⟨_, (), rfl, (rfl), trivial⟩, hS.F ht⟩) hS.2.2 d_Mo_row_26
  · refine lv_iload_n hx hb d_Mo_row_5 rfl (lv_at hl 1 rfl) ?_
    refine lv_aload_n hx hb d_Mo_row_6 rfl (lv_at hl 0 rfl) ?_
    refine va_get (D := (dC, dI)) (ci := 12) (v := .ref oR) (C := R_Mo) (T := F_Mo) (N := 87) hx hb hts (fun w h => List.mem_cons_of_mem _ (in_Mo w h)) hown hK.1 hP 0 rfl rfl 3 (by decide) (hts _ (List.mem_cons_of_mem _ mw_1797)) (fun _ h9 => h9) hm_interlocks d_Mo_row_7 ?_
    refine va_getN (D := (dC, dI)) (ci := 14) (v := .int 0) (C := R_Mr) (T := F_Mr) (N := 25) hx hb hts (fun w h => List.mem_cons_of_mem _ (in_Mr w h)) hown hK.1 hP 1 rfl rfl 20 (by decide) (va_Nw.use rfl (hK.2 _ nw_1733)) (fun _ h9 => h9) hr_rows d_Mo_row_10 ?_
    refine lv_icmp_gt (tgt := 25) hx hb d_Mo_row_13 (by decide) (fun _ => ?_) (fun h => absurd (nd_lt h2 (by decide)) h)
    refine lv_iconst (v := (-1)) hx hb d_Mo_row_25 (by decide) ?_
    exact W.iret (v := (-1)) hx hb hr (fun t ht hW => ⟨⟨_, (), rfl, (rfl), trivial⟩, hS.F ht⟩) hS.2.2 d_Mo_row_26
