abbrev b_Bh_isLiquid : ByteArray := prog_1_method_8_code
def y_Bh_isLiquid : MethodName := ⟨R_Bh, "isLiquid", "(I)Z"⟩
abbrev w_Bh_isLiquid : List Cond := .code y_Bh_isLiquid b_Bh_isLiquid 1 (some .boolean) :: lw_gd
abbrev b_St_mayMeet : ByteArray := prog_10_method_7_code
def y_St_mayMeet : MethodName := ⟨R_St, "mayMeet", "(II)Z"⟩
abbrev w_St_mayMeet : List Cond := .code y_St_mayMeet b_St_mayMeet 3 (some .boolean) :: lw_gd
abbrev b_Bh_may : ByteArray := prog_1_method_9_code
def y_Bh_may : MethodName := ⟨R_Bh, "may", "(II)Z"⟩
abbrev w_Bh_may : List Cond := .code y_Bh_may b_Bh_may 3 (some .boolean) :: lw_gd
abbrev b_Bh_need : ByteArray := prog_1_method_10_code
def y_Bh_need : MethodName := ⟨R_Bh, "need", "(III)Z"⟩
abbrev w_Bh_need : List Cond := .code y_Bh_need b_Bh_need 4 (some .boolean) :: lw_gd
abbrev b_Bh_lasts : ByteArray := prog_1_method_11_code
def y_Bh_lasts : MethodName := ⟨R_Bh, "lasts", "(II)Z"⟩
abbrev w_Bh_lasts : List Cond := .code y_Bh_lasts b_Bh_lasts 3 (some .boolean) :: lw_gd
abbrev b_Bh_watch : ByteArray := prog_1_method_13_code
def y_Bh_watch : MethodName := ⟨R_Bh, "watch", "(IIIJ)Z"⟩
abbrev w_Bh_watch : List Cond := .code y_Bh_watch b_Bh_watch 6 (some .boolean) :: lw_gd
abbrev b_Ac_tie : ByteArray := prog_2_method_3_code
def y_Ac_tie : MethodName := ⟨R_Ac, "tie", "(IIIII)Z"⟩
abbrev w_Ac_tie : List Cond := .code y_Ac_tie b_Ac_tie 6 (some .boolean) :: lw_gd
abbrev b_Bh_bind : ByteArray := prog_1_method_15_code
def y_Bh_bind : MethodName := ⟨R_Bh, "bind", "(IIIII)Z"⟩
abbrev w_Bh_bind : List Cond := .code y_Bh_bind b_Bh_bind 6 (some .boolean) :: lw_gd
abbrev b_Ac_isBound : ByteArray := prog_2_method_4_code
def y_Ac_isBound : MethodName := ⟨R_Ac, "isBound", "(I)Z"⟩
abbrev w_Ac_isBound : List Cond := .code y_Ac_isBound b_Ac_isBound 2 (some .boolean) :: lw_gd
abbrev b_Ac_perform : ByteArray := prog_2_method_5_code
def y_Ac_perform : MethodName := ⟨R_Ac, "perform", "(I)I"⟩
abbrev w_Ac_perform : List Cond := .code y_Ac_perform b_Ac_perform 2 (some .int) :: lw_gd
abbrev b_Al_add : ByteArray := prog_3_method_2_code
def y_Al_add : MethodName := ⟨R_Al, "add", "(III)V"⟩
abbrev w_Al_add : List Cond := .code y_Al_add b_Al_add 4 none :: lw_gd
abbrev b_Bh_act : ByteArray := prog_1_method_16_code
def y_Bh_act : MethodName := ⟨R_Bh, "act", "(I)I"⟩
abbrev w_Bh_act : List Cond := .code y_Bh_act b_Bh_act 3 (some .int) :: lw_gd
abbrev b_Bh_bars : ByteArray := prog_1_method_27_code
def y_Bh_bars : MethodName := ⟨R_Bh, "bars", "(I)I"⟩
abbrev w_Bh_bars : List Cond := .code y_Bh_bars b_Bh_bars 2 (some .int) :: lw_gd
abbrev b_Ru_giveAnswer : ByteArray := prog_8_method_31_code
def y_Ru_giveAnswer : MethodName := ⟨R_Ru, "giveAnswer", "(J)Z"⟩
abbrev w_Ru_giveAnswer : List Cond := .code y_Ru_giveAnswer b_Ru_giveAnswer 4 (some .boolean) :: lw_gd
abbrev b_Bh_answer : ByteArray := prog_1_method_21_code
def y_Bh_answer : MethodName := ⟨R_Bh, "answer", "(J)Z"⟩
abbrev w_Bh_answer : List Cond := .code y_Bh_answer b_Bh_answer 3 (some .boolean) :: lw_gd
abbrev b_Ru_standingNode : ByteArray := prog_8_method_30_code
def y_Ru_standingNode : MethodName := ⟨R_Ru, "standingNode", "(I)I"⟩
abbrev w_Ru_standingNode : List Cond := .code y_Ru_standingNode b_Ru_standingNode 3 (some .int) :: lw_gd
abbrev b_Bh_still : ByteArray := prog_1_method_31_code
def y_Bh_still : MethodName := ⟨R_Bh, "still", "(I)I"⟩
abbrev w_Bh_still : List Cond := .code y_Bh_still b_Bh_still 2 (some .int) :: lw_gd
abbrev b_Tp_hasRoom : ByteArray := prog_11_method_2_code
def y_Tp_hasRoom : MethodName := ⟨R_Tp, "hasRoom", "()Z"⟩
abbrev w_Tp_hasRoom : List Cond := .code y_Tp_hasRoom b_Tp_hasRoom 1 (some .boolean) :: lw_gd
theorem mw_1 : (.initialized "BreweryHouse" : Cond) ∈ lw_gd := tb_mem (i := 1) (by decide +kernel) (by decide +kernel)
theorem mw_9 : (.initialized "BreweryHouse$Acts" : Cond) ∈ lw_gd := tb_mem (i := 9) (by decide +kernel) (by decide +kernel)
theorem mw_38 : (.fieldLink "BreweryHouse$Tape" 9 "BreweryHouse$Tape" "cells" "[I" : Cond) ∈ lw_gd := tb_mem (i := 38) (by decide +kernel) (by decide +kernel)
theorem mw_39 : (.fieldLink "BreweryHouse$Tape" 15 "BreweryHouse$Tape" "length" "I" : Cond) ∈ lw_gd := tb_mem (i := 39) (by decide +kernel) (by decide +kernel)
theorem mw_62 : (.fieldLink "BreweryHouse$Alarms" 9 "BreweryHouse$Alarms" "seconds" "[I" : Cond) ∈ lw_gd := tb_mem (i := 62) (by decide +kernel) (by decide +kernel)
theorem mw_63 : (.fieldLink "BreweryHouse$Alarms" 15 "BreweryHouse$Alarms" "nodes" "[I" : Cond) ∈ lw_gd := tb_mem (i := 63) (by decide +kernel) (by decide +kernel)
theorem mw_64 : (.fieldLink "BreweryHouse$Alarms" 18 "BreweryHouse$Alarms" "kinds" "[I" : Cond) ∈ lw_gd := tb_mem (i := 64) (by decide +kernel) (by decide +kernel)
theorem mw_176 : (.fieldLink "BreweryHouse$Stock" 41 "BreweryHouse$Stock" "meeting" "[I" : Cond) ∈ lw_gd := tb_mem (i := 176) (by decide +kernel) (by decide +kernel)
theorem mw_178 : (.fieldLink "BreweryHouse" 228 "BreweryHouse$Stock" "meeting" "[I" : Cond) ∈ lw_gd := tb_mem (i := 178) (by decide +kernel) (by decide +kernel)
theorem mw_180 : (.fieldLink "BreweryHouse" 231 "BreweryHouse$Stock" "needed" "[I" : Cond) ∈ lw_gd := tb_mem (i := 180) (by decide +kernel) (by decide +kernel)
theorem mw_182 : (.fieldLink "BreweryHouse" 235 "BreweryHouse$Stock" "lasting" "[I" : Cond) ∈ lw_gd := tb_mem (i := 182) (by decide +kernel) (by decide +kernel)
theorem mw_395 : (.fieldLink "BreweryHouse$Acts" 18 "BreweryHouse$Acts" "what" "[I" : Cond) ∈ lw_gd := tb_mem (i := 395) (by decide +kernel) (by decide +kernel)
theorem mw_396 : (.fieldLink "BreweryHouse$Acts" 22 "BreweryHouse$Acts" "x" "[I" : Cond) ∈ lw_gd := tb_mem (i := 396) (by decide +kernel) (by decide +kernel)
theorem mw_397 : (.fieldLink "BreweryHouse$Acts" 25 "BreweryHouse$Acts" "y" "[I" : Cond) ∈ lw_gd := tb_mem (i := 397) (by decide +kernel) (by decide +kernel)
theorem mw_398 : (.fieldLink "BreweryHouse$Acts" 28 "BreweryHouse$Acts" "z" "[I" : Cond) ∈ lw_gd := tb_mem (i := 398) (by decide +kernel) (by decide +kernel)
theorem mw_528 : (.fieldLink "BreweryHouse$Run" 216 "BreweryHouse$Run" "skipped" "I" : Cond) ∈ lw_gd := tb_mem (i := 528) (by decide +kernel) (by decide +kernel)
theorem mw_697 : (.fieldLink "BreweryHouse" 98 "BreweryHouse" "watchWhat" "[I" : Cond) ∈ lw_gd := tb_mem (i := 697) (by decide +kernel) (by decide +kernel)
theorem mw_698 : (.fieldLink "BreweryHouse" 102 "BreweryHouse" "watchX" "[I" : Cond) ∈ lw_gd := tb_mem (i := 698) (by decide +kernel) (by decide +kernel)
theorem mw_699 : (.fieldLink "BreweryHouse" 105 "BreweryHouse" "watchLeast" "[J" : Cond) ∈ lw_gd := tb_mem (i := 699) (by decide +kernel) (by decide +kernel)
theorem mw_1079 : (.methodLink "BreweryHouse" 200 y_Bh_isLiquid : Cond) ∈ lw_gd := tb_mem (i := 1079) (by decide +kernel) (by decide +kernel)
theorem mw_1080 : (.static y_Bh_isLiquid : Cond) ∈ lw_gd := tb_mem (i := 1080) (by decide +kernel) (by decide +kernel)
theorem mw_1081 : (.code y_Bh_isLiquid b_Bh_isLiquid 1 (some .boolean) : Cond) ∈ lw_gd := tb_mem (i := 1081) (by decide +kernel) (by decide +kernel)
theorem mw_1141 : (.methodLink "BreweryHouse" 225 y_St_mayMeet : Cond) ∈ lw_gd := tb_mem (i := 1141) (by decide +kernel) (by decide +kernel)
theorem mw_1142 : (.instanceMethod y_St_mayMeet : Cond) ∈ lw_gd := tb_mem (i := 1142) (by decide +kernel) (by decide +kernel)
theorem mw_1143 : (.selects "BreweryHouse$Stock" y_St_mayMeet y_St_mayMeet : Cond) ∈ lw_gd := tb_mem (i := 1143) (by decide +kernel) (by decide +kernel)
theorem mw_1144 : (.code y_St_mayMeet b_St_mayMeet 3 (some .boolean) : Cond) ∈ lw_gd := tb_mem (i := 1144) (by decide +kernel) (by decide +kernel)
theorem mw_1153 : (.constant "BreweryHouse" 234 1000000 : Cond) ∈ lw_gd := tb_mem (i := 1153) (by decide +kernel) (by decide +kernel)
theorem mw_1174 : (.methodLink "BreweryHouse" 250 y_Ac_tie : Cond) ∈ lw_gd := tb_mem (i := 1174) (by decide +kernel) (by decide +kernel)
theorem mw_1175 : (.instanceMethod y_Ac_tie : Cond) ∈ lw_gd := tb_mem (i := 1175) (by decide +kernel) (by decide +kernel)
theorem mw_1176 : (.selects "BreweryHouse$Acts" y_Ac_tie y_Ac_tie : Cond) ∈ lw_gd := tb_mem (i := 1176) (by decide +kernel) (by decide +kernel)
theorem mw_1177 : (.code y_Ac_tie b_Ac_tie 6 (some .boolean) : Cond) ∈ lw_gd := tb_mem (i := 1177) (by decide +kernel) (by decide +kernel)
theorem mw_1178 : (.methodLink "BreweryHouse$Acts" 49 y_Ac_isAct : Cond) ∈ lw_gd := tb_mem (i := 1178) (by decide +kernel) (by decide +kernel)
theorem mw_1179 : (.static y_Ac_isAct : Cond) ∈ lw_gd := tb_mem (i := 1179) (by decide +kernel) (by decide +kernel)
theorem mw_1180 : (.code y_Ac_isAct b_Ac_isAct 1 (some .boolean) : Cond) ∈ lw_gd := tb_mem (i := 1180) (by decide +kernel) (by decide +kernel)
theorem mw_1185 : (.methodLink "BreweryHouse" 254 y_Ac_isAct : Cond) ∈ lw_gd := tb_mem (i := 1185) (by decide +kernel) (by decide +kernel)
theorem mw_1186 : (.methodLink "BreweryHouse" 257 y_Ac_perform : Cond) ∈ lw_gd := tb_mem (i := 1186) (by decide +kernel) (by decide +kernel)
theorem mw_1187 : (.instanceMethod y_Ac_perform : Cond) ∈ lw_gd := tb_mem (i := 1187) (by decide +kernel) (by decide +kernel)
theorem mw_1188 : (.selects "BreweryHouse$Acts" y_Ac_perform y_Ac_perform : Cond) ∈ lw_gd := tb_mem (i := 1188) (by decide +kernel) (by decide +kernel)
theorem mw_1189 : (.code y_Ac_perform b_Ac_perform 2 (some .int) : Cond) ∈ lw_gd := tb_mem (i := 1189) (by decide +kernel) (by decide +kernel)
theorem mw_1190 : (.methodLink "BreweryHouse$Acts" 64 y_Ac_isBound : Cond) ∈ lw_gd := tb_mem (i := 1190) (by decide +kernel) (by decide +kernel)
theorem mw_1192 : (.instanceMethod y_Ac_isBound : Cond) ∈ lw_gd := tb_mem (i := 1192) (by decide +kernel) (by decide +kernel)
theorem mw_1193 : (.code y_Ac_isBound b_Ac_isBound 2 (some .boolean) : Cond) ∈ lw_gd := tb_mem (i := 1193) (by decide +kernel) (by decide +kernel)
theorem mw_1209 : (.instanceMethod y_Ro_barring : Cond) ∈ lw_gd := tb_mem (i := 1209) (by decide +kernel) (by decide +kernel)
theorem mw_1210 : (.selects "BreweryHouse$Rows" y_Ro_barring y_Ro_barring : Cond) ∈ lw_gd := tb_mem (i := 1210) (by decide +kernel) (by decide +kernel)
theorem mw_1211 : (.code y_Ro_barring b_Ro_barring 4 (some .int) : Cond) ∈ lw_gd := tb_mem (i := 1211) (by decide +kernel) (by decide +kernel)
theorem mw_1289 : (.methodLink "BreweryHouse" 264 y_Al_add : Cond) ∈ lw_gd := tb_mem (i := 1289) (by decide +kernel) (by decide +kernel)
theorem mw_1290 : (.instanceMethod y_Al_add : Cond) ∈ lw_gd := tb_mem (i := 1290) (by decide +kernel) (by decide +kernel)
theorem mw_1291 : (.selects "BreweryHouse$Alarms" y_Al_add y_Al_add : Cond) ∈ lw_gd := tb_mem (i := 1291) (by decide +kernel) (by decide +kernel)
theorem mw_1292 : (.code y_Al_add b_Al_add 4 none : Cond) ∈ lw_gd := tb_mem (i := 1292) (by decide +kernel) (by decide +kernel)
theorem mw_1472 : (.methodLink "BreweryHouse" 316 y_Ru_giveAnswer : Cond) ∈ lw_gd := tb_mem (i := 1472) (by decide +kernel) (by decide +kernel)
theorem mw_1473 : (.instanceMethod y_Ru_giveAnswer : Cond) ∈ lw_gd := tb_mem (i := 1473) (by decide +kernel) (by decide +kernel)
theorem mw_1474 : (.selects "BreweryHouse$Run" y_Ru_giveAnswer y_Ru_giveAnswer : Cond) ∈ lw_gd := tb_mem (i := 1474) (by decide +kernel) (by decide +kernel)
theorem mw_1475 : (.code y_Ru_giveAnswer b_Ru_giveAnswer 4 (some .boolean) : Cond) ∈ lw_gd := tb_mem (i := 1475) (by decide +kernel) (by decide +kernel)
theorem mw_1508 : (.methodLink "BreweryHouse" 336 y_Ro_barring : Cond) ∈ lw_gd := tb_mem (i := 1508) (by decide +kernel) (by decide +kernel)
theorem mw_1526 : (.methodLink "BreweryHouse" 345 y_Ru_standingNode : Cond) ∈ lw_gd := tb_mem (i := 1526) (by decide +kernel) (by decide +kernel)
theorem mw_1527 : (.instanceMethod y_Ru_standingNode : Cond) ∈ lw_gd := tb_mem (i := 1527) (by decide +kernel) (by decide +kernel)
theorem mw_1528 : (.selects "BreweryHouse$Run" y_Ru_standingNode y_Ru_standingNode : Cond) ∈ lw_gd := tb_mem (i := 1528) (by decide +kernel) (by decide +kernel)
theorem mw_1529 : (.code y_Ru_standingNode b_Ru_standingNode 3 (some .int) : Cond) ∈ lw_gd := tb_mem (i := 1529) (by decide +kernel) (by decide +kernel)
theorem mw_1530 : (.methodLink "BreweryHouse$Run" 219 y_Ru_isAlive : Cond) ∈ lw_gd := tb_mem (i := 1530) (by decide +kernel) (by decide +kernel)
theorem sl_53 : (.selects "BreweryHouse$Acts" y_Ac_isBound y_Ac_isBound : Cond) ∈ lw_gd := List.mem_filter.mpr ⟨List.mem_append_left _ (List.mem_of_getElem? (i := 53) (by decide +kernel)), by decide +kernel⟩
abbrev t_Bh_isLiquid_16 : List UInt8 := 172 :: []
abbrev t_Bh_isLiquid_15 : List UInt8 := 3 :: t_Bh_isLiquid_16
abbrev t_Bh_isLiquid_12 : List UInt8 := 167 :: 0 :: 4 :: t_Bh_isLiquid_15
abbrev t_Bh_isLiquid_11 : List UInt8 := 4 :: t_Bh_isLiquid_12
abbrev t_Bh_isLiquid_8 : List UInt8 := 163 :: 0 :: 7 :: t_Bh_isLiquid_11
abbrev t_Bh_isLiquid_6 : List UInt8 := 16 :: 14 :: t_Bh_isLiquid_8
abbrev t_Bh_isLiquid_5 : List UInt8 := 26 :: t_Bh_isLiquid_6
abbrev t_Bh_isLiquid_2 : List UInt8 := 161 :: 0 :: 13 :: t_Bh_isLiquid_5
abbrev t_Bh_isLiquid_1 : List UInt8 := 4 :: t_Bh_isLiquid_2
abbrev t_Bh_isLiquid_0 : List UInt8 := 26 :: t_Bh_isLiquid_1
theorem a_Bh_isLiquid_0 : dk_at b_Bh_isLiquid 0 t_Bh_isLiquid_0 := dk_start (by decide +kernel)
theorem a_Bh_isLiquid_1 : dk_at b_Bh_isLiquid 1 t_Bh_isLiquid_1 := dk_go 1 a_Bh_isLiquid_0 rfl
theorem a_Bh_isLiquid_2 : dk_at b_Bh_isLiquid 2 t_Bh_isLiquid_2 := dk_go 1 a_Bh_isLiquid_1 rfl
theorem a_Bh_isLiquid_5 : dk_at b_Bh_isLiquid 5 t_Bh_isLiquid_5 := dk_go 3 a_Bh_isLiquid_2 rfl
theorem a_Bh_isLiquid_6 : dk_at b_Bh_isLiquid 6 t_Bh_isLiquid_6 := dk_go 1 a_Bh_isLiquid_5 rfl
theorem a_Bh_isLiquid_8 : dk_at b_Bh_isLiquid 8 t_Bh_isLiquid_8 := dk_go 2 a_Bh_isLiquid_6 rfl
theorem a_Bh_isLiquid_11 : dk_at b_Bh_isLiquid 11 t_Bh_isLiquid_11 := dk_go 3 a_Bh_isLiquid_8 rfl
theorem a_Bh_isLiquid_12 : dk_at b_Bh_isLiquid 12 t_Bh_isLiquid_12 := dk_go 1 a_Bh_isLiquid_11 rfl
theorem a_Bh_isLiquid_15 : dk_at b_Bh_isLiquid 15 t_Bh_isLiquid_15 := dk_go 3 a_Bh_isLiquid_12 rfl
theorem a_Bh_isLiquid_16 : dk_at b_Bh_isLiquid 16 t_Bh_isLiquid_16 := dk_go 1 a_Bh_isLiquid_15 rfl
theorem d_Bh_isLiquid_0 : decode b_Bh_isLiquid 0 = .ok (.iload_n 0, 1) := dk_0 a_Bh_isLiquid_0 (dko_26 _)
theorem d_Bh_isLiquid_1 : decode b_Bh_isLiquid 1 = .ok (.iconst 1, 1) := dk_0 a_Bh_isLiquid_1 (dko_4 _)
theorem d_Bh_isLiquid_2 : decode b_Bh_isLiquid 2 = .ok (.if_icmp .lt 13, 3) := dk_S2 a_Bh_isLiquid_2 (dko_161 _) (by decide +kernel)
theorem d_Bh_isLiquid_5 : decode b_Bh_isLiquid 5 = .ok (.iload_n 0, 1) := dk_0 a_Bh_isLiquid_5 (dko_26 _)
theorem d_Bh_isLiquid_6 : decode b_Bh_isLiquid 6 = .ok (.bipush 14, 2) := dk_S1 a_Bh_isLiquid_6 (dko_16 _) (by decide +kernel)
theorem d_Bh_isLiquid_8 : decode b_Bh_isLiquid 8 = .ok (.if_icmp .gt 7, 3) := dk_S2 a_Bh_isLiquid_8 (dko_163 _) (by decide +kernel)
theorem d_Bh_isLiquid_11 : decode b_Bh_isLiquid 11 = .ok (.iconst 1, 1) := dk_0 a_Bh_isLiquid_11 (dko_4 _)
theorem d_Bh_isLiquid_12 : decode b_Bh_isLiquid 12 = .ok (.goto 4, 3) := dk_S2 a_Bh_isLiquid_12 (dko_167 _) (by decide +kernel)
theorem d_Bh_isLiquid_15 : decode b_Bh_isLiquid 15 = .ok (.iconst 0, 1) := dk_0 a_Bh_isLiquid_15 (dko_3 _)
theorem d_Bh_isLiquid_16 : decode b_Bh_isLiquid 16 = .ok (.ireturn, 1) := dk_0 a_Bh_isLiquid_16 (dko_172 _)
def fn_Bh_isLiquid (li : Int32) : Int32 := (if li < 1 then 0 else (if 14 < li then 0 else 1))
set_option maxHeartbeats 4000000 in
set_option maxRecDepth 100000 in
theorem c_Bh_isLiquid (l : Launch) (dC : Nat → ClassId) (dI : Nat → Nat → Nat) (cI cB cZ cJ : ClassId) (li : Int32) (sz : Nat) : Met l y_Bh_isLiquid w_Bh_isLiquid ({ frames := 0, cells := 0, slots := 0, locals := 0 }) (va_Pc [.int li] (PW dC dI cI cB cZ cJ [] sz)) (va_Qi (fun (r : Int32) (_ : Unit) => r = fn_Bh_isLiquid li) (fun _ _ => True) (va_A [] sz)) 0 0 (va_A [] sz) := by
  refine Met.ofW (cc := b_Bh_isLiquid) (maxL := 1) (ret := (some .boolean)) (by decide) rfl ?_
  intro p e s m args below meth c s₁ B hml hv
  obtain ⟨rfl, hsz, hP, hK, hD⟩ := hv
  have hx := B.exec
  have hb := B.bytes
  have hr := B.returns
  have hts := atoms_spec (ws := w_Bh_isLiquid) B.pre
  have hown : s.vm.findClass R_Bh = some m.cls := findClass_of_methodNamed B.named
  have hlocks := B.notSynchronized
  subst hsz
  generalize hAe : va_A [] s.heap.size = A at ⊢
  have hA : ∀ q : Nat, s.heap.size ≤ q → A q := fun q h => by rw [← hAe]; exact Or.inr h
  have hS : va_S A s.heap s.heap [] := va_S.rf
  have hP : va_P (dC, dI) classes [] s.heap := hP
  have hl := lv_entry ([.int li]) (n := 1) (Nat.le_of_ble_eq_true rfl)
  rw [lg_entry_eq]
  generalize (lg_sl ([.int li]) ++ List.replicate (1 - (lg_sl ([.int li])).length) Slot.unset).toArray = ls at hl ⊢
  have hl : lv_has ls 1 [(0, .int li)] := hl
  refine lv_iload_n hx hb d_Bh_isLiquid_0 rfl (lv_at hl 0 rfl) ?_
  refine lv_iconst (v := 1) hx hb d_Bh_isLiquid_1 (by decide) ?_
  refine lv_icmp_lt (tgt := 15) hx hb d_Bh_isLiquid_2 (by decide) (fun h2 => ?_) (fun h2 => ?_)
  · refine lv_iconst (v := 0) hx hb d_Bh_isLiquid_15 (by decide) ?_
    exact W.zret (v := 0) (ty := .boolean) hx hb hr (by decide) (fun t ht hW => ⟨⟨_, (), rfl, (by unfold fn_Bh_isLiquid; rw [if_pos h2]), trivial⟩, hS.F ht⟩) hS.2.2 d_Bh_isLiquid_16
  · refine lv_iload_n hx hb d_Bh_isLiquid_5 rfl (lv_at hl 0 rfl) ?_
    refine lv_bipush (v := 14) hx hb d_Bh_isLiquid_6 (by decide) ?_
    refine lv_icmp_gt (tgt := 15) hx hb d_Bh_isLiquid_8 (by decide) (fun h8 => ?_) (fun h8 => ?_)
    · refine lv_iconst (v := 0) hx hb d_Bh_isLiquid_15 (by decide) ?_
      exact W.zret (v := 0) (ty := .boolean) hx hb hr (by decide) (fun t ht hW => ⟨⟨_, (), rfl, (by unfold fn_Bh_isLiquid; rw [if_neg h2, if_pos h8]), trivial⟩, hS.F ht⟩) hS.2.2 d_Bh_isLiquid_16
    · refine lv_iconst (v := 1) hx hb d_Bh_isLiquid_11 (by decide) ?_
      refine lv_goto (tgt := 16) hx hb d_Bh_isLiquid_12 (by decide) ?_
      exact W.zret (v := 1) (ty := .boolean) hx hb hr (by decide) (fun t ht hW => ⟨⟨_, (), rfl, (by unfold fn_Bh_isLiquid; rw [if_neg h2, if_neg h8]), trivial⟩, hS.F ht⟩) hS.2.2 d_Bh_isLiquid_16
abbrev t_St_mayMeet_18 : List UInt8 := 172 :: []
abbrev t_St_mayMeet_17 : List UInt8 := 3 :: t_St_mayMeet_18
abbrev t_St_mayMeet_14 : List UInt8 := 167 :: 0 :: 4 :: t_St_mayMeet_17
abbrev t_St_mayMeet_13 : List UInt8 := 4 :: t_St_mayMeet_14
abbrev t_St_mayMeet_10 : List UInt8 := 153 :: 0 :: 7 :: t_St_mayMeet_13
abbrev t_St_mayMeet_9 : List UInt8 := 126 :: t_St_mayMeet_10
abbrev t_St_mayMeet_8 : List UInt8 := 4 :: t_St_mayMeet_9
abbrev t_St_mayMeet_7 : List UInt8 := 122 :: t_St_mayMeet_8
abbrev t_St_mayMeet_6 : List UInt8 := 28 :: t_St_mayMeet_7
abbrev t_St_mayMeet_5 : List UInt8 := 46 :: t_St_mayMeet_6
abbrev t_St_mayMeet_4 : List UInt8 := 27 :: t_St_mayMeet_5
abbrev t_St_mayMeet_1 : List UInt8 := 180 :: 0 :: 41 :: t_St_mayMeet_4
abbrev t_St_mayMeet_0 : List UInt8 := 42 :: t_St_mayMeet_1
theorem a_St_mayMeet_0 : dk_at b_St_mayMeet 0 t_St_mayMeet_0 := dk_start (by decide +kernel)
theorem a_St_mayMeet_1 : dk_at b_St_mayMeet 1 t_St_mayMeet_1 := dk_go 1 a_St_mayMeet_0 rfl
theorem a_St_mayMeet_4 : dk_at b_St_mayMeet 4 t_St_mayMeet_4 := dk_go 3 a_St_mayMeet_1 rfl
theorem a_St_mayMeet_5 : dk_at b_St_mayMeet 5 t_St_mayMeet_5 := dk_go 1 a_St_mayMeet_4 rfl
theorem a_St_mayMeet_6 : dk_at b_St_mayMeet 6 t_St_mayMeet_6 := dk_go 1 a_St_mayMeet_5 rfl
theorem a_St_mayMeet_7 : dk_at b_St_mayMeet 7 t_St_mayMeet_7 := dk_go 1 a_St_mayMeet_6 rfl
theorem a_St_mayMeet_8 : dk_at b_St_mayMeet 8 t_St_mayMeet_8 := dk_go 1 a_St_mayMeet_7 rfl
theorem a_St_mayMeet_9 : dk_at b_St_mayMeet 9 t_St_mayMeet_9 := dk_go 1 a_St_mayMeet_8 rfl
theorem a_St_mayMeet_10 : dk_at b_St_mayMeet 10 t_St_mayMeet_10 := dk_go 1 a_St_mayMeet_9 rfl
theorem a_St_mayMeet_13 : dk_at b_St_mayMeet 13 t_St_mayMeet_13 := dk_go 3 a_St_mayMeet_10 rfl
theorem a_St_mayMeet_14 : dk_at b_St_mayMeet 14 t_St_mayMeet_14 := dk_go 1 a_St_mayMeet_13 rfl
theorem a_St_mayMeet_17 : dk_at b_St_mayMeet 17 t_St_mayMeet_17 := dk_go 3 a_St_mayMeet_14 rfl
theorem a_St_mayMeet_18 : dk_at b_St_mayMeet 18 t_St_mayMeet_18 := dk_go 1 a_St_mayMeet_17 rfl
theorem d_St_mayMeet_0 : decode b_St_mayMeet 0 = .ok (.aload_n 0, 1) := dk_0 a_St_mayMeet_0 (dko_42 _)
theorem d_St_mayMeet_1 : decode b_St_mayMeet 1 = .ok (.getfield 41, 3) := dk_U2 a_St_mayMeet_1 (dko_180 _) rfl
theorem d_St_mayMeet_4 : decode b_St_mayMeet 4 = .ok (.iload_n 1, 1) := dk_0 a_St_mayMeet_4 (dko_27 _)
theorem d_St_mayMeet_5 : decode b_St_mayMeet 5 = .ok (.iaload, 1) := dk_0 a_St_mayMeet_5 (dko_46 _)
theorem d_St_mayMeet_6 : decode b_St_mayMeet 6 = .ok (.iload_n 2, 1) := dk_0 a_St_mayMeet_6 (dko_28 _)
theorem d_St_mayMeet_7 : decode b_St_mayMeet 7 = .ok (.ishr, 1) := dk_0 a_St_mayMeet_7 (dko_122 _)
theorem d_St_mayMeet_8 : decode b_St_mayMeet 8 = .ok (.iconst 1, 1) := dk_0 a_St_mayMeet_8 (dko_4 _)
theorem d_St_mayMeet_9 : decode b_St_mayMeet 9 = .ok (.iand, 1) := dk_0 a_St_mayMeet_9 (dko_126 _)
theorem d_St_mayMeet_10 : decode b_St_mayMeet 10 = .ok (.ifCond .eq 7, 3) := dk_S2 a_St_mayMeet_10 (dko_153 _) (by decide +kernel)
theorem d_St_mayMeet_17 : decode b_St_mayMeet 17 = .ok (.iconst 0, 1) := dk_0 a_St_mayMeet_17 (dko_3 _)
theorem d_St_mayMeet_18 : decode b_St_mayMeet 18 = .ok (.ireturn, 1) := dk_0 a_St_mayMeet_18 (dko_172 _)
set_option maxHeartbeats 4000000 in
set_option maxRecDepth 100000 in
theorem c_St_mayMeet (l : Launch) (dC : Nat → ClassId) (dI : Nat → Nat → Nat) (cI cB cZ cJ : ClassId) (li : Int32) (ot : Int32) (hl0 : ¬ li < 1) (hl1 : ¬ 14 < li) (oSt : Nat) (xst_meeting : Nat) (xs_ : List Value) (hst_meeting : fx xs_ 9 (.ref xst_meeting)) (sz : Nat) : Met l y_St_mayMeet w_St_mayMeet ({ frames := 0, cells := 0, slots := 0, locals := 0 }) (va_Pc [.ref oSt, .int li, .int ot] (PW dC dI cI cB cZ cJ [(oSt, .inr (4, xs_)), (xst_meeting, .inl (cI, 15, .inl (fun _ => 0)))] sz)) (va_Qi (fun (r : Int32) (_ : Unit) => r = 0) (fun _ _ => True) (va_A [] sz)) 0 0 (va_A [] sz) := by
  refine Met.ofW (cc := b_St_mayMeet) (maxL := 3) (ret := (some .boolean)) (by decide) rfl ?_
  intro p e s m args below meth c s₁ B hml hv
  obtain ⟨rfl, hsz, hP, hK, hD⟩ := hv
  have hx := B.exec
  have hb := B.bytes
  have hr := B.returns
  have hts := atoms_spec (ws := w_St_mayMeet) B.pre
  have hown : s.vm.findClass R_St = some m.cls := findClass_of_methodNamed B.named
  have hlocks := B.notSynchronized
  subst hsz
  generalize hAe : va_A [] s.heap.size = A at ⊢
  have hA : ∀ q : Nat, s.heap.size ≤ q → A q := fun q h => by rw [← hAe]; exact Or.inr h
  have hS : va_S A s.heap s.heap [] := va_S.rf
  have hP : va_P (dC, dI) classes [(oSt, .inr (4, xs_)), (xst_meeting, .inl (cI, 15, .inl (fun _ => 0)))] s.heap := hP
  have hl := lv_entry ([.ref oSt, .int li, .int ot]) (n := 3) (Nat.le_of_ble_eq_true rfl)
  rw [lg_entry_eq]
  generalize (lg_sl ([.ref oSt, .int li, .int ot]) ++ List.replicate (3 - (lg_sl ([.ref oSt, .int li, .int ot])).length) Slot.unset).toArray = ls at hl ⊢
  have hl : lv_has ls 3 [(0, .ref oSt), (1, .int li), (2, .int ot)] := hl
  refine lv_aload_n hx hb d_St_mayMeet_0 rfl (lv_at hl 0 rfl) ?_
  refine va_get (D := (dC, dI)) (ci := 4) (v := .ref xst_meeting) (C := R_St) (T := F_St) (N := 12) hx hb hts (fun w h => List.mem_cons_of_mem _ (in_St w h)) hown hK.1 hP 0 rfl rfl 9 (by decide) (hts _ (List.mem_cons_of_mem _ mw_176)) (fun _ h9 => h9) hst_meeting d_St_mayMeet_1 ?_
  refine lv_iload_n hx hb d_St_mayMeet_4 rfl (lv_at hl 1 rfl) ?_
  refine va_iald hx hb hK.1 hP 1 0 rfl rfl (ir_in hl0 hl1 (by decide) (by decide)) d_St_mayMeet_5 ?_
  refine lv_iload_n hx hb d_St_mayMeet_6 rfl (lv_at hl 2 rfl) ?_
  refine lv_ishr hx hb d_St_mayMeet_7 ?_
  refine lv_topi (fun x0 e0 => ?_)
  obtain rfl : x0 = 0 := e0.trans (sh_zero _)
  refine lv_iconst (v := 1) hx hb d_St_mayMeet_8 (by decide) ?_
  refine lv_iand hx hb d_St_mayMeet_9 ?_
  refine lv_topi (fun x0 e0 => ?_)
  obtain rfl : x0 = 0 := e0.trans (by decide)
  refine lv_if_eq (tgt := 17) hx hb d_St_mayMeet_10 (by decide) (fun _ => ?_) (fun h => absurd (by decide) h)
  refine lv_iconst (v := 0) hx hb d_St_mayMeet_17 (by decide) ?_
  exact W.zret (v := 0) (ty := .boolean) hx hb hr (by decide) (fun t ht hW => ⟨⟨_, (), rfl, (rfl), trivial⟩, hS.F ht⟩) hS.2.2 d_St_mayMeet_18
abbrev t_Bh_may_64 : List UInt8 := 172 :: []
abbrev t_Bh_may_63 : List UInt8 := 4 :: t_Bh_may_64
abbrev t_Bh_may_62 : List UInt8 := 79 :: t_Bh_may_63
abbrev t_Bh_may_61 : List UInt8 := 128 :: t_Bh_may_62
abbrev t_Bh_may_60 : List UInt8 := 120 :: t_Bh_may_61
abbrev t_Bh_may_59 : List UInt8 := 27 :: t_Bh_may_60
abbrev t_Bh_may_58 : List UInt8 := 4 :: t_Bh_may_59
abbrev t_Bh_may_57 : List UInt8 := 46 :: t_Bh_may_58
abbrev t_Bh_may_56 : List UInt8 := 92 :: t_Bh_may_57
abbrev t_Bh_may_55 : List UInt8 := 28 :: t_Bh_may_56
abbrev t_Bh_may_52 : List UInt8 := 180 :: 0 :: 228 :: t_Bh_may_55
abbrev t_Bh_may_49 : List UInt8 := 180 :: 0 :: 26 :: t_Bh_may_52
abbrev t_Bh_may_48 : List UInt8 := 42 :: t_Bh_may_49
abbrev t_Bh_may_47 : List UInt8 := 79 :: t_Bh_may_48
abbrev t_Bh_may_46 : List UInt8 := 128 :: t_Bh_may_47
abbrev t_Bh_may_45 : List UInt8 := 120 :: t_Bh_may_46
abbrev t_Bh_may_44 : List UInt8 := 28 :: t_Bh_may_45
abbrev t_Bh_may_43 : List UInt8 := 4 :: t_Bh_may_44
abbrev t_Bh_may_42 : List UInt8 := 46 :: t_Bh_may_43
abbrev t_Bh_may_41 : List UInt8 := 92 :: t_Bh_may_42
abbrev t_Bh_may_40 : List UInt8 := 27 :: t_Bh_may_41
abbrev t_Bh_may_37 : List UInt8 := 180 :: 0 :: 228 :: t_Bh_may_40
abbrev t_Bh_may_34 : List UInt8 := 180 :: 0 :: 26 :: t_Bh_may_37
abbrev t_Bh_may_33 : List UInt8 := 42 :: t_Bh_may_34
abbrev t_Bh_may_32 : List UInt8 := 172 :: t_Bh_may_33
abbrev t_Bh_may_31 : List UInt8 := 3 :: t_Bh_may_32
abbrev t_Bh_may_28 : List UInt8 := 153 :: 0 :: 5 :: t_Bh_may_31
abbrev t_Bh_may_25 : List UInt8 := 182 :: 0 :: 225 :: t_Bh_may_28
abbrev t_Bh_may_24 : List UInt8 := 28 :: t_Bh_may_25
abbrev t_Bh_may_23 : List UInt8 := 27 :: t_Bh_may_24
abbrev t_Bh_may_20 : List UInt8 := 180 :: 0 :: 26 :: t_Bh_may_23
abbrev t_Bh_may_19 : List UInt8 := 42 :: t_Bh_may_20
abbrev t_Bh_may_16 : List UInt8 := 159 :: 0 :: 15 :: t_Bh_may_19
abbrev t_Bh_may_15 : List UInt8 := 28 :: t_Bh_may_16
abbrev t_Bh_may_14 : List UInt8 := 27 :: t_Bh_may_15
abbrev t_Bh_may_11 : List UInt8 := 153 :: 0 :: 20 :: t_Bh_may_14
abbrev t_Bh_may_8 : List UInt8 := 184 :: 0 :: 200 :: t_Bh_may_11
abbrev t_Bh_may_7 : List UInt8 := 28 :: t_Bh_may_8
abbrev t_Bh_may_4 : List UInt8 := 153 :: 0 :: 27 :: t_Bh_may_7
abbrev t_Bh_may_1 : List UInt8 := 184 :: 0 :: 200 :: t_Bh_may_4
abbrev t_Bh_may_0 : List UInt8 := 27 :: t_Bh_may_1
theorem a_Bh_may_0 : dk_at b_Bh_may 0 t_Bh_may_0 := dk_start (by decide +kernel)
theorem a_Bh_may_1 : dk_at b_Bh_may 1 t_Bh_may_1 := dk_go 1 a_Bh_may_0 rfl
theorem a_Bh_may_4 : dk_at b_Bh_may 4 t_Bh_may_4 := dk_go 3 a_Bh_may_1 rfl
theorem a_Bh_may_7 : dk_at b_Bh_may 7 t_Bh_may_7 := dk_go 3 a_Bh_may_4 rfl
theorem a_Bh_may_8 : dk_at b_Bh_may 8 t_Bh_may_8 := dk_go 1 a_Bh_may_7 rfl
theorem a_Bh_may_11 : dk_at b_Bh_may 11 t_Bh_may_11 := dk_go 3 a_Bh_may_8 rfl
theorem a_Bh_may_14 : dk_at b_Bh_may 14 t_Bh_may_14 := dk_go 3 a_Bh_may_11 rfl
theorem a_Bh_may_15 : dk_at b_Bh_may 15 t_Bh_may_15 := dk_go 1 a_Bh_may_14 rfl
theorem a_Bh_may_16 : dk_at b_Bh_may 16 t_Bh_may_16 := dk_go 1 a_Bh_may_15 rfl
theorem a_Bh_may_19 : dk_at b_Bh_may 19 t_Bh_may_19 := dk_go 3 a_Bh_may_16 rfl
theorem a_Bh_may_20 : dk_at b_Bh_may 20 t_Bh_may_20 := dk_go 1 a_Bh_may_19 rfl
theorem a_Bh_may_23 : dk_at b_Bh_may 23 t_Bh_may_23 := dk_go 3 a_Bh_may_20 rfl
theorem a_Bh_may_24 : dk_at b_Bh_may 24 t_Bh_may_24 := dk_go 1 a_Bh_may_23 rfl
theorem a_Bh_may_25 : dk_at b_Bh_may 25 t_Bh_may_25 := dk_go 1 a_Bh_may_24 rfl
theorem a_Bh_may_28 : dk_at b_Bh_may 28 t_Bh_may_28 := dk_go 3 a_Bh_may_25 rfl
theorem a_Bh_may_31 : dk_at b_Bh_may 31 t_Bh_may_31 := dk_go 3 a_Bh_may_28 rfl
theorem a_Bh_may_32 : dk_at b_Bh_may 32 t_Bh_may_32 := dk_go 1 a_Bh_may_31 rfl
theorem a_Bh_may_33 : dk_at b_Bh_may 33 t_Bh_may_33 := dk_go 1 a_Bh_may_32 rfl
theorem a_Bh_may_34 : dk_at b_Bh_may 34 t_Bh_may_34 := dk_go 1 a_Bh_may_33 rfl
theorem a_Bh_may_37 : dk_at b_Bh_may 37 t_Bh_may_37 := dk_go 3 a_Bh_may_34 rfl
theorem a_Bh_may_40 : dk_at b_Bh_may 40 t_Bh_may_40 := dk_go 3 a_Bh_may_37 rfl
theorem a_Bh_may_41 : dk_at b_Bh_may 41 t_Bh_may_41 := dk_go 1 a_Bh_may_40 rfl
theorem a_Bh_may_42 : dk_at b_Bh_may 42 t_Bh_may_42 := dk_go 1 a_Bh_may_41 rfl
theorem a_Bh_may_43 : dk_at b_Bh_may 43 t_Bh_may_43 := dk_go 1 a_Bh_may_42 rfl
theorem a_Bh_may_44 : dk_at b_Bh_may 44 t_Bh_may_44 := dk_go 1 a_Bh_may_43 rfl
theorem a_Bh_may_45 : dk_at b_Bh_may 45 t_Bh_may_45 := dk_go 1 a_Bh_may_44 rfl
theorem a_Bh_may_46 : dk_at b_Bh_may 46 t_Bh_may_46 := dk_go 1 a_Bh_may_45 rfl
theorem a_Bh_may_47 : dk_at b_Bh_may 47 t_Bh_may_47 := dk_go 1 a_Bh_may_46 rfl
theorem a_Bh_may_48 : dk_at b_Bh_may 48 t_Bh_may_48 := dk_go 1 a_Bh_may_47 rfl
theorem a_Bh_may_49 : dk_at b_Bh_may 49 t_Bh_may_49 := dk_go 1 a_Bh_may_48 rfl
theorem a_Bh_may_52 : dk_at b_Bh_may 52 t_Bh_may_52 := dk_go 3 a_Bh_may_49 rfl
theorem a_Bh_may_55 : dk_at b_Bh_may 55 t_Bh_may_55 := dk_go 3 a_Bh_may_52 rfl
theorem a_Bh_may_56 : dk_at b_Bh_may 56 t_Bh_may_56 := dk_go 1 a_Bh_may_55 rfl
theorem a_Bh_may_57 : dk_at b_Bh_may 57 t_Bh_may_57 := dk_go 1 a_Bh_may_56 rfl
theorem a_Bh_may_58 : dk_at b_Bh_may 58 t_Bh_may_58 := dk_go 1 a_Bh_may_57 rfl
theorem a_Bh_may_59 : dk_at b_Bh_may 59 t_Bh_may_59 := dk_go 1 a_Bh_may_58 rfl
theorem a_Bh_may_60 : dk_at b_Bh_may 60 t_Bh_may_60 := dk_go 1 a_Bh_may_59 rfl
theorem a_Bh_may_61 : dk_at b_Bh_may 61 t_Bh_may_61 := dk_go 1 a_Bh_may_60 rfl
theorem a_Bh_may_62 : dk_at b_Bh_may 62 t_Bh_may_62 := dk_go 1 a_Bh_may_61 rfl
theorem a_Bh_may_63 : dk_at b_Bh_may 63 t_Bh_may_63 := dk_go 1 a_Bh_may_62 rfl
theorem a_Bh_may_64 : dk_at b_Bh_may 64 t_Bh_may_64 := dk_go 1 a_Bh_may_63 rfl
theorem d_Bh_may_0 : decode b_Bh_may 0 = .ok (.iload_n 1, 1) := dk_0 a_Bh_may_0 (dko_27 _)
theorem d_Bh_may_1 : decode b_Bh_may 1 = .ok (.invokestatic 200, 3) := dk_U2 a_Bh_may_1 (dko_184 _) rfl
theorem d_Bh_may_4 : decode b_Bh_may 4 = .ok (.ifCond .eq 27, 3) := dk_S2 a_Bh_may_4 (dko_153 _) (by decide +kernel)
theorem d_Bh_may_7 : decode b_Bh_may 7 = .ok (.iload_n 2, 1) := dk_0 a_Bh_may_7 (dko_28 _)
theorem d_Bh_may_8 : decode b_Bh_may 8 = .ok (.invokestatic 200, 3) := dk_U2 a_Bh_may_8 (dko_184 _) rfl
theorem d_Bh_may_11 : decode b_Bh_may 11 = .ok (.ifCond .eq 20, 3) := dk_S2 a_Bh_may_11 (dko_153 _) (by decide +kernel)
theorem d_Bh_may_14 : decode b_Bh_may 14 = .ok (.iload_n 1, 1) := dk_0 a_Bh_may_14 (dko_27 _)
theorem d_Bh_may_15 : decode b_Bh_may 15 = .ok (.iload_n 2, 1) := dk_0 a_Bh_may_15 (dko_28 _)
theorem d_Bh_may_16 : decode b_Bh_may 16 = .ok (.if_icmp .eq 15, 3) := dk_S2 a_Bh_may_16 (dko_159 _) (by decide +kernel)
theorem d_Bh_may_19 : decode b_Bh_may 19 = .ok (.aload_n 0, 1) := dk_0 a_Bh_may_19 (dko_42 _)
theorem d_Bh_may_20 : decode b_Bh_may 20 = .ok (.getfield 26, 3) := dk_U2 a_Bh_may_20 (dko_180 _) rfl
theorem d_Bh_may_23 : decode b_Bh_may 23 = .ok (.iload_n 1, 1) := dk_0 a_Bh_may_23 (dko_27 _)
theorem d_Bh_may_24 : decode b_Bh_may 24 = .ok (.iload_n 2, 1) := dk_0 a_Bh_may_24 (dko_28 _)
theorem d_Bh_may_25 : decode b_Bh_may 25 = .ok (.invokevirtual 225, 3) := dk_U2 a_Bh_may_25 (dko_182 _) rfl
theorem d_Bh_may_28 : decode b_Bh_may 28 = .ok (.ifCond .eq 5, 3) := dk_S2 a_Bh_may_28 (dko_153 _) (by decide +kernel)
theorem d_Bh_may_31 : decode b_Bh_may 31 = .ok (.iconst 0, 1) := dk_0 a_Bh_may_31 (dko_3 _)
theorem d_Bh_may_32 : decode b_Bh_may 32 = .ok (.ireturn, 1) := dk_0 a_Bh_may_32 (dko_172 _)
theorem d_Bh_may_33 : decode b_Bh_may 33 = .ok (.aload_n 0, 1) := dk_0 a_Bh_may_33 (dko_42 _)
theorem d_Bh_may_34 : decode b_Bh_may 34 = .ok (.getfield 26, 3) := dk_U2 a_Bh_may_34 (dko_180 _) rfl
theorem d_Bh_may_37 : decode b_Bh_may 37 = .ok (.getfield 228, 3) := dk_U2 a_Bh_may_37 (dko_180 _) rfl
theorem d_Bh_may_40 : decode b_Bh_may 40 = .ok (.iload_n 1, 1) := dk_0 a_Bh_may_40 (dko_27 _)
theorem d_Bh_may_41 : decode b_Bh_may 41 = .ok (.dup2, 1) := dk_0 a_Bh_may_41 (dko_92 _)
theorem d_Bh_may_42 : decode b_Bh_may 42 = .ok (.iaload, 1) := dk_0 a_Bh_may_42 (dko_46 _)
theorem d_Bh_may_43 : decode b_Bh_may 43 = .ok (.iconst 1, 1) := dk_0 a_Bh_may_43 (dko_4 _)
theorem d_Bh_may_44 : decode b_Bh_may 44 = .ok (.iload_n 2, 1) := dk_0 a_Bh_may_44 (dko_28 _)
theorem d_Bh_may_45 : decode b_Bh_may 45 = .ok (.ishl, 1) := dk_0 a_Bh_may_45 (dko_120 _)
theorem d_Bh_may_46 : decode b_Bh_may 46 = .ok (.ior, 1) := dk_0 a_Bh_may_46 (dko_128 _)
theorem d_Bh_may_47 : decode b_Bh_may 47 = .ok (.iastore, 1) := dk_0 a_Bh_may_47 (dko_79 _)
theorem d_Bh_may_48 : decode b_Bh_may 48 = .ok (.aload_n 0, 1) := dk_0 a_Bh_may_48 (dko_42 _)
theorem d_Bh_may_49 : decode b_Bh_may 49 = .ok (.getfield 26, 3) := dk_U2 a_Bh_may_49 (dko_180 _) rfl
theorem d_Bh_may_52 : decode b_Bh_may 52 = .ok (.getfield 228, 3) := dk_U2 a_Bh_may_52 (dko_180 _) rfl
theorem d_Bh_may_55 : decode b_Bh_may 55 = .ok (.iload_n 2, 1) := dk_0 a_Bh_may_55 (dko_28 _)
theorem d_Bh_may_56 : decode b_Bh_may 56 = .ok (.dup2, 1) := dk_0 a_Bh_may_56 (dko_92 _)
theorem d_Bh_may_57 : decode b_Bh_may 57 = .ok (.iaload, 1) := dk_0 a_Bh_may_57 (dko_46 _)
theorem d_Bh_may_58 : decode b_Bh_may 58 = .ok (.iconst 1, 1) := dk_0 a_Bh_may_58 (dko_4 _)
theorem d_Bh_may_59 : decode b_Bh_may 59 = .ok (.iload_n 1, 1) := dk_0 a_Bh_may_59 (dko_27 _)
theorem d_Bh_may_60 : decode b_Bh_may 60 = .ok (.ishl, 1) := dk_0 a_Bh_may_60 (dko_120 _)
theorem d_Bh_may_61 : decode b_Bh_may 61 = .ok (.ior, 1) := dk_0 a_Bh_may_61 (dko_128 _)
theorem d_Bh_may_62 : decode b_Bh_may 62 = .ok (.iastore, 1) := dk_0 a_Bh_may_62 (dko_79 _)
theorem d_Bh_may_63 : decode b_Bh_may 63 = .ok (.iconst 1, 1) := dk_0 a_Bh_may_63 (dko_4 _)
theorem d_Bh_may_64 : decode b_Bh_may 64 = .ok (.ireturn, 1) := dk_0 a_Bh_may_64 (dko_172 _)
def fn_Bh_may (li : Int32) (ot : Int32) : Int32 := (if li < 1 then 0 else (if 14 < li then 0 else (if ot < 1 then 0 else (if 14 < ot then 0 else (if li = ot then 0 else 1)))))
set_option maxHeartbeats 4000000 in
set_option maxRecDepth 100000 in
theorem c_Bh_may (l : Launch) (dC : Nat → ClassId) (dI : Nat → Nat → Nat) (cI cB cZ cJ : ClassId) (li : Int32) (ot : Int32) (oB : Nat) (oSt : Nat) (xst_meeting : Nat) (xb : List Value) (hb_stock : fx xb 2 (.ref oSt)) (xs_ : List Value) (hst_meeting : fx xs_ 9 (.ref xst_meeting)) (sz : Nat) : Met l y_Bh_may w_Bh_may ({ frames := 1, cells := 0, slots := 0, locals := 22 }) (va_Pc [.ref oB, .int li, .int ot] (PW dC dI cI cB cZ cJ [(oB, .inr (0, xb)), (oSt, .inr (4, xs_)), (xst_meeting, .inl (cI, 15, .inl (fun _ => 0)))] sz)) (va_Qi (fun (r : Int32) (_ : Unit) => r = fn_Bh_may li ot) (fun _ _ => True) (va_A [(oB, .inr (0, xb)), (oSt, .inr (4, xs_)), (xst_meeting, .inl (cI, 15, .inl (fun _ => 0)))] sz)) 0 0 (va_A [(oB, .inr (0, xb)), (oSt, .inr (4, xs_)), (xst_meeting, .inl (cI, 15, .inl (fun _ => 0)))] sz) := by
  refine Met.ofW (cc := b_Bh_may) (maxL := 3) (ret := (some .boolean)) (by decide) rfl ?_
  intro p e s m args below meth c s₁ B hml hv
  obtain ⟨rfl, hsz, hP, hK, hD⟩ := hv
  have hx := B.exec
  have hb := B.bytes
  have hr := B.returns
  have hts := atoms_spec (ws := w_Bh_may) B.pre
  have hown : s.vm.findClass R_Bh = some m.cls := findClass_of_methodNamed B.named
  have hlocks := B.notSynchronized
  subst hsz
  have hD := hD.self (sz := s.heap.size)
  generalize hAe : va_A [(oB, .inr (0, xb)), (oSt, .inr (4, xs_)), (xst_meeting, .inl (cI, 15, .inl (fun _ => 0)))] s.heap.size = A at hD ⊢
  have hA : ∀ q : Nat, s.heap.size ≤ q → A q := fun q h => by rw [← hAe]; exact Or.inr h
  have hS : va_S A s.heap s.heap [] := va_S.rf
  have hP : va_P (dC, dI) classes [(oB, .inr (0, xb)), (oSt, .inr (4, xs_)), (xst_meeting, .inl (cI, 15, .inl (fun _ => 0)))] s.heap := hP
  have hl := lv_entry ([.ref oB, .int li, .int ot]) (n := 3) (Nat.le_of_ble_eq_true rfl)
  rw [lg_entry_eq]
  generalize (lg_sl ([.ref oB, .int li, .int ot]) ++ List.replicate (3 - (lg_sl ([.ref oB, .int li, .int ot])).length) Slot.unset).toArray = ls at hl ⊢
  have hl : lv_has ls 3 [(0, .ref oB), (1, .int li), (2, .int ot)] := hl
  refine lv_iload_n hx hb d_Bh_may_0 rfl (lv_at hl 1 rfl) ?_
  have hPc := hP.sub (ws' := []) [] rfl
  have hDc := hD.sub (ws' := []) [] (by decide) rfl
  have hFc := pu_free hS hA
  refine va_calli (va_runS (As := [.int li]) (rest := []) ⟨hx, hb, hml, hown, hts⟩ (c_Bh_isLiquid l dC dI cI cB cZ cJ li s.heap.size) (va_cwS 1 hts (tb_S2 mw_1079 mw_1080 mw_1 mw_1081) rfl rfl rfl ⟨by decide +kernel, by decide +kernel, by decide +kernel⟩ ⟨(Nat.le_of_ble_eq_true rfl), (Nat.le_of_ble_eq_true rfl)⟩) ⟨pw_blind, pw_pre hPc hK hDc⟩ rfl rfl hl.1 rfl (lv_room (Nat.le_of_ble_eq_true rfl)) d_Bh_may_1 ⟨(Nat.le_of_ble_eq_true rfl), (Nat.le_of_ble_eq_true rfl)⟩) hS (fun q _ h => hFc q h) hFc (fun r u t H locs ht hvm hw hB hz1 hk1 hS => ?_)
  have hP := pu_kept hP hk1
  by_cases b4_1 : li < 1
  · obtain rfl : r = 0 := hw.trans (by unfold fn_Bh_isLiquid; rw [if_pos b4_1])
    refine lv_if_eq (tgt := 31) hx hb d_Bh_may_4 (by decide) (fun _ => ?_) (fun h => absurd (by decide) h)
    refine lv_iconst (v := 0) hx hb d_Bh_may_31 (by decide) ?_
    exact W.zret (v := 0) (ty := .boolean) hx hb hr (by decide) (fun t ht hW => ⟨⟨_, (), rfl, (by unfold fn_Bh_may; rw [if_pos b4_1]), trivial⟩, hS.F ht⟩) hS.2.2 d_Bh_may_32
  · by_cases b4_2 : 14 < li
    · obtain rfl : r = 0 := hw.trans (by unfold fn_Bh_isLiquid; rw [if_neg b4_1, if_pos b4_2])
      refine lv_if_eq (tgt := 31) hx hb d_Bh_may_4 (by decide) (fun _ => ?_) (fun h => absurd (by decide) h)
      refine lv_iconst (v := 0) hx hb d_Bh_may_31 (by decide) ?_
      exact W.zret (v := 0) (ty := .boolean) hx hb hr (by decide) (fun t ht hW => ⟨⟨_, (), rfl, (by unfold fn_Bh_may; rw [if_neg b4_1, if_pos b4_2]), trivial⟩, hS.F ht⟩) hS.2.2 d_Bh_may_32
    · obtain rfl : r = 1 := hw.trans (by unfold fn_Bh_isLiquid; rw [if_neg b4_1, if_neg b4_2])
      refine lv_if_eq (tgt := 31) hx hb d_Bh_may_4 (by decide) (fun h => absurd h (by decide)) (fun _ => ?_)
      refine lv_iload_n hx hb d_Bh_may_7 rfl (lv_at hl 2 rfl) ?_
      have hPc := hP.sub (ws' := []) [] rfl
      have hDc := hD.sub (ws' := []) [] (by decide) rfl
      have hFc := pu_free hS hA
      refine va_calli (va_runS (As := [.int ot]) (rest := []) ⟨hx, hb, hml, hown, hts⟩ (c_Bh_isLiquid l dC dI cI cB cZ cJ ot H.size) (va_cwS 1 hts (tb_S2 mw_1079 mw_1080 mw_1 mw_1081) rfl rfl rfl ⟨by decide +kernel, by decide +kernel, by decide +kernel⟩ ⟨(Nat.le_of_ble_eq_true rfl), (Nat.le_of_ble_eq_true rfl)⟩) ⟨pw_blind, pw_pre hPc hK hDc⟩ rfl rfl hl.1 rfl (lv_room (Nat.le_of_ble_eq_true rfl)) d_Bh_may_8 ⟨(Nat.le_of_ble_eq_true rfl), (Nat.le_of_ble_eq_true rfl)⟩) hS (fun q _ h => hFc q h) hFc (fun r u t H locs ht hvm hw hB hz1 hk1 hS => ?_)
      have hP := pu_kept hP hk1
      by_cases b11_3 : ot < 1
      · obtain rfl : r = 0 := hw.trans (by unfold fn_Bh_isLiquid; rw [if_pos b11_3])
        refine lv_if_eq (tgt := 31) hx hb d_Bh_may_11 (by decide) (fun _ => ?_) (fun h => absurd (by decide) h)
        refine lv_iconst (v := 0) hx hb d_Bh_may_31 (by decide) ?_
        exact W.zret (v := 0) (ty := .boolean) hx hb hr (by decide) (fun t ht hW => ⟨⟨_, (), rfl, (by unfold fn_Bh_may; rw [if_neg b4_1, if_neg b4_2, if_pos b11_3]), trivial⟩, hS.F ht⟩) hS.2.2 d_Bh_may_32
      · by_cases b11_4 : 14 < ot
        · obtain rfl : r = 0 := hw.trans (by unfold fn_Bh_isLiquid; rw [if_neg b11_3, if_pos b11_4])
          refine lv_if_eq (tgt := 31) hx hb d_Bh_may_11 (by decide) (fun _ => ?_) (fun h => absurd (by decide) h)
          refine lv_iconst (v := 0) hx hb d_Bh_may_31 (by decide) ?_
          exact W.zret (v := 0) (ty := .boolean) hx hb hr (by decide) (fun t ht hW => ⟨⟨_, (), rfl, (by unfold fn_Bh_may; rw [if_neg b4_1, if_neg b4_2, if_neg b11_3, if_pos b11_4]), trivial⟩, hS.F ht⟩) hS.2.2 d_Bh_may_32
        · obtain rfl : r = 1 := hw.trans (by unfold fn_Bh_isLiquid; rw [if_neg b11_3, if_neg b11_4])
          refine lv_if_eq (tgt := 31) hx hb d_Bh_may_11 (by decide) (fun h => absurd h (by decide)) (fun _ => ?_)
          refine lv_iload_n hx hb d_Bh_may_14 rfl (lv_at hl 1 rfl) ?_
          refine lv_iload_n hx hb d_Bh_may_15 rfl (lv_at hl 2 rfl) ?_
          refine lv_icmp_eq (tgt := 31) hx hb d_Bh_may_16 (by decide) (fun h16 => ?_) (fun h16 => ?_)
          · refine lv_iconst (v := 0) hx hb d_Bh_may_31 (by decide) ?_
            exact W.zret (v := 0) (ty := .boolean) hx hb hr (by decide) (fun t ht hW => ⟨⟨_, (), rfl, (by unfold fn_Bh_may; rw [if_neg b4_1, if_neg b4_2, if_neg b11_3, if_neg b11_4, if_pos h16]), trivial⟩, hS.F ht⟩) hS.2.2 d_Bh_may_32
          · refine lv_aload_n hx hb d_Bh_may_19 rfl (lv_at hl 0 rfl) ?_
            refine va_get (D := (dC, dI)) (ci := 0) (v := .ref oSt) (C := R_Bh) (T := F_Bh) (N := 16) hx hb hts (fun w h => List.mem_cons_of_mem _ (in_Bh w h)) hown hK.1 hP 0 rfl rfl 2 (by decide) (hts _ (List.mem_cons_of_mem _ mw_686)) (fun _ h9 => h9) hb_stock d_Bh_may_20 ?_
            refine lv_iload_n hx hb d_Bh_may_23 rfl (lv_at hl 1 rfl) ?_
            refine lv_iload_n hx hb d_Bh_may_24 rfl (lv_at hl 2 rfl) ?_
            have hPc := hP.sub (ws' := [(oSt, .inr (4, xs_)), (xst_meeting, .inl (cI, 15, .inl (fun _ => 0)))]) [1, 2] rfl
            have hDc := hD.sub (ws' := [(oSt, .inr (4, xs_)), (xst_meeting, .inl (cI, 15, .inl (fun _ => 0)))]) [1, 2] (by decide) rfl
            have hFc := pu_free hS hA
            refine va_calli (va_runV (C := R_St) (As := [.int li, .int ot]) (rest := []) ⟨hx, hb, hml, hown, hts⟩ (c_St_mayMeet l dC dI cI cB cZ cJ li ot b4_1 b4_2 oSt xst_meeting xs_ hst_meeting H.size) (cwV 2 hts (tb_V mw_1141 mw_1142 mw_1143 mw_4 mw_1144) rfl rfl rfl ⟨rfl, by decide +kernel, by decide +kernel, by decide +kernel⟩ ⟨(Nat.le_of_ble_eq_true rfl), (Nat.le_of_ble_eq_true rfl)⟩) ⟨pw_blind, va_recv (q := (R_St, F_St, 12)) hK.1 hP (ci := 4) (q0 := 1) rfl rfl, pw_pre hPc hK hDc⟩ rfl rfl hl.1 rfl (lv_room (Nat.le_of_ble_eq_true rfl)) d_Bh_may_25 ⟨(Nat.le_of_ble_eq_true rfl), (Nat.le_of_ble_eq_true rfl)⟩) hS (fun q _ h => hFc q h) hFc (fun r u t H locs ht hvm hw hB hz1 hk1 hS => ?_)
            have hP := pu_kept hP hk1
            obtain rfl : r = 0 := hw
            refine lv_if_eq (tgt := 33) hx hb d_Bh_may_28 (by decide) (fun _ => ?_) (fun h => absurd (by decide) h)
            refine lv_aload_n hx hb d_Bh_may_33 rfl (lv_at hl 0 rfl) ?_
            refine va_get (D := (dC, dI)) (ci := 0) (v := .ref oSt) (C := R_Bh) (T := F_Bh) (N := 16) hx hb hts (fun w h => List.mem_cons_of_mem _ (in_Bh w h)) hown hK.1 hP 0 rfl rfl 2 (by decide) (hts _ (List.mem_cons_of_mem _ mw_686)) (fun _ h9 => h9) hb_stock d_Bh_may_34 ?_
            refine va_get (D := (dC, dI)) (ci := 4) (v := .ref xst_meeting) (C := R_St) (T := F_St) (N := 12) hx hb hts (fun w h => List.mem_cons_of_mem _ (in_St w h)) hown hK.1 hP 1 rfl rfl 9 (by decide) (hts _ (List.mem_cons_of_mem _ mw_178)) (fun _ h9 => h9) hst_meeting d_Bh_may_37 ?_
            refine lv_iload_n hx hb d_Bh_may_40 rfl (lv_at hl 1 rfl) ?_
            refine lv_dup2_11 hx hb d_Bh_may_41 rfl rfl ?_
            refine va_iald hx hb hK.1 hP 2 0 rfl rfl (ir_in b4_1 b4_2 (by decide) (by decide)) d_Bh_may_42 ?_
            refine lv_iconst (v := 1) hx hb d_Bh_may_43 (by decide) ?_
            refine lv_iload_n hx hb d_Bh_may_44 rfl (lv_at hl 2 rfl) ?_
            refine lv_ishl hx hb d_Bh_may_45 ?_
            refine lv_topi (fun z45_6 ez45_6 => ?_)
            refine lv_ior hx hb d_Bh_may_46 ?_
            refine va_iast hx hb hK.1 hP hD hS 2 0 rfl rfl (ir_in b4_1 b4_2 (by decide) (by decide)) d_Bh_may_47 (fun H locs hP hD hS => ?_)
            have hP : va_P (dC, dI) classes [(oB, .inr (0, xb)), (oSt, .inr (4, xs_)), (xst_meeting, .inl (cI, 15, .inl ((upd (fun _ => 0) (li : Int32).toNatClampNeg (0 ||| z45_6)))))] H := hP
            have hD : va_D A [(oB, .inr (0, xb)), (oSt, .inr (4, xs_)), (xst_meeting, .inl (cI, 15, .inl ((upd (fun _ => 0) (li : Int32).toNatClampNeg (0 ||| z45_6)))))] := hD
            generalize (upd (fun _ => 0) (li : Int32).toNatClampNeg (0 ||| z45_6)) = f47_7 at hP hD
            refine lv_aload_n hx hb d_Bh_may_48 rfl (lv_at hl 0 rfl) ?_
            refine va_get (D := (dC, dI)) (ci := 0) (v := .ref oSt) (C := R_Bh) (T := F_Bh) (N := 16) hx hb hts (fun w h => List.mem_cons_of_mem _ (in_Bh w h)) hown hK.1 hP 0 rfl rfl 2 (by decide) (hts _ (List.mem_cons_of_mem _ mw_686)) (fun _ h9 => h9) hb_stock d_Bh_may_49 ?_
            refine va_get (D := (dC, dI)) (ci := 4) (v := .ref xst_meeting) (C := R_St) (T := F_St) (N := 12) hx hb hts (fun w h => List.mem_cons_of_mem _ (in_St w h)) hown hK.1 hP 1 rfl rfl 9 (by decide) (hts _ (List.mem_cons_of_mem _ mw_178)) (fun _ h9 => h9) hst_meeting d_Bh_may_52 ?_
            refine lv_iload_n hx hb d_Bh_may_55 rfl (lv_at hl 2 rfl) ?_
            refine lv_dup2_11 hx hb d_Bh_may_56 rfl rfl ?_
            refine va_iald hx hb hK.1 hP 2 0 rfl rfl (ir_in b11_3 b11_4 (by decide) (by decide)) d_Bh_may_57 ?_
            refine lv_iconst (v := 1) hx hb d_Bh_may_58 (by decide) ?_
            refine lv_iload_n hx hb d_Bh_may_59 rfl (lv_at hl 1 rfl) ?_
            refine lv_ishl hx hb d_Bh_may_60 ?_
            refine lv_topi (fun z60_8 ez60_8 => ?_)
            refine lv_ior hx hb d_Bh_may_61 ?_
            refine va_iast hx hb hK.1 hP hD hS 2 0 rfl rfl (ir_in b11_3 b11_4 (by decide) (by decide)) d_Bh_may_62 (fun H locs hP hD hS => ?_)
            have hP : va_P (dC, dI) classes [(oB, .inr (0, xb)), (oSt, .inr (4, xs_)), (xst_meeting, .inl (cI, 15, .inl ((upd f47_7 (ot : Int32).toNatClampNeg (((f47_7 (ot : Int32).toNatClampNeg) ||| z60_8))))))] H := hP
            have hD : va_D A [(oB, .inr (0, xb)), (oSt, .inr (4, xs_)), (xst_meeting, .inl (cI, 15, .inl ((upd f47_7 (ot : Int32).toNatClampNeg (((f47_7 (ot : Int32).toNatClampNeg) ||| z60_8))))))] := hD
            generalize (upd f47_7 (ot : Int32).toNatClampNeg (((f47_7 (ot : Int32).toNatClampNeg) ||| z60_8))) = f62_9 at hP hD
            refine lv_iconst (v := 1) hx hb d_Bh_may_63 (by decide) ?_
            exact W.zret (v := 1) (ty := .boolean) hx hb hr (by decide) (fun t ht hW => ⟨⟨_, (), rfl, (by unfold fn_Bh_may; rw [if_neg b4_1, if_neg b4_2, if_neg b11_3, if_neg b11_4, if_neg h16]), trivial⟩, hS.F ht⟩) hS.2.2 d_Bh_may_64
abbrev t_Bh_need_41 : List UInt8 := 172 :: []
abbrev t_Bh_need_40 : List UInt8 := 4 :: t_Bh_need_41
abbrev t_Bh_need_39 : List UInt8 := 79 :: t_Bh_need_40
abbrev t_Bh_need_38 : List UInt8 := 29 :: t_Bh_need_39
abbrev t_Bh_need_37 : List UInt8 := 96 :: t_Bh_need_38
abbrev t_Bh_need_36 : List UInt8 := 28 :: t_Bh_need_37
abbrev t_Bh_need_35 : List UInt8 := 104 :: t_Bh_need_36
abbrev t_Bh_need_33 : List UInt8 := 16 :: 15 :: t_Bh_need_35
abbrev t_Bh_need_32 : List UInt8 := 27 :: t_Bh_need_33
abbrev t_Bh_need_29 : List UInt8 := 180 :: 0 :: 231 :: t_Bh_need_32
abbrev t_Bh_need_26 : List UInt8 := 180 :: 0 :: 26 :: t_Bh_need_29
abbrev t_Bh_need_25 : List UInt8 := 42 :: t_Bh_need_26
abbrev t_Bh_need_24 : List UInt8 := 172 :: t_Bh_need_25
abbrev t_Bh_need_23 : List UInt8 := 3 :: t_Bh_need_24
abbrev t_Bh_need_20 : List UInt8 := 164 :: 0 :: 5 :: t_Bh_need_23
abbrev t_Bh_need_19 : List UInt8 := 8 :: t_Bh_need_20
abbrev t_Bh_need_18 : List UInt8 := 29 :: t_Bh_need_19
abbrev t_Bh_need_15 : List UInt8 := 155 :: 0 :: 8 :: t_Bh_need_18
abbrev t_Bh_need_14 : List UInt8 := 29 :: t_Bh_need_15
abbrev t_Bh_need_11 : List UInt8 := 153 :: 0 :: 12 :: t_Bh_need_14
abbrev t_Bh_need_8 : List UInt8 := 184 :: 0 :: 200 :: t_Bh_need_11
abbrev t_Bh_need_7 : List UInt8 := 28 :: t_Bh_need_8
abbrev t_Bh_need_4 : List UInt8 := 153 :: 0 :: 19 :: t_Bh_need_7
abbrev t_Bh_need_1 : List UInt8 := 184 :: 0 :: 200 :: t_Bh_need_4
abbrev t_Bh_need_0 : List UInt8 := 27 :: t_Bh_need_1
theorem a_Bh_need_0 : dk_at b_Bh_need 0 t_Bh_need_0 := dk_start (by decide +kernel)
theorem a_Bh_need_1 : dk_at b_Bh_need 1 t_Bh_need_1 := dk_go 1 a_Bh_need_0 rfl
theorem a_Bh_need_4 : dk_at b_Bh_need 4 t_Bh_need_4 := dk_go 3 a_Bh_need_1 rfl
theorem a_Bh_need_7 : dk_at b_Bh_need 7 t_Bh_need_7 := dk_go 3 a_Bh_need_4 rfl
theorem a_Bh_need_8 : dk_at b_Bh_need 8 t_Bh_need_8 := dk_go 1 a_Bh_need_7 rfl
theorem a_Bh_need_11 : dk_at b_Bh_need 11 t_Bh_need_11 := dk_go 3 a_Bh_need_8 rfl
theorem a_Bh_need_14 : dk_at b_Bh_need 14 t_Bh_need_14 := dk_go 3 a_Bh_need_11 rfl
theorem a_Bh_need_15 : dk_at b_Bh_need 15 t_Bh_need_15 := dk_go 1 a_Bh_need_14 rfl
theorem a_Bh_need_18 : dk_at b_Bh_need 18 t_Bh_need_18 := dk_go 3 a_Bh_need_15 rfl
theorem a_Bh_need_19 : dk_at b_Bh_need 19 t_Bh_need_19 := dk_go 1 a_Bh_need_18 rfl
theorem a_Bh_need_20 : dk_at b_Bh_need 20 t_Bh_need_20 := dk_go 1 a_Bh_need_19 rfl
theorem a_Bh_need_23 : dk_at b_Bh_need 23 t_Bh_need_23 := dk_go 3 a_Bh_need_20 rfl
theorem a_Bh_need_24 : dk_at b_Bh_need 24 t_Bh_need_24 := dk_go 1 a_Bh_need_23 rfl
theorem a_Bh_need_25 : dk_at b_Bh_need 25 t_Bh_need_25 := dk_go 1 a_Bh_need_24 rfl
theorem a_Bh_need_26 : dk_at b_Bh_need 26 t_Bh_need_26 := dk_go 1 a_Bh_need_25 rfl
theorem a_Bh_need_29 : dk_at b_Bh_need 29 t_Bh_need_29 := dk_go 3 a_Bh_need_26 rfl
theorem a_Bh_need_32 : dk_at b_Bh_need 32 t_Bh_need_32 := dk_go 3 a_Bh_need_29 rfl
theorem a_Bh_need_33 : dk_at b_Bh_need 33 t_Bh_need_33 := dk_go 1 a_Bh_need_32 rfl
theorem a_Bh_need_35 : dk_at b_Bh_need 35 t_Bh_need_35 := dk_go 2 a_Bh_need_33 rfl
theorem a_Bh_need_36 : dk_at b_Bh_need 36 t_Bh_need_36 := dk_go 1 a_Bh_need_35 rfl
theorem a_Bh_need_37 : dk_at b_Bh_need 37 t_Bh_need_37 := dk_go 1 a_Bh_need_36 rfl
theorem a_Bh_need_38 : dk_at b_Bh_need 38 t_Bh_need_38 := dk_go 1 a_Bh_need_37 rfl
theorem a_Bh_need_39 : dk_at b_Bh_need 39 t_Bh_need_39 := dk_go 1 a_Bh_need_38 rfl
theorem a_Bh_need_40 : dk_at b_Bh_need 40 t_Bh_need_40 := dk_go 1 a_Bh_need_39 rfl
theorem a_Bh_need_41 : dk_at b_Bh_need 41 t_Bh_need_41 := dk_go 1 a_Bh_need_40 rfl
theorem d_Bh_need_0 : decode b_Bh_need 0 = .ok (.iload_n 1, 1) := dk_0 a_Bh_need_0 (dko_27 _)
theorem d_Bh_need_1 : decode b_Bh_need 1 = .ok (.invokestatic 200, 3) := dk_U2 a_Bh_need_1 (dko_184 _) rfl
theorem d_Bh_need_4 : decode b_Bh_need 4 = .ok (.ifCond .eq 19, 3) := dk_S2 a_Bh_need_4 (dko_153 _) (by decide +kernel)
theorem d_Bh_need_7 : decode b_Bh_need 7 = .ok (.iload_n 2, 1) := dk_0 a_Bh_need_7 (dko_28 _)
theorem d_Bh_need_8 : decode b_Bh_need 8 = .ok (.invokestatic 200, 3) := dk_U2 a_Bh_need_8 (dko_184 _) rfl
theorem d_Bh_need_11 : decode b_Bh_need 11 = .ok (.ifCond .eq 12, 3) := dk_S2 a_Bh_need_11 (dko_153 _) (by decide +kernel)
theorem d_Bh_need_14 : decode b_Bh_need 14 = .ok (.iload_n 3, 1) := dk_0 a_Bh_need_14 (dko_29 _)
theorem d_Bh_need_15 : decode b_Bh_need 15 = .ok (.ifCond .lt 8, 3) := dk_S2 a_Bh_need_15 (dko_155 _) (by decide +kernel)
theorem d_Bh_need_18 : decode b_Bh_need 18 = .ok (.iload_n 3, 1) := dk_0 a_Bh_need_18 (dko_29 _)
theorem d_Bh_need_19 : decode b_Bh_need 19 = .ok (.iconst 5, 1) := dk_0 a_Bh_need_19 (dko_8 _)
theorem d_Bh_need_20 : decode b_Bh_need 20 = .ok (.if_icmp .le 5, 3) := dk_S2 a_Bh_need_20 (dko_164 _) (by decide +kernel)
theorem d_Bh_need_23 : decode b_Bh_need 23 = .ok (.iconst 0, 1) := dk_0 a_Bh_need_23 (dko_3 _)
theorem d_Bh_need_24 : decode b_Bh_need 24 = .ok (.ireturn, 1) := dk_0 a_Bh_need_24 (dko_172 _)
theorem d_Bh_need_25 : decode b_Bh_need 25 = .ok (.aload_n 0, 1) := dk_0 a_Bh_need_25 (dko_42 _)
theorem d_Bh_need_26 : decode b_Bh_need 26 = .ok (.getfield 26, 3) := dk_U2 a_Bh_need_26 (dko_180 _) rfl
theorem d_Bh_need_29 : decode b_Bh_need 29 = .ok (.getfield 231, 3) := dk_U2 a_Bh_need_29 (dko_180 _) rfl
theorem d_Bh_need_32 : decode b_Bh_need 32 = .ok (.iload_n 1, 1) := dk_0 a_Bh_need_32 (dko_27 _)
theorem d_Bh_need_33 : decode b_Bh_need 33 = .ok (.bipush 15, 2) := dk_S1 a_Bh_need_33 (dko_16 _) (by decide +kernel)
theorem d_Bh_need_35 : decode b_Bh_need 35 = .ok (.imul, 1) := dk_0 a_Bh_need_35 (dko_104 _)
theorem d_Bh_need_36 : decode b_Bh_need 36 = .ok (.iload_n 2, 1) := dk_0 a_Bh_need_36 (dko_28 _)
theorem d_Bh_need_37 : decode b_Bh_need 37 = .ok (.iadd, 1) := dk_0 a_Bh_need_37 (dko_96 _)
theorem d_Bh_need_38 : decode b_Bh_need 38 = .ok (.iload_n 3, 1) := dk_0 a_Bh_need_38 (dko_29 _)
theorem d_Bh_need_39 : decode b_Bh_need 39 = .ok (.iastore, 1) := dk_0 a_Bh_need_39 (dko_79 _)
theorem d_Bh_need_40 : decode b_Bh_need 40 = .ok (.iconst 1, 1) := dk_0 a_Bh_need_40 (dko_4 _)
theorem d_Bh_need_41 : decode b_Bh_need 41 = .ok (.ireturn, 1) := dk_0 a_Bh_need_41 (dko_172 _)
def fn_Bh_need (la : Int32) (li : Int32) (lv : Int32) : Int32 := (if la < 1 then 0 else (if 14 < la then 0 else (if li < 1 then 0 else (if 14 < li then 0 else (if lv < 0 then 0 else (if lv ≤ 5 then 1 else 0))))))
set_option maxHeartbeats 4000000 in
set_option maxRecDepth 100000 in
theorem c_Bh_need (l : Launch) (dC : Nat → ClassId) (dI : Nat → Nat → Nat) (cI cB cZ cJ : ClassId) (la : Int32) (li : Int32) (lv : Int32) (oB : Nat) (oSt : Nat) (xst_needed : Nat) (xb : List Value) (hb_stock : fx xb 2 (.ref oSt)) (xs_ : List Value) (hst_needed : fx xs_ 10 (.ref xst_needed)) (sz : Nat) : Met l y_Bh_need w_Bh_need ({ frames := 1, cells := 0, slots := 0, locals := 20 }) (va_Pc [.ref oB, .int la, .int li, .int lv] (PW dC dI cI cB cZ cJ [(oB, .inr (0, xb)), (oSt, .inr (4, xs_)), (xst_needed, .inl (cI, 225, .inl (fun _ => 5)))] sz)) (va_Qi (fun (r : Int32) (_ : Unit) => r = fn_Bh_need la li lv) (fun _ _ => True) (va_A [(oB, .inr (0, xb)), (oSt, .inr (4, xs_)), (xst_needed, .inl (cI, 225, .inl (fun _ => 5)))] sz)) 0 0 (va_A [(oB, .inr (0, xb)), (oSt, .inr (4, xs_)), (xst_needed, .inl (cI, 225, .inl (fun _ => 5)))] sz) := by
  refine Met.ofW (cc := b_Bh_need) (maxL := 4) (ret := (some .boolean)) (by decide) rfl ?_
  intro p e s m args below meth c s₁ B hml hv
  obtain ⟨rfl, hsz, hP, hK, hD⟩ := hv
  have hx := B.exec
  have hb := B.bytes
  have hr := B.returns
  have hts := atoms_spec (ws := w_Bh_need) B.pre
  have hown : s.vm.findClass R_Bh = some m.cls := findClass_of_methodNamed B.named
  have hlocks := B.notSynchronized
  subst hsz
  have hD := hD.self (sz := s.heap.size)
  generalize hAe : va_A [(oB, .inr (0, xb)), (oSt, .inr (4, xs_)), (xst_needed, .inl (cI, 225, .inl (fun _ => 5)))] s.heap.size = A at hD ⊢
  have hA : ∀ q : Nat, s.heap.size ≤ q → A q := fun q h => by rw [← hAe]; exact Or.inr h
  have hS : va_S A s.heap s.heap [] := va_S.rf
  have hP : va_P (dC, dI) classes [(oB, .inr (0, xb)), (oSt, .inr (4, xs_)), (xst_needed, .inl (cI, 225, .inl (fun _ => 5)))] s.heap := hP
  have hl := lv_entry ([.ref oB, .int la, .int li, .int lv]) (n := 4) (Nat.le_of_ble_eq_true rfl)
  rw [lg_entry_eq]
  generalize (lg_sl ([.ref oB, .int la, .int li, .int lv]) ++ List.replicate (4 - (lg_sl ([.ref oB, .int la, .int li, .int lv])).length) Slot.unset).toArray = ls at hl ⊢
  have hl : lv_has ls 4 [(0, .ref oB), (1, .int la), (2, .int li), (3, .int lv)] := hl
  refine lv_iload_n hx hb d_Bh_need_0 rfl (lv_at hl 1 rfl) ?_
  have hPc := hP.sub (ws' := []) [] rfl
  have hDc := hD.sub (ws' := []) [] (by decide) rfl
  have hFc := pu_free hS hA
  refine va_calli (va_runS (As := [.int la]) (rest := []) ⟨hx, hb, hml, hown, hts⟩ (c_Bh_isLiquid l dC dI cI cB cZ cJ la s.heap.size) (va_cwS 1 hts (tb_S2 mw_1079 mw_1080 mw_1 mw_1081) rfl rfl rfl ⟨by decide +kernel, by decide +kernel, by decide +kernel⟩ ⟨(Nat.le_of_ble_eq_true rfl), (Nat.le_of_ble_eq_true rfl)⟩) ⟨pw_blind, pw_pre hPc hK hDc⟩ rfl rfl hl.1 rfl (lv_room (Nat.le_of_ble_eq_true rfl)) d_Bh_need_1 ⟨(Nat.le_of_ble_eq_true rfl), (Nat.le_of_ble_eq_true rfl)⟩) hS (fun q _ h => hFc q h) hFc (fun r u t H locs ht hvm hw hB hz1 hk1 hS => ?_)
  have hP := pu_kept hP hk1
  by_cases b4_1 : la < 1
  · obtain rfl : r = 0 := hw.trans (by unfold fn_Bh_isLiquid; rw [if_pos b4_1])
    refine lv_if_eq (tgt := 23) hx hb d_Bh_need_4 (by decide) (fun _ => ?_) (fun h => absurd (by decide) h)
    refine lv_iconst (v := 0) hx hb d_Bh_need_23 (by decide) ?_
    exact W.zret (v := 0) (ty := .boolean) hx hb hr (by decide) (fun t ht hW => ⟨⟨_, (), rfl, (by unfold fn_Bh_need; rw [if_pos b4_1]), trivial⟩, hS.F ht⟩) hS.2.2 d_Bh_need_24
  · by_cases b4_2 : 14 < la
    · obtain rfl : r = 0 := hw.trans (by unfold fn_Bh_isLiquid; rw [if_neg b4_1, if_pos b4_2])
      refine lv_if_eq (tgt := 23) hx hb d_Bh_need_4 (by decide) (fun _ => ?_) (fun h => absurd (by decide) h)
      refine lv_iconst (v := 0) hx hb d_Bh_need_23 (by decide) ?_
      exact W.zret (v := 0) (ty := .boolean) hx hb hr (by decide) (fun t ht hW => ⟨⟨_, (), rfl, (by unfold fn_Bh_need; rw [if_neg b4_1, if_pos b4_2]), trivial⟩, hS.F ht⟩) hS.2.2 d_Bh_need_24
    · obtain rfl : r = 1 := hw.trans (by unfold fn_Bh_isLiquid; rw [if_neg b4_1, if_neg b4_2])
      refine lv_if_eq (tgt := 23) hx hb d_Bh_need_4 (by decide) (fun h => absurd h (by decide)) (fun _ => ?_)
      refine lv_iload_n hx hb d_Bh_need_7 rfl (lv_at hl 2 rfl) ?_
      have hPc := hP.sub (ws' := []) [] rfl
      have hDc := hD.sub (ws' := []) [] (by decide) rfl
      have hFc := pu_free hS hA
      refine va_calli (va_runS (As := [.int li]) (rest := []) ⟨hx, hb, hml, hown, hts⟩ (c_Bh_isLiquid l dC dI cI cB cZ cJ li H.size) (va_cwS 1 hts (tb_S2 mw_1079 mw_1080 mw_1 mw_1081) rfl rfl rfl ⟨by decide +kernel, by decide +kernel, by decide +kernel⟩ ⟨(Nat.le_of_ble_eq_true rfl), (Nat.le_of_ble_eq_true rfl)⟩) ⟨pw_blind, pw_pre hPc hK hDc⟩ rfl rfl hl.1 rfl (lv_room (Nat.le_of_ble_eq_true rfl)) d_Bh_need_8 ⟨(Nat.le_of_ble_eq_true rfl), (Nat.le_of_ble_eq_true rfl)⟩) hS (fun q _ h => hFc q h) hFc (fun r u t H locs ht hvm hw hB hz1 hk1 hS => ?_)
      have hP := pu_kept hP hk1
      by_cases b11_3 : li < 1
      · obtain rfl : r = 0 := hw.trans (by unfold fn_Bh_isLiquid; rw [if_pos b11_3])
        refine lv_if_eq (tgt := 23) hx hb d_Bh_need_11 (by decide) (fun _ => ?_) (fun h => absurd (by decide) h)
        refine lv_iconst (v := 0) hx hb d_Bh_need_23 (by decide) ?_
        exact W.zret (v := 0) (ty := .boolean) hx hb hr (by decide) (fun t ht hW => ⟨⟨_, (), rfl, (by unfold fn_Bh_need; rw [if_neg b4_1, if_neg b4_2, if_pos b11_3]), trivial⟩, hS.F ht⟩) hS.2.2 d_Bh_need_24
      · by_cases b11_4 : 14 < li
        · obtain rfl : r = 0 := hw.trans (by unfold fn_Bh_isLiquid; rw [if_neg b11_3, if_pos b11_4])
          refine lv_if_eq (tgt := 23) hx hb d_Bh_need_11 (by decide) (fun _ => ?_) (fun h => absurd (by decide) h)
          refine lv_iconst (v := 0) hx hb d_Bh_need_23 (by decide) ?_
          exact W.zret (v := 0) (ty := .boolean) hx hb hr (by decide) (fun t ht hW => ⟨⟨_, (), rfl, (by unfold fn_Bh_need; rw [if_neg b4_1, if_neg b4_2, if_neg b11_3, if_pos b11_4]), trivial⟩, hS.F ht⟩) hS.2.2 d_Bh_need_24
        · obtain rfl : r = 1 := hw.trans (by unfold fn_Bh_isLiquid; rw [if_neg b11_3, if_neg b11_4])
          refine lv_if_eq (tgt := 23) hx hb d_Bh_need_11 (by decide) (fun h => absurd h (by decide)) (fun _ => ?_)
          refine lv_iload_n hx hb d_Bh_need_14 rfl (lv_at hl 3 rfl) ?_
          refine lv_if_lt (tgt := 23) hx hb d_Bh_need_15 (by decide) (fun h15 => ?_) (fun h15 => ?_)
          · refine lv_iconst (v := 0) hx hb d_Bh_need_23 (by decide) ?_
            exact W.zret (v := 0) (ty := .boolean) hx hb hr (by decide) (fun t ht hW => ⟨⟨_, (), rfl, (by unfold fn_Bh_need; rw [if_neg b4_1, if_neg b4_2, if_neg b11_3, if_neg b11_4, if_pos h15]), trivial⟩, hS.F ht⟩) hS.2.2 d_Bh_need_24
          · refine lv_iload_n hx hb d_Bh_need_18 rfl (lv_at hl 3 rfl) ?_
            refine lv_iconst (v := 5) hx hb d_Bh_need_19 (by decide) ?_
            refine lv_icmp_le (tgt := 25) hx hb d_Bh_need_20 (by decide) (fun h20 => ?_) (fun h20 => ?_)
            · refine lv_aload_n hx hb d_Bh_need_25 rfl (lv_at hl 0 rfl) ?_
              refine va_get (D := (dC, dI)) (ci := 0) (v := .ref oSt) (C := R_Bh) (T := F_Bh) (N := 16) hx hb hts (fun w h => List.mem_cons_of_mem _ (in_Bh w h)) hown hK.1 hP 0 rfl rfl 2 (by decide) (hts _ (List.mem_cons_of_mem _ mw_686)) (fun _ h9 => h9) hb_stock d_Bh_need_26 ?_
              refine va_get (D := (dC, dI)) (ci := 4) (v := .ref xst_needed) (C := R_St) (T := F_St) (N := 12) hx hb hts (fun w h => List.mem_cons_of_mem _ (in_St w h)) hown hK.1 hP 1 rfl rfl 10 (by decide) (hts _ (List.mem_cons_of_mem _ mw_180)) (fun _ h9 => h9) hst_needed d_Bh_need_29 ?_
              refine lv_iload_n hx hb d_Bh_need_32 rfl (lv_at hl 1 rfl) ?_
              refine lv_bipush (v := 15) hx hb d_Bh_need_33 (by decide) ?_
              refine lv_imul hx hb d_Bh_need_35 ?_
              refine lv_iload_n hx hb d_Bh_need_36 rfl (lv_at hl 2 rfl) ?_
              refine lv_iadd hx hb d_Bh_need_37 ?_
              refine lv_iload_n hx hb d_Bh_need_38 rfl (lv_at hl 3 rfl) ?_
              refine va_iast hx hb hK.1 hP hD hS 2 0 rfl rfl (ir_15 b4_1 b4_2 b11_3 b11_4) d_Bh_need_39 (fun H locs hP hD hS => ?_)
              have hP : va_P (dC, dI) classes [(oB, .inr (0, xb)), (oSt, .inr (4, xs_)), (xst_needed, .inl (cI, 225, .inl ((upd (fun _ => 5) (((la * 15) + li) : Int32).toNatClampNeg lv))))] H := hP
              have hD : va_D A [(oB, .inr (0, xb)), (oSt, .inr (4, xs_)), (xst_needed, .inl (cI, 225, .inl ((upd (fun _ => 5) (((la * 15) + li) : Int32).toNatClampNeg lv))))] := hD
              generalize (upd (fun _ => 5) (((la * 15) + li) : Int32).toNatClampNeg lv) = f39_7 at hP hD
              refine lv_iconst (v := 1) hx hb d_Bh_need_40 (by decide) ?_
              exact W.zret (v := 1) (ty := .boolean) hx hb hr (by decide) (fun t ht hW => ⟨⟨_, (), rfl, (by unfold fn_Bh_need; rw [if_neg b4_1, if_neg b4_2, if_neg b11_3, if_neg b11_4, if_neg h15, if_pos h20]), trivial⟩, hS.F ht⟩) hS.2.2 d_Bh_need_41
            · refine lv_iconst (v := 0) hx hb d_Bh_need_23 (by decide) ?_
              exact W.zret (v := 0) (ty := .boolean) hx hb hr (by decide) (fun t ht hW => ⟨⟨_, (), rfl, (by unfold fn_Bh_need; rw [if_neg b4_1, if_neg b4_2, if_neg b11_3, if_neg b11_4, if_neg h15, if_neg h20]), trivial⟩, hS.F ht⟩) hS.2.2 d_Bh_need_24
abbrev t_Bh_lasts_33 : List UInt8 := 172 :: []
abbrev t_Bh_lasts_32 : List UInt8 := 4 :: t_Bh_lasts_33
abbrev t_Bh_lasts_31 : List UInt8 := 79 :: t_Bh_lasts_32
abbrev t_Bh_lasts_30 : List UInt8 := 28 :: t_Bh_lasts_31
abbrev t_Bh_lasts_29 : List UInt8 := 27 :: t_Bh_lasts_30
abbrev t_Bh_lasts_26 : List UInt8 := 180 :: 0 :: 235 :: t_Bh_lasts_29
abbrev t_Bh_lasts_23 : List UInt8 := 180 :: 0 :: 26 :: t_Bh_lasts_26
abbrev t_Bh_lasts_22 : List UInt8 := 42 :: t_Bh_lasts_23
abbrev t_Bh_lasts_21 : List UInt8 := 172 :: t_Bh_lasts_22
abbrev t_Bh_lasts_20 : List UInt8 := 3 :: t_Bh_lasts_21
abbrev t_Bh_lasts_17 : List UInt8 := 164 :: 0 :: 5 :: t_Bh_lasts_20
abbrev t_Bh_lasts_15 : List UInt8 := 18 :: 234 :: t_Bh_lasts_17
abbrev t_Bh_lasts_14 : List UInt8 := 28 :: t_Bh_lasts_15
abbrev t_Bh_lasts_11 : List UInt8 := 155 :: 0 :: 9 :: t_Bh_lasts_14
abbrev t_Bh_lasts_10 : List UInt8 := 28 :: t_Bh_lasts_11
abbrev t_Bh_lasts_7 : List UInt8 := 163 :: 0 :: 13 :: t_Bh_lasts_10
abbrev t_Bh_lasts_6 : List UInt8 := 8 :: t_Bh_lasts_7
abbrev t_Bh_lasts_5 : List UInt8 := 27 :: t_Bh_lasts_6
abbrev t_Bh_lasts_2 : List UInt8 := 161 :: 0 :: 18 :: t_Bh_lasts_5
abbrev t_Bh_lasts_1 : List UInt8 := 4 :: t_Bh_lasts_2
abbrev t_Bh_lasts_0 : List UInt8 := 27 :: t_Bh_lasts_1
theorem a_Bh_lasts_0 : dk_at b_Bh_lasts 0 t_Bh_lasts_0 := dk_start (by decide +kernel)
theorem a_Bh_lasts_1 : dk_at b_Bh_lasts 1 t_Bh_lasts_1 := dk_go 1 a_Bh_lasts_0 rfl
theorem a_Bh_lasts_2 : dk_at b_Bh_lasts 2 t_Bh_lasts_2 := dk_go 1 a_Bh_lasts_1 rfl
theorem a_Bh_lasts_5 : dk_at b_Bh_lasts 5 t_Bh_lasts_5 := dk_go 3 a_Bh_lasts_2 rfl
theorem a_Bh_lasts_6 : dk_at b_Bh_lasts 6 t_Bh_lasts_6 := dk_go 1 a_Bh_lasts_5 rfl
theorem a_Bh_lasts_7 : dk_at b_Bh_lasts 7 t_Bh_lasts_7 := dk_go 1 a_Bh_lasts_6 rfl
theorem a_Bh_lasts_10 : dk_at b_Bh_lasts 10 t_Bh_lasts_10 := dk_go 3 a_Bh_lasts_7 rfl
theorem a_Bh_lasts_11 : dk_at b_Bh_lasts 11 t_Bh_lasts_11 := dk_go 1 a_Bh_lasts_10 rfl
theorem a_Bh_lasts_14 : dk_at b_Bh_lasts 14 t_Bh_lasts_14 := dk_go 3 a_Bh_lasts_11 rfl
theorem a_Bh_lasts_15 : dk_at b_Bh_lasts 15 t_Bh_lasts_15 := dk_go 1 a_Bh_lasts_14 rfl
theorem a_Bh_lasts_17 : dk_at b_Bh_lasts 17 t_Bh_lasts_17 := dk_go 2 a_Bh_lasts_15 rfl
theorem a_Bh_lasts_20 : dk_at b_Bh_lasts 20 t_Bh_lasts_20 := dk_go 3 a_Bh_lasts_17 rfl
theorem a_Bh_lasts_21 : dk_at b_Bh_lasts 21 t_Bh_lasts_21 := dk_go 1 a_Bh_lasts_20 rfl
theorem a_Bh_lasts_22 : dk_at b_Bh_lasts 22 t_Bh_lasts_22 := dk_go 1 a_Bh_lasts_21 rfl
theorem a_Bh_lasts_23 : dk_at b_Bh_lasts 23 t_Bh_lasts_23 := dk_go 1 a_Bh_lasts_22 rfl
theorem a_Bh_lasts_26 : dk_at b_Bh_lasts 26 t_Bh_lasts_26 := dk_go 3 a_Bh_lasts_23 rfl
theorem a_Bh_lasts_29 : dk_at b_Bh_lasts 29 t_Bh_lasts_29 := dk_go 3 a_Bh_lasts_26 rfl
theorem a_Bh_lasts_30 : dk_at b_Bh_lasts 30 t_Bh_lasts_30 := dk_go 1 a_Bh_lasts_29 rfl
theorem a_Bh_lasts_31 : dk_at b_Bh_lasts 31 t_Bh_lasts_31 := dk_go 1 a_Bh_lasts_30 rfl
theorem a_Bh_lasts_32 : dk_at b_Bh_lasts 32 t_Bh_lasts_32 := dk_go 1 a_Bh_lasts_31 rfl
theorem a_Bh_lasts_33 : dk_at b_Bh_lasts 33 t_Bh_lasts_33 := dk_go 1 a_Bh_lasts_32 rfl
theorem d_Bh_lasts_0 : decode b_Bh_lasts 0 = .ok (.iload_n 1, 1) := dk_0 a_Bh_lasts_0 (dko_27 _)
theorem d_Bh_lasts_1 : decode b_Bh_lasts 1 = .ok (.iconst 1, 1) := dk_0 a_Bh_lasts_1 (dko_4 _)
theorem d_Bh_lasts_2 : decode b_Bh_lasts 2 = .ok (.if_icmp .lt 18, 3) := dk_S2 a_Bh_lasts_2 (dko_161 _) (by decide +kernel)
theorem d_Bh_lasts_5 : decode b_Bh_lasts 5 = .ok (.iload_n 1, 1) := dk_0 a_Bh_lasts_5 (dko_27 _)
theorem d_Bh_lasts_6 : decode b_Bh_lasts 6 = .ok (.iconst 5, 1) := dk_0 a_Bh_lasts_6 (dko_8 _)
theorem d_Bh_lasts_7 : decode b_Bh_lasts 7 = .ok (.if_icmp .gt 13, 3) := dk_S2 a_Bh_lasts_7 (dko_163 _) (by decide +kernel)
theorem d_Bh_lasts_10 : decode b_Bh_lasts 10 = .ok (.iload_n 2, 1) := dk_0 a_Bh_lasts_10 (dko_28 _)
theorem d_Bh_lasts_11 : decode b_Bh_lasts 11 = .ok (.ifCond .lt 9, 3) := dk_S2 a_Bh_lasts_11 (dko_155 _) (by decide +kernel)
theorem d_Bh_lasts_14 : decode b_Bh_lasts 14 = .ok (.iload_n 2, 1) := dk_0 a_Bh_lasts_14 (dko_28 _)
theorem d_Bh_lasts_15 : decode b_Bh_lasts 15 = .ok (.ldc 234, 2) := dk_U1 a_Bh_lasts_15 (dko_18 _) rfl
theorem d_Bh_lasts_17 : decode b_Bh_lasts 17 = .ok (.if_icmp .le 5, 3) := dk_S2 a_Bh_lasts_17 (dko_164 _) (by decide +kernel)
theorem d_Bh_lasts_20 : decode b_Bh_lasts 20 = .ok (.iconst 0, 1) := dk_0 a_Bh_lasts_20 (dko_3 _)
theorem d_Bh_lasts_21 : decode b_Bh_lasts 21 = .ok (.ireturn, 1) := dk_0 a_Bh_lasts_21 (dko_172 _)
theorem d_Bh_lasts_22 : decode b_Bh_lasts 22 = .ok (.aload_n 0, 1) := dk_0 a_Bh_lasts_22 (dko_42 _)
theorem d_Bh_lasts_23 : decode b_Bh_lasts 23 = .ok (.getfield 26, 3) := dk_U2 a_Bh_lasts_23 (dko_180 _) rfl
theorem d_Bh_lasts_26 : decode b_Bh_lasts 26 = .ok (.getfield 235, 3) := dk_U2 a_Bh_lasts_26 (dko_180 _) rfl
theorem d_Bh_lasts_29 : decode b_Bh_lasts 29 = .ok (.iload_n 1, 1) := dk_0 a_Bh_lasts_29 (dko_27 _)
theorem d_Bh_lasts_30 : decode b_Bh_lasts 30 = .ok (.iload_n 2, 1) := dk_0 a_Bh_lasts_30 (dko_28 _)
theorem d_Bh_lasts_31 : decode b_Bh_lasts 31 = .ok (.iastore, 1) := dk_0 a_Bh_lasts_31 (dko_79 _)
theorem d_Bh_lasts_32 : decode b_Bh_lasts 32 = .ok (.iconst 1, 1) := dk_0 a_Bh_lasts_32 (dko_4 _)
theorem d_Bh_lasts_33 : decode b_Bh_lasts 33 = .ok (.ireturn, 1) := dk_0 a_Bh_lasts_33 (dko_172 _)
def fn_Bh_lasts (lv : Int32) (se : Int32) : Int32 := (if lv < 1 then 0 else (if 5 < lv then 0 else (if se < 0 then 0 else (if se ≤ 1000000 then 1 else 0))))
set_option maxHeartbeats 4000000 in
set_option maxRecDepth 100000 in
theorem c_Bh_lasts (l : Launch) (dC : Nat → ClassId) (dI : Nat → Nat → Nat) (cI cB cZ cJ : ClassId) (lv : Int32) (se : Int32) (oB : Nat) (oSt : Nat) (xst_lasting : Nat) (xb : List Value) (hb_stock : fx xb 2 (.ref oSt)) (xs_ : List Value) (hst_lasting : fx xs_ 11 (.ref xst_lasting)) (sz : Nat) : Met l y_Bh_lasts w_Bh_lasts ({ frames := 0, cells := 0, slots := 0, locals := 0 }) (va_Pc [.ref oB, .int lv, .int se] (PW dC dI cI cB cZ cJ [(oB, .inr (0, xb)), (oSt, .inr (4, xs_)), (xst_lasting, .inl (cI, 6, .inl (fun _ => 86400)))] sz)) (va_Qi (fun (r : Int32) (_ : Unit) => r = fn_Bh_lasts lv se) (fun _ _ => True) (va_A [(oB, .inr (0, xb)), (oSt, .inr (4, xs_)), (xst_lasting, .inl (cI, 6, .inl (fun _ => 86400)))] sz)) 0 0 (va_A [(oB, .inr (0, xb)), (oSt, .inr (4, xs_)), (xst_lasting, .inl (cI, 6, .inl (fun _ => 86400)))] sz) := by
  refine Met.ofW (cc := b_Bh_lasts) (maxL := 3) (ret := (some .boolean)) (by decide) rfl ?_
  intro p e s m args below meth c s₁ B hml hv
  obtain ⟨rfl, hsz, hP, hK, hD⟩ := hv
  have hx := B.exec
  have hb := B.bytes
  have hr := B.returns
  have hts := atoms_spec (ws := w_Bh_lasts) B.pre
  have hown : s.vm.findClass R_Bh = some m.cls := findClass_of_methodNamed B.named
  have hlocks := B.notSynchronized
  subst hsz
  have hD := hD.self (sz := s.heap.size)
  generalize hAe : va_A [(oB, .inr (0, xb)), (oSt, .inr (4, xs_)), (xst_lasting, .inl (cI, 6, .inl (fun _ => 86400)))] s.heap.size = A at hD ⊢
  have hA : ∀ q : Nat, s.heap.size ≤ q → A q := fun q h => by rw [← hAe]; exact Or.inr h
  have hS : va_S A s.heap s.heap [] := va_S.rf
  have hP : va_P (dC, dI) classes [(oB, .inr (0, xb)), (oSt, .inr (4, xs_)), (xst_lasting, .inl (cI, 6, .inl (fun _ => 86400)))] s.heap := hP
  have hl := lv_entry ([.ref oB, .int lv, .int se]) (n := 3) (Nat.le_of_ble_eq_true rfl)
  rw [lg_entry_eq]
  generalize (lg_sl ([.ref oB, .int lv, .int se]) ++ List.replicate (3 - (lg_sl ([.ref oB, .int lv, .int se])).length) Slot.unset).toArray = ls at hl ⊢
  have hl : lv_has ls 3 [(0, .ref oB), (1, .int lv), (2, .int se)] := hl
  refine lv_iload_n hx hb d_Bh_lasts_0 rfl (lv_at hl 1 rfl) ?_
  refine lv_iconst (v := 1) hx hb d_Bh_lasts_1 (by decide) ?_
  refine lv_icmp_lt (tgt := 20) hx hb d_Bh_lasts_2 (by decide) (fun h2 => ?_) (fun h2 => ?_)
  · refine lv_iconst (v := 0) hx hb d_Bh_lasts_20 (by decide) ?_
    exact W.zret (v := 0) (ty := .boolean) hx hb hr (by decide) (fun t ht hW => ⟨⟨_, (), rfl, (by unfold fn_Bh_lasts; rw [if_pos h2]), trivial⟩, hS.F ht⟩) hS.2.2 d_Bh_lasts_21
  · refine lv_iload_n hx hb d_Bh_lasts_5 rfl (lv_at hl 1 rfl) ?_
    refine lv_iconst (v := 5) hx hb d_Bh_lasts_6 (by decide) ?_
    refine lv_icmp_gt (tgt := 20) hx hb d_Bh_lasts_7 (by decide) (fun h7 => ?_) (fun h7 => ?_)
    · refine lv_iconst (v := 0) hx hb d_Bh_lasts_20 (by decide) ?_
      exact W.zret (v := 0) (ty := .boolean) hx hb hr (by decide) (fun t ht hW => ⟨⟨_, (), rfl, (by unfold fn_Bh_lasts; rw [if_neg h2, if_pos h7]), trivial⟩, hS.F ht⟩) hS.2.2 d_Bh_lasts_21
    · refine lv_iload_n hx hb d_Bh_lasts_10 rfl (lv_at hl 2 rfl) ?_
      refine lv_if_lt (tgt := 20) hx hb d_Bh_lasts_11 (by decide) (fun h11 => ?_) (fun h11 => ?_)
      · refine lv_iconst (v := 0) hx hb d_Bh_lasts_20 (by decide) ?_
        exact W.zret (v := 0) (ty := .boolean) hx hb hr (by decide) (fun t ht hW => ⟨⟨_, (), rfl, (by unfold fn_Bh_lasts; rw [if_neg h2, if_neg h7, if_pos h11]), trivial⟩, hS.F ht⟩) hS.2.2 d_Bh_lasts_21
      · refine lv_iload_n hx hb d_Bh_lasts_14 rfl (lv_at hl 2 rfl) ?_
        refine lv_ldc (v := 1000000) hx hb hown (hts _ (List.mem_cons_of_mem _ mw_1153)) d_Bh_lasts_15 ?_
        refine lv_icmp_le (tgt := 22) hx hb d_Bh_lasts_17 (by decide) (fun h17 => ?_) (fun h17 => ?_)
        · refine lv_aload_n hx hb d_Bh_lasts_22 rfl (lv_at hl 0 rfl) ?_
          refine va_get (D := (dC, dI)) (ci := 0) (v := .ref oSt) (C := R_Bh) (T := F_Bh) (N := 16) hx hb hts (fun w h => List.mem_cons_of_mem _ (in_Bh w h)) hown hK.1 hP 0 rfl rfl 2 (by decide) (hts _ (List.mem_cons_of_mem _ mw_686)) (fun _ h9 => h9) hb_stock d_Bh_lasts_23 ?_
          refine va_get (D := (dC, dI)) (ci := 4) (v := .ref xst_lasting) (C := R_St) (T := F_St) (N := 12) hx hb hts (fun w h => List.mem_cons_of_mem _ (in_St w h)) hown hK.1 hP 1 rfl rfl 11 (by decide) (hts _ (List.mem_cons_of_mem _ mw_182)) (fun _ h9 => h9) hst_lasting d_Bh_lasts_26 ?_
          refine lv_iload_n hx hb d_Bh_lasts_29 rfl (lv_at hl 1 rfl) ?_
          refine lv_iload_n hx hb d_Bh_lasts_30 rfl (lv_at hl 2 rfl) ?_
          refine va_iast hx hb hK.1 hP hD hS 2 0 rfl rfl (ir_in h2 h7 (by decide) (by decide)) d_Bh_lasts_31 (fun H locs hP hD hS => ?_)
          have hP : va_P (dC, dI) classes [(oB, .inr (0, xb)), (oSt, .inr (4, xs_)), (xst_lasting, .inl (cI, 6, .inl ((upd (fun _ => 86400) (lv : Int32).toNatClampNeg se))))] H := hP
          have hD : va_D A [(oB, .inr (0, xb)), (oSt, .inr (4, xs_)), (xst_lasting, .inl (cI, 6, .inl ((upd (fun _ => 86400) (lv : Int32).toNatClampNeg se))))] := hD
          generalize (upd (fun _ => 86400) (lv : Int32).toNatClampNeg se) = f31_5 at hP hD
          refine lv_iconst (v := 1) hx hb d_Bh_lasts_32 (by decide) ?_
          exact W.zret (v := 1) (ty := .boolean) hx hb hr (by decide) (fun t ht hW => ⟨⟨_, (), rfl, (by unfold fn_Bh_lasts; rw [if_neg h2, if_neg h7, if_neg h11, if_pos h17]), trivial⟩, hS.F ht⟩) hS.2.2 d_Bh_lasts_33
        · refine lv_iconst (v := 0) hx hb d_Bh_lasts_20 (by decide) ?_
          exact W.zret (v := 0) (ty := .boolean) hx hb hr (by decide) (fun t ht hW => ⟨⟨_, (), rfl, (by unfold fn_Bh_lasts; rw [if_neg h2, if_neg h7, if_neg h11, if_neg h17]), trivial⟩, hS.F ht⟩) hS.2.2 d_Bh_lasts_21
abbrev t_Bh_watch_44 : List UInt8 := 172 :: []
abbrev t_Bh_watch_43 : List UInt8 := 4 :: t_Bh_watch_44
abbrev t_Bh_watch_42 : List UInt8 := 80 :: t_Bh_watch_43
abbrev t_Bh_watch_40 : List UInt8 := 22 :: 4 :: t_Bh_watch_42
abbrev t_Bh_watch_39 : List UInt8 := 27 :: t_Bh_watch_40
abbrev t_Bh_watch_36 : List UInt8 := 180 :: 0 :: 105 :: t_Bh_watch_39
abbrev t_Bh_watch_35 : List UInt8 := 42 :: t_Bh_watch_36
abbrev t_Bh_watch_34 : List UInt8 := 79 :: t_Bh_watch_35
abbrev t_Bh_watch_33 : List UInt8 := 29 :: t_Bh_watch_34
abbrev t_Bh_watch_32 : List UInt8 := 27 :: t_Bh_watch_33
abbrev t_Bh_watch_29 : List UInt8 := 180 :: 0 :: 102 :: t_Bh_watch_32
abbrev t_Bh_watch_28 : List UInt8 := 42 :: t_Bh_watch_29
abbrev t_Bh_watch_27 : List UInt8 := 79 :: t_Bh_watch_28
abbrev t_Bh_watch_26 : List UInt8 := 28 :: t_Bh_watch_27
abbrev t_Bh_watch_25 : List UInt8 := 27 :: t_Bh_watch_26
abbrev t_Bh_watch_22 : List UInt8 := 180 :: 0 :: 98 :: t_Bh_watch_25
abbrev t_Bh_watch_21 : List UInt8 := 42 :: t_Bh_watch_22
abbrev t_Bh_watch_20 : List UInt8 := 172 :: t_Bh_watch_21
abbrev t_Bh_watch_19 : List UInt8 := 3 :: t_Bh_watch_20
abbrev t_Bh_watch_16 : List UInt8 := 164 :: 0 :: 5 :: t_Bh_watch_19
abbrev t_Bh_watch_15 : List UInt8 := 8 :: t_Bh_watch_16
abbrev t_Bh_watch_14 : List UInt8 := 28 :: t_Bh_watch_15
abbrev t_Bh_watch_11 : List UInt8 := 155 :: 0 :: 8 :: t_Bh_watch_14
abbrev t_Bh_watch_10 : List UInt8 := 28 :: t_Bh_watch_11
abbrev t_Bh_watch_7 : List UInt8 := 163 :: 0 :: 12 :: t_Bh_watch_10
abbrev t_Bh_watch_5 : List UInt8 := 16 :: 15 :: t_Bh_watch_7
abbrev t_Bh_watch_4 : List UInt8 := 27 :: t_Bh_watch_5
abbrev t_Bh_watch_1 : List UInt8 := 155 :: 0 :: 18 :: t_Bh_watch_4
abbrev t_Bh_watch_0 : List UInt8 := 27 :: t_Bh_watch_1
theorem a_Bh_watch_0 : dk_at b_Bh_watch 0 t_Bh_watch_0 := dk_start (by decide +kernel)
theorem a_Bh_watch_1 : dk_at b_Bh_watch 1 t_Bh_watch_1 := dk_go 1 a_Bh_watch_0 rfl
theorem a_Bh_watch_4 : dk_at b_Bh_watch 4 t_Bh_watch_4 := dk_go 3 a_Bh_watch_1 rfl
theorem a_Bh_watch_5 : dk_at b_Bh_watch 5 t_Bh_watch_5 := dk_go 1 a_Bh_watch_4 rfl
theorem a_Bh_watch_7 : dk_at b_Bh_watch 7 t_Bh_watch_7 := dk_go 2 a_Bh_watch_5 rfl
theorem a_Bh_watch_10 : dk_at b_Bh_watch 10 t_Bh_watch_10 := dk_go 3 a_Bh_watch_7 rfl
theorem a_Bh_watch_11 : dk_at b_Bh_watch 11 t_Bh_watch_11 := dk_go 1 a_Bh_watch_10 rfl
theorem a_Bh_watch_14 : dk_at b_Bh_watch 14 t_Bh_watch_14 := dk_go 3 a_Bh_watch_11 rfl
theorem a_Bh_watch_15 : dk_at b_Bh_watch 15 t_Bh_watch_15 := dk_go 1 a_Bh_watch_14 rfl
theorem a_Bh_watch_16 : dk_at b_Bh_watch 16 t_Bh_watch_16 := dk_go 1 a_Bh_watch_15 rfl
theorem a_Bh_watch_19 : dk_at b_Bh_watch 19 t_Bh_watch_19 := dk_go 3 a_Bh_watch_16 rfl
theorem a_Bh_watch_20 : dk_at b_Bh_watch 20 t_Bh_watch_20 := dk_go 1 a_Bh_watch_19 rfl
theorem a_Bh_watch_21 : dk_at b_Bh_watch 21 t_Bh_watch_21 := dk_go 1 a_Bh_watch_20 rfl
theorem a_Bh_watch_22 : dk_at b_Bh_watch 22 t_Bh_watch_22 := dk_go 1 a_Bh_watch_21 rfl
theorem a_Bh_watch_25 : dk_at b_Bh_watch 25 t_Bh_watch_25 := dk_go 3 a_Bh_watch_22 rfl
theorem a_Bh_watch_26 : dk_at b_Bh_watch 26 t_Bh_watch_26 := dk_go 1 a_Bh_watch_25 rfl
theorem a_Bh_watch_27 : dk_at b_Bh_watch 27 t_Bh_watch_27 := dk_go 1 a_Bh_watch_26 rfl
theorem a_Bh_watch_28 : dk_at b_Bh_watch 28 t_Bh_watch_28 := dk_go 1 a_Bh_watch_27 rfl
theorem a_Bh_watch_29 : dk_at b_Bh_watch 29 t_Bh_watch_29 := dk_go 1 a_Bh_watch_28 rfl
theorem a_Bh_watch_32 : dk_at b_Bh_watch 32 t_Bh_watch_32 := dk_go 3 a_Bh_watch_29 rfl
theorem a_Bh_watch_33 : dk_at b_Bh_watch 33 t_Bh_watch_33 := dk_go 1 a_Bh_watch_32 rfl
theorem a_Bh_watch_34 : dk_at b_Bh_watch 34 t_Bh_watch_34 := dk_go 1 a_Bh_watch_33 rfl
theorem a_Bh_watch_35 : dk_at b_Bh_watch 35 t_Bh_watch_35 := dk_go 1 a_Bh_watch_34 rfl
theorem a_Bh_watch_36 : dk_at b_Bh_watch 36 t_Bh_watch_36 := dk_go 1 a_Bh_watch_35 rfl
theorem a_Bh_watch_39 : dk_at b_Bh_watch 39 t_Bh_watch_39 := dk_go 3 a_Bh_watch_36 rfl
theorem a_Bh_watch_40 : dk_at b_Bh_watch 40 t_Bh_watch_40 := dk_go 1 a_Bh_watch_39 rfl
theorem a_Bh_watch_42 : dk_at b_Bh_watch 42 t_Bh_watch_42 := dk_go 2 a_Bh_watch_40 rfl
theorem a_Bh_watch_43 : dk_at b_Bh_watch 43 t_Bh_watch_43 := dk_go 1 a_Bh_watch_42 rfl
theorem a_Bh_watch_44 : dk_at b_Bh_watch 44 t_Bh_watch_44 := dk_go 1 a_Bh_watch_43 rfl
theorem d_Bh_watch_0 : decode b_Bh_watch 0 = .ok (.iload_n 1, 1) := dk_0 a_Bh_watch_0 (dko_27 _)
theorem d_Bh_watch_1 : decode b_Bh_watch 1 = .ok (.ifCond .lt 18, 3) := dk_S2 a_Bh_watch_1 (dko_155 _) (by decide +kernel)
theorem d_Bh_watch_4 : decode b_Bh_watch 4 = .ok (.iload_n 1, 1) := dk_0 a_Bh_watch_4 (dko_27 _)
theorem d_Bh_watch_5 : decode b_Bh_watch 5 = .ok (.bipush 15, 2) := dk_S1 a_Bh_watch_5 (dko_16 _) (by decide +kernel)
theorem d_Bh_watch_7 : decode b_Bh_watch 7 = .ok (.if_icmp .gt 12, 3) := dk_S2 a_Bh_watch_7 (dko_163 _) (by decide +kernel)
theorem d_Bh_watch_10 : decode b_Bh_watch 10 = .ok (.iload_n 2, 1) := dk_0 a_Bh_watch_10 (dko_28 _)
theorem d_Bh_watch_11 : decode b_Bh_watch 11 = .ok (.ifCond .lt 8, 3) := dk_S2 a_Bh_watch_11 (dko_155 _) (by decide +kernel)
theorem d_Bh_watch_14 : decode b_Bh_watch 14 = .ok (.iload_n 2, 1) := dk_0 a_Bh_watch_14 (dko_28 _)
theorem d_Bh_watch_15 : decode b_Bh_watch 15 = .ok (.iconst 5, 1) := dk_0 a_Bh_watch_15 (dko_8 _)
theorem d_Bh_watch_16 : decode b_Bh_watch 16 = .ok (.if_icmp .le 5, 3) := dk_S2 a_Bh_watch_16 (dko_164 _) (by decide +kernel)
theorem d_Bh_watch_19 : decode b_Bh_watch 19 = .ok (.iconst 0, 1) := dk_0 a_Bh_watch_19 (dko_3 _)
theorem d_Bh_watch_20 : decode b_Bh_watch 20 = .ok (.ireturn, 1) := dk_0 a_Bh_watch_20 (dko_172 _)
theorem d_Bh_watch_21 : decode b_Bh_watch 21 = .ok (.aload_n 0, 1) := dk_0 a_Bh_watch_21 (dko_42 _)
theorem d_Bh_watch_22 : decode b_Bh_watch 22 = .ok (.getfield 98, 3) := dk_U2 a_Bh_watch_22 (dko_180 _) rfl
theorem d_Bh_watch_25 : decode b_Bh_watch 25 = .ok (.iload_n 1, 1) := dk_0 a_Bh_watch_25 (dko_27 _)
theorem d_Bh_watch_26 : decode b_Bh_watch 26 = .ok (.iload_n 2, 1) := dk_0 a_Bh_watch_26 (dko_28 _)
theorem d_Bh_watch_27 : decode b_Bh_watch 27 = .ok (.iastore, 1) := dk_0 a_Bh_watch_27 (dko_79 _)
theorem d_Bh_watch_28 : decode b_Bh_watch 28 = .ok (.aload_n 0, 1) := dk_0 a_Bh_watch_28 (dko_42 _)
theorem d_Bh_watch_29 : decode b_Bh_watch 29 = .ok (.getfield 102, 3) := dk_U2 a_Bh_watch_29 (dko_180 _) rfl
theorem d_Bh_watch_32 : decode b_Bh_watch 32 = .ok (.iload_n 1, 1) := dk_0 a_Bh_watch_32 (dko_27 _)
theorem d_Bh_watch_33 : decode b_Bh_watch 33 = .ok (.iload_n 3, 1) := dk_0 a_Bh_watch_33 (dko_29 _)
theorem d_Bh_watch_34 : decode b_Bh_watch 34 = .ok (.iastore, 1) := dk_0 a_Bh_watch_34 (dko_79 _)
theorem d_Bh_watch_35 : decode b_Bh_watch 35 = .ok (.aload_n 0, 1) := dk_0 a_Bh_watch_35 (dko_42 _)
theorem d_Bh_watch_36 : decode b_Bh_watch 36 = .ok (.getfield 105, 3) := dk_U2 a_Bh_watch_36 (dko_180 _) rfl
theorem d_Bh_watch_39 : decode b_Bh_watch 39 = .ok (.iload_n 1, 1) := dk_0 a_Bh_watch_39 (dko_27 _)
theorem d_Bh_watch_40 : decode b_Bh_watch 40 = .ok (.lload 4, 2) := dk_U1 a_Bh_watch_40 (dko_22 _) rfl
theorem d_Bh_watch_42 : decode b_Bh_watch 42 = .ok (.lastore, 1) := dk_0 a_Bh_watch_42 (dko_80 _)
theorem d_Bh_watch_43 : decode b_Bh_watch 43 = .ok (.iconst 1, 1) := dk_0 a_Bh_watch_43 (dko_4 _)
theorem d_Bh_watch_44 : decode b_Bh_watch 44 = .ok (.ireturn, 1) := dk_0 a_Bh_watch_44 (dko_172 _)
def fn_Bh_watch (cc_ : Int32) (wh : Int32) (xx : Int32) (le : Int64) : Int32 := (if cc_ < 0 then 0 else (if 15 < cc_ then 0 else (if wh < 0 then 0 else (if wh ≤ 5 then 1 else 0))))
set_option maxHeartbeats 4000000 in
set_option maxRecDepth 100000 in
theorem c_Bh_watch (l : Launch) (dC : Nat → ClassId) (dI : Nat → Nat → Nat) (cI cB cZ cJ : ClassId) (cc_ : Int32) (wh : Int32) (xx : Int32) (le : Int64) (oB : Nat) (xb_watchWhat : Nat) (xb_watchX : Nat) (xb_watchLeast : Nat) (xb : List Value) (hb_watchWhat : fx xb 13 (.ref xb_watchWhat)) (hb_watchX : fx xb 14 (.ref xb_watchX)) (hb_watchLeast : fx xb 15 (.ref xb_watchLeast)) (sz : Nat) : Met l y_Bh_watch w_Bh_watch ({ frames := 0, cells := 0, slots := 0, locals := 0 }) (va_Pc [.ref oB, .int cc_, .int wh, .int xx, .long le] (PW dC dI cI cB cZ cJ [(oB, .inr (0, xb)), (xb_watchWhat, .inl (cI, 16, .inl (fun _ => 5))), (xb_watchX, .inl (cI, 16, .inl (fun _ => 0))), (xb_watchLeast, .inl (cJ, 16, .inr (.inl (fun _ => 0))))] sz)) (va_Qi (fun (r : Int32) (_ : Unit) => r = fn_Bh_watch cc_ wh xx le) (fun _ _ => True) (va_A [(oB, .inr (0, xb)), (xb_watchWhat, .inl (cI, 16, .inl (fun _ => 5))), (xb_watchX, .inl (cI, 16, .inl (fun _ => 0))), (xb_watchLeast, .inl (cJ, 16, .inr (.inl (fun _ => 0))))] sz)) 0 0 (va_A [(oB, .inr (0, xb)), (xb_watchWhat, .inl (cI, 16, .inl (fun _ => 5))), (xb_watchX, .inl (cI, 16, .inl (fun _ => 0))), (xb_watchLeast, .inl (cJ, 16, .inr (.inl (fun _ => 0))))] sz) := by
  refine Met.ofW (cc := b_Bh_watch) (maxL := 6) (ret := (some .boolean)) (by decide) rfl ?_
  intro p e s m args below meth c s₁ B hml hv
  obtain ⟨rfl, hsz, hP, hK, hD⟩ := hv
  have hx := B.exec
  have hb := B.bytes
  have hr := B.returns
  have hts := atoms_spec (ws := w_Bh_watch) B.pre
  have hown : s.vm.findClass R_Bh = some m.cls := findClass_of_methodNamed B.named
  have hlocks := B.notSynchronized
  subst hsz
  have hD := hD.self (sz := s.heap.size)
  generalize hAe : va_A [(oB, .inr (0, xb)), (xb_watchWhat, .inl (cI, 16, .inl (fun _ => 5))), (xb_watchX, .inl (cI, 16, .inl (fun _ => 0))), (xb_watchLeast, .inl (cJ, 16, .inr (.inl (fun _ => 0))))] s.heap.size = A at hD ⊢
  have hA : ∀ q : Nat, s.heap.size ≤ q → A q := fun q h => by rw [← hAe]; exact Or.inr h
  have hS : va_S A s.heap s.heap [] := va_S.rf
  have hP : va_P (dC, dI) classes [(oB, .inr (0, xb)), (xb_watchWhat, .inl (cI, 16, .inl (fun _ => 5))), (xb_watchX, .inl (cI, 16, .inl (fun _ => 0))), (xb_watchLeast, .inl (cJ, 16, .inr (.inl (fun _ => 0))))] s.heap := hP
  have hl := lv_entry ([.ref oB, .int cc_, .int wh, .int xx, .long le]) (n := 6) (Nat.le_of_ble_eq_true rfl)
  rw [lg_entry_eq]
  generalize (lg_sl ([.ref oB, .int cc_, .int wh, .int xx, .long le]) ++ List.replicate (6 - (lg_sl ([.ref oB, .int cc_, .int wh, .int xx, .long le])).length) Slot.unset).toArray = ls at hl ⊢
  have hl : lv_has ls 6 [(0, .ref oB), (1, .int cc_), (2, .int wh), (3, .int xx), (4, .long le)] := hl
  refine lv_iload_n hx hb d_Bh_watch_0 rfl (lv_at hl 1 rfl) ?_
  refine lv_if_lt (tgt := 19) hx hb d_Bh_watch_1 (by decide) (fun h1 => ?_) (fun h1 => ?_)
  · refine lv_iconst (v := 0) hx hb d_Bh_watch_19 (by decide) ?_
    exact W.zret (v := 0) (ty := .boolean) hx hb hr (by decide) (fun t ht hW => ⟨⟨_, (), rfl, (by unfold fn_Bh_watch; rw [if_pos h1]), trivial⟩, hS.F ht⟩) hS.2.2 d_Bh_watch_20
  · refine lv_iload_n hx hb d_Bh_watch_4 rfl (lv_at hl 1 rfl) ?_
    refine lv_bipush (v := 15) hx hb d_Bh_watch_5 (by decide) ?_
    refine lv_icmp_gt (tgt := 19) hx hb d_Bh_watch_7 (by decide) (fun h7 => ?_) (fun h7 => ?_)
    · refine lv_iconst (v := 0) hx hb d_Bh_watch_19 (by decide) ?_
      exact W.zret (v := 0) (ty := .boolean) hx hb hr (by decide) (fun t ht hW => ⟨⟨_, (), rfl, (by unfold fn_Bh_watch; rw [if_neg h1, if_pos h7]), trivial⟩, hS.F ht⟩) hS.2.2 d_Bh_watch_20
    · refine lv_iload_n hx hb d_Bh_watch_10 rfl (lv_at hl 2 rfl) ?_
      refine lv_if_lt (tgt := 19) hx hb d_Bh_watch_11 (by decide) (fun h11 => ?_) (fun h11 => ?_)
      · refine lv_iconst (v := 0) hx hb d_Bh_watch_19 (by decide) ?_
        exact W.zret (v := 0) (ty := .boolean) hx hb hr (by decide) (fun t ht hW => ⟨⟨_, (), rfl, (by unfold fn_Bh_watch; rw [if_neg h1, if_neg h7, if_pos h11]), trivial⟩, hS.F ht⟩) hS.2.2 d_Bh_watch_20
      · refine lv_iload_n hx hb d_Bh_watch_14 rfl (lv_at hl 2 rfl) ?_
        refine lv_iconst (v := 5) hx hb d_Bh_watch_15 (by decide) ?_
        refine lv_icmp_le (tgt := 21) hx hb d_Bh_watch_16 (by decide) (fun h16 => ?_) (fun h16 => ?_)
        · refine lv_aload_n hx hb d_Bh_watch_21 rfl (lv_at hl 0 rfl) ?_
          refine va_get (D := (dC, dI)) (ci := 0) (v := .ref xb_watchWhat) (C := R_Bh) (T := F_Bh) (N := 16) hx hb hts (fun w h => List.mem_cons_of_mem _ (in_Bh w h)) hown hK.1 hP 0 rfl rfl 13 (by decide) (hts _ (List.mem_cons_of_mem _ mw_697)) (fun _ h9 => h9) hb_watchWhat d_Bh_watch_22 ?_
          refine lv_iload_n hx hb d_Bh_watch_25 rfl (lv_at hl 1 rfl) ?_
          refine lv_iload_n hx hb d_Bh_watch_26 rfl (lv_at hl 2 rfl) ?_
          refine va_iast hx hb hK.1 hP hD hS 1 0 rfl rfl (ir_in h1 h7 (by decide) (by decide)) d_Bh_watch_27 (fun H locs hP hD hS => ?_)
          have hP : va_P (dC, dI) classes [(oB, .inr (0, xb)), (xb_watchWhat, .inl (cI, 16, .inl ((upd (fun _ => 5) (cc_ : Int32).toNatClampNeg wh)))), (xb_watchX, .inl (cI, 16, .inl (fun _ => 0))), (xb_watchLeast, .inl (cJ, 16, .inr (.inl (fun _ => 0))))] H := hP
          have hD : va_D A [(oB, .inr (0, xb)), (xb_watchWhat, .inl (cI, 16, .inl ((upd (fun _ => 5) (cc_ : Int32).toNatClampNeg wh)))), (xb_watchX, .inl (cI, 16, .inl (fun _ => 0))), (xb_watchLeast, .inl (cJ, 16, .inr (.inl (fun _ => 0))))] := hD
          generalize (upd (fun _ => 5) (cc_ : Int32).toNatClampNeg wh) = f27_5 at hP hD
          refine lv_aload_n hx hb d_Bh_watch_28 rfl (lv_at hl 0 rfl) ?_
          refine va_get (D := (dC, dI)) (ci := 0) (v := .ref xb_watchX) (C := R_Bh) (T := F_Bh) (N := 16) hx hb hts (fun w h => List.mem_cons_of_mem _ (in_Bh w h)) hown hK.1 hP 0 rfl rfl 14 (by decide) (hts _ (List.mem_cons_of_mem _ mw_698)) (fun _ h9 => h9) hb_watchX d_Bh_watch_29 ?_
          refine lv_iload_n hx hb d_Bh_watch_32 rfl (lv_at hl 1 rfl) ?_
          refine lv_iload_n hx hb d_Bh_watch_33 rfl (lv_at hl 3 rfl) ?_
          refine va_iast hx hb hK.1 hP hD hS 2 0 rfl rfl (ir_in h1 h7 (by decide) (by decide)) d_Bh_watch_34 (fun H locs hP hD hS => ?_)
          have hP : va_P (dC, dI) classes [(oB, .inr (0, xb)), (xb_watchWhat, .inl (cI, 16, .inl f27_5)), (xb_watchX, .inl (cI, 16, .inl ((upd (fun _ => 0) (cc_ : Int32).toNatClampNeg xx)))), (xb_watchLeast, .inl (cJ, 16, .inr (.inl (fun _ => 0))))] H := hP
          have hD : va_D A [(oB, .inr (0, xb)), (xb_watchWhat, .inl (cI, 16, .inl f27_5)), (xb_watchX, .inl (cI, 16, .inl ((upd (fun _ => 0) (cc_ : Int32).toNatClampNeg xx)))), (xb_watchLeast, .inl (cJ, 16, .inr (.inl (fun _ => 0))))] := hD
          generalize (upd (fun _ => 0) (cc_ : Int32).toNatClampNeg xx) = f34_6 at hP hD
          refine lv_aload_n hx hb d_Bh_watch_35 rfl (lv_at hl 0 rfl) ?_
          refine va_get (D := (dC, dI)) (ci := 0) (v := .ref xb_watchLeast) (C := R_Bh) (T := F_Bh) (N := 16) hx hb hts (fun w h => List.mem_cons_of_mem _ (in_Bh w h)) hown hK.1 hP 0 rfl rfl 15 (by decide) (hts _ (List.mem_cons_of_mem _ mw_699)) (fun _ h9 => h9) hb_watchLeast d_Bh_watch_36 ?_
          refine lv_iload_n hx hb d_Bh_watch_39 rfl (lv_at hl 1 rfl) ?_
          refine lv_lload hx hb d_Bh_watch_40 (lv_at hl 4 rfl) ?_
          refine va_last hx hb hK.1 hP hD hS 3 3 rfl rfl (ir_in h1 h7 (by decide) (by decide)) d_Bh_watch_42 (fun H locs hP hD hS => ?_)
          have hP : va_P (dC, dI) classes [(oB, .inr (0, xb)), (xb_watchWhat, .inl (cI, 16, .inl f27_5)), (xb_watchX, .inl (cI, 16, .inl f34_6)), (xb_watchLeast, .inl (cJ, 16, .inr (.inl ((vp_updL (fun _ => 0) (cc_ : Int32).toNatClampNeg le)))))] H := hP
          have hD : va_D A [(oB, .inr (0, xb)), (xb_watchWhat, .inl (cI, 16, .inl f27_5)), (xb_watchX, .inl (cI, 16, .inl f34_6)), (xb_watchLeast, .inl (cJ, 16, .inr (.inl ((vp_updL (fun _ => 0) (cc_ : Int32).toNatClampNeg le)))))] := hD
          generalize (vp_updL (fun _ => 0) (cc_ : Int32).toNatClampNeg le) = f42_7 at hP hD
          refine lv_iconst (v := 1) hx hb d_Bh_watch_43 (by decide) ?_
          exact W.zret (v := 1) (ty := .boolean) hx hb hr (by decide) (fun t ht hW => ⟨⟨_, (), rfl, (by unfold fn_Bh_watch; rw [if_neg h1, if_neg h7, if_neg h11, if_pos h16]), trivial⟩, hS.F ht⟩) hS.2.2 d_Bh_watch_44
        · refine lv_iconst (v := 0) hx hb d_Bh_watch_19 (by decide) ?_
          exact W.zret (v := 0) (ty := .boolean) hx hb hr (by decide) (fun t ht hW => ⟨⟨_, (), rfl, (by unfold fn_Bh_watch; rw [if_neg h1, if_neg h7, if_neg h11, if_neg h16]), trivial⟩, hS.F ht⟩) hS.2.2 d_Bh_watch_20
abbrev t_Ac_tie_102 : List UInt8 := 172 :: []
abbrev t_Ac_tie_101 : List UInt8 := 4 :: t_Ac_tie_102
abbrev t_Ac_tie_100 : List UInt8 := 79 :: t_Ac_tie_101
abbrev t_Ac_tie_98 : List UInt8 := 21 :: 5 :: t_Ac_tie_100
abbrev t_Ac_tie_97 : List UInt8 := 27 :: t_Ac_tie_98
abbrev t_Ac_tie_94 : List UInt8 := 180 :: 0 :: 28 :: t_Ac_tie_97
abbrev t_Ac_tie_93 : List UInt8 := 42 :: t_Ac_tie_94
abbrev t_Ac_tie_92 : List UInt8 := 79 :: t_Ac_tie_93
abbrev t_Ac_tie_90 : List UInt8 := 21 :: 4 :: t_Ac_tie_92
abbrev t_Ac_tie_89 : List UInt8 := 27 :: t_Ac_tie_90
abbrev t_Ac_tie_86 : List UInt8 := 180 :: 0 :: 25 :: t_Ac_tie_89
abbrev t_Ac_tie_85 : List UInt8 := 42 :: t_Ac_tie_86
abbrev t_Ac_tie_84 : List UInt8 := 79 :: t_Ac_tie_85
abbrev t_Ac_tie_83 : List UInt8 := 29 :: t_Ac_tie_84
abbrev t_Ac_tie_82 : List UInt8 := 27 :: t_Ac_tie_83
abbrev t_Ac_tie_79 : List UInt8 := 180 :: 0 :: 22 :: t_Ac_tie_82
abbrev t_Ac_tie_78 : List UInt8 := 42 :: t_Ac_tie_79
abbrev t_Ac_tie_77 : List UInt8 := 79 :: t_Ac_tie_78
abbrev t_Ac_tie_76 : List UInt8 := 28 :: t_Ac_tie_77
abbrev t_Ac_tie_75 : List UInt8 := 27 :: t_Ac_tie_76
abbrev t_Ac_tie_72 : List UInt8 := 180 :: 0 :: 18 :: t_Ac_tie_75
abbrev t_Ac_tie_71 : List UInt8 := 42 :: t_Ac_tie_72
abbrev t_Ac_tie_70 : List UInt8 := 172 :: t_Ac_tie_71
abbrev t_Ac_tie_69 : List UInt8 := 3 :: t_Ac_tie_70
abbrev t_Ac_tie_66 : List UInt8 := 164 :: 0 :: 5 :: t_Ac_tie_69
abbrev t_Ac_tie_65 : List UInt8 := 8 :: t_Ac_tie_66
abbrev t_Ac_tie_63 : List UInt8 := 21 :: 4 :: t_Ac_tie_65
abbrev t_Ac_tie_60 : List UInt8 := 161 :: 0 :: 9 :: t_Ac_tie_63
abbrev t_Ac_tie_59 : List UInt8 := 4 :: t_Ac_tie_60
abbrev t_Ac_tie_57 : List UInt8 := 21 :: 4 :: t_Ac_tie_59
abbrev t_Ac_tie_54 : List UInt8 := 160 :: 0 :: 17 :: t_Ac_tie_57
abbrev t_Ac_tie_53 : List UInt8 := 6 :: t_Ac_tie_54
abbrev t_Ac_tie_52 : List UInt8 := 28 :: t_Ac_tie_53
abbrev t_Ac_tie_49 : List UInt8 := 162 :: 0 :: 20 :: t_Ac_tie_52
abbrev t_Ac_tie_47 : List UInt8 := 16 :: 10 :: t_Ac_tie_49
abbrev t_Ac_tie_45 : List UInt8 := 21 :: 4 :: t_Ac_tie_47
abbrev t_Ac_tie_42 : List UInt8 := 155 :: 0 :: 27 :: t_Ac_tie_45
abbrev t_Ac_tie_40 : List UInt8 := 21 :: 4 :: t_Ac_tie_42
abbrev t_Ac_tie_37 : List UInt8 := 160 :: 0 :: 15 :: t_Ac_tie_40
abbrev t_Ac_tie_36 : List UInt8 := 5 :: t_Ac_tie_37
abbrev t_Ac_tie_35 : List UInt8 := 28 :: t_Ac_tie_36
abbrev t_Ac_tie_32 : List UInt8 := 163 :: 0 :: 37 :: t_Ac_tie_35
abbrev t_Ac_tie_30 : List UInt8 := 16 :: 100 :: t_Ac_tie_32
abbrev t_Ac_tie_28 : List UInt8 := 21 :: 5 :: t_Ac_tie_30
abbrev t_Ac_tie_25 : List UInt8 := 161 :: 0 :: 44 :: t_Ac_tie_28
abbrev t_Ac_tie_24 : List UInt8 := 4 :: t_Ac_tie_25
abbrev t_Ac_tie_22 : List UInt8 := 21 :: 5 :: t_Ac_tie_24
abbrev t_Ac_tie_19 : List UInt8 := 154 :: 0 :: 16 :: t_Ac_tie_22
abbrev t_Ac_tie_18 : List UInt8 := 28 :: t_Ac_tie_19
abbrev t_Ac_tie_17 : List UInt8 := 172 :: t_Ac_tie_18
abbrev t_Ac_tie_16 : List UInt8 := 3 :: t_Ac_tie_17
abbrev t_Ac_tie_13 : List UInt8 := 164 :: 0 :: 5 :: t_Ac_tie_16
abbrev t_Ac_tie_12 : List UInt8 := 7 :: t_Ac_tie_13
abbrev t_Ac_tie_11 : List UInt8 := 28 :: t_Ac_tie_12
abbrev t_Ac_tie_8 : List UInt8 := 155 :: 0 :: 8 :: t_Ac_tie_11
abbrev t_Ac_tie_7 : List UInt8 := 28 :: t_Ac_tie_8
abbrev t_Ac_tie_4 : List UInt8 := 153 :: 0 :: 12 :: t_Ac_tie_7
abbrev t_Ac_tie_1 : List UInt8 := 184 :: 0 :: 49 :: t_Ac_tie_4
abbrev t_Ac_tie_0 : List UInt8 := 27 :: t_Ac_tie_1
theorem a_Ac_tie_0 : dk_at b_Ac_tie 0 t_Ac_tie_0 := dk_start (by decide +kernel)
theorem a_Ac_tie_1 : dk_at b_Ac_tie 1 t_Ac_tie_1 := dk_go 1 a_Ac_tie_0 rfl
theorem a_Ac_tie_4 : dk_at b_Ac_tie 4 t_Ac_tie_4 := dk_go 3 a_Ac_tie_1 rfl
theorem a_Ac_tie_7 : dk_at b_Ac_tie 7 t_Ac_tie_7 := dk_go 3 a_Ac_tie_4 rfl
theorem a_Ac_tie_8 : dk_at b_Ac_tie 8 t_Ac_tie_8 := dk_go 1 a_Ac_tie_7 rfl
theorem a_Ac_tie_11 : dk_at b_Ac_tie 11 t_Ac_tie_11 := dk_go 3 a_Ac_tie_8 rfl
theorem a_Ac_tie_12 : dk_at b_Ac_tie 12 t_Ac_tie_12 := dk_go 1 a_Ac_tie_11 rfl
theorem a_Ac_tie_13 : dk_at b_Ac_tie 13 t_Ac_tie_13 := dk_go 1 a_Ac_tie_12 rfl
theorem a_Ac_tie_16 : dk_at b_Ac_tie 16 t_Ac_tie_16 := dk_go 3 a_Ac_tie_13 rfl
theorem a_Ac_tie_17 : dk_at b_Ac_tie 17 t_Ac_tie_17 := dk_go 1 a_Ac_tie_16 rfl
theorem a_Ac_tie_18 : dk_at b_Ac_tie 18 t_Ac_tie_18 := dk_go 1 a_Ac_tie_17 rfl
theorem a_Ac_tie_19 : dk_at b_Ac_tie 19 t_Ac_tie_19 := dk_go 1 a_Ac_tie_18 rfl
theorem a_Ac_tie_22 : dk_at b_Ac_tie 22 t_Ac_tie_22 := dk_go 3 a_Ac_tie_19 rfl
theorem a_Ac_tie_24 : dk_at b_Ac_tie 24 t_Ac_tie_24 := dk_go 2 a_Ac_tie_22 rfl
theorem a_Ac_tie_25 : dk_at b_Ac_tie 25 t_Ac_tie_25 := dk_go 1 a_Ac_tie_24 rfl
theorem a_Ac_tie_28 : dk_at b_Ac_tie 28 t_Ac_tie_28 := dk_go 3 a_Ac_tie_25 rfl
theorem a_Ac_tie_30 : dk_at b_Ac_tie 30 t_Ac_tie_30 := dk_go 2 a_Ac_tie_28 rfl
theorem a_Ac_tie_32 : dk_at b_Ac_tie 32 t_Ac_tie_32 := dk_go 2 a_Ac_tie_30 rfl
theorem a_Ac_tie_35 : dk_at b_Ac_tie 35 t_Ac_tie_35 := dk_go 3 a_Ac_tie_32 rfl
theorem a_Ac_tie_36 : dk_at b_Ac_tie 36 t_Ac_tie_36 := dk_go 1 a_Ac_tie_35 rfl
theorem a_Ac_tie_37 : dk_at b_Ac_tie 37 t_Ac_tie_37 := dk_go 1 a_Ac_tie_36 rfl
theorem a_Ac_tie_40 : dk_at b_Ac_tie 40 t_Ac_tie_40 := dk_go 3 a_Ac_tie_37 rfl
theorem a_Ac_tie_42 : dk_at b_Ac_tie 42 t_Ac_tie_42 := dk_go 2 a_Ac_tie_40 rfl
theorem a_Ac_tie_45 : dk_at b_Ac_tie 45 t_Ac_tie_45 := dk_go 3 a_Ac_tie_42 rfl
theorem a_Ac_tie_47 : dk_at b_Ac_tie 47 t_Ac_tie_47 := dk_go 2 a_Ac_tie_45 rfl
theorem a_Ac_tie_49 : dk_at b_Ac_tie 49 t_Ac_tie_49 := dk_go 2 a_Ac_tie_47 rfl
theorem a_Ac_tie_52 : dk_at b_Ac_tie 52 t_Ac_tie_52 := dk_go 3 a_Ac_tie_49 rfl
theorem a_Ac_tie_53 : dk_at b_Ac_tie 53 t_Ac_tie_53 := dk_go 1 a_Ac_tie_52 rfl
theorem a_Ac_tie_54 : dk_at b_Ac_tie 54 t_Ac_tie_54 := dk_go 1 a_Ac_tie_53 rfl
theorem a_Ac_tie_57 : dk_at b_Ac_tie 57 t_Ac_tie_57 := dk_go 3 a_Ac_tie_54 rfl
theorem a_Ac_tie_59 : dk_at b_Ac_tie 59 t_Ac_tie_59 := dk_go 2 a_Ac_tie_57 rfl
theorem a_Ac_tie_60 : dk_at b_Ac_tie 60 t_Ac_tie_60 := dk_go 1 a_Ac_tie_59 rfl
theorem a_Ac_tie_63 : dk_at b_Ac_tie 63 t_Ac_tie_63 := dk_go 3 a_Ac_tie_60 rfl
theorem a_Ac_tie_65 : dk_at b_Ac_tie 65 t_Ac_tie_65 := dk_go 2 a_Ac_tie_63 rfl
theorem a_Ac_tie_66 : dk_at b_Ac_tie 66 t_Ac_tie_66 := dk_go 1 a_Ac_tie_65 rfl
theorem a_Ac_tie_69 : dk_at b_Ac_tie 69 t_Ac_tie_69 := dk_go 3 a_Ac_tie_66 rfl
theorem a_Ac_tie_70 : dk_at b_Ac_tie 70 t_Ac_tie_70 := dk_go 1 a_Ac_tie_69 rfl
theorem a_Ac_tie_71 : dk_at b_Ac_tie 71 t_Ac_tie_71 := dk_go 1 a_Ac_tie_70 rfl
theorem a_Ac_tie_72 : dk_at b_Ac_tie 72 t_Ac_tie_72 := dk_go 1 a_Ac_tie_71 rfl
theorem a_Ac_tie_75 : dk_at b_Ac_tie 75 t_Ac_tie_75 := dk_go 3 a_Ac_tie_72 rfl
theorem a_Ac_tie_76 : dk_at b_Ac_tie 76 t_Ac_tie_76 := dk_go 1 a_Ac_tie_75 rfl
theorem a_Ac_tie_77 : dk_at b_Ac_tie 77 t_Ac_tie_77 := dk_go 1 a_Ac_tie_76 rfl
theorem a_Ac_tie_78 : dk_at b_Ac_tie 78 t_Ac_tie_78 := dk_go 1 a_Ac_tie_77 rfl
theorem a_Ac_tie_79 : dk_at b_Ac_tie 79 t_Ac_tie_79 := dk_go 1 a_Ac_tie_78 rfl
theorem a_Ac_tie_82 : dk_at b_Ac_tie 82 t_Ac_tie_82 := dk_go 3 a_Ac_tie_79 rfl
theorem a_Ac_tie_83 : dk_at b_Ac_tie 83 t_Ac_tie_83 := dk_go 1 a_Ac_tie_82 rfl
theorem a_Ac_tie_84 : dk_at b_Ac_tie 84 t_Ac_tie_84 := dk_go 1 a_Ac_tie_83 rfl
theorem a_Ac_tie_85 : dk_at b_Ac_tie 85 t_Ac_tie_85 := dk_go 1 a_Ac_tie_84 rfl
theorem a_Ac_tie_86 : dk_at b_Ac_tie 86 t_Ac_tie_86 := dk_go 1 a_Ac_tie_85 rfl
theorem a_Ac_tie_89 : dk_at b_Ac_tie 89 t_Ac_tie_89 := dk_go 3 a_Ac_tie_86 rfl
theorem a_Ac_tie_90 : dk_at b_Ac_tie 90 t_Ac_tie_90 := dk_go 1 a_Ac_tie_89 rfl
theorem a_Ac_tie_92 : dk_at b_Ac_tie 92 t_Ac_tie_92 := dk_go 2 a_Ac_tie_90 rfl
theorem a_Ac_tie_93 : dk_at b_Ac_tie 93 t_Ac_tie_93 := dk_go 1 a_Ac_tie_92 rfl
theorem a_Ac_tie_94 : dk_at b_Ac_tie 94 t_Ac_tie_94 := dk_go 1 a_Ac_tie_93 rfl
theorem a_Ac_tie_97 : dk_at b_Ac_tie 97 t_Ac_tie_97 := dk_go 3 a_Ac_tie_94 rfl
theorem a_Ac_tie_98 : dk_at b_Ac_tie 98 t_Ac_tie_98 := dk_go 1 a_Ac_tie_97 rfl
theorem a_Ac_tie_100 : dk_at b_Ac_tie 100 t_Ac_tie_100 := dk_go 2 a_Ac_tie_98 rfl
theorem a_Ac_tie_101 : dk_at b_Ac_tie 101 t_Ac_tie_101 := dk_go 1 a_Ac_tie_100 rfl
theorem a_Ac_tie_102 : dk_at b_Ac_tie 102 t_Ac_tie_102 := dk_go 1 a_Ac_tie_101 rfl
theorem d_Ac_tie_0 : decode b_Ac_tie 0 = .ok (.iload_n 1, 1) := dk_0 a_Ac_tie_0 (dko_27 _)
theorem d_Ac_tie_1 : decode b_Ac_tie 1 = .ok (.invokestatic 49, 3) := dk_U2 a_Ac_tie_1 (dko_184 _) rfl
theorem d_Ac_tie_4 : decode b_Ac_tie 4 = .ok (.ifCond .eq 12, 3) := dk_S2 a_Ac_tie_4 (dko_153 _) (by decide +kernel)
theorem d_Ac_tie_7 : decode b_Ac_tie 7 = .ok (.iload_n 2, 1) := dk_0 a_Ac_tie_7 (dko_28 _)
theorem d_Ac_tie_8 : decode b_Ac_tie 8 = .ok (.ifCond .lt 8, 3) := dk_S2 a_Ac_tie_8 (dko_155 _) (by decide +kernel)
theorem d_Ac_tie_11 : decode b_Ac_tie 11 = .ok (.iload_n 2, 1) := dk_0 a_Ac_tie_11 (dko_28 _)
theorem d_Ac_tie_12 : decode b_Ac_tie 12 = .ok (.iconst 4, 1) := dk_0 a_Ac_tie_12 (dko_7 _)
theorem d_Ac_tie_13 : decode b_Ac_tie 13 = .ok (.if_icmp .le 5, 3) := dk_S2 a_Ac_tie_13 (dko_164 _) (by decide +kernel)
theorem d_Ac_tie_16 : decode b_Ac_tie 16 = .ok (.iconst 0, 1) := dk_0 a_Ac_tie_16 (dko_3 _)
theorem d_Ac_tie_17 : decode b_Ac_tie 17 = .ok (.ireturn, 1) := dk_0 a_Ac_tie_17 (dko_172 _)
theorem d_Ac_tie_18 : decode b_Ac_tie 18 = .ok (.iload_n 2, 1) := dk_0 a_Ac_tie_18 (dko_28 _)
theorem d_Ac_tie_19 : decode b_Ac_tie 19 = .ok (.ifCond .ne 16, 3) := dk_S2 a_Ac_tie_19 (dko_154 _) (by decide +kernel)
theorem d_Ac_tie_22 : decode b_Ac_tie 22 = .ok (.iload 5, 2) := dk_U1 a_Ac_tie_22 (dko_21 _) rfl
theorem d_Ac_tie_24 : decode b_Ac_tie 24 = .ok (.iconst 1, 1) := dk_0 a_Ac_tie_24 (dko_4 _)
theorem d_Ac_tie_25 : decode b_Ac_tie 25 = .ok (.if_icmp .lt 44, 3) := dk_S2 a_Ac_tie_25 (dko_161 _) (by decide +kernel)
theorem d_Ac_tie_28 : decode b_Ac_tie 28 = .ok (.iload 5, 2) := dk_U1 a_Ac_tie_28 (dko_21 _) rfl
theorem d_Ac_tie_30 : decode b_Ac_tie 30 = .ok (.bipush 100, 2) := dk_S1 a_Ac_tie_30 (dko_16 _) (by decide +kernel)
theorem d_Ac_tie_32 : decode b_Ac_tie 32 = .ok (.if_icmp .gt 37, 3) := dk_S2 a_Ac_tie_32 (dko_163 _) (by decide +kernel)
theorem d_Ac_tie_35 : decode b_Ac_tie 35 = .ok (.iload_n 2, 1) := dk_0 a_Ac_tie_35 (dko_28 _)
theorem d_Ac_tie_36 : decode b_Ac_tie 36 = .ok (.iconst 2, 1) := dk_0 a_Ac_tie_36 (dko_5 _)
theorem d_Ac_tie_37 : decode b_Ac_tie 37 = .ok (.if_icmp .ne 15, 3) := dk_S2 a_Ac_tie_37 (dko_160 _) (by decide +kernel)
theorem d_Ac_tie_40 : decode b_Ac_tie 40 = .ok (.iload 4, 2) := dk_U1 a_Ac_tie_40 (dko_21 _) rfl
theorem d_Ac_tie_42 : decode b_Ac_tie 42 = .ok (.ifCond .lt 27, 3) := dk_S2 a_Ac_tie_42 (dko_155 _) (by decide +kernel)
theorem d_Ac_tie_45 : decode b_Ac_tie 45 = .ok (.iload 4, 2) := dk_U1 a_Ac_tie_45 (dko_21 _) rfl
theorem d_Ac_tie_47 : decode b_Ac_tie 47 = .ok (.bipush 10, 2) := dk_S1 a_Ac_tie_47 (dko_16 _) (by decide +kernel)
theorem d_Ac_tie_49 : decode b_Ac_tie 49 = .ok (.if_icmp .ge 20, 3) := dk_S2 a_Ac_tie_49 (dko_162 _) (by decide +kernel)
theorem d_Ac_tie_52 : decode b_Ac_tie 52 = .ok (.iload_n 2, 1) := dk_0 a_Ac_tie_52 (dko_28 _)
theorem d_Ac_tie_53 : decode b_Ac_tie 53 = .ok (.iconst 3, 1) := dk_0 a_Ac_tie_53 (dko_6 _)
theorem d_Ac_tie_54 : decode b_Ac_tie 54 = .ok (.if_icmp .ne 17, 3) := dk_S2 a_Ac_tie_54 (dko_160 _) (by decide +kernel)
theorem d_Ac_tie_57 : decode b_Ac_tie 57 = .ok (.iload 4, 2) := dk_U1 a_Ac_tie_57 (dko_21 _) rfl
theorem d_Ac_tie_59 : decode b_Ac_tie 59 = .ok (.iconst 1, 1) := dk_0 a_Ac_tie_59 (dko_4 _)
theorem d_Ac_tie_60 : decode b_Ac_tie 60 = .ok (.if_icmp .lt 9, 3) := dk_S2 a_Ac_tie_60 (dko_161 _) (by decide +kernel)
theorem d_Ac_tie_63 : decode b_Ac_tie 63 = .ok (.iload 4, 2) := dk_U1 a_Ac_tie_63 (dko_21 _) rfl
theorem d_Ac_tie_65 : decode b_Ac_tie 65 = .ok (.iconst 5, 1) := dk_0 a_Ac_tie_65 (dko_8 _)
theorem d_Ac_tie_66 : decode b_Ac_tie 66 = .ok (.if_icmp .le 5, 3) := dk_S2 a_Ac_tie_66 (dko_164 _) (by decide +kernel)
theorem d_Ac_tie_69 : decode b_Ac_tie 69 = .ok (.iconst 0, 1) := dk_0 a_Ac_tie_69 (dko_3 _)
theorem d_Ac_tie_70 : decode b_Ac_tie 70 = .ok (.ireturn, 1) := dk_0 a_Ac_tie_70 (dko_172 _)
theorem d_Ac_tie_71 : decode b_Ac_tie 71 = .ok (.aload_n 0, 1) := dk_0 a_Ac_tie_71 (dko_42 _)
theorem d_Ac_tie_72 : decode b_Ac_tie 72 = .ok (.getfield 18, 3) := dk_U2 a_Ac_tie_72 (dko_180 _) rfl
theorem d_Ac_tie_75 : decode b_Ac_tie 75 = .ok (.iload_n 1, 1) := dk_0 a_Ac_tie_75 (dko_27 _)
theorem d_Ac_tie_76 : decode b_Ac_tie 76 = .ok (.iload_n 2, 1) := dk_0 a_Ac_tie_76 (dko_28 _)
theorem d_Ac_tie_77 : decode b_Ac_tie 77 = .ok (.iastore, 1) := dk_0 a_Ac_tie_77 (dko_79 _)
theorem d_Ac_tie_78 : decode b_Ac_tie 78 = .ok (.aload_n 0, 1) := dk_0 a_Ac_tie_78 (dko_42 _)
theorem d_Ac_tie_79 : decode b_Ac_tie 79 = .ok (.getfield 22, 3) := dk_U2 a_Ac_tie_79 (dko_180 _) rfl
theorem d_Ac_tie_82 : decode b_Ac_tie 82 = .ok (.iload_n 1, 1) := dk_0 a_Ac_tie_82 (dko_27 _)
theorem d_Ac_tie_83 : decode b_Ac_tie 83 = .ok (.iload_n 3, 1) := dk_0 a_Ac_tie_83 (dko_29 _)
theorem d_Ac_tie_84 : decode b_Ac_tie 84 = .ok (.iastore, 1) := dk_0 a_Ac_tie_84 (dko_79 _)
theorem d_Ac_tie_85 : decode b_Ac_tie 85 = .ok (.aload_n 0, 1) := dk_0 a_Ac_tie_85 (dko_42 _)
theorem d_Ac_tie_86 : decode b_Ac_tie 86 = .ok (.getfield 25, 3) := dk_U2 a_Ac_tie_86 (dko_180 _) rfl
theorem d_Ac_tie_89 : decode b_Ac_tie 89 = .ok (.iload_n 1, 1) := dk_0 a_Ac_tie_89 (dko_27 _)
theorem d_Ac_tie_90 : decode b_Ac_tie 90 = .ok (.iload 4, 2) := dk_U1 a_Ac_tie_90 (dko_21 _) rfl
theorem d_Ac_tie_92 : decode b_Ac_tie 92 = .ok (.iastore, 1) := dk_0 a_Ac_tie_92 (dko_79 _)
theorem d_Ac_tie_93 : decode b_Ac_tie 93 = .ok (.aload_n 0, 1) := dk_0 a_Ac_tie_93 (dko_42 _)
theorem d_Ac_tie_94 : decode b_Ac_tie 94 = .ok (.getfield 28, 3) := dk_U2 a_Ac_tie_94 (dko_180 _) rfl
theorem d_Ac_tie_97 : decode b_Ac_tie 97 = .ok (.iload_n 1, 1) := dk_0 a_Ac_tie_97 (dko_27 _)
theorem d_Ac_tie_98 : decode b_Ac_tie 98 = .ok (.iload 5, 2) := dk_U1 a_Ac_tie_98 (dko_21 _) rfl
theorem d_Ac_tie_100 : decode b_Ac_tie 100 = .ok (.iastore, 1) := dk_0 a_Ac_tie_100 (dko_79 _)
theorem d_Ac_tie_101 : decode b_Ac_tie 101 = .ok (.iconst 1, 1) := dk_0 a_Ac_tie_101 (dko_4 _)
theorem d_Ac_tie_102 : decode b_Ac_tie 102 = .ok (.ireturn, 1) := dk_0 a_Ac_tie_102 (dko_172 _)
def fn_Ac_tie (ka : Int32) (wh : Int32) (xx : Int32) (yy : Int32) (zz : Int32) : Int32 := (if ka < 0 then 0 else (if 32 ≤ ka then 0 else (if wh < 0 then 0 else (if wh ≤ 4 then (if wh = 0 then (if zz < 1 then 0 else (if 100 < zz then 0 else (if wh = 2 then (if yy < 0 then 0 else (if 10 ≤ yy then 0 else (if wh = 3 then (if yy < 1 then 0 else (if yy ≤ 5 then 1 else 0)) else 1))) else (if wh = 3 then (if yy < 1 then 0 else (if yy ≤ 5 then 1 else 0)) else 1)))) else (if wh = 2 then (if yy < 0 then 0 else (if 10 ≤ yy then 0 else (if wh = 3 then (if yy < 1 then 0 else (if yy ≤ 5 then 1 else 0)) else 1))) else (if wh = 3 then (if yy < 1 then 0 else (if yy ≤ 5 then 1 else 0)) else 1))) else 0))))
set_option maxHeartbeats 4000000 in
set_option maxRecDepth 100000 in
theorem c_Ac_tie (l : Launch) (dC : Nat → ClassId) (dI : Nat → Nat → Nat) (cI cB cZ cJ : ClassId) (ka : Int32) (wh : Int32) (xx : Int32) (yy : Int32) (zz : Int32) (oAc : Nat) (xc_what : Nat) (xc_x : Nat) (xc_y : Nat) (xc_z : Nat) (xc : List Value) (hac_what : fx xc 4 (.ref xc_what)) (hac_x : fx xc 5 (.ref xc_x)) (hac_y : fx xc 6 (.ref xc_y)) (hac_z : fx xc 7 (.ref xc_z)) (sz : Nat) : Met l y_Ac_tie w_Ac_tie ({ frames := 1, cells := 0, slots := 0, locals := 20 }) (va_Pc [.ref oAc, .int ka, .int wh, .int xx, .int yy, .int zz] (PW dC dI cI cB cZ cJ [(oAc, .inr (11, xc)), (xc_what, .inl (cI, 32, .inl ((fun _ => (-1))))), (xc_x, .inl (cI, 32, .inl (fun _ => 0))), (xc_y, .inl (cI, 32, .inl (fun _ => 0))), (xc_z, .inl (cI, 32, .inl (fun _ => 0)))] sz)) (va_Qi (fun (r : Int32) (_ : Unit) => r = fn_Ac_tie ka wh xx yy zz) (fun _ _ => True) (va_A [(oAc, .inr (11, xc)), (xc_what, .inl (cI, 32, .inl ((fun _ => (-1))))), (xc_x, .inl (cI, 32, .inl (fun _ => 0))), (xc_y, .inl (cI, 32, .inl (fun _ => 0))), (xc_z, .inl (cI, 32, .inl (fun _ => 0)))] sz)) 0 0 (va_A [(oAc, .inr (11, xc)), (xc_what, .inl (cI, 32, .inl ((fun _ => (-1))))), (xc_x, .inl (cI, 32, .inl (fun _ => 0))), (xc_y, .inl (cI, 32, .inl (fun _ => 0))), (xc_z, .inl (cI, 32, .inl (fun _ => 0)))] sz) := by
  refine Met.ofW (cc := b_Ac_tie) (maxL := 6) (ret := (some .boolean)) (by decide) rfl ?_
  intro p e s m args below meth c s₁ B hml hv
  obtain ⟨rfl, hsz, hP, hK, hD⟩ := hv
  have hx := B.exec
  have hb := B.bytes
  have hr := B.returns
  have hts := atoms_spec (ws := w_Ac_tie) B.pre
  have hown : s.vm.findClass R_Ac = some m.cls := findClass_of_methodNamed B.named
  have hlocks := B.notSynchronized
  subst hsz
  have hD := hD.self (sz := s.heap.size)
  generalize hAe : va_A [(oAc, .inr (11, xc)), (xc_what, .inl (cI, 32, .inl ((fun _ => (-1))))), (xc_x, .inl (cI, 32, .inl (fun _ => 0))), (xc_y, .inl (cI, 32, .inl (fun _ => 0))), (xc_z, .inl (cI, 32, .inl (fun _ => 0)))] s.heap.size = A at hD ⊢
  have hA : ∀ q : Nat, s.heap.size ≤ q → A q := fun q h => by rw [← hAe]; exact Or.inr h
  have hS : va_S A s.heap s.heap [] := va_S.rf
  have hP : va_P (dC, dI) classes [(oAc, .inr (11, xc)), (xc_what, .inl (cI, 32, .inl ((fun _ => (-1))))), (xc_x, .inl (cI, 32, .inl (fun _ => 0))), (xc_y, .inl (cI, 32, .inl (fun _ => 0))), (xc_z, .inl (cI, 32, .inl (fun _ => 0)))] s.heap := hP
  have hl := lv_entry ([.ref oAc, .int ka, .int wh, .int xx, .int yy, .int zz]) (n := 6) (Nat.le_of_ble_eq_true rfl)
  rw [lg_entry_eq]
  generalize (lg_sl ([.ref oAc, .int ka, .int wh, .int xx, .int yy, .int zz]) ++ List.replicate (6 - (lg_sl ([.ref oAc, .int ka, .int wh, .int xx, .int yy, .int zz])).length) Slot.unset).toArray = ls at hl ⊢
  have hl : lv_has ls 6 [(0, .ref oAc), (1, .int ka), (2, .int wh), (3, .int xx), (4, .int yy), (5, .int zz)] := hl
  refine lv_iload_n hx hb d_Ac_tie_0 rfl (lv_at hl 1 rfl) ?_
  have hPc := hP.sub (ws' := []) [] rfl
  have hDc := hD.sub (ws' := []) [] (by decide) rfl
  have hFc := pu_free hS hA
  refine va_calli (va_runS (As := [.int ka]) (rest := []) ⟨hx, hb, hml, hown, hts⟩ (c_Ac_isAct l dC dI cI cB cZ cJ ka s.heap.size) (va_cwS 1 hts (tb_S2 mw_1178 mw_1179 mw_9 mw_1180) rfl rfl rfl ⟨by decide +kernel, by decide +kernel, by decide +kernel⟩ ⟨(Nat.le_of_ble_eq_true rfl), (Nat.le_of_ble_eq_true rfl)⟩) ⟨pw_blind, pw_pre hPc hK hDc⟩ rfl rfl hl.1 rfl (lv_room (Nat.le_of_ble_eq_true rfl)) d_Ac_tie_1 ⟨(Nat.le_of_ble_eq_true rfl), (Nat.le_of_ble_eq_true rfl)⟩) hS (fun q _ h => hFc q h) hFc (fun r u t H locs ht hvm hw hB hz1 hk1 hS => ?_)
  have hP := pu_kept hP hk1
  by_cases b4_1 : ka < 0
  · obtain rfl : r = 0 := hw.trans (by unfold fn_Ac_isAct; rw [if_pos b4_1])
    refine lv_if_eq (tgt := 16) hx hb d_Ac_tie_4 (by decide) (fun _ => ?_) (fun h => absurd (by decide) h)
    refine lv_iconst (v := 0) hx hb d_Ac_tie_16 (by decide) ?_
    exact W.zret (v := 0) (ty := .boolean) hx hb hr (by decide) (fun t ht hW => ⟨⟨_, (), rfl, (by unfold fn_Ac_tie; rw [if_pos b4_1]), trivial⟩, hS.F ht⟩) hS.2.2 d_Ac_tie_17
  · by_cases b4_2 : 32 ≤ ka
    · obtain rfl : r = 0 := hw.trans (by unfold fn_Ac_isAct; rw [if_neg b4_1, if_pos b4_2])
      refine lv_if_eq (tgt := 16) hx hb d_Ac_tie_4 (by decide) (fun _ => ?_) (fun h => absurd (by decide) h)
      refine lv_iconst (v := 0) hx hb d_Ac_tie_16 (by decide) ?_
      exact W.zret (v := 0) (ty := .boolean) hx hb hr (by decide) (fun t ht hW => ⟨⟨_, (), rfl, (by unfold fn_Ac_tie; rw [if_neg b4_1, if_pos b4_2]), trivial⟩, hS.F ht⟩) hS.2.2 d_Ac_tie_17
    · obtain rfl : r = 1 := hw.trans (by unfold fn_Ac_isAct; rw [if_neg b4_1, if_neg b4_2])
      refine lv_if_eq (tgt := 16) hx hb d_Ac_tie_4 (by decide) (fun h => absurd h (by decide)) (fun _ => ?_)
      refine lv_iload_n hx hb d_Ac_tie_7 rfl (lv_at hl 2 rfl) ?_
      refine lv_if_lt (tgt := 16) hx hb d_Ac_tie_8 (by decide) (fun h8 => ?_) (fun h8 => ?_)
      · refine lv_iconst (v := 0) hx hb d_Ac_tie_16 (by decide) ?_
        exact W.zret (v := 0) (ty := .boolean) hx hb hr (by decide) (fun t ht hW => ⟨⟨_, (), rfl, (by unfold fn_Ac_tie; rw [if_neg b4_1, if_neg b4_2, if_pos h8]), trivial⟩, hS.F ht⟩) hS.2.2 d_Ac_tie_17
      · refine lv_iload_n hx hb d_Ac_tie_11 rfl (lv_at hl 2 rfl) ?_
        refine lv_iconst (v := 4) hx hb d_Ac_tie_12 (by decide) ?_
        refine lv_icmp_le (tgt := 18) hx hb d_Ac_tie_13 (by decide) (fun h13 => ?_) (fun h13 => ?_)
        · refine lv_iload_n hx hb d_Ac_tie_18 rfl (lv_at hl 2 rfl) ?_
          refine lv_if_ne (tgt := 35) hx hb d_Ac_tie_19 (by decide) (fun h19 => ?_) (fun h19 => ?_)
          · refine lv_iload_n hx hb d_Ac_tie_35 rfl (lv_at hl 2 rfl) ?_
            refine lv_iconst (v := 2) hx hb d_Ac_tie_36 (by decide) ?_
            refine lv_icmp_ne (tgt := 52) hx hb d_Ac_tie_37 (by decide) (fun h37 => ?_) (fun h37 => ?_)
            · refine lv_iload_n hx hb d_Ac_tie_52 rfl (lv_at hl 2 rfl) ?_
              refine lv_iconst (v := 3) hx hb d_Ac_tie_53 (by decide) ?_
              refine lv_icmp_ne (tgt := 71) hx hb d_Ac_tie_54 (by decide) (fun h54 => ?_) (fun h54 => ?_)
              · refine lv_aload_n hx hb d_Ac_tie_71 rfl (lv_at hl 0 rfl) ?_
                refine va_get (D := (dC, dI)) (ci := 11) (v := .ref xc_what) (C := R_Ac) (T := F_Ac) (N := 8) hx hb hts (fun w h => List.mem_cons_of_mem _ (in_Ac w h)) hown hK.1 hP 0 rfl rfl 4 (by decide) (hts _ (List.mem_cons_of_mem _ mw_395)) (fun _ h9 => h9) hac_what d_Ac_tie_72 ?_
                refine lv_iload_n hx hb d_Ac_tie_75 rfl (lv_at hl 1 rfl) ?_
                refine lv_iload_n hx hb d_Ac_tie_76 rfl (lv_at hl 2 rfl) ?_
                refine va_iast hx hb hK.1 hP hD hS 1 0 rfl rfl (ir_in2 b4_1 b4_2 (by decide) (by decide)) d_Ac_tie_77 (fun H locs hP hD hS => ?_)
                have hP : va_P (dC, dI) classes [(oAc, .inr (11, xc)), (xc_what, .inl (cI, 32, .inl ((upd ((fun _ => (-1))) (ka : Int32).toNatClampNeg wh)))), (xc_x, .inl (cI, 32, .inl (fun _ => 0))), (xc_y, .inl (cI, 32, .inl (fun _ => 0))), (xc_z, .inl (cI, 32, .inl (fun _ => 0)))] H := hP
                have hD : va_D A [(oAc, .inr (11, xc)), (xc_what, .inl (cI, 32, .inl ((upd ((fun _ => (-1))) (ka : Int32).toNatClampNeg wh)))), (xc_x, .inl (cI, 32, .inl (fun _ => 0))), (xc_y, .inl (cI, 32, .inl (fun _ => 0))), (xc_z, .inl (cI, 32, .inl (fun _ => 0)))] := hD
                generalize (upd ((fun _ => (-1))) (ka : Int32).toNatClampNeg wh) = f77_8 at hP hD
                refine lv_aload_n hx hb d_Ac_tie_78 rfl (lv_at hl 0 rfl) ?_
                refine va_get (D := (dC, dI)) (ci := 11) (v := .ref xc_x) (C := R_Ac) (T := F_Ac) (N := 8) hx hb hts (fun w h => List.mem_cons_of_mem _ (in_Ac w h)) hown hK.1 hP 0 rfl rfl 5 (by decide) (hts _ (List.mem_cons_of_mem _ mw_396)) (fun _ h9 => h9) hac_x d_Ac_tie_79 ?_
                refine lv_iload_n hx hb d_Ac_tie_82 rfl (lv_at hl 1 rfl) ?_
                refine lv_iload_n hx hb d_Ac_tie_83 rfl (lv_at hl 3 rfl) ?_
                refine va_iast hx hb hK.1 hP hD hS 2 0 rfl rfl (ir_in2 b4_1 b4_2 (by decide) (by decide)) d_Ac_tie_84 (fun H locs hP hD hS => ?_)
                have hP : va_P (dC, dI) classes [(oAc, .inr (11, xc)), (xc_what, .inl (cI, 32, .inl f77_8)), (xc_x, .inl (cI, 32, .inl ((upd (fun _ => 0) (ka : Int32).toNatClampNeg xx)))), (xc_y, .inl (cI, 32, .inl (fun _ => 0))), (xc_z, .inl (cI, 32, .inl (fun _ => 0)))] H := hP
                have hD : va_D A [(oAc, .inr (11, xc)), (xc_what, .inl (cI, 32, .inl f77_8)), (xc_x, .inl (cI, 32, .inl ((upd (fun _ => 0) (ka : Int32).toNatClampNeg xx)))), (xc_y, .inl (cI, 32, .inl (fun _ => 0))), (xc_z, .inl (cI, 32, .inl (fun _ => 0)))] := hD
                generalize (upd (fun _ => 0) (ka : Int32).toNatClampNeg xx) = f84_9 at hP hD
                refine lv_aload_n hx hb d_Ac_tie_85 rfl (lv_at hl 0 rfl) ?_
                refine va_get (D := (dC, dI)) (ci := 11) (v := .ref xc_y) (C := R_Ac) (T := F_Ac) (N := 8) hx hb hts (fun w h => List.mem_cons_of_mem _ (in_Ac w h)) hown hK.1 hP 0 rfl rfl 6 (by decide) (hts _ (List.mem_cons_of_mem _ mw_397)) (fun _ h9 => h9) hac_y d_Ac_tie_86 ?_
                refine lv_iload_n hx hb d_Ac_tie_89 rfl (lv_at hl 1 rfl) ?_
                refine lv_iload hx hb d_Ac_tie_90 (lv_at hl 4 rfl) ?_
                refine va_iast hx hb hK.1 hP hD hS 3 0 rfl rfl (ir_in2 b4_1 b4_2 (by decide) (by decide)) d_Ac_tie_92 (fun H locs hP hD hS => ?_)
                have hP : va_P (dC, dI) classes [(oAc, .inr (11, xc)), (xc_what, .inl (cI, 32, .inl f77_8)), (xc_x, .inl (cI, 32, .inl f84_9)), (xc_y, .inl (cI, 32, .inl ((upd (fun _ => 0) (ka : Int32).toNatClampNeg yy)))), (xc_z, .inl (cI, 32, .inl (fun _ => 0)))] H := hP
                have hD : va_D A [(oAc, .inr (11, xc)), (xc_what, .inl (cI, 32, .inl f77_8)), (xc_x, .inl (cI, 32, .inl f84_9)), (xc_y, .inl (cI, 32, .inl ((upd (fun _ => 0) (ka : Int32).toNatClampNeg yy)))), (xc_z, .inl (cI, 32, .inl (fun _ => 0)))] := hD
                generalize (upd (fun _ => 0) (ka : Int32).toNatClampNeg yy) = f92_10 at hP hD
                refine lv_aload_n hx hb d_Ac_tie_93 rfl (lv_at hl 0 rfl) ?_
                refine va_get (D := (dC, dI)) (ci := 11) (v := .ref xc_z) (C := R_Ac) (T := F_Ac) (N := 8) hx hb hts (fun w h => List.mem_cons_of_mem _ (in_Ac w h)) hown hK.1 hP 0 rfl rfl 7 (by decide) (hts _ (List.mem_cons_of_mem _ mw_398)) (fun _ h9 => h9) hac_z d_Ac_tie_94 ?_
                refine lv_iload_n hx hb d_Ac_tie_97 rfl (lv_at hl 1 rfl) ?_
                refine lv_iload hx hb d_Ac_tie_98 (lv_at hl 5 rfl) ?_
                refine va_iast hx hb hK.1 hP hD hS 4 0 rfl rfl (ir_in2 b4_1 b4_2 (by decide) (by decide)) d_Ac_tie_100 (fun H locs hP hD hS => ?_)
                have hP : va_P (dC, dI) classes [(oAc, .inr (11, xc)), (xc_what, .inl (cI, 32, .inl f77_8)), (xc_x, .inl (cI, 32, .inl f84_9)), (xc_y, .inl (cI, 32, .inl f92_10)), (xc_z, .inl (cI, 32, .inl ((upd (fun _ => 0) (ka : Int32).toNatClampNeg zz))))] H := hP
                have hD : va_D A [(oAc, .inr (11, xc)), (xc_what, .inl (cI, 32, .inl f77_8)), (xc_x, .inl (cI, 32, .inl f84_9)), (xc_y, .inl (cI, 32, .inl f92_10)), (xc_z, .inl (cI, 32, .inl ((upd (fun _ => 0) (ka : Int32).toNatClampNeg zz))))] := hD
                generalize (upd (fun _ => 0) (ka : Int32).toNatClampNeg zz) = f100_11 at hP hD
                refine lv_iconst (v := 1) hx hb d_Ac_tie_101 (by decide) ?_
                exact W.zret (v := 1) (ty := .boolean) hx hb hr (by decide) (fun t ht hW => ⟨⟨_, (), rfl, (by unfold fn_Ac_tie; rw [if_neg b4_1, if_neg b4_2, if_neg h8, if_pos h13, if_neg h19, if_neg h37, if_neg h54]), trivial⟩, hS.F ht⟩) hS.2.2 d_Ac_tie_102
              · refine lv_iload hx hb d_Ac_tie_57 (lv_at hl 4 rfl) ?_
                refine lv_iconst (v := 1) hx hb d_Ac_tie_59 (by decide) ?_
                refine lv_icmp_lt (tgt := 69) hx hb d_Ac_tie_60 (by decide) (fun h60 => ?_) (fun h60 => ?_)
                · refine lv_iconst (v := 0) hx hb d_Ac_tie_69 (by decide) ?_
                  exact W.zret (v := 0) (ty := .boolean) hx hb hr (by decide) (fun t ht hW => ⟨⟨_, (), rfl, (by unfold fn_Ac_tie; rw [if_neg b4_1, if_neg b4_2, if_neg h8, if_pos h13, if_neg h19, if_neg h37, if_pos h54, if_pos h60]), trivial⟩, hS.F ht⟩) hS.2.2 d_Ac_tie_70
                · refine lv_iload hx hb d_Ac_tie_63 (lv_at hl 4 rfl) ?_
                  refine lv_iconst (v := 5) hx hb d_Ac_tie_65 (by decide) ?_
                  refine lv_icmp_le (tgt := 71) hx hb d_Ac_tie_66 (by decide) (fun h66 => ?_) (fun h66 => ?_)
                  · refine lv_aload_n hx hb d_Ac_tie_71 rfl (lv_at hl 0 rfl) ?_
                    refine va_get (D := (dC, dI)) (ci := 11) (v := .ref xc_what) (C := R_Ac) (T := F_Ac) (N := 8) hx hb hts (fun w h => List.mem_cons_of_mem _ (in_Ac w h)) hown hK.1 hP 0 rfl rfl 4 (by decide) (hts _ (List.mem_cons_of_mem _ mw_395)) (fun _ h9 => h9) hac_what d_Ac_tie_72 ?_
                    refine lv_iload_n hx hb d_Ac_tie_75 rfl (lv_at hl 1 rfl) ?_
                    refine lv_iload_n hx hb d_Ac_tie_76 rfl (lv_at hl 2 rfl) ?_
                    refine va_iast hx hb hK.1 hP hD hS 1 0 rfl rfl (ir_in2 b4_1 b4_2 (by decide) (by decide)) d_Ac_tie_77 (fun H locs hP hD hS => ?_)
                    have hP : va_P (dC, dI) classes [(oAc, .inr (11, xc)), (xc_what, .inl (cI, 32, .inl ((upd ((fun _ => (-1))) (ka : Int32).toNatClampNeg wh)))), (xc_x, .inl (cI, 32, .inl (fun _ => 0))), (xc_y, .inl (cI, 32, .inl (fun _ => 0))), (xc_z, .inl (cI, 32, .inl (fun _ => 0)))] H := hP
                    have hD : va_D A [(oAc, .inr (11, xc)), (xc_what, .inl (cI, 32, .inl ((upd ((fun _ => (-1))) (ka : Int32).toNatClampNeg wh)))), (xc_x, .inl (cI, 32, .inl (fun _ => 0))), (xc_y, .inl (cI, 32, .inl (fun _ => 0))), (xc_z, .inl (cI, 32, .inl (fun _ => 0)))] := hD
                    generalize (upd ((fun _ => (-1))) (ka : Int32).toNatClampNeg wh) = f77_10 at hP hD
                    refine lv_aload_n hx hb d_Ac_tie_78 rfl (lv_at hl 0 rfl) ?_
                    refine va_get (D := (dC, dI)) (ci := 11) (v := .ref xc_x) (C := R_Ac) (T := F_Ac) (N := 8) hx hb hts (fun w h => List.mem_cons_of_mem _ (in_Ac w h)) hown hK.1 hP 0 rfl rfl 5 (by decide) (hts _ (List.mem_cons_of_mem _ mw_396)) (fun _ h9 => h9) hac_x d_Ac_tie_79 ?_
                    refine lv_iload_n hx hb d_Ac_tie_82 rfl (lv_at hl 1 rfl) ?_
                    refine lv_iload_n hx hb d_Ac_tie_83 rfl (lv_at hl 3 rfl) ?_
                    refine va_iast hx hb hK.1 hP hD hS 2 0 rfl rfl (ir_in2 b4_1 b4_2 (by decide) (by decide)) d_Ac_tie_84 (fun H locs hP hD hS => ?_)
                    have hP : va_P (dC, dI) classes [(oAc, .inr (11, xc)), (xc_what, .inl (cI, 32, .inl f77_10)), (xc_x, .inl (cI, 32, .inl ((upd (fun _ => 0) (ka : Int32).toNatClampNeg xx)))), (xc_y, .inl (cI, 32, .inl (fun _ => 0))), (xc_z, .inl (cI, 32, .inl (fun _ => 0)))] H := hP
                    have hD : va_D A [(oAc, .inr (11, xc)), (xc_what, .inl (cI, 32, .inl f77_10)), (xc_x, .inl (cI, 32, .inl ((upd (fun _ => 0) (ka : Int32).toNatClampNeg xx)))), (xc_y, .inl (cI, 32, .inl (fun _ => 0))), (xc_z, .inl (cI, 32, .inl (fun _ => 0)))] := hD
                    generalize (upd (fun _ => 0) (ka : Int32).toNatClampNeg xx) = f84_11 at hP hD
                    refine lv_aload_n hx hb d_Ac_tie_85 rfl (lv_at hl 0 rfl) ?_
                    refine va_get (D := (dC, dI)) (ci := 11) (v := .ref xc_y) (C := R_Ac) (T := F_Ac) (N := 8) hx hb hts (fun w h => List.mem_cons_of_mem _ (in_Ac w h)) hown hK.1 hP 0 rfl rfl 6 (by decide) (hts _ (List.mem_cons_of_mem _ mw_397)) (fun _ h9 => h9) hac_y d_Ac_tie_86 ?_
                    refine lv_iload_n hx hb d_Ac_tie_89 rfl (lv_at hl 1 rfl) ?_
                    refine lv_iload hx hb d_Ac_tie_90 (lv_at hl 4 rfl) ?_
                    refine va_iast hx hb hK.1 hP hD hS 3 0 rfl rfl (ir_in2 b4_1 b4_2 (by decide) (by decide)) d_Ac_tie_92 (fun H locs hP hD hS => ?_)
                    have hP : va_P (dC, dI) classes [(oAc, .inr (11, xc)), (xc_what, .inl (cI, 32, .inl f77_10)), (xc_x, .inl (cI, 32, .inl f84_11)), (xc_y, .inl (cI, 32, .inl ((upd (fun _ => 0) (ka : Int32).toNatClampNeg yy)))), (xc_z, .inl (cI, 32, .inl (fun _ => 0)))] H := hP
                    have hD : va_D A [(oAc, .inr (11, xc)), (xc_what, .inl (cI, 32, .inl f77_10)), (xc_x, .inl (cI, 32, .inl f84_11)), (xc_y, .inl (cI, 32, .inl ((upd (fun _ => 0) (ka : Int32).toNatClampNeg yy)))), (xc_z, .inl (cI, 32, .inl (fun _ => 0)))] := hD
                    generalize (upd (fun _ => 0) (ka : Int32).toNatClampNeg yy) = f92_12 at hP hD
                    refine lv_aload_n hx hb d_Ac_tie_93 rfl (lv_at hl 0 rfl) ?_
                    refine va_get (D := (dC, dI)) (ci := 11) (v := .ref xc_z) (C := R_Ac) (T := F_Ac) (N := 8) hx hb hts (fun w h => List.mem_cons_of_mem _ (in_Ac w h)) hown hK.1 hP 0 rfl rfl 7 (by decide) (hts _ (List.mem_cons_of_mem _ mw_398)) (fun _ h9 => h9) hac_z d_Ac_tie_94 ?_
                    refine lv_iload_n hx hb d_Ac_tie_97 rfl (lv_at hl 1 rfl) ?_
                    refine lv_iload hx hb d_Ac_tie_98 (lv_at hl 5 rfl) ?_
                    refine va_iast hx hb hK.1 hP hD hS 4 0 rfl rfl (ir_in2 b4_1 b4_2 (by decide) (by decide)) d_Ac_tie_100 (fun H locs hP hD hS => ?_)
                    have hP : va_P (dC, dI) classes [(oAc, .inr (11, xc)), (xc_what, .inl (cI, 32, .inl f77_10)), (xc_x, .inl (cI, 32, .inl f84_11)), (xc_y, .inl (cI, 32, .inl f92_12)), (xc_z, .inl (cI, 32, .inl ((upd (fun _ => 0) (ka : Int32).toNatClampNeg zz))))] H := hP
                    have hD : va_D A [(oAc, .inr (11, xc)), (xc_what, .inl (cI, 32, .inl f77_10)), (xc_x, .inl (cI, 32, .inl f84_11)), (xc_y, .inl (cI, 32, .inl f92_12)), (xc_z, .inl (cI, 32, .inl ((upd (fun _ => 0) (ka : Int32).toNatClampNeg zz))))] := hD
                    generalize (upd (fun _ => 0) (ka : Int32).toNatClampNeg zz) = f100_13 at hP hD
                    refine lv_iconst (v := 1) hx hb d_Ac_tie_101 (by decide) ?_
                    exact W.zret (v := 1) (ty := .boolean) hx hb hr (by decide) (fun t ht hW => ⟨⟨_, (), rfl, (by unfold fn_Ac_tie; rw [if_neg b4_1, if_neg b4_2, if_neg h8, if_pos h13, if_neg h19, if_neg h37, if_pos h54, if_neg h60, if_pos h66]), trivial⟩, hS.F ht⟩) hS.2.2 d_Ac_tie_102
                  · refine lv_iconst (v := 0) hx hb d_Ac_tie_69 (by decide) ?_
                    exact W.zret (v := 0) (ty := .boolean) hx hb hr (by decide) (fun t ht hW => ⟨⟨_, (), rfl, (by unfold fn_Ac_tie; rw [if_neg b4_1, if_neg b4_2, if_neg h8, if_pos h13, if_neg h19, if_neg h37, if_pos h54, if_neg h60, if_neg h66]), trivial⟩, hS.F ht⟩) hS.2.2 d_Ac_tie_70
            · refine lv_iload hx hb d_Ac_tie_40 (lv_at hl 4 rfl) ?_
              refine lv_if_lt (tgt := 69) hx hb d_Ac_tie_42 (by decide) (fun h42 => ?_) (fun h42 => ?_)
              · refine lv_iconst (v := 0) hx hb d_Ac_tie_69 (by decide) ?_
                exact W.zret (v := 0) (ty := .boolean) hx hb hr (by decide) (fun t ht hW => ⟨⟨_, (), rfl, (by unfold fn_Ac_tie; rw [if_neg b4_1, if_neg b4_2, if_neg h8, if_pos h13, if_neg h19, if_pos h37, if_pos h42]), trivial⟩, hS.F ht⟩) hS.2.2 d_Ac_tie_70
              · refine lv_iload hx hb d_Ac_tie_45 (lv_at hl 4 rfl) ?_
                refine lv_bipush (v := 10) hx hb d_Ac_tie_47 (by decide) ?_
                refine lv_icmp_ge (tgt := 69) hx hb d_Ac_tie_49 (by decide) (fun h49 => ?_) (fun h49 => ?_)
                · refine lv_iconst (v := 0) hx hb d_Ac_tie_69 (by decide) ?_
                  exact W.zret (v := 0) (ty := .boolean) hx hb hr (by decide) (fun t ht hW => ⟨⟨_, (), rfl, (by unfold fn_Ac_tie; rw [if_neg b4_1, if_neg b4_2, if_neg h8, if_pos h13, if_neg h19, if_pos h37, if_neg h42, if_pos h49]), trivial⟩, hS.F ht⟩) hS.2.2 d_Ac_tie_70
                · refine lv_iload_n hx hb d_Ac_tie_52 rfl (lv_at hl 2 rfl) ?_
                  refine lv_iconst (v := 3) hx hb d_Ac_tie_53 (by decide) ?_
                  refine lv_icmp_ne (tgt := 71) hx hb d_Ac_tie_54 (by decide) (fun h54 => ?_) (fun h54 => ?_)
                  · refine lv_aload_n hx hb d_Ac_tie_71 rfl (lv_at hl 0 rfl) ?_
                    refine va_get (D := (dC, dI)) (ci := 11) (v := .ref xc_what) (C := R_Ac) (T := F_Ac) (N := 8) hx hb hts (fun w h => List.mem_cons_of_mem _ (in_Ac w h)) hown hK.1 hP 0 rfl rfl 4 (by decide) (hts _ (List.mem_cons_of_mem _ mw_395)) (fun _ h9 => h9) hac_what d_Ac_tie_72 ?_
                    refine lv_iload_n hx hb d_Ac_tie_75 rfl (lv_at hl 1 rfl) ?_
                    refine lv_iload_n hx hb d_Ac_tie_76 rfl (lv_at hl 2 rfl) ?_
                    refine va_iast hx hb hK.1 hP hD hS 1 0 rfl rfl (ir_in2 b4_1 b4_2 (by decide) (by decide)) d_Ac_tie_77 (fun H locs hP hD hS => ?_)
                    have hP : va_P (dC, dI) classes [(oAc, .inr (11, xc)), (xc_what, .inl (cI, 32, .inl ((upd ((fun _ => (-1))) (ka : Int32).toNatClampNeg wh)))), (xc_x, .inl (cI, 32, .inl (fun _ => 0))), (xc_y, .inl (cI, 32, .inl (fun _ => 0))), (xc_z, .inl (cI, 32, .inl (fun _ => 0)))] H := hP
                    have hD : va_D A [(oAc, .inr (11, xc)), (xc_what, .inl (cI, 32, .inl ((upd ((fun _ => (-1))) (ka : Int32).toNatClampNeg wh)))), (xc_x, .inl (cI, 32, .inl (fun _ => 0))), (xc_y, .inl (cI, 32, .inl (fun _ => 0))), (xc_z, .inl (cI, 32, .inl (fun _ => 0)))] := hD
                    generalize (upd ((fun _ => (-1))) (ka : Int32).toNatClampNeg wh) = f77_10 at hP hD
                    refine lv_aload_n hx hb d_Ac_tie_78 rfl (lv_at hl 0 rfl) ?_
                    refine va_get (D := (dC, dI)) (ci := 11) (v := .ref xc_x) (C := R_Ac) (T := F_Ac) (N := 8) hx hb hts (fun w h => List.mem_cons_of_mem _ (in_Ac w h)) hown hK.1 hP 0 rfl rfl 5 (by decide) (hts _ (List.mem_cons_of_mem _ mw_396)) (fun _ h9 => h9) hac_x d_Ac_tie_79 ?_
                    refine lv_iload_n hx hb d_Ac_tie_82 rfl (lv_at hl 1 rfl) ?_
                    refine lv_iload_n hx hb d_Ac_tie_83 rfl (lv_at hl 3 rfl) ?_
                    refine va_iast hx hb hK.1 hP hD hS 2 0 rfl rfl (ir_in2 b4_1 b4_2 (by decide) (by decide)) d_Ac_tie_84 (fun H locs hP hD hS => ?_)
                    have hP : va_P (dC, dI) classes [(oAc, .inr (11, xc)), (xc_what, .inl (cI, 32, .inl f77_10)), (xc_x, .inl (cI, 32, .inl ((upd (fun _ => 0) (ka : Int32).toNatClampNeg xx)))), (xc_y, .inl (cI, 32, .inl (fun _ => 0))), (xc_z, .inl (cI, 32, .inl (fun _ => 0)))] H := hP
                    have hD : va_D A [(oAc, .inr (11, xc)), (xc_what, .inl (cI, 32, .inl f77_10)), (xc_x, .inl (cI, 32, .inl ((upd (fun _ => 0) (ka : Int32).toNatClampNeg xx)))), (xc_y, .inl (cI, 32, .inl (fun _ => 0))), (xc_z, .inl (cI, 32, .inl (fun _ => 0)))] := hD
                    generalize (upd (fun _ => 0) (ka : Int32).toNatClampNeg xx) = f84_11 at hP hD
                    refine lv_aload_n hx hb d_Ac_tie_85 rfl (lv_at hl 0 rfl) ?_
                    refine va_get (D := (dC, dI)) (ci := 11) (v := .ref xc_y) (C := R_Ac) (T := F_Ac) (N := 8) hx hb hts (fun w h => List.mem_cons_of_mem _ (in_Ac w h)) hown hK.1 hP 0 rfl rfl 6 (by decide) (hts _ (List.mem_cons_of_mem _ mw_397)) (fun _ h9 => h9) hac_y d_Ac_tie_86 ?_
                    refine lv_iload_n hx hb d_Ac_tie_89 rfl (lv_at hl 1 rfl) ?_
                    refine lv_iload hx hb d_Ac_tie_90 (lv_at hl 4 rfl) ?_
                    refine va_iast hx hb hK.1 hP hD hS 3 0 rfl rfl (ir_in2 b4_1 b4_2 (by decide) (by decide)) d_Ac_tie_92 (fun H locs hP hD hS => ?_)
                    have hP : va_P (dC, dI) classes [(oAc, .inr (11, xc)), (xc_what, .inl (cI, 32, .inl f77_10)), (xc_x, .inl (cI, 32, .inl f84_11)), (xc_y, .inl (cI, 32, .inl ((upd (fun _ => 0) (ka : Int32).toNatClampNeg yy)))), (xc_z, .inl (cI, 32, .inl (fun _ => 0)))] H := hP
                    have hD : va_D A [(oAc, .inr (11, xc)), (xc_what, .inl (cI, 32, .inl f77_10)), (xc_x, .inl (cI, 32, .inl f84_11)), (xc_y, .inl (cI, 32, .inl ((upd (fun _ => 0) (ka : Int32).toNatClampNeg yy)))), (xc_z, .inl (cI, 32, .inl (fun _ => 0)))] := hD
                    generalize (upd (fun _ => 0) (ka : Int32).toNatClampNeg yy) = f92_12 at hP hD
                    refine lv_aload_n hx hb d_Ac_tie_93 rfl (lv_at hl 0 rfl) ?_
                    refine va_get (D := (dC, dI)) (ci := 11) (v := .ref xc_z) (C := R_Ac) (T := F_Ac) (N := 8) hx hb hts (fun w h => List.mem_cons_of_mem _ (in_Ac w h)) hown hK.1 hP 0 rfl rfl 7 (by decide) (hts _ (List.mem_cons_of_mem _ mw_398)) (fun _ h9 => h9) hac_z d_Ac_tie_94 ?_
                    refine lv_iload_n hx hb d_Ac_tie_97 rfl (lv_at hl 1 rfl) ?_
                    refine lv_iload hx hb d_Ac_tie_98 (lv_at hl 5 rfl) ?_
                    refine va_iast hx hb hK.1 hP hD hS 4 0 rfl rfl (ir_in2 b4_1 b4_2 (by decide) (by decide)) d_Ac_tie_100 (fun H locs hP hD hS => ?_)
                    have hP : va_P (dC, dI) classes [(oAc, .inr (11, xc)), (xc_what, .inl (cI, 32, .inl f77_10)), (xc_x, .inl (cI, 32, .inl f84_11)), (xc_y, .inl (cI, 32, .inl f92_12)), (xc_z, .inl (cI, 32, .inl ((upd (fun _ => 0) (ka : Int32).toNatClampNeg zz))))] H := hP
                    have hD : va_D A [(oAc, .inr (11, xc)), (xc_what, .inl (cI, 32, .inl f77_10)), (xc_x, .inl (cI, 32, .inl f84_11)), (xc_y, .inl (cI, 32, .inl f92_12)), (xc_z, .inl (cI, 32, .inl ((upd (fun _ => 0) (ka : Int32).toNatClampNeg zz))))] := hD
                    generalize (upd (fun _ => 0) (ka : Int32).toNatClampNeg zz) = f100_13 at hP hD
                    refine lv_iconst (v := 1) hx hb d_Ac_tie_101 (by decide) ?_
                    exact W.zret (v := 1) (ty := .boolean) hx hb hr (by decide) (fun t ht hW => ⟨⟨_, (), rfl, (by unfold fn_Ac_tie; rw [if_neg b4_1, if_neg b4_2, if_neg h8, if_pos h13, if_neg h19, if_pos h37, if_neg h42, if_neg h49, if_neg h54]), trivial⟩, hS.F ht⟩) hS.2.2 d_Ac_tie_102
                  · refine lv_iload hx hb d_Ac_tie_57 (lv_at hl 4 rfl) ?_
                    refine lv_iconst (v := 1) hx hb d_Ac_tie_59 (by decide) ?_
                    refine lv_icmp_lt (tgt := 69) hx hb d_Ac_tie_60 (by decide) (fun h60 => ?_) (fun h60 => ?_)
                    · refine lv_iconst (v := 0) hx hb d_Ac_tie_69 (by decide) ?_
                      exact W.zret (v := 0) (ty := .boolean) hx hb hr (by decide) (fun t ht hW => ⟨⟨_, (), rfl, (by unfold fn_Ac_tie; rw [if_neg b4_1, if_neg b4_2, if_neg h8, if_pos h13, if_neg h19, if_pos h37, if_neg h42, if_neg h49, if_pos h54, if_pos h60]), trivial⟩, hS.F ht⟩) hS.2.2 d_Ac_tie_70
                    · refine lv_iload hx hb d_Ac_tie_63 (lv_at hl 4 rfl) ?_
                      refine lv_iconst (v := 5) hx hb d_Ac_tie_65 (by decide) ?_
                      refine lv_icmp_le (tgt := 71) hx hb d_Ac_tie_66 (by decide) (fun h66 => ?_) (fun h66 => ?_)
                      · refine lv_aload_n hx hb d_Ac_tie_71 rfl (lv_at hl 0 rfl) ?_
                        refine va_get (D := (dC, dI)) (ci := 11) (v := .ref xc_what) (C := R_Ac) (T := F_Ac) (N := 8) hx hb hts (fun w h => List.mem_cons_of_mem _ (in_Ac w h)) hown hK.1 hP 0 rfl rfl 4 (by decide) (hts _ (List.mem_cons_of_mem _ mw_395)) (fun _ h9 => h9) hac_what d_Ac_tie_72 ?_
                        refine lv_iload_n hx hb d_Ac_tie_75 rfl (lv_at hl 1 rfl) ?_
                        refine lv_iload_n hx hb d_Ac_tie_76 rfl (lv_at hl 2 rfl) ?_
                        refine va_iast hx hb hK.1 hP hD hS 1 0 rfl rfl (ir_in2 b4_1 b4_2 (by decide) (by decide)) d_Ac_tie_77 (fun H locs hP hD hS => ?_)
                        have hP : va_P (dC, dI) classes [(oAc, .inr (11, xc)), (xc_what, .inl (cI, 32, .inl ((upd ((fun _ => (-1))) (ka : Int32).toNatClampNeg wh)))), (xc_x, .inl (cI, 32, .inl (fun _ => 0))), (xc_y, .inl (cI, 32, .inl (fun _ => 0))), (xc_z, .inl (cI, 32, .inl (fun _ => 0)))] H := hP
                        have hD : va_D A [(oAc, .inr (11, xc)), (xc_what, .inl (cI, 32, .inl ((upd ((fun _ => (-1))) (ka : Int32).toNatClampNeg wh)))), (xc_x, .inl (cI, 32, .inl (fun _ => 0))), (xc_y, .inl (cI, 32, .inl (fun _ => 0))), (xc_z, .inl (cI, 32, .inl (fun _ => 0)))] := hD
                        generalize (upd ((fun _ => (-1))) (ka : Int32).toNatClampNeg wh) = f77_12 at hP hD
                        refine lv_aload_n hx hb d_Ac_tie_78 rfl (lv_at hl 0 rfl) ?_
                        refine va_get (D := (dC, dI)) (ci := 11) (v := .ref xc_x) (C := R_Ac) (T := F_Ac) (N := 8) hx hb hts (fun w h => List.mem_cons_of_mem _ (in_Ac w h)) hown hK.1 hP 0 rfl rfl 5 (by decide) (hts _ (List.mem_cons_of_mem _ mw_396)) (fun _ h9 => h9) hac_x d_Ac_tie_79 ?_
                        refine lv_iload_n hx hb d_Ac_tie_82 rfl (lv_at hl 1 rfl) ?_
                        refine lv_iload_n hx hb d_Ac_tie_83 rfl (lv_at hl 3 rfl) ?_
                        refine va_iast hx hb hK.1 hP hD hS 2 0 rfl rfl (ir_in2 b4_1 b4_2 (by decide) (by decide)) d_Ac_tie_84 (fun H locs hP hD hS => ?_)
                        have hP : va_P (dC, dI) classes [(oAc, .inr (11, xc)), (xc_what, .inl (cI, 32, .inl f77_12)), (xc_x, .inl (cI, 32, .inl ((upd (fun _ => 0) (ka : Int32).toNatClampNeg xx)))), (xc_y, .inl (cI, 32, .inl (fun _ => 0))), (xc_z, .inl (cI, 32, .inl (fun _ => 0)))] H := hP
                        have hD : va_D A [(oAc, .inr (11, xc)), (xc_what, .inl (cI, 32, .inl f77_12)), (xc_x, .inl (cI, 32, .inl ((upd (fun _ => 0) (ka : Int32).toNatClampNeg xx)))), (xc_y, .inl (cI, 32, .inl (fun _ => 0))), (xc_z, .inl (cI, 32, .inl (fun _ => 0)))] := hD
                        generalize (upd (fun _ => 0) (ka : Int32).toNatClampNeg xx) = f84_13 at hP hD
                        refine lv_aload_n hx hb d_Ac_tie_85 rfl (lv_at hl 0 rfl) ?_
                        refine va_get (D := (dC, dI)) (ci := 11) (v := .ref xc_y) (C := R_Ac) (T := F_Ac) (N := 8) hx hb hts (fun w h => List.mem_cons_of_mem _ (in_Ac w h)) hown hK.1 hP 0 rfl rfl 6 (by decide) (hts _ (List.mem_cons_of_mem _ mw_397)) (fun _ h9 => h9) hac_y d_Ac_tie_86 ?_
                        refine lv_iload_n hx hb d_Ac_tie_89 rfl (lv_at hl 1 rfl) ?_
                        refine lv_iload hx hb d_Ac_tie_90 (lv_at hl 4 rfl) ?_
                        refine va_iast hx hb hK.1 hP hD hS 3 0 rfl rfl (ir_in2 b4_1 b4_2 (by decide) (by decide)) d_Ac_tie_92 (fun H locs hP hD hS => ?_)
                        have hP : va_P (dC, dI) classes [(oAc, .inr (11, xc)), (xc_what, .inl (cI, 32, .inl f77_12)), (xc_x, .inl (cI, 32, .inl f84_13)), (xc_y, .inl (cI, 32, .inl ((upd (fun _ => 0) (ka : Int32).toNatClampNeg yy)))), (xc_z, .inl (cI, 32, .inl (fun _ => 0)))] H := hP
                        have hD : va_D A [(oAc, .inr (11, xc)), (xc_what, .inl (cI, 32, .inl f77_12)), (xc_x, .inl (cI, 32, .inl f84_13)), (xc_y, .inl (cI, 32, .inl ((upd (fun _ => 0) (ka : Int32).toNatClampNeg yy)))), (xc_z, .inl (cI, 32, .inl (fun _ => 0)))] := hD
                        generalize (upd (fun _ => 0) (ka : Int32).toNatClampNeg yy) = f92_14 at hP hD
                        refine lv_aload_n hx hb d_Ac_tie_93 rfl (lv_at hl 0 rfl) ?_
                        refine va_get (D := (dC, dI)) (ci := 11) (v := .ref xc_z) (C := R_Ac) (T := F_Ac) (N := 8) hx hb hts (fun w h => List.mem_cons_of_mem _ (in_Ac w h)) hown hK.1 hP 0 rfl rfl 7 (by decide) (hts _ (List.mem_cons_of_mem _ mw_398)) (fun _ h9 => h9) hac_z d_Ac_tie_94 ?_
                        refine lv_iload_n hx hb d_Ac_tie_97 rfl (lv_at hl 1 rfl) ?_
                        refine lv_iload hx hb d_Ac_tie_98 (lv_at hl 5 rfl) ?_
                        refine va_iast hx hb hK.1 hP hD hS 4 0 rfl rfl (ir_in2 b4_1 b4_2 (by decide) (by decide)) d_Ac_tie_100 (fun H locs hP hD hS => ?_)
                        have hP : va_P (dC, dI) classes [(oAc, .inr (11, xc)), (xc_what, .inl (cI, 32, .inl f77_12)), (xc_x, .inl (cI, 32, .inl f84_13)), (xc_y, .inl (cI, 32, .inl f92_14)), (xc_z, .inl (cI, 32, .inl ((upd (fun _ => 0) (ka : Int32).toNatClampNeg zz))))] H := hP
                        have hD : va_D A [(oAc, .inr (11, xc)), (xc_what, .inl (cI, 32, .inl f77_12)), (xc_x, .inl (cI, 32, .inl f84_13)), (xc_y, .inl (cI, 32, .inl f92_14)), (xc_z, .inl (cI, 32, .inl ((upd (fun _ => 0) (ka : Int32).toNatClampNeg zz))))] := hD
                        generalize (upd (fun _ => 0) (ka : Int32).toNatClampNeg zz) = f100_15 at hP hD
                        refine lv_iconst (v := 1) hx hb d_Ac_tie_101 (by decide) ?_
                        exact W.zret (v := 1) (ty := .boolean) hx hb hr (by decide) (fun t ht hW => ⟨⟨_, (), rfl, (by unfold fn_Ac_tie; rw [if_neg b4_1, if_neg b4_2, if_neg h8, if_pos h13, if_neg h19, if_pos h37, if_neg h42, if_neg h49, if_pos h54, if_neg h60, if_pos h66]), trivial⟩, hS.F ht⟩) hS.2.2 d_Ac_tie_102
                      · refine lv_iconst (v := 0) hx hb d_Ac_tie_69 (by decide) ?_
                        exact W.zret (v := 0) (ty := .boolean) hx hb hr (by decide) (fun t ht hW => ⟨⟨_, (), rfl, (by unfold fn_Ac_tie; rw [if_neg b4_1, if_neg b4_2, if_neg h8, if_pos h13, if_neg h19, if_pos h37, if_neg h42, if_neg h49, if_pos h54, if_neg h60, if_neg h66]), trivial⟩, hS.F ht⟩) hS.2.2 d_Ac_tie_70
          · refine lv_iload hx hb d_Ac_tie_22 (lv_at hl 5 rfl) ?_
            refine lv_iconst (v := 1) hx hb d_Ac_tie_24 (by decide) ?_
            refine lv_icmp_lt (tgt := 69) hx hb d_Ac_tie_25 (by decide) (fun h25 => ?_) (fun h25 => ?_)
            · refine lv_iconst (v := 0) hx hb d_Ac_tie_69 (by decide) ?_
              exact W.zret (v := 0) (ty := .boolean) hx hb hr (by decide) (fun t ht hW => ⟨⟨_, (), rfl, (by unfold fn_Ac_tie; rw [if_neg b4_1, if_neg b4_2, if_neg h8, if_pos h13, if_pos h19, if_pos h25]), trivial⟩, hS.F ht⟩) hS.2.2 d_Ac_tie_70
            · refine lv_iload hx hb d_Ac_tie_28 (lv_at hl 5 rfl) ?_
              refine lv_bipush (v := 100) hx hb d_Ac_tie_30 (by decide) ?_
              refine lv_icmp_gt (tgt := 69) hx hb d_Ac_tie_32 (by decide) (fun h32 => ?_) (fun h32 => ?_)
              · refine lv_iconst (v := 0) hx hb d_Ac_tie_69 (by decide) ?_
                exact W.zret (v := 0) (ty := .boolean) hx hb hr (by decide) (fun t ht hW => ⟨⟨_, (), rfl, (by unfold fn_Ac_tie; rw [if_neg b4_1, if_neg b4_2, if_neg h8, if_pos h13, if_pos h19, if_neg h25, if_pos h32]), trivial⟩, hS.F ht⟩) hS.2.2 d_Ac_tie_70
              · refine lv_iload_n hx hb d_Ac_tie_35 rfl (lv_at hl 2 rfl) ?_
                refine lv_iconst (v := 2) hx hb d_Ac_tie_36 (by decide) ?_
                refine lv_icmp_ne (tgt := 52) hx hb d_Ac_tie_37 (by decide) (fun h37 => ?_) (fun h37 => ?_)
                · refine lv_iload_n hx hb d_Ac_tie_52 rfl (lv_at hl 2 rfl) ?_
                  refine lv_iconst (v := 3) hx hb d_Ac_tie_53 (by decide) ?_
                  refine lv_icmp_ne (tgt := 71) hx hb d_Ac_tie_54 (by decide) (fun h54 => ?_) (fun h54 => ?_)
                  · refine lv_aload_n hx hb d_Ac_tie_71 rfl (lv_at hl 0 rfl) ?_
                    refine va_get (D := (dC, dI)) (ci := 11) (v := .ref xc_what) (C := R_Ac) (T := F_Ac) (N := 8) hx hb hts (fun w h => List.mem_cons_of_mem _ (in_Ac w h)) hown hK.1 hP 0 rfl rfl 4 (by decide) (hts _ (List.mem_cons_of_mem _ mw_395)) (fun _ h9 => h9) hac_what d_Ac_tie_72 ?_
                    refine lv_iload_n hx hb d_Ac_tie_75 rfl (lv_at hl 1 rfl) ?_
                    refine lv_iload_n hx hb d_Ac_tie_76 rfl (lv_at hl 2 rfl) ?_
                    refine va_iast hx hb hK.1 hP hD hS 1 0 rfl rfl (ir_in2 b4_1 b4_2 (by decide) (by decide)) d_Ac_tie_77 (fun H locs hP hD hS => ?_)
                    have hP : va_P (dC, dI) classes [(oAc, .inr (11, xc)), (xc_what, .inl (cI, 32, .inl ((upd ((fun _ => (-1))) (ka : Int32).toNatClampNeg wh)))), (xc_x, .inl (cI, 32, .inl (fun _ => 0))), (xc_y, .inl (cI, 32, .inl (fun _ => 0))), (xc_z, .inl (cI, 32, .inl (fun _ => 0)))] H := hP
                    have hD : va_D A [(oAc, .inr (11, xc)), (xc_what, .inl (cI, 32, .inl ((upd ((fun _ => (-1))) (ka : Int32).toNatClampNeg wh)))), (xc_x, .inl (cI, 32, .inl (fun _ => 0))), (xc_y, .inl (cI, 32, .inl (fun _ => 0))), (xc_z, .inl (cI, 32, .inl (fun _ => 0)))] := hD
                    generalize (upd ((fun _ => (-1))) (ka : Int32).toNatClampNeg wh) = f77_10 at hP hD
                    refine lv_aload_n hx hb d_Ac_tie_78 rfl (lv_at hl 0 rfl) ?_
                    refine va_get (D := (dC, dI)) (ci := 11) (v := .ref xc_x) (C := R_Ac) (T := F_Ac) (N := 8) hx hb hts (fun w h => List.mem_cons_of_mem _ (in_Ac w h)) hown hK.1 hP 0 rfl rfl 5 (by decide) (hts _ (List.mem_cons_of_mem _ mw_396)) (fun _ h9 => h9) hac_x d_Ac_tie_79 ?_
                    refine lv_iload_n hx hb d_Ac_tie_82 rfl (lv_at hl 1 rfl) ?_
                    refine lv_iload_n hx hb d_Ac_tie_83 rfl (lv_at hl 3 rfl) ?_
                    refine va_iast hx hb hK.1 hP hD hS 2 0 rfl rfl (ir_in2 b4_1 b4_2 (by decide) (by decide)) d_Ac_tie_84 (fun H locs hP hD hS => ?_)
                    have hP : va_P (dC, dI) classes [(oAc, .inr (11, xc)), (xc_what, .inl (cI, 32, .inl f77_10)), (xc_x, .inl (cI, 32, .inl ((upd (fun _ => 0) (ka : Int32).toNatClampNeg xx)))), (xc_y, .inl (cI, 32, .inl (fun _ => 0))), (xc_z, .inl (cI, 32, .inl (fun _ => 0)))] H := hP
                    have hD : va_D A [(oAc, .inr (11, xc)), (xc_what, .inl (cI, 32, .inl f77_10)), (xc_x, .inl (cI, 32, .inl ((upd (fun _ => 0) (ka : Int32).toNatClampNeg xx)))), (xc_y, .inl (cI, 32, .inl (fun _ => 0))), (xc_z, .inl (cI, 32, .inl (fun _ => 0)))] := hD
                    generalize (upd (fun _ => 0) (ka : Int32).toNatClampNeg xx) = f84_11 at hP hD
                    refine lv_aload_n hx hb d_Ac_tie_85 rfl (lv_at hl 0 rfl) ?_
                    refine va_get (D := (dC, dI)) (ci := 11) (v := .ref xc_y) (C := R_Ac) (T := F_Ac) (N := 8) hx hb hts (fun w h => List.mem_cons_of_mem _ (in_Ac w h)) hown hK.1 hP 0 rfl rfl 6 (by decide) (hts _ (List.mem_cons_of_mem _ mw_397)) (fun _ h9 => h9) hac_y d_Ac_tie_86 ?_
                    refine lv_iload_n hx hb d_Ac_tie_89 rfl (lv_at hl 1 rfl) ?_
                    refine lv_iload hx hb d_Ac_tie_90 (lv_at hl 4 rfl) ?_
                    refine va_iast hx hb hK.1 hP hD hS 3 0 rfl rfl (ir_in2 b4_1 b4_2 (by decide) (by decide)) d_Ac_tie_92 (fun H locs hP hD hS => ?_)
                    have hP : va_P (dC, dI) classes [(oAc, .inr (11, xc)), (xc_what, .inl (cI, 32, .inl f77_10)), (xc_x, .inl (cI, 32, .inl f84_11)), (xc_y, .inl (cI, 32, .inl ((upd (fun _ => 0) (ka : Int32).toNatClampNeg yy)))), (xc_z, .inl (cI, 32, .inl (fun _ => 0)))] H := hP
                    have hD : va_D A [(oAc, .inr (11, xc)), (xc_what, .inl (cI, 32, .inl f77_10)), (xc_x, .inl (cI, 32, .inl f84_11)), (xc_y, .inl (cI, 32, .inl ((upd (fun _ => 0) (ka : Int32).toNatClampNeg yy)))), (xc_z, .inl (cI, 32, .inl (fun _ => 0)))] := hD
                    generalize (upd (fun _ => 0) (ka : Int32).toNatClampNeg yy) = f92_12 at hP hD
                    refine lv_aload_n hx hb d_Ac_tie_93 rfl (lv_at hl 0 rfl) ?_
                    refine va_get (D := (dC, dI)) (ci := 11) (v := .ref xc_z) (C := R_Ac) (T := F_Ac) (N := 8) hx hb hts (fun w h => List.mem_cons_of_mem _ (in_Ac w h)) hown hK.1 hP 0 rfl rfl 7 (by decide) (hts _ (List.mem_cons_of_mem _ mw_398)) (fun _ h9 => h9) hac_z d_Ac_tie_94 ?_
                    refine lv_iload_n hx hb d_Ac_tie_97 rfl (lv_at hl 1 rfl) ?_
                    refine lv_iload hx hb d_Ac_tie_98 (lv_at hl 5 rfl) ?_
                    refine va_iast hx hb hK.1 hP hD hS 4 0 rfl rfl (ir_in2 b4_1 b4_2 (by decide) (by decide)) d_Ac_tie_100 (fun H locs hP hD hS => ?_)
                    have hP : va_P (dC, dI) classes [(oAc, .inr (11, xc)), (xc_what, .inl (cI, 32, .inl f77_10)), (xc_x, .inl (cI, 32, .inl f84_11)), (xc_y, .inl (cI, 32, .inl f92_12)), (xc_z, .inl (cI, 32, .inl ((upd (fun _ => 0) (ka : Int32).toNatClampNeg zz))))] H := hP
                    have hD : va_D A [(oAc, .inr (11, xc)), (xc_what, .inl (cI, 32, .inl f77_10)), (xc_x, .inl (cI, 32, .inl f84_11)), (xc_y, .inl (cI, 32, .inl f92_12)), (xc_z, .inl (cI, 32, .inl ((upd (fun _ => 0) (ka : Int32).toNatClampNeg zz))))] := hD
                    generalize (upd (fun _ => 0) (ka : Int32).toNatClampNeg zz) = f100_13 at hP hD
                    refine lv_iconst (v := 1) hx hb d_Ac_tie_101 (by decide) ?_
                    exact W.zret (v := 1) (ty := .boolean) hx hb hr (by decide) (fun t ht hW => ⟨⟨_, (), rfl, (by unfold fn_Ac_tie; rw [if_neg b4_1, if_neg b4_2, if_neg h8, if_pos h13, if_pos h19, if_neg h25, if_neg h32, if_neg h37, if_neg h54]), trivial⟩, hS.F ht⟩) hS.2.2 d_Ac_tie_102
                  · refine lv_iload hx hb d_Ac_tie_57 (lv_at hl 4 rfl) ?_
                    refine lv_iconst (v := 1) hx hb d_Ac_tie_59 (by decide) ?_
                    refine lv_icmp_lt (tgt := 69) hx hb d_Ac_tie_60 (by decide) (fun h60 => ?_) (fun h60 => ?_)
                    · refine lv_iconst (v := 0) hx hb d_Ac_tie_69 (by decide) ?_
                      exact W.zret (v := 0) (ty := .boolean) hx hb hr (by decide) (fun t ht hW => ⟨⟨_, (), rfl, (by unfold fn_Ac_tie; rw [if_neg b4_1, if_neg b4_2, if_neg h8, if_pos h13, if_pos h19, if_neg h25, if_neg h32, if_neg h37, if_pos h54, if_pos h60]), trivial⟩, hS.F ht⟩) hS.2.2 d_Ac_tie_70
                    · refine lv_iload hx hb d_Ac_tie_63 (lv_at hl 4 rfl) ?_
                      refine lv_iconst (v := 5) hx hb d_Ac_tie_65 (by decide) ?_
                      refine lv_icmp_le (tgt := 71) hx hb d_Ac_tie_66 (by decide) (fun h66 => ?_) (fun h66 => ?_)
                      · refine lv_aload_n hx hb d_Ac_tie_71 rfl (lv_at hl 0 rfl) ?_
                        refine va_get (D := (dC, dI)) (ci := 11) (v := .ref xc_what) (C := R_Ac) (T := F_Ac) (N := 8) hx hb hts (fun w h => List.mem_cons_of_mem _ (in_Ac w h)) hown hK.1 hP 0 rfl rfl 4 (by decide) (hts _ (List.mem_cons_of_mem _ mw_395)) (fun _ h9 => h9) hac_what d_Ac_tie_72 ?_
                        refine lv_iload_n hx hb d_Ac_tie_75 rfl (lv_at hl 1 rfl) ?_
                        refine lv_iload_n hx hb d_Ac_tie_76 rfl (lv_at hl 2 rfl) ?_
                        refine va_iast hx hb hK.1 hP hD hS 1 0 rfl rfl (ir_in2 b4_1 b4_2 (by decide) (by decide)) d_Ac_tie_77 (fun H locs hP hD hS => ?_)
                        have hP : va_P (dC, dI) classes [(oAc, .inr (11, xc)), (xc_what, .inl (cI, 32, .inl ((upd ((fun _ => (-1))) (ka : Int32).toNatClampNeg wh)))), (xc_x, .inl (cI, 32, .inl (fun _ => 0))), (xc_y, .inl (cI, 32, .inl (fun _ => 0))), (xc_z, .inl (cI, 32, .inl (fun _ => 0)))] H := hP
                        have hD : va_D A [(oAc, .inr (11, xc)), (xc_what, .inl (cI, 32, .inl ((upd ((fun _ => (-1))) (ka : Int32).toNatClampNeg wh)))), (xc_x, .inl (cI, 32, .inl (fun _ => 0))), (xc_y, .inl (cI, 32, .inl (fun _ => 0))), (xc_z, .inl (cI, 32, .inl (fun _ => 0)))] := hD
                        generalize (upd ((fun _ => (-1))) (ka : Int32).toNatClampNeg wh) = f77_12 at hP hD
                        refine lv_aload_n hx hb d_Ac_tie_78 rfl (lv_at hl 0 rfl) ?_
                        refine va_get (D := (dC, dI)) (ci := 11) (v := .ref xc_x) (C := R_Ac) (T := F_Ac) (N := 8) hx hb hts (fun w h => List.mem_cons_of_mem _ (in_Ac w h)) hown hK.1 hP 0 rfl rfl 5 (by decide) (hts _ (List.mem_cons_of_mem _ mw_396)) (fun _ h9 => h9) hac_x d_Ac_tie_79 ?_
                        refine lv_iload_n hx hb d_Ac_tie_82 rfl (lv_at hl 1 rfl) ?_
                        refine lv_iload_n hx hb d_Ac_tie_83 rfl (lv_at hl 3 rfl) ?_
                        refine va_iast hx hb hK.1 hP hD hS 2 0 rfl rfl (ir_in2 b4_1 b4_2 (by decide) (by decide)) d_Ac_tie_84 (fun H locs hP hD hS => ?_)
                        have hP : va_P (dC, dI) classes [(oAc, .inr (11, xc)), (xc_what, .inl (cI, 32, .inl f77_12)), (xc_x, .inl (cI, 32, .inl ((upd (fun _ => 0) (ka : Int32).toNatClampNeg xx)))), (xc_y, .inl (cI, 32, .inl (fun _ => 0))), (xc_z, .inl (cI, 32, .inl (fun _ => 0)))] H := hP
                        have hD : va_D A [(oAc, .inr (11, xc)), (xc_what, .inl (cI, 32, .inl f77_12)), (xc_x, .inl (cI, 32, .inl ((upd (fun _ => 0) (ka : Int32).toNatClampNeg xx)))), (xc_y, .inl (cI, 32, .inl (fun _ => 0))), (xc_z, .inl (cI, 32, .inl (fun _ => 0)))] := hD
                        generalize (upd (fun _ => 0) (ka : Int32).toNatClampNeg xx) = f84_13 at hP hD
                        refine lv_aload_n hx hb d_Ac_tie_85 rfl (lv_at hl 0 rfl) ?_
                        refine va_get (D := (dC, dI)) (ci := 11) (v := .ref xc_y) (C := R_Ac) (T := F_Ac) (N := 8) hx hb hts (fun w h => List.mem_cons_of_mem _ (in_Ac w h)) hown hK.1 hP 0 rfl rfl 6 (by decide) (hts _ (List.mem_cons_of_mem _ mw_397)) (fun _ h9 => h9) hac_y d_Ac_tie_86 ?_
                        refine lv_iload_n hx hb d_Ac_tie_89 rfl (lv_at hl 1 rfl) ?_
                        refine lv_iload hx hb d_Ac_tie_90 (lv_at hl 4 rfl) ?_
                        refine va_iast hx hb hK.1 hP hD hS 3 0 rfl rfl (ir_in2 b4_1 b4_2 (by decide) (by decide)) d_Ac_tie_92 (fun H locs hP hD hS => ?_)
                        have hP : va_P (dC, dI) classes [(oAc, .inr (11, xc)), (xc_what, .inl (cI, 32, .inl f77_12)), (xc_x, .inl (cI, 32, .inl f84_13)), (xc_y, .inl (cI, 32, .inl ((upd (fun _ => 0) (ka : Int32).toNatClampNeg yy)))), (xc_z, .inl (cI, 32, .inl (fun _ => 0)))] H := hP
                        have hD : va_D A [(oAc, .inr (11, xc)), (xc_what, .inl (cI, 32, .inl f77_12)), (xc_x, .inl (cI, 32, .inl f84_13)), (xc_y, .inl (cI, 32, .inl ((upd (fun _ => 0) (ka : Int32).toNatClampNeg yy)))), (xc_z, .inl (cI, 32, .inl (fun _ => 0)))] := hD
                        generalize (upd (fun _ => 0) (ka : Int32).toNatClampNeg yy) = f92_14 at hP hD
                        refine lv_aload_n hx hb d_Ac_tie_93 rfl (lv_at hl 0 rfl) ?_
                        refine va_get (D := (dC, dI)) (ci := 11) (v := .ref xc_z) (C := R_Ac) (T := F_Ac) (N := 8) hx hb hts (fun w h => List.mem_cons_of_mem _ (in_Ac w h)) hown hK.1 hP 0 rfl rfl 7 (by decide) (hts _ (List.mem_cons_of_mem _ mw_398)) (fun _ h9 => h9) hac_z d_Ac_tie_94 ?_
                        refine lv_iload_n hx hb d_Ac_tie_97 rfl (lv_at hl 1 rfl) ?_
                        refine lv_iload hx hb d_Ac_tie_98 (lv_at hl 5 rfl) ?_
                        refine va_iast hx hb hK.1 hP hD hS 4 0 rfl rfl (ir_in2 b4_1 b4_2 (by decide) (by decide)) d_Ac_tie_100 (fun H locs hP hD hS => ?_)
                        have hP : va_P (dC, dI) classes [(oAc, .inr (11, xc)), (xc_what, .inl (cI, 32, .inl f77_12)), (xc_x, .inl (cI, 32, .inl f84_13)), (xc_y, .inl (cI, 32, .inl f92_14)), (xc_z, .inl (cI, 32, .inl ((upd (fun _ => 0) (ka : Int32).toNatClampNeg zz))))] H := hP
                        have hD : va_D A [(oAc, .inr (11, xc)), (xc_what, .inl (cI, 32, .inl f77_12)), (xc_x, .inl (cI, 32, .inl f84_13)), (xc_y, .inl (cI, 32, .inl f92_14)), (xc_z, .inl (cI, 32, .inl ((upd (fun _ => 0) (ka : Int32).toNatClampNeg zz))))] := hD
                        generalize (upd (fun _ => 0) (ka : Int32).toNatClampNeg zz) = f100_15 at hP hD
                        refine lv_iconst (v := 1) hx hb d_Ac_tie_101 (by decide) ?_
                        exact W.zret (v := 1) (ty := .boolean) hx hb hr (by decide) (fun t ht hW => ⟨⟨_, (), rfl, (by unfold fn_Ac_tie; rw [if_neg b4_1, if_neg b4_2, if_neg h8, if_pos h13, if_pos h19, if_neg h25, if_neg h32, if_neg h37, if_pos h54, if_neg h60, if_pos h66]), trivial⟩, hS.F ht⟩) hS.2.2 d_Ac_tie_102
                      · refine lv_iconst (v := 0) hx hb d_Ac_tie_69 (by decide) ?_
                        exact W.zret (v := 0) (ty := .boolean) hx hb hr (by decide) (fun t ht hW => ⟨⟨_, (), rfl, (by unfold fn_Ac_tie; rw [if_neg b4_1, if_neg b4_2, if_neg h8, if_pos h13, if_pos h19, if_neg h25, if_neg h32, if_neg h37, if_pos h54, if_neg h60, if_neg h66]), trivial⟩, hS.F ht⟩) hS.2.2 d_Ac_tie_70
                · refine lv_iload hx hb d_Ac_tie_40 (lv_at hl 4 rfl) ?_
                  refine lv_if_lt (tgt := 69) hx hb d_Ac_tie_42 (by decide) (fun h42 => ?_) (fun h42 => ?_)
                  · refine lv_iconst (v := 0) hx hb d_Ac_tie_69 (by decide) ?_
                    exact W.zret (v := 0) (ty := .boolean) hx hb hr (by decide) (fun t ht hW => ⟨⟨_, (), rfl, (by unfold fn_Ac_tie; rw [if_neg b4_1, if_neg b4_2, if_neg h8, if_pos h13, if_pos h19, if_neg h25, if_neg h32, if_pos h37, if_pos h42]), trivial⟩, hS.F ht⟩) hS.2.2 d_Ac_tie_70
                  · refine lv_iload hx hb d_Ac_tie_45 (lv_at hl 4 rfl) ?_
                    refine lv_bipush (v := 10) hx hb d_Ac_tie_47 (by decide) ?_
                    refine lv_icmp_ge (tgt := 69) hx hb d_Ac_tie_49 (by decide) (fun h49 => ?_) (fun h49 => ?_)
                    · refine lv_iconst (v := 0) hx hb d_Ac_tie_69 (by decide) ?_
                      exact W.zret (v := 0) (ty := .boolean) hx hb hr (by decide) (fun t ht hW => ⟨⟨_, (), rfl, (by unfold fn_Ac_tie; rw [if_neg b4_1, if_neg b4_2, if_neg h8, if_pos h13, if_pos h19, if_neg h25, if_neg h32, if_pos h37, if_neg h42, if_pos h49]), trivial⟩, hS.F ht⟩) hS.2.2 d_Ac_tie_70
                    · refine lv_iload_n hx hb d_Ac_tie_52 rfl (lv_at hl 2 rfl) ?_
                      refine lv_iconst (v := 3) hx hb d_Ac_tie_53 (by decide) ?_
                      refine lv_icmp_ne (tgt := 71) hx hb d_Ac_tie_54 (by decide) (fun h54 => ?_) (fun h54 => ?_)
                      · refine lv_aload_n hx hb d_Ac_tie_71 rfl (lv_at hl 0 rfl) ?_
                        refine va_get (D := (dC, dI)) (ci := 11) (v := .ref xc_what) (C := R_Ac) (T := F_Ac) (N := 8) hx hb hts (fun w h => List.mem_cons_of_mem _ (in_Ac w h)) hown hK.1 hP 0 rfl rfl 4 (by decide) (hts _ (List.mem_cons_of_mem _ mw_395)) (fun _ h9 => h9) hac_what d_Ac_tie_72 ?_
                        refine lv_iload_n hx hb d_Ac_tie_75 rfl (lv_at hl 1 rfl) ?_
                        refine lv_iload_n hx hb d_Ac_tie_76 rfl (lv_at hl 2 rfl) ?_
                        refine va_iast hx hb hK.1 hP hD hS 1 0 rfl rfl (ir_in2 b4_1 b4_2 (by decide) (by decide)) d_Ac_tie_77 (fun H locs hP hD hS => ?_)
                        have hP : va_P (dC, dI) classes [(oAc, .inr (11, xc)), (xc_what, .inl (cI, 32, .inl ((upd ((fun _ => (-1))) (ka : Int32).toNatClampNeg wh)))), (xc_x, .inl (cI, 32, .inl (fun _ => 0))), (xc_y, .inl (cI, 32, .inl (fun _ => 0))), (xc_z, .inl (cI, 32, .inl (fun _ => 0)))] H := hP
                        have hD : va_D A [(oAc, .inr (11, xc)), (xc_what, .inl (cI, 32, .inl ((upd ((fun _ => (-1))) (ka : Int32).toNatClampNeg wh)))), (xc_x, .inl (cI, 32, .inl (fun _ => 0))), (xc_y, .inl (cI, 32, .inl (fun _ => 0))), (xc_z, .inl (cI, 32, .inl (fun _ => 0)))] := hD
                        generalize (upd ((fun _ => (-1))) (ka : Int32).toNatClampNeg wh) = f77_12 at hP hD
                        refine lv_aload_n hx hb d_Ac_tie_78 rfl (lv_at hl 0 rfl) ?_
                        refine va_get (D := (dC, dI)) (ci := 11) (v := .ref xc_x) (C := R_Ac) (T := F_Ac) (N := 8) hx hb hts (fun w h => List.mem_cons_of_mem _ (in_Ac w h)) hown hK.1 hP 0 rfl rfl 5 (by decide) (hts _ (List.mem_cons_of_mem _ mw_396)) (fun _ h9 => h9) hac_x d_Ac_tie_79 ?_
                        refine lv_iload_n hx hb d_Ac_tie_82 rfl (lv_at hl 1 rfl) ?_
                        refine lv_iload_n hx hb d_Ac_tie_83 rfl (lv_at hl 3 rfl) ?_
                        refine va_iast hx hb hK.1 hP hD hS 2 0 rfl rfl (ir_in2 b4_1 b4_2 (by decide) (by decide)) d_Ac_tie_84 (fun H locs hP hD hS => ?_)
                        have hP : va_P (dC, dI) classes [(oAc, .inr (11, xc)), (xc_what, .inl (cI, 32, .inl f77_12)), (xc_x, .inl (cI, 32, .inl ((upd (fun _ => 0) (ka : Int32).toNatClampNeg xx)))), (xc_y, .inl (cI, 32, .inl (fun _ => 0))), (xc_z, .inl (cI, 32, .inl (fun _ => 0)))] H := hP
                        have hD : va_D A [(oAc, .inr (11, xc)), (xc_what, .inl (cI, 32, .inl f77_12)), (xc_x, .inl (cI, 32, .inl ((upd (fun _ => 0) (ka : Int32).toNatClampNeg xx)))), (xc_y, .inl (cI, 32, .inl (fun _ => 0))), (xc_z, .inl (cI, 32, .inl (fun _ => 0)))] := hD
                        generalize (upd (fun _ => 0) (ka : Int32).toNatClampNeg xx) = f84_13 at hP hD
                        refine lv_aload_n hx hb d_Ac_tie_85 rfl (lv_at hl 0 rfl) ?_
                        refine va_get (D := (dC, dI)) (ci := 11) (v := .ref xc_y) (C := R_Ac) (T := F_Ac) (N := 8) hx hb hts (fun w h => List.mem_cons_of_mem _ (in_Ac w h)) hown hK.1 hP 0 rfl rfl 6 (by decide) (hts _ (List.mem_cons_of_mem _ mw_397)) (fun _ h9 => h9) hac_y d_Ac_tie_86 ?_
                        refine lv_iload_n hx hb d_Ac_tie_89 rfl (lv_at hl 1 rfl) ?_
                        refine lv_iload hx hb d_Ac_tie_90 (lv_at hl 4 rfl) ?_
                        refine va_iast hx hb hK.1 hP hD hS 3 0 rfl rfl (ir_in2 b4_1 b4_2 (by decide) (by decide)) d_Ac_tie_92 (fun H locs hP hD hS => ?_)
                        have hP : va_P (dC, dI) classes [(oAc, .inr (11, xc)), (xc_what, .inl (cI, 32, .inl f77_12)), (xc_x, .inl (cI, 32, .inl f84_13)), (xc_y, .inl (cI, 32, .inl ((upd (fun _ => 0) (ka : Int32).toNatClampNeg yy)))), (xc_z, .inl (cI, 32, .inl (fun _ => 0)))] H := hP
                        have hD : va_D A [(oAc, .inr (11, xc)), (xc_what, .inl (cI, 32, .inl f77_12)), (xc_x, .inl (cI, 32, .inl f84_13)), (xc_y, .inl (cI, 32, .inl ((upd (fun _ => 0) (ka : Int32).toNatClampNeg yy)))), (xc_z, .inl (cI, 32, .inl (fun _ => 0)))] := hD
                        generalize (upd (fun _ => 0) (ka : Int32).toNatClampNeg yy) = f92_14 at hP hD
                        refine lv_aload_n hx hb d_Ac_tie_93 rfl (lv_at hl 0 rfl) ?_
                        refine va_get (D := (dC, dI)) (ci := 11) (v := .ref xc_z) (C := R_Ac) (T := F_Ac) (N := 8) hx hb hts (fun w h => List.mem_cons_of_mem _ (in_Ac w h)) hown hK.1 hP 0 rfl rfl 7 (by decide) (hts _ (List.mem_cons_of_mem _ mw_398)) (fun _ h9 => h9) hac_z d_Ac_tie_94 ?_
                        refine lv_iload_n hx hb d_Ac_tie_97 rfl (lv_at hl 1 rfl) ?_
                        refine lv_iload hx hb d_Ac_tie_98 (lv_at hl 5 rfl) ?_
                        refine va_iast hx hb hK.1 hP hD hS 4 0 rfl rfl (ir_in2 b4_1 b4_2 (by decide) (by decide)) d_Ac_tie_100 (fun H locs hP hD hS => ?_)
                        have hP : va_P (dC, dI) classes [(oAc, .inr (11, xc)), (xc_what, .inl (cI, 32, .inl f77_12)), (xc_x, .inl (cI, 32, .inl f84_13)), (xc_y, .inl (cI, 32, .inl f92_14)), (xc_z, .inl (cI, 32, .inl ((upd (fun _ => 0) (ka : Int32).toNatClampNeg zz))))] H := hP
                        have hD : va_D A [(oAc, .inr (11, xc)), (xc_what, .inl (cI, 32, .inl f77_12)), (xc_x, .inl (cI, 32, .inl f84_13)), (xc_y, .inl (cI, 32, .inl f92_14)), (xc_z, .inl (cI, 32, .inl ((upd (fun _ => 0) (ka : Int32).toNatClampNeg zz))))] := hD
                        generalize (upd (fun _ => 0) (ka : Int32).toNatClampNeg zz) = f100_15 at hP hD
                        refine lv_iconst (v := 1) hx hb d_Ac_tie_101 (by decide) ?_
                        exact W.zret (v := 1) (ty := .boolean) hx hb hr (by decide) (fun t ht hW => ⟨⟨_, (), rfl, (by unfold fn_Ac_tie; rw [if_neg b4_1, if_neg b4_2, if_neg h8, if_pos h13, if_pos h19, if_neg h25, if_neg h32, if_pos h37, if_neg h42, if_neg h49, if_neg h54]), trivial⟩, hS.F ht⟩) hS.2.2 d_Ac_tie_102
                      · refine lv_iload hx hb d_Ac_tie_57 (lv_at hl 4 rfl) ?_
                        refine lv_iconst (v := 1) hx hb d_Ac_tie_59 (by decide) ?_
                        refine lv_icmp_lt (tgt := 69) hx hb d_Ac_tie_60 (by decide) (fun h60 => ?_) (fun h60 => ?_)
                        · refine lv_iconst (v := 0) hx hb d_Ac_tie_69 (by decide) ?_
                          exact W.zret (v := 0) (ty := .boolean) hx hb hr (by decide) (fun t ht hW => ⟨⟨_, (), rfl, (by unfold fn_Ac_tie; rw [if_neg b4_1, if_neg b4_2, if_neg h8, if_pos h13, if_pos h19, if_neg h25, if_neg h32, if_pos h37, if_neg h42, if_neg h49, if_pos h54, if_pos h60]), trivial⟩, hS.F ht⟩) hS.2.2 d_Ac_tie_70
                        · refine lv_iload hx hb d_Ac_tie_63 (lv_at hl 4 rfl) ?_
                          refine lv_iconst (v := 5) hx hb d_Ac_tie_65 (by decide) ?_
                          refine lv_icmp_le (tgt := 71) hx hb d_Ac_tie_66 (by decide) (fun h66 => ?_) (fun h66 => ?_)
                          · refine lv_aload_n hx hb d_Ac_tie_71 rfl (lv_at hl 0 rfl) ?_
                            refine va_get (D := (dC, dI)) (ci := 11) (v := .ref xc_what) (C := R_Ac) (T := F_Ac) (N := 8) hx hb hts (fun w h => List.mem_cons_of_mem _ (in_Ac w h)) hown hK.1 hP 0 rfl rfl 4 (by decide) (hts _ (List.mem_cons_of_mem _ mw_395)) (fun _ h9 => h9) hac_what d_Ac_tie_72 ?_
                            refine lv_iload_n hx hb d_Ac_tie_75 rfl (lv_at hl 1 rfl) ?_
                            refine lv_iload_n hx hb d_Ac_tie_76 rfl (lv_at hl 2 rfl) ?_
                            refine va_iast hx hb hK.1 hP hD hS 1 0 rfl rfl (ir_in2 b4_1 b4_2 (by decide) (by decide)) d_Ac_tie_77 (fun H locs hP hD hS => ?_)
                            have hP : va_P (dC, dI) classes [(oAc, .inr (11, xc)), (xc_what, .inl (cI, 32, .inl ((upd ((fun _ => (-1))) (ka : Int32).toNatClampNeg wh)))), (xc_x, .inl (cI, 32, .inl (fun _ => 0))), (xc_y, .inl (cI, 32, .inl (fun _ => 0))), (xc_z, .inl (cI, 32, .inl (fun _ => 0)))] H := hP
                            have hD : va_D A [(oAc, .inr (11, xc)), (xc_what, .inl (cI, 32, .inl ((upd ((fun _ => (-1))) (ka : Int32).toNatClampNeg wh)))), (xc_x, .inl (cI, 32, .inl (fun _ => 0))), (xc_y, .inl (cI, 32, .inl (fun _ => 0))), (xc_z, .inl (cI, 32, .inl (fun _ => 0)))] := hD
                            generalize (upd ((fun _ => (-1))) (ka : Int32).toNatClampNeg wh) = f77_14 at hP hD
                            refine lv_aload_n hx hb d_Ac_tie_78 rfl (lv_at hl 0 rfl) ?_
                            refine va_get (D := (dC, dI)) (ci := 11) (v := .ref xc_x) (C := R_Ac) (T := F_Ac) (N := 8) hx hb hts (fun w h => List.mem_cons_of_mem _ (in_Ac w h)) hown hK.1 hP 0 rfl rfl 5 (by decide) (hts _ (List.mem_cons_of_mem _ mw_396)) (fun _ h9 => h9) hac_x d_Ac_tie_79 ?_
                            refine lv_iload_n hx hb d_Ac_tie_82 rfl (lv_at hl 1 rfl) ?_
                            refine lv_iload_n hx hb d_Ac_tie_83 rfl (lv_at hl 3 rfl) ?_
                            refine va_iast hx hb hK.1 hP hD hS 2 0 rfl rfl (ir_in2 b4_1 b4_2 (by decide) (by decide)) d_Ac_tie_84 (fun H locs hP hD hS => ?_)
                            have hP : va_P (dC, dI) classes [(oAc, .inr (11, xc)), (xc_what, .inl (cI, 32, .inl f77_14)), (xc_x, .inl (cI, 32, .inl ((upd (fun _ => 0) (ka : Int32).toNatClampNeg xx)))), (xc_y, .inl (cI, 32, .inl (fun _ => 0))), (xc_z, .inl (cI, 32, .inl (fun _ => 0)))] H := hP
                            have hD : va_D A [(oAc, .inr (11, xc)), (xc_what, .inl (cI, 32, .inl f77_14)), (xc_x, .inl (cI, 32, .inl ((upd (fun _ => 0) (ka : Int32).toNatClampNeg xx)))), (xc_y, .inl (cI, 32, .inl (fun _ => 0))), (xc_z, .inl (cI, 32, .inl (fun _ => 0)))] := hD
                            generalize (upd (fun _ => 0) (ka : Int32).toNatClampNeg xx) = f84_15 at hP hD
                            refine lv_aload_n hx hb d_Ac_tie_85 rfl (lv_at hl 0 rfl) ?_
                            refine va_get (D := (dC, dI)) (ci := 11) (v := .ref xc_y) (C := R_Ac) (T := F_Ac) (N := 8) hx hb hts (fun w h => List.mem_cons_of_mem _ (in_Ac w h)) hown hK.1 hP 0 rfl rfl 6 (by decide) (hts _ (List.mem_cons_of_mem _ mw_397)) (fun _ h9 => h9) hac_y d_Ac_tie_86 ?_
                            refine lv_iload_n hx hb d_Ac_tie_89 rfl (lv_at hl 1 rfl) ?_
                            refine lv_iload hx hb d_Ac_tie_90 (lv_at hl 4 rfl) ?_
                            refine va_iast hx hb hK.1 hP hD hS 3 0 rfl rfl (ir_in2 b4_1 b4_2 (by decide) (by decide)) d_Ac_tie_92 (fun H locs hP hD hS => ?_)
                            have hP : va_P (dC, dI) classes [(oAc, .inr (11, xc)), (xc_what, .inl (cI, 32, .inl f77_14)), (xc_x, .inl (cI, 32, .inl f84_15)), (xc_y, .inl (cI, 32, .inl ((upd (fun _ => 0) (ka : Int32).toNatClampNeg yy)))), (xc_z, .inl (cI, 32, .inl (fun _ => 0)))] H := hP
                            have hD : va_D A [(oAc, .inr (11, xc)), (xc_what, .inl (cI, 32, .inl f77_14)), (xc_x, .inl (cI, 32, .inl f84_15)), (xc_y, .inl (cI, 32, .inl ((upd (fun _ => 0) (ka : Int32).toNatClampNeg yy)))), (xc_z, .inl (cI, 32, .inl (fun _ => 0)))] := hD
                            generalize (upd (fun _ => 0) (ka : Int32).toNatClampNeg yy) = f92_16 at hP hD
                            refine lv_aload_n hx hb d_Ac_tie_93 rfl (lv_at hl 0 rfl) ?_
                            refine va_get (D := (dC, dI)) (ci := 11) (v := .ref xc_z) (C := R_Ac) (T := F_Ac) (N := 8) hx hb hts (fun w h => List.mem_cons_of_mem _ (in_Ac w h)) hown hK.1 hP 0 rfl rfl 7 (by decide) (hts _ (List.mem_cons_of_mem _ mw_398)) (fun _ h9 => h9) hac_z d_Ac_tie_94 ?_
                            refine lv_iload_n hx hb d_Ac_tie_97 rfl (lv_at hl 1 rfl) ?_
                            refine lv_iload hx hb d_Ac_tie_98 (lv_at hl 5 rfl) ?_
                            refine va_iast hx hb hK.1 hP hD hS 4 0 rfl rfl (ir_in2 b4_1 b4_2 (by decide) (by decide)) d_Ac_tie_100 (fun H locs hP hD hS => ?_)
                            have hP : va_P (dC, dI) classes [(oAc, .inr (11, xc)), (xc_what, .inl (cI, 32, .inl f77_14)), (xc_x, .inl (cI, 32, .inl f84_15)), (xc_y, .inl (cI, 32, .inl f92_16)), (xc_z, .inl (cI, 32, .inl ((upd (fun _ => 0) (ka : Int32).toNatClampNeg zz))))] H := hP
                            have hD : va_D A [(oAc, .inr (11, xc)), (xc_what, .inl (cI, 32, .inl f77_14)), (xc_x, .inl (cI, 32, .inl f84_15)), (xc_y, .inl (cI, 32, .inl f92_16)), (xc_z, .inl (cI, 32, .inl ((upd (fun _ => 0) (ka : Int32).toNatClampNeg zz))))] := hD
                            generalize (upd (fun _ => 0) (ka : Int32).toNatClampNeg zz) = f100_17 at hP hD
                            refine lv_iconst (v := 1) hx hb d_Ac_tie_101 (by decide) ?_
                            exact W.zret (v := 1) (ty := .boolean) hx hb hr (by decide) (fun t ht hW => ⟨⟨_, (), rfl, (by unfold fn_Ac_tie; rw [if_neg b4_1, if_neg b4_2, if_neg h8, if_pos h13, if_pos h19, if_neg h25, if_neg h32, if_pos h37, if_neg h42, if_neg h49, if_pos h54, if_neg h60, if_pos h66]), trivial⟩, hS.F ht⟩) hS.2.2 d_Ac_tie_102
                          · refine lv_iconst (v := 0) hx hb d_Ac_tie_69 (by decide) ?_
                            exact W.zret (v := 0) (ty := .boolean) hx hb hr (by decide) (fun t ht hW => ⟨⟨_, (), rfl, (by unfold fn_Ac_tie; rw [if_neg b4_1, if_neg b4_2, if_neg h8, if_pos h13, if_pos h19, if_neg h25, if_neg h32, if_pos h37, if_neg h42, if_neg h49, if_pos h54, if_neg h60, if_neg h66]), trivial⟩, hS.F ht⟩) hS.2.2 d_Ac_tie_70
        · refine lv_iconst (v := 0) hx hb d_Ac_tie_16 (by decide) ?_
          exact W.zret (v := 0) (ty := .boolean) hx hb hr (by decide) (fun t ht hW => ⟨⟨_, (), rfl, (by unfold fn_Ac_tie; rw [if_neg b4_1, if_neg b4_2, if_neg h8, if_neg h13]), trivial⟩, hS.F ht⟩) hS.2.2 d_Ac_tie_17
abbrev t_Bh_bind_14 : List UInt8 := 172 :: []
abbrev t_Bh_bind_11 : List UInt8 := 182 :: 0 :: 250 :: t_Bh_bind_14
abbrev t_Bh_bind_9 : List UInt8 := 21 :: 5 :: t_Bh_bind_11
abbrev t_Bh_bind_7 : List UInt8 := 21 :: 4 :: t_Bh_bind_9
abbrev t_Bh_bind_6 : List UInt8 := 29 :: t_Bh_bind_7
abbrev t_Bh_bind_5 : List UInt8 := 28 :: t_Bh_bind_6
abbrev t_Bh_bind_4 : List UInt8 := 27 :: t_Bh_bind_5
abbrev t_Bh_bind_1 : List UInt8 := 180 :: 0 :: 53 :: t_Bh_bind_4
abbrev t_Bh_bind_0 : List UInt8 := 42 :: t_Bh_bind_1
theorem a_Bh_bind_0 : dk_at b_Bh_bind 0 t_Bh_bind_0 := dk_start (by decide +kernel)
theorem a_Bh_bind_1 : dk_at b_Bh_bind 1 t_Bh_bind_1 := dk_go 1 a_Bh_bind_0 rfl
theorem a_Bh_bind_4 : dk_at b_Bh_bind 4 t_Bh_bind_4 := dk_go 3 a_Bh_bind_1 rfl
theorem a_Bh_bind_5 : dk_at b_Bh_bind 5 t_Bh_bind_5 := dk_go 1 a_Bh_bind_4 rfl
theorem a_Bh_bind_6 : dk_at b_Bh_bind 6 t_Bh_bind_6 := dk_go 1 a_Bh_bind_5 rfl
theorem a_Bh_bind_7 : dk_at b_Bh_bind 7 t_Bh_bind_7 := dk_go 1 a_Bh_bind_6 rfl
theorem a_Bh_bind_9 : dk_at b_Bh_bind 9 t_Bh_bind_9 := dk_go 2 a_Bh_bind_7 rfl
theorem a_Bh_bind_11 : dk_at b_Bh_bind 11 t_Bh_bind_11 := dk_go 2 a_Bh_bind_9 rfl
theorem a_Bh_bind_14 : dk_at b_Bh_bind 14 t_Bh_bind_14 := dk_go 3 a_Bh_bind_11 rfl
theorem d_Bh_bind_0 : decode b_Bh_bind 0 = .ok (.aload_n 0, 1) := dk_0 a_Bh_bind_0 (dko_42 _)
theorem d_Bh_bind_1 : decode b_Bh_bind 1 = .ok (.getfield 53, 3) := dk_U2 a_Bh_bind_1 (dko_180 _) rfl
theorem d_Bh_bind_4 : decode b_Bh_bind 4 = .ok (.iload_n 1, 1) := dk_0 a_Bh_bind_4 (dko_27 _)
theorem d_Bh_bind_5 : decode b_Bh_bind 5 = .ok (.iload_n 2, 1) := dk_0 a_Bh_bind_5 (dko_28 _)
theorem d_Bh_bind_6 : decode b_Bh_bind 6 = .ok (.iload_n 3, 1) := dk_0 a_Bh_bind_6 (dko_29 _)
theorem d_Bh_bind_7 : decode b_Bh_bind 7 = .ok (.iload 4, 2) := dk_U1 a_Bh_bind_7 (dko_21 _) rfl
theorem d_Bh_bind_9 : decode b_Bh_bind 9 = .ok (.iload 5, 2) := dk_U1 a_Bh_bind_9 (dko_21 _) rfl
theorem d_Bh_bind_11 : decode b_Bh_bind 11 = .ok (.invokevirtual 250, 3) := dk_U2 a_Bh_bind_11 (dko_182 _) rfl
theorem d_Bh_bind_14 : decode b_Bh_bind 14 = .ok (.ireturn, 1) := dk_0 a_Bh_bind_14 (dko_172 _)
set_option maxHeartbeats 4000000 in
set_option maxRecDepth 100000 in
theorem c_Bh_bind (l : Launch) (dC : Nat → ClassId) (dI : Nat → Nat → Nat) (cI cB cZ cJ : ClassId) (ka : Int32) (wh : Int32) (xx : Int32) (yy : Int32) (zz : Int32) (oB : Nat) (oAc : Nat) (xc_what : Nat) (xc_x : Nat) (xc_y : Nat) (xc_z : Nat) (xb : List Value) (hb_acts : fx xb 5 (.ref oAc)) (xc : List Value) (hac_what : fx xc 4 (.ref xc_what)) (hac_x : fx xc 5 (.ref xc_x)) (hac_y : fx xc 6 (.ref xc_y)) (hac_z : fx xc 7 (.ref xc_z)) (sz : Nat) : Met l y_Bh_bind w_Bh_bind ({ frames := 2, cells := 0, slots := 0, locals := 45 }) (va_Pc [.ref oB, .int ka, .int wh, .int xx, .int yy, .int zz] (PW dC dI cI cB cZ cJ [(oB, .inr (0, xb)), (oAc, .inr (11, xc)), (xc_what, .inl (cI, 32, .inl ((fun _ => (-1))))), (xc_x, .inl (cI, 32, .inl (fun _ => 0))), (xc_y, .inl (cI, 32, .inl (fun _ => 0))), (xc_z, .inl (cI, 32, .inl (fun _ => 0)))] sz)) (va_Qi (fun (r : Int32) (_ : Unit) => r = fn_Ac_tie ka wh xx yy zz) (fun _ _ => True) (va_A [(oB, .inr (0, xb)), (oAc, .inr (11, xc)), (xc_what, .inl (cI, 32, .inl ((fun _ => (-1))))), (xc_x, .inl (cI, 32, .inl (fun _ => 0))), (xc_y, .inl (cI, 32, .inl (fun _ => 0))), (xc_z, .inl (cI, 32, .inl (fun _ => 0)))] sz)) 0 0 (va_A [(oB, .inr (0, xb)), (oAc, .inr (11, xc)), (xc_what, .inl (cI, 32, .inl ((fun _ => (-1))))), (xc_x, .inl (cI, 32, .inl (fun _ => 0))), (xc_y, .inl (cI, 32, .inl (fun _ => 0))), (xc_z, .inl (cI, 32, .inl (fun _ => 0)))] sz) := by
  refine Met.ofW (cc := b_Bh_bind) (maxL := 6) (ret := (some .boolean)) (by decide) rfl ?_
  intro p e s m args below meth c s₁ B hml hv
  obtain ⟨rfl, hsz, hP, hK, hD⟩ := hv
  have hx := B.exec
  have hb := B.bytes
  have hr := B.returns
  have hts := atoms_spec (ws := w_Bh_bind) B.pre
  have hown : s.vm.findClass R_Bh = some m.cls := findClass_of_methodNamed B.named
  have hlocks := B.notSynchronized
  subst hsz
  have hD := hD.self (sz := s.heap.size)
  generalize hAe : va_A [(oB, .inr (0, xb)), (oAc, .inr (11, xc)), (xc_what, .inl (cI, 32, .inl ((fun _ => (-1))))), (xc_x, .inl (cI, 32, .inl (fun _ => 0))), (xc_y, .inl (cI, 32, .inl (fun _ => 0))), (xc_z, .inl (cI, 32, .inl (fun _ => 0)))] s.heap.size = A at hD ⊢
  have hA : ∀ q : Nat, s.heap.size ≤ q → A q := fun q h => by rw [← hAe]; exact Or.inr h
  have hS : va_S A s.heap s.heap [] := va_S.rf
  have hP : va_P (dC, dI) classes [(oB, .inr (0, xb)), (oAc, .inr (11, xc)), (xc_what, .inl (cI, 32, .inl ((fun _ => (-1))))), (xc_x, .inl (cI, 32, .inl (fun _ => 0))), (xc_y, .inl (cI, 32, .inl (fun _ => 0))), (xc_z, .inl (cI, 32, .inl (fun _ => 0)))] s.heap := hP
  have hl := lv_entry ([.ref oB, .int ka, .int wh, .int xx, .int yy, .int zz]) (n := 6) (Nat.le_of_ble_eq_true rfl)
  rw [lg_entry_eq]
  generalize (lg_sl ([.ref oB, .int ka, .int wh, .int xx, .int yy, .int zz]) ++ List.replicate (6 - (lg_sl ([.ref oB, .int ka, .int wh, .int xx, .int yy, .int zz])).length) Slot.unset).toArray = ls at hl ⊢
  have hl : lv_has ls 6 [(0, .ref oB), (1, .int ka), (2, .int wh), (3, .int xx), (4, .int yy), (5, .int zz)] := hl
  refine lv_aload_n hx hb d_Bh_bind_0 rfl (lv_at hl 0 rfl) ?_
  refine va_get (D := (dC, dI)) (ci := 0) (v := .ref oAc) (C := R_Bh) (T := F_Bh) (N := 16) hx hb hts (fun w h => List.mem_cons_of_mem _ (in_Bh w h)) hown hK.1 hP 0 rfl rfl 5 (by decide) (hts _ (List.mem_cons_of_mem _ mw_689)) (fun _ h9 => h9) hb_acts d_Bh_bind_1 ?_
  refine lv_iload_n hx hb d_Bh_bind_4 rfl (lv_at hl 1 rfl) ?_
  refine lv_iload_n hx hb d_Bh_bind_5 rfl (lv_at hl 2 rfl) ?_
  refine lv_iload_n hx hb d_Bh_bind_6 rfl (lv_at hl 3 rfl) ?_
  refine lv_iload hx hb d_Bh_bind_7 (lv_at hl 4 rfl) ?_
  refine lv_iload hx hb d_Bh_bind_9 (lv_at hl 5 rfl) ?_
  have hPc := hP.sub (ws' := [(oAc, .inr (11, xc)), (xc_what, .inl (cI, 32, .inl ((fun _ => (-1))))), (xc_x, .inl (cI, 32, .inl (fun _ => 0))), (xc_y, .inl (cI, 32, .inl (fun _ => 0))), (xc_z, .inl (cI, 32, .inl (fun _ => 0)))]) [1, 2, 3, 4, 5] rfl
  have hDc := hD.sub (ws' := [(oAc, .inr (11, xc)), (xc_what, .inl (cI, 32, .inl ((fun _ => (-1))))), (xc_x, .inl (cI, 32, .inl (fun _ => 0))), (xc_y, .inl (cI, 32, .inl (fun _ => 0))), (xc_z, .inl (cI, 32, .inl (fun _ => 0)))]) [1, 2, 3, 4, 5] (by decide) rfl
  have hFc := va_free (wc := [(oAc, .inr (11, xc)), (xc_what, .inl (cI, 32, .inl ((fun _ => (-1))))), (xc_x, .inl (cI, 32, .inl (fun _ => 0))), (xc_y, .inl (cI, 32, .inl (fun _ => 0))), (xc_z, .inl (cI, 32, .inl (fun _ => 0)))]) hD hS hA [1, 2, 3, 4, 5] rfl
  refine va_calli (va_runV (C := R_Ac) (As := [.int ka, .int wh, .int xx, .int yy, .int zz]) (rest := []) ⟨hx, hb, hml, hown, hts⟩ (c_Ac_tie l dC dI cI cB cZ cJ ka wh xx yy zz oAc xc_what xc_x xc_y xc_z xc hac_what hac_x hac_y hac_z s.heap.size) (cwV 5 hts (tb_V mw_1174 mw_1175 mw_1176 mw_9 mw_1177) rfl rfl rfl ⟨rfl, by decide +kernel, by decide +kernel, by decide +kernel⟩ ⟨(Nat.le_of_ble_eq_true rfl), (Nat.le_of_ble_eq_true rfl)⟩) ⟨pw_blind, va_recv (q := (R_Ac, F_Ac, 8)) hK.1 hP (ci := 11) (q0 := 1) rfl rfl, pw_pre hPc hK hDc⟩ rfl rfl hl.1 rfl (lv_room (Nat.le_of_ble_eq_true rfl)) d_Bh_bind_11 ⟨(Nat.le_of_ble_eq_true rfl), (Nat.le_of_ble_eq_true rfl)⟩) hS (fun q _ h => hFc q h) hFc (fun r u t H locs ht hvm hw hB hz1 hk1 hS => ?_)
  obtain ⟨hP, hD⟩ := va_join (wr := [(oB, .inr (0, xb))]) (w1 := []) hP hD [1, 2, 3, 4, 5] [0] rfl rfl (by decide) (by decide) hk1 hFc wn_P wn_D
  have hP : va_P (dC, dI) classes [(oB, .inr (0, xb))] H := hP
  have hD : va_D A [(oB, .inr (0, xb))] := hD
  obtain rfl : r = (fn_Ac_tie ka wh xx yy zz) := hw
  exact W.zret (v := (fn_Ac_tie ka wh xx yy zz)) (ty := .boolean) hx hb hr (nz_01 (by unfold fn_Ac_tie; repeat' (first | exact z1_0 | exact z1_1 | refine z1_ite ?_ ?_))) (fun t ht hW => ⟨⟨_, (), rfl, (by first | rfl | decide), trivial⟩, hS.F ht⟩) hS.2.2 d_Bh_bind_14
abbrev t_Ac_isBound_122 : List UInt8 := 172 :: []
abbrev t_Ac_isBound_121 : List UInt8 := 3 :: t_Ac_isBound_122
abbrev t_Ac_isBound_120 : List UInt8 := 172 :: t_Ac_isBound_121
abbrev t_Ac_isBound_117 : List UInt8 := 182 :: 0 :: 61 :: t_Ac_isBound_120
abbrev t_Ac_isBound_116 : List UInt8 := 46 :: t_Ac_isBound_117
abbrev t_Ac_isBound_115 : List UInt8 := 27 :: t_Ac_isBound_116
abbrev t_Ac_isBound_112 : List UInt8 := 180 :: 0 :: 22 :: t_Ac_isBound_115
abbrev t_Ac_isBound_111 : List UInt8 := 42 :: t_Ac_isBound_112
abbrev t_Ac_isBound_108 : List UInt8 := 180 :: 0 :: 31 :: t_Ac_isBound_111
abbrev t_Ac_isBound_107 : List UInt8 := 42 :: t_Ac_isBound_108
abbrev t_Ac_isBound_106 : List UInt8 := 172 :: t_Ac_isBound_107
abbrev t_Ac_isBound_103 : List UInt8 := 182 :: 0 :: 58 :: t_Ac_isBound_106
abbrev t_Ac_isBound_102 : List UInt8 := 46 :: t_Ac_isBound_103
abbrev t_Ac_isBound_101 : List UInt8 := 27 :: t_Ac_isBound_102
abbrev t_Ac_isBound_98 : List UInt8 := 180 :: 0 :: 22 :: t_Ac_isBound_101
abbrev t_Ac_isBound_97 : List UInt8 := 42 :: t_Ac_isBound_98
abbrev t_Ac_isBound_94 : List UInt8 := 180 :: 0 :: 31 :: t_Ac_isBound_97
abbrev t_Ac_isBound_93 : List UInt8 := 42 :: t_Ac_isBound_94
abbrev t_Ac_isBound_92 : List UInt8 := 172 :: t_Ac_isBound_93
abbrev t_Ac_isBound_91 : List UInt8 := 3 :: t_Ac_isBound_92
abbrev t_Ac_isBound_88 : List UInt8 := 167 :: 0 :: 4 :: t_Ac_isBound_91
abbrev t_Ac_isBound_87 : List UInt8 := 4 :: t_Ac_isBound_88
abbrev t_Ac_isBound_84 : List UInt8 := 159 :: 0 :: 7 :: t_Ac_isBound_87
abbrev t_Ac_isBound_83 : List UInt8 := 46 :: t_Ac_isBound_84
abbrev t_Ac_isBound_82 : List UInt8 := 27 :: t_Ac_isBound_83
abbrev t_Ac_isBound_79 : List UInt8 := 180 :: 0 :: 25 :: t_Ac_isBound_82
abbrev t_Ac_isBound_78 : List UInt8 := 42 :: t_Ac_isBound_79
abbrev t_Ac_isBound_77 : List UInt8 := 46 :: t_Ac_isBound_78
abbrev t_Ac_isBound_76 : List UInt8 := 27 :: t_Ac_isBound_77
abbrev t_Ac_isBound_73 : List UInt8 := 180 :: 0 :: 22 :: t_Ac_isBound_76
abbrev t_Ac_isBound_72 : List UInt8 := 42 :: t_Ac_isBound_73
abbrev t_Ac_isBound_69 : List UInt8 := 153 :: 0 :: 22 :: t_Ac_isBound_72
abbrev t_Ac_isBound_66 : List UInt8 := 182 :: 0 :: 53 :: t_Ac_isBound_69
abbrev t_Ac_isBound_65 : List UInt8 := 46 :: t_Ac_isBound_66
abbrev t_Ac_isBound_64 : List UInt8 := 27 :: t_Ac_isBound_65
abbrev t_Ac_isBound_61 : List UInt8 := 180 :: 0 :: 25 :: t_Ac_isBound_64
abbrev t_Ac_isBound_60 : List UInt8 := 42 :: t_Ac_isBound_61
abbrev t_Ac_isBound_57 : List UInt8 := 180 :: 0 :: 31 :: t_Ac_isBound_60
abbrev t_Ac_isBound_56 : List UInt8 := 42 :: t_Ac_isBound_57
abbrev t_Ac_isBound_53 : List UInt8 := 153 :: 0 :: 38 :: t_Ac_isBound_56
abbrev t_Ac_isBound_50 : List UInt8 := 182 :: 0 :: 53 :: t_Ac_isBound_53
abbrev t_Ac_isBound_49 : List UInt8 := 46 :: t_Ac_isBound_50
abbrev t_Ac_isBound_48 : List UInt8 := 27 :: t_Ac_isBound_49
abbrev t_Ac_isBound_45 : List UInt8 := 180 :: 0 :: 22 :: t_Ac_isBound_48
abbrev t_Ac_isBound_44 : List UInt8 := 42 :: t_Ac_isBound_45
abbrev t_Ac_isBound_41 : List UInt8 := 180 :: 0 :: 31 :: t_Ac_isBound_44
abbrev t_Ac_isBound_40 : List UInt8 := 42 :: t_Ac_isBound_41
abbrev t_Ac_isBound_6 : List UInt8 := 170 :: 0 :: 0 :: 0 :: 0 :: 115 :: 0 :: 0 :: 0 :: 0 :: 0 :: 0 :: 0 :: 4 :: 0 :: 0 :: 0 :: 34 :: 0 :: 0 :: 0 :: 34 :: 0 :: 0 :: 0 :: 87 :: 0 :: 0 :: 0 :: 101 :: 0 :: 0 :: 0 :: 101 :: t_Ac_isBound_40
abbrev t_Ac_isBound_5 : List UInt8 := 46 :: t_Ac_isBound_6
abbrev t_Ac_isBound_4 : List UInt8 := 27 :: t_Ac_isBound_5
abbrev t_Ac_isBound_1 : List UInt8 := 180 :: 0 :: 18 :: t_Ac_isBound_4
abbrev t_Ac_isBound_0 : List UInt8 := 42 :: t_Ac_isBound_1
theorem a_Ac_isBound_0 : dk_at b_Ac_isBound 0 t_Ac_isBound_0 := dk_start (by decide +kernel)
theorem a_Ac_isBound_1 : dk_at b_Ac_isBound 1 t_Ac_isBound_1 := dk_go 1 a_Ac_isBound_0 rfl
theorem a_Ac_isBound_4 : dk_at b_Ac_isBound 4 t_Ac_isBound_4 := dk_go 3 a_Ac_isBound_1 rfl
theorem a_Ac_isBound_5 : dk_at b_Ac_isBound 5 t_Ac_isBound_5 := dk_go 1 a_Ac_isBound_4 rfl
theorem a_Ac_isBound_6 : dk_at b_Ac_isBound 6 t_Ac_isBound_6 := dk_go 1 a_Ac_isBound_5 rfl
theorem a_Ac_isBound_40 : dk_at b_Ac_isBound 40 t_Ac_isBound_40 := dk_go 34 a_Ac_isBound_6 rfl
theorem a_Ac_isBound_41 : dk_at b_Ac_isBound 41 t_Ac_isBound_41 := dk_go 1 a_Ac_isBound_40 rfl
theorem a_Ac_isBound_44 : dk_at b_Ac_isBound 44 t_Ac_isBound_44 := dk_go 3 a_Ac_isBound_41 rfl
theorem a_Ac_isBound_45 : dk_at b_Ac_isBound 45 t_Ac_isBound_45 := dk_go 1 a_Ac_isBound_44 rfl
theorem a_Ac_isBound_48 : dk_at b_Ac_isBound 48 t_Ac_isBound_48 := dk_go 3 a_Ac_isBound_45 rfl
theorem a_Ac_isBound_49 : dk_at b_Ac_isBound 49 t_Ac_isBound_49 := dk_go 1 a_Ac_isBound_48 rfl
theorem a_Ac_isBound_50 : dk_at b_Ac_isBound 50 t_Ac_isBound_50 := dk_go 1 a_Ac_isBound_49 rfl
theorem a_Ac_isBound_53 : dk_at b_Ac_isBound 53 t_Ac_isBound_53 := dk_go 3 a_Ac_isBound_50 rfl
theorem a_Ac_isBound_56 : dk_at b_Ac_isBound 56 t_Ac_isBound_56 := dk_go 3 a_Ac_isBound_53 rfl
theorem a_Ac_isBound_57 : dk_at b_Ac_isBound 57 t_Ac_isBound_57 := dk_go 1 a_Ac_isBound_56 rfl
theorem a_Ac_isBound_60 : dk_at b_Ac_isBound 60 t_Ac_isBound_60 := dk_go 3 a_Ac_isBound_57 rfl
theorem a_Ac_isBound_61 : dk_at b_Ac_isBound 61 t_Ac_isBound_61 := dk_go 1 a_Ac_isBound_60 rfl
theorem a_Ac_isBound_64 : dk_at b_Ac_isBound 64 t_Ac_isBound_64 := dk_go 3 a_Ac_isBound_61 rfl
theorem a_Ac_isBound_65 : dk_at b_Ac_isBound 65 t_Ac_isBound_65 := dk_go 1 a_Ac_isBound_64 rfl
theorem a_Ac_isBound_66 : dk_at b_Ac_isBound 66 t_Ac_isBound_66 := dk_go 1 a_Ac_isBound_65 rfl
theorem a_Ac_isBound_69 : dk_at b_Ac_isBound 69 t_Ac_isBound_69 := dk_go 3 a_Ac_isBound_66 rfl
theorem a_Ac_isBound_72 : dk_at b_Ac_isBound 72 t_Ac_isBound_72 := dk_go 3 a_Ac_isBound_69 rfl
theorem a_Ac_isBound_73 : dk_at b_Ac_isBound 73 t_Ac_isBound_73 := dk_go 1 a_Ac_isBound_72 rfl
theorem a_Ac_isBound_76 : dk_at b_Ac_isBound 76 t_Ac_isBound_76 := dk_go 3 a_Ac_isBound_73 rfl
theorem a_Ac_isBound_77 : dk_at b_Ac_isBound 77 t_Ac_isBound_77 := dk_go 1 a_Ac_isBound_76 rfl
theorem a_Ac_isBound_78 : dk_at b_Ac_isBound 78 t_Ac_isBound_78 := dk_go 1 a_Ac_isBound_77 rfl
theorem a_Ac_isBound_79 : dk_at b_Ac_isBound 79 t_Ac_isBound_79 := dk_go 1 a_Ac_isBound_78 rfl
theorem a_Ac_isBound_82 : dk_at b_Ac_isBound 82 t_Ac_isBound_82 := dk_go 3 a_Ac_isBound_79 rfl
theorem a_Ac_isBound_83 : dk_at b_Ac_isBound 83 t_Ac_isBound_83 := dk_go 1 a_Ac_isBound_82 rfl
theorem a_Ac_isBound_84 : dk_at b_Ac_isBound 84 t_Ac_isBound_84 := dk_go 1 a_Ac_isBound_83 rfl
theorem a_Ac_isBound_87 : dk_at b_Ac_isBound 87 t_Ac_isBound_87 := dk_go 3 a_Ac_isBound_84 rfl
theorem a_Ac_isBound_88 : dk_at b_Ac_isBound 88 t_Ac_isBound_88 := dk_go 1 a_Ac_isBound_87 rfl
theorem a_Ac_isBound_91 : dk_at b_Ac_isBound 91 t_Ac_isBound_91 := dk_go 3 a_Ac_isBound_88 rfl
theorem a_Ac_isBound_92 : dk_at b_Ac_isBound 92 t_Ac_isBound_92 := dk_go 1 a_Ac_isBound_91 rfl
theorem a_Ac_isBound_93 : dk_at b_Ac_isBound 93 t_Ac_isBound_93 := dk_go 1 a_Ac_isBound_92 rfl
theorem a_Ac_isBound_94 : dk_at b_Ac_isBound 94 t_Ac_isBound_94 := dk_go 1 a_Ac_isBound_93 rfl
theorem a_Ac_isBound_97 : dk_at b_Ac_isBound 97 t_Ac_isBound_97 := dk_go 3 a_Ac_isBound_94 rfl
theorem a_Ac_isBound_98 : dk_at b_Ac_isBound 98 t_Ac_isBound_98 := dk_go 1 a_Ac_isBound_97 rfl
theorem a_Ac_isBound_101 : dk_at b_Ac_isBound 101 t_Ac_isBound_101 := dk_go 3 a_Ac_isBound_98 rfl
theorem a_Ac_isBound_102 : dk_at b_Ac_isBound 102 t_Ac_isBound_102 := dk_go 1 a_Ac_isBound_101 rfl
theorem a_Ac_isBound_103 : dk_at b_Ac_isBound 103 t_Ac_isBound_103 := dk_go 1 a_Ac_isBound_102 rfl
theorem a_Ac_isBound_106 : dk_at b_Ac_isBound 106 t_Ac_isBound_106 := dk_go 3 a_Ac_isBound_103 rfl
theorem a_Ac_isBound_107 : dk_at b_Ac_isBound 107 t_Ac_isBound_107 := dk_go 1 a_Ac_isBound_106 rfl
theorem a_Ac_isBound_108 : dk_at b_Ac_isBound 108 t_Ac_isBound_108 := dk_go 1 a_Ac_isBound_107 rfl
theorem a_Ac_isBound_111 : dk_at b_Ac_isBound 111 t_Ac_isBound_111 := dk_go 3 a_Ac_isBound_108 rfl
theorem a_Ac_isBound_112 : dk_at b_Ac_isBound 112 t_Ac_isBound_112 := dk_go 1 a_Ac_isBound_111 rfl
theorem a_Ac_isBound_115 : dk_at b_Ac_isBound 115 t_Ac_isBound_115 := dk_go 3 a_Ac_isBound_112 rfl
theorem a_Ac_isBound_116 : dk_at b_Ac_isBound 116 t_Ac_isBound_116 := dk_go 1 a_Ac_isBound_115 rfl
theorem a_Ac_isBound_117 : dk_at b_Ac_isBound 117 t_Ac_isBound_117 := dk_go 1 a_Ac_isBound_116 rfl
theorem a_Ac_isBound_120 : dk_at b_Ac_isBound 120 t_Ac_isBound_120 := dk_go 3 a_Ac_isBound_117 rfl
theorem a_Ac_isBound_121 : dk_at b_Ac_isBound 121 t_Ac_isBound_121 := dk_go 1 a_Ac_isBound_120 rfl
theorem a_Ac_isBound_122 : dk_at b_Ac_isBound 122 t_Ac_isBound_122 := dk_go 1 a_Ac_isBound_121 rfl
theorem d_Ac_isBound_0 : decode b_Ac_isBound 0 = .ok (.aload_n 0, 1) := dk_0 a_Ac_isBound_0 (dko_42 _)
theorem d_Ac_isBound_1 : decode b_Ac_isBound 1 = .ok (.getfield 18, 3) := dk_U2 a_Ac_isBound_1 (dko_180 _) rfl
theorem d_Ac_isBound_4 : decode b_Ac_isBound 4 = .ok (.iload_n 1, 1) := dk_0 a_Ac_isBound_4 (dko_27 _)
theorem d_Ac_isBound_5 : decode b_Ac_isBound 5 = .ok (.iaload, 1) := dk_0 a_Ac_isBound_5 (dko_46 _)
theorem d_Ac_isBound_6 : decode b_Ac_isBound 6 = .ok (.tableswitch 115 0 4 #[34, 34, 87, 101, 101], 34) := by decide +kernel
theorem d_Ac_isBound_121 : decode b_Ac_isBound 121 = .ok (.iconst 0, 1) := dk_0 a_Ac_isBound_121 (dko_3 _)
theorem d_Ac_isBound_122 : decode b_Ac_isBound 122 = .ok (.ireturn, 1) := dk_0 a_Ac_isBound_122 (dko_172 _)
set_option maxHeartbeats 4000000 in
set_option maxRecDepth 100000 in
theorem c_Ac_isBound (l : Launch) (dC : Nat → ClassId) (dI : Nat → Nat → Nat) (cI cB cZ cJ : ClassId) (ka : Int32) (hka0 : ¬ ka < 0) (hka1 : ¬ 32 ≤ ka) (oAc : Nat) (xc_what : Nat) (xc : List Value) (hac_what : fx xc 4 (.ref xc_what)) (sz : Nat) : Met l y_Ac_isBound w_Ac_isBound ({ frames := 0, cells := 0, slots := 0, locals := 0 }) (va_Pc [.ref oAc, .int ka] (PW dC dI cI cB cZ cJ [(oAc, .inr (11, xc)), (xc_what, .inl (cI, 32, .inl ((fun _ => (-1)))))] sz)) (va_Qi (fun (r : Int32) (_ : Unit) => r = 0) (fun _ _ => True) (va_A [] sz)) 0 0 (va_A [] sz) := by
  refine Met.ofW (cc := b_Ac_isBound) (maxL := 2) (ret := (some .boolean)) (by decide) rfl ?_
  intro p e s m args below meth c s₁ B hml hv
  obtain ⟨rfl, hsz, hP, hK, hD⟩ := hv
  have hx := B.exec
  have hb := B.bytes
  have hr := B.returns
  have hts := atoms_spec (ws := w_Ac_isBound) B.pre
  have hown : s.vm.findClass R_Ac = some m.cls := findClass_of_methodNamed B.named
  have hlocks := B.notSynchronized
  subst hsz
  generalize hAe : va_A [] s.heap.size = A at ⊢
  have hA : ∀ q : Nat, s.heap.size ≤ q → A q := fun q h => by rw [← hAe]; exact Or.inr h
  have hS : va_S A s.heap s.heap [] := va_S.rf
  have hP : va_P (dC, dI) classes [(oAc, .inr (11, xc)), (xc_what, .inl (cI, 32, .inl ((fun _ => (-1)))))] s.heap := hP
  have hl := lv_entry ([.ref oAc, .int ka]) (n := 2) (Nat.le_of_ble_eq_true rfl)
  rw [lg_entry_eq]
  generalize (lg_sl ([.ref oAc, .int ka]) ++ List.replicate (2 - (lg_sl ([.ref oAc, .int ka])).length) Slot.unset).toArray = ls at hl ⊢
  have hl : lv_has ls 2 [(0, .ref oAc), (1, .int ka)] := hl
  refine lv_aload_n hx hb d_Ac_isBound_0 rfl (lv_at hl 0 rfl) ?_
  refine va_get (D := (dC, dI)) (ci := 11) (v := .ref xc_what) (C := R_Ac) (T := F_Ac) (N := 8) hx hb hts (fun w h => List.mem_cons_of_mem _ (in_Ac w h)) hown hK.1 hP 0 rfl rfl 4 (by decide) (hts _ (List.mem_cons_of_mem _ mw_395)) (fun _ h9 => h9) hac_what d_Ac_isBound_1 ?_
  refine lv_iload_n hx hb d_Ac_isBound_4 rfl (lv_at hl 1 rfl) ?_
  refine va_iald hx hb hK.1 hP 1 0 rfl rfl (ir_in2 hka0 hka1 (by decide) (by decide)) d_Ac_isBound_5 ?_
  refine lv_tableOut (tgt := 121) hx hb d_Ac_isBound_6 (by decide) (by decide) ?_
  refine lv_iconst (v := 0) hx hb d_Ac_isBound_121 (by decide) ?_
  exact W.zret (v := 0) (ty := .boolean) hx hb hr (by decide) (fun t ht hW => ⟨⟨_, (), rfl, (rfl), trivial⟩, hS.F ht⟩) hS.2.2 d_Ac_isBound_122
abbrev t_Ac_perform_152 : List UInt8 := 172 :: []
abbrev t_Ac_perform_149 : List UInt8 := 182 :: 0 :: 85 :: t_Ac_perform_152
abbrev t_Ac_perform_148 : List UInt8 := 46 :: t_Ac_perform_149
abbrev t_Ac_perform_147 : List UInt8 := 27 :: t_Ac_perform_148
abbrev t_Ac_perform_144 : List UInt8 := 180 :: 0 :: 22 :: t_Ac_perform_147
abbrev t_Ac_perform_143 : List UInt8 := 42 :: t_Ac_perform_144
abbrev t_Ac_perform_142 : List UInt8 := 42 :: t_Ac_perform_143
abbrev t_Ac_perform_141 : List UInt8 := 172 :: t_Ac_perform_142
abbrev t_Ac_perform_138 : List UInt8 := 182 :: 0 :: 82 :: t_Ac_perform_141
abbrev t_Ac_perform_137 : List UInt8 := 46 :: t_Ac_perform_138
abbrev t_Ac_perform_136 : List UInt8 := 27 :: t_Ac_perform_137
abbrev t_Ac_perform_133 : List UInt8 := 180 :: 0 :: 25 :: t_Ac_perform_136
abbrev t_Ac_perform_132 : List UInt8 := 42 :: t_Ac_perform_133
abbrev t_Ac_perform_131 : List UInt8 := 46 :: t_Ac_perform_132
abbrev t_Ac_perform_130 : List UInt8 := 27 :: t_Ac_perform_131
abbrev t_Ac_perform_127 : List UInt8 := 180 :: 0 :: 22 :: t_Ac_perform_130
abbrev t_Ac_perform_126 : List UInt8 := 42 :: t_Ac_perform_127
abbrev t_Ac_perform_125 : List UInt8 := 42 :: t_Ac_perform_126
abbrev t_Ac_perform_124 : List UInt8 := 172 :: t_Ac_perform_125
abbrev t_Ac_perform_121 : List UInt8 := 182 :: 0 :: 79 :: t_Ac_perform_124
abbrev t_Ac_perform_120 : List UInt8 := 46 :: t_Ac_perform_121
abbrev t_Ac_perform_119 : List UInt8 := 27 :: t_Ac_perform_120
abbrev t_Ac_perform_116 : List UInt8 := 180 :: 0 :: 25 :: t_Ac_perform_119
abbrev t_Ac_perform_115 : List UInt8 := 42 :: t_Ac_perform_116
abbrev t_Ac_perform_114 : List UInt8 := 46 :: t_Ac_perform_115
abbrev t_Ac_perform_113 : List UInt8 := 27 :: t_Ac_perform_114
abbrev t_Ac_perform_110 : List UInt8 := 180 :: 0 :: 22 :: t_Ac_perform_113
abbrev t_Ac_perform_109 : List UInt8 := 42 :: t_Ac_perform_110
abbrev t_Ac_perform_108 : List UInt8 := 42 :: t_Ac_perform_109
abbrev t_Ac_perform_107 : List UInt8 := 172 :: t_Ac_perform_108
abbrev t_Ac_perform_104 : List UInt8 := 182 :: 0 :: 75 :: t_Ac_perform_107
abbrev t_Ac_perform_103 : List UInt8 := 46 :: t_Ac_perform_104
abbrev t_Ac_perform_102 : List UInt8 := 27 :: t_Ac_perform_103
abbrev t_Ac_perform_99 : List UInt8 := 180 :: 0 :: 25 :: t_Ac_perform_102
abbrev t_Ac_perform_98 : List UInt8 := 42 :: t_Ac_perform_99
abbrev t_Ac_perform_97 : List UInt8 := 46 :: t_Ac_perform_98
abbrev t_Ac_perform_96 : List UInt8 := 27 :: t_Ac_perform_97
abbrev t_Ac_perform_93 : List UInt8 := 180 :: 0 :: 22 :: t_Ac_perform_96
abbrev t_Ac_perform_92 : List UInt8 := 42 :: t_Ac_perform_93
abbrev t_Ac_perform_91 : List UInt8 := 42 :: t_Ac_perform_92
abbrev t_Ac_perform_90 : List UInt8 := 172 :: t_Ac_perform_91
abbrev t_Ac_perform_87 : List UInt8 := 182 :: 0 :: 71 :: t_Ac_perform_90
abbrev t_Ac_perform_86 : List UInt8 := 46 :: t_Ac_perform_87
abbrev t_Ac_perform_85 : List UInt8 := 27 :: t_Ac_perform_86
abbrev t_Ac_perform_82 : List UInt8 := 180 :: 0 :: 28 :: t_Ac_perform_85
abbrev t_Ac_perform_81 : List UInt8 := 42 :: t_Ac_perform_82
abbrev t_Ac_perform_80 : List UInt8 := 46 :: t_Ac_perform_81
abbrev t_Ac_perform_79 : List UInt8 := 27 :: t_Ac_perform_80
abbrev t_Ac_perform_76 : List UInt8 := 180 :: 0 :: 25 :: t_Ac_perform_79
abbrev t_Ac_perform_75 : List UInt8 := 42 :: t_Ac_perform_76
abbrev t_Ac_perform_74 : List UInt8 := 46 :: t_Ac_perform_75
abbrev t_Ac_perform_73 : List UInt8 := 27 :: t_Ac_perform_74
abbrev t_Ac_perform_70 : List UInt8 := 180 :: 0 :: 22 :: t_Ac_perform_73
abbrev t_Ac_perform_69 : List UInt8 := 42 :: t_Ac_perform_70
abbrev t_Ac_perform_68 : List UInt8 := 42 :: t_Ac_perform_69
abbrev t_Ac_perform_36 : List UInt8 := 170 :: 0 :: 0 :: 0 :: 0 :: 0 :: 0 :: 106 :: 0 :: 0 :: 0 :: 0 :: 0 :: 0 :: 0 :: 3 :: 0 :: 0 :: 0 :: 32 :: 0 :: 0 :: 0 :: 55 :: 0 :: 0 :: 0 :: 72 :: 0 :: 0 :: 0 :: 89 :: t_Ac_perform_68
abbrev t_Ac_perform_35 : List UInt8 := 46 :: t_Ac_perform_36
abbrev t_Ac_perform_34 : List UInt8 := 27 :: t_Ac_perform_35
abbrev t_Ac_perform_31 : List UInt8 := 180 :: 0 :: 18 :: t_Ac_perform_34
abbrev t_Ac_perform_30 : List UInt8 := 42 :: t_Ac_perform_31
abbrev t_Ac_perform_29 : List UInt8 := 172 :: t_Ac_perform_30
abbrev t_Ac_perform_28 : List UInt8 := 5 :: t_Ac_perform_29
abbrev t_Ac_perform_25 : List UInt8 := 158 :: 0 :: 5 :: t_Ac_perform_28
abbrev t_Ac_perform_22 : List UInt8 := 182 :: 0 :: 67 :: t_Ac_perform_25
abbrev t_Ac_perform_21 : List UInt8 := 27 :: t_Ac_perform_22
abbrev t_Ac_perform_18 : List UInt8 := 180 :: 0 :: 12 :: t_Ac_perform_21
abbrev t_Ac_perform_17 : List UInt8 := 42 :: t_Ac_perform_18
abbrev t_Ac_perform_16 : List UInt8 := 172 :: t_Ac_perform_17
abbrev t_Ac_perform_15 : List UInt8 := 4 :: t_Ac_perform_16
abbrev t_Ac_perform_12 : List UInt8 := 154 :: 0 :: 5 :: t_Ac_perform_15
abbrev t_Ac_perform_9 : List UInt8 := 182 :: 0 :: 64 :: t_Ac_perform_12
abbrev t_Ac_perform_8 : List UInt8 := 27 :: t_Ac_perform_9
abbrev t_Ac_perform_7 : List UInt8 := 42 :: t_Ac_perform_8
abbrev t_Ac_perform_4 : List UInt8 := 153 :: 0 :: 11 :: t_Ac_perform_7
abbrev t_Ac_perform_1 : List UInt8 := 184 :: 0 :: 49 :: t_Ac_perform_4
abbrev t_Ac_perform_0 : List UInt8 := 27 :: t_Ac_perform_1
theorem a_Ac_perform_0 : dk_at b_Ac_perform 0 t_Ac_perform_0 := dk_start (by decide +kernel)
theorem a_Ac_perform_1 : dk_at b_Ac_perform 1 t_Ac_perform_1 := dk_go 1 a_Ac_perform_0 rfl
theorem a_Ac_perform_4 : dk_at b_Ac_perform 4 t_Ac_perform_4 := dk_go 3 a_Ac_perform_1 rfl
theorem a_Ac_perform_7 : dk_at b_Ac_perform 7 t_Ac_perform_7 := dk_go 3 a_Ac_perform_4 rfl
theorem a_Ac_perform_8 : dk_at b_Ac_perform 8 t_Ac_perform_8 := dk_go 1 a_Ac_perform_7 rfl
theorem a_Ac_perform_9 : dk_at b_Ac_perform 9 t_Ac_perform_9 := dk_go 1 a_Ac_perform_8 rfl
theorem a_Ac_perform_12 : dk_at b_Ac_perform 12 t_Ac_perform_12 := dk_go 3 a_Ac_perform_9 rfl
theorem a_Ac_perform_15 : dk_at b_Ac_perform 15 t_Ac_perform_15 := dk_go 3 a_Ac_perform_12 rfl
theorem a_Ac_perform_16 : dk_at b_Ac_perform 16 t_Ac_perform_16 := dk_go 1 a_Ac_perform_15 rfl
theorem a_Ac_perform_17 : dk_at b_Ac_perform 17 t_Ac_perform_17 := dk_go 1 a_Ac_perform_16 rfl
theorem a_Ac_perform_18 : dk_at b_Ac_perform 18 t_Ac_perform_18 := dk_go 1 a_Ac_perform_17 rfl
theorem a_Ac_perform_21 : dk_at b_Ac_perform 21 t_Ac_perform_21 := dk_go 3 a_Ac_perform_18 rfl
theorem a_Ac_perform_22 : dk_at b_Ac_perform 22 t_Ac_perform_22 := dk_go 1 a_Ac_perform_21 rfl
theorem a_Ac_perform_25 : dk_at b_Ac_perform 25 t_Ac_perform_25 := dk_go 3 a_Ac_perform_22 rfl
theorem a_Ac_perform_28 : dk_at b_Ac_perform 28 t_Ac_perform_28 := dk_go 3 a_Ac_perform_25 rfl
theorem a_Ac_perform_29 : dk_at b_Ac_perform 29 t_Ac_perform_29 := dk_go 1 a_Ac_perform_28 rfl
theorem a_Ac_perform_30 : dk_at b_Ac_perform 30 t_Ac_perform_30 := dk_go 1 a_Ac_perform_29 rfl
theorem a_Ac_perform_31 : dk_at b_Ac_perform 31 t_Ac_perform_31 := dk_go 1 a_Ac_perform_30 rfl
theorem a_Ac_perform_34 : dk_at b_Ac_perform 34 t_Ac_perform_34 := dk_go 3 a_Ac_perform_31 rfl
theorem a_Ac_perform_35 : dk_at b_Ac_perform 35 t_Ac_perform_35 := dk_go 1 a_Ac_perform_34 rfl
theorem a_Ac_perform_36 : dk_at b_Ac_perform 36 t_Ac_perform_36 := dk_go 1 a_Ac_perform_35 rfl
theorem a_Ac_perform_68 : dk_at b_Ac_perform 68 t_Ac_perform_68 := dk_go 32 a_Ac_perform_36 rfl
theorem a_Ac_perform_69 : dk_at b_Ac_perform 69 t_Ac_perform_69 := dk_go 1 a_Ac_perform_68 rfl
theorem a_Ac_perform_70 : dk_at b_Ac_perform 70 t_Ac_perform_70 := dk_go 1 a_Ac_perform_69 rfl
theorem a_Ac_perform_73 : dk_at b_Ac_perform 73 t_Ac_perform_73 := dk_go 3 a_Ac_perform_70 rfl
theorem a_Ac_perform_74 : dk_at b_Ac_perform 74 t_Ac_perform_74 := dk_go 1 a_Ac_perform_73 rfl
theorem a_Ac_perform_75 : dk_at b_Ac_perform 75 t_Ac_perform_75 := dk_go 1 a_Ac_perform_74 rfl
theorem a_Ac_perform_76 : dk_at b_Ac_perform 76 t_Ac_perform_76 := dk_go 1 a_Ac_perform_75 rfl
theorem a_Ac_perform_79 : dk_at b_Ac_perform 79 t_Ac_perform_79 := dk_go 3 a_Ac_perform_76 rfl
theorem a_Ac_perform_80 : dk_at b_Ac_perform 80 t_Ac_perform_80 := dk_go 1 a_Ac_perform_79 rfl
theorem a_Ac_perform_81 : dk_at b_Ac_perform 81 t_Ac_perform_81 := dk_go 1 a_Ac_perform_80 rfl
theorem a_Ac_perform_82 : dk_at b_Ac_perform 82 t_Ac_perform_82 := dk_go 1 a_Ac_perform_81 rfl
theorem a_Ac_perform_85 : dk_at b_Ac_perform 85 t_Ac_perform_85 := dk_go 3 a_Ac_perform_82 rfl
theorem a_Ac_perform_86 : dk_at b_Ac_perform 86 t_Ac_perform_86 := dk_go 1 a_Ac_perform_85 rfl
theorem a_Ac_perform_87 : dk_at b_Ac_perform 87 t_Ac_perform_87 := dk_go 1 a_Ac_perform_86 rfl
theorem a_Ac_perform_90 : dk_at b_Ac_perform 90 t_Ac_perform_90 := dk_go 3 a_Ac_perform_87 rfl
theorem a_Ac_perform_91 : dk_at b_Ac_perform 91 t_Ac_perform_91 := dk_go 1 a_Ac_perform_90 rfl
theorem a_Ac_perform_92 : dk_at b_Ac_perform 92 t_Ac_perform_92 := dk_go 1 a_Ac_perform_91 rfl
theorem a_Ac_perform_93 : dk_at b_Ac_perform 93 t_Ac_perform_93 := dk_go 1 a_Ac_perform_92 rfl
theorem a_Ac_perform_96 : dk_at b_Ac_perform 96 t_Ac_perform_96 := dk_go 3 a_Ac_perform_93 rfl
theorem a_Ac_perform_97 : dk_at b_Ac_perform 97 t_Ac_perform_97 := dk_go 1 a_Ac_perform_96 rfl
theorem a_Ac_perform_98 : dk_at b_Ac_perform 98 t_Ac_perform_98 := dk_go 1 a_Ac_perform_97 rfl
theorem a_Ac_perform_99 : dk_at b_Ac_perform 99 t_Ac_perform_99 := dk_go 1 a_Ac_perform_98 rfl
theorem a_Ac_perform_102 : dk_at b_Ac_perform 102 t_Ac_perform_102 := dk_go 3 a_Ac_perform_99 rfl
theorem a_Ac_perform_103 : dk_at b_Ac_perform 103 t_Ac_perform_103 := dk_go 1 a_Ac_perform_102 rfl
theorem a_Ac_perform_104 : dk_at b_Ac_perform 104 t_Ac_perform_104 := dk_go 1 a_Ac_perform_103 rfl
theorem a_Ac_perform_107 : dk_at b_Ac_perform 107 t_Ac_perform_107 := dk_go 3 a_Ac_perform_104 rfl
theorem a_Ac_perform_108 : dk_at b_Ac_perform 108 t_Ac_perform_108 := dk_go 1 a_Ac_perform_107 rfl
theorem a_Ac_perform_109 : dk_at b_Ac_perform 109 t_Ac_perform_109 := dk_go 1 a_Ac_perform_108 rfl
theorem a_Ac_perform_110 : dk_at b_Ac_perform 110 t_Ac_perform_110 := dk_go 1 a_Ac_perform_109 rfl
theorem a_Ac_perform_113 : dk_at b_Ac_perform 113 t_Ac_perform_113 := dk_go 3 a_Ac_perform_110 rfl
theorem a_Ac_perform_114 : dk_at b_Ac_perform 114 t_Ac_perform_114 := dk_go 1 a_Ac_perform_113 rfl
theorem a_Ac_perform_115 : dk_at b_Ac_perform 115 t_Ac_perform_115 := dk_go 1 a_Ac_perform_114 rfl
theorem a_Ac_perform_116 : dk_at b_Ac_perform 116 t_Ac_perform_116 := dk_go 1 a_Ac_perform_115 rfl
theorem a_Ac_perform_119 : dk_at b_Ac_perform 119 t_Ac_perform_119 := dk_go 3 a_Ac_perform_116 rfl
theorem a_Ac_perform_120 : dk_at b_Ac_perform 120 t_Ac_perform_120 := dk_go 1 a_Ac_perform_119 rfl
theorem a_Ac_perform_121 : dk_at b_Ac_perform 121 t_Ac_perform_121 := dk_go 1 a_Ac_perform_120 rfl
theorem a_Ac_perform_124 : dk_at b_Ac_perform 124 t_Ac_perform_124 := dk_go 3 a_Ac_perform_121 rfl
theorem a_Ac_perform_125 : dk_at b_Ac_perform 125 t_Ac_perform_125 := dk_go 1 a_Ac_perform_124 rfl
theorem a_Ac_perform_126 : dk_at b_Ac_perform 126 t_Ac_perform_126 := dk_go 1 a_Ac_perform_125 rfl
theorem a_Ac_perform_127 : dk_at b_Ac_perform 127 t_Ac_perform_127 := dk_go 1 a_Ac_perform_126 rfl
theorem a_Ac_perform_130 : dk_at b_Ac_perform 130 t_Ac_perform_130 := dk_go 3 a_Ac_perform_127 rfl
theorem a_Ac_perform_131 : dk_at b_Ac_perform 131 t_Ac_perform_131 := dk_go 1 a_Ac_perform_130 rfl
theorem a_Ac_perform_132 : dk_at b_Ac_perform 132 t_Ac_perform_132 := dk_go 1 a_Ac_perform_131 rfl
theorem a_Ac_perform_133 : dk_at b_Ac_perform 133 t_Ac_perform_133 := dk_go 1 a_Ac_perform_132 rfl
theorem a_Ac_perform_136 : dk_at b_Ac_perform 136 t_Ac_perform_136 := dk_go 3 a_Ac_perform_133 rfl
theorem a_Ac_perform_137 : dk_at b_Ac_perform 137 t_Ac_perform_137 := dk_go 1 a_Ac_perform_136 rfl
theorem a_Ac_perform_138 : dk_at b_Ac_perform 138 t_Ac_perform_138 := dk_go 1 a_Ac_perform_137 rfl
theorem a_Ac_perform_141 : dk_at b_Ac_perform 141 t_Ac_perform_141 := dk_go 3 a_Ac_perform_138 rfl
theorem a_Ac_perform_142 : dk_at b_Ac_perform 142 t_Ac_perform_142 := dk_go 1 a_Ac_perform_141 rfl
theorem a_Ac_perform_143 : dk_at b_Ac_perform 143 t_Ac_perform_143 := dk_go 1 a_Ac_perform_142 rfl
theorem a_Ac_perform_144 : dk_at b_Ac_perform 144 t_Ac_perform_144 := dk_go 1 a_Ac_perform_143 rfl
theorem a_Ac_perform_147 : dk_at b_Ac_perform 147 t_Ac_perform_147 := dk_go 3 a_Ac_perform_144 rfl
theorem a_Ac_perform_148 : dk_at b_Ac_perform 148 t_Ac_perform_148 := dk_go 1 a_Ac_perform_147 rfl
theorem a_Ac_perform_149 : dk_at b_Ac_perform 149 t_Ac_perform_149 := dk_go 1 a_Ac_perform_148 rfl
theorem a_Ac_perform_152 : dk_at b_Ac_perform 152 t_Ac_perform_152 := dk_go 3 a_Ac_perform_149 rfl
theorem d_Ac_perform_0 : decode b_Ac_perform 0 = .ok (.iload_n 1, 1) := dk_0 a_Ac_perform_0 (dko_27 _)
theorem d_Ac_perform_1 : decode b_Ac_perform 1 = .ok (.invokestatic 49, 3) := dk_U2 a_Ac_perform_1 (dko_184 _) rfl
theorem d_Ac_perform_4 : decode b_Ac_perform 4 = .ok (.ifCond .eq 11, 3) := dk_S2 a_Ac_perform_4 (dko_153 _) (by decide +kernel)
theorem d_Ac_perform_7 : decode b_Ac_perform 7 = .ok (.aload_n 0, 1) := dk_0 a_Ac_perform_7 (dko_42 _)
theorem d_Ac_perform_8 : decode b_Ac_perform 8 = .ok (.iload_n 1, 1) := dk_0 a_Ac_perform_8 (dko_27 _)
theorem d_Ac_perform_9 : decode b_Ac_perform 9 = .ok (.invokevirtual 64, 3) := dk_U2 a_Ac_perform_9 (dko_182 _) rfl
theorem d_Ac_perform_12 : decode b_Ac_perform 12 = .ok (.ifCond .ne 5, 3) := dk_S2 a_Ac_perform_12 (dko_154 _) (by decide +kernel)
theorem d_Ac_perform_15 : decode b_Ac_perform 15 = .ok (.iconst 1, 1) := dk_0 a_Ac_perform_15 (dko_4 _)
theorem d_Ac_perform_16 : decode b_Ac_perform 16 = .ok (.ireturn, 1) := dk_0 a_Ac_perform_16 (dko_172 _)
set_option maxHeartbeats 4000000 in
set_option maxRecDepth 100000 in
theorem c_Ac_perform (l : Launch) (dC : Nat → ClassId) (dI : Nat → Nat → Nat) (cI cB cZ cJ : ClassId) (ka : Int32) (hka0 : ¬ ka < 0) (hka1 : ¬ 32 ≤ ka) (oAc : Nat) (xc_what : Nat) (xc : List Value) (hac_what : fx xc 4 (.ref xc_what)) (sz : Nat) : Met l y_Ac_perform w_Ac_perform ({ frames := 1, cells := 0, slots := 0, locals := 21 }) (va_Pc [.ref oAc, .int ka] (PW dC dI cI cB cZ cJ [(oAc, .inr (11, xc)), (xc_what, .inl (cI, 32, .inl ((fun _ => (-1)))))] sz)) (va_Qi (fun (r : Int32) (_ : Unit) => r = 1) (fun _ _ => True) (va_A [] sz)) 0 0 (va_A [] sz) := by
  refine Met.ofW (cc := b_Ac_perform) (maxL := 2) (ret := (some .int)) (by decide) rfl ?_
  intro p e s m args below meth c s₁ B hml hv
  obtain ⟨rfl, hsz, hP, hK, hD⟩ := hv
  have hx := B.exec
  have hb := B.bytes
  have hr := B.returns
  have hts := atoms_spec (ws := w_Ac_perform) B.pre
  have hown : s.vm.findClass R_Ac = some m.cls := findClass_of_methodNamed B.named
  have hlocks := B.notSynchronized
  subst hsz
  generalize hAe : va_A [] s.heap.size = A at ⊢
  have hA : ∀ q : Nat, s.heap.size ≤ q → A q := fun q h => by rw [← hAe]; exact Or.inr h
  have hS : va_S A s.heap s.heap [] := va_S.rf
  have hP : va_P (dC, dI) classes [(oAc, .inr (11, xc)), (xc_what, .inl (cI, 32, .inl ((fun _ => (-1)))))] s.heap := hP
  have hl := lv_entry ([.ref oAc, .int ka]) (n := 2) (Nat.le_of_ble_eq_true rfl)
  rw [lg_entry_eq]
  generalize (lg_sl ([.ref oAc, .int ka]) ++ List.replicate (2 - (lg_sl ([.ref oAc, .int ka])).length) Slot.unset).toArray = ls at hl ⊢
  have hl : lv_has ls 2 [(0, .ref oAc), (1, .int ka)] := hl
  refine lv_iload_n hx hb d_Ac_perform_0 rfl (lv_at hl 1 rfl) ?_
  have hPc := hP.sub (ws' := []) [] rfl
  have hDc := hD.sub (ws' := []) [] (by decide) rfl
  have hFc := pu_free hS hA
  refine va_calli (va_runS (As := [.int ka]) (rest := []) ⟨hx, hb, hml, hown, hts⟩ (c_Ac_isAct l dC dI cI cB cZ cJ ka s.heap.size) (va_cwS 1 hts (tb_S2 mw_1178 mw_1179 mw_9 mw_1180) rfl rfl rfl ⟨by decide +kernel, by decide +kernel, by decide +kernel⟩ ⟨(Nat.le_of_ble_eq_true rfl), (Nat.le_of_ble_eq_true rfl)⟩) ⟨pw_blind, pw_pre hPc hK hDc⟩ rfl rfl hl.1 rfl (lv_room (Nat.le_of_ble_eq_true rfl)) d_Ac_perform_1 ⟨(Nat.le_of_ble_eq_true rfl), (Nat.le_of_ble_eq_true rfl)⟩) hS (fun q _ h => hFc q h) hFc (fun r u t H locs ht hvm hw hB hz1 hk1 hS => ?_)
  have hP := pu_kept hP hk1
  obtain rfl : r = 1 := hw.trans (by unfold fn_Ac_isAct; rw [if_neg hka0, if_neg hka1])
  refine lv_if_eq (tgt := 15) hx hb d_Ac_perform_4 (by decide) (fun h => absurd h (by decide)) (fun _ => ?_)
  refine lv_aload_n hx hb d_Ac_perform_7 rfl (lv_at hl 0 rfl) ?_
  refine lv_iload_n hx hb d_Ac_perform_8 rfl (lv_at hl 1 rfl) ?_
  have hPc := hP.sub (ws' := [(oAc, .inr (11, xc)), (xc_what, .inl (cI, 32, .inl ((fun _ => (-1)))))]) [0, 1] rfl
  have hDc := hD.sub (ws' := [(oAc, .inr (11, xc)), (xc_what, .inl (cI, 32, .inl ((fun _ => (-1)))))]) [0, 1] (by decide) rfl
  have hFc := pu_free hS hA
  refine va_calli (va_runV (C := R_Ac) (As := [.int ka]) (rest := []) ⟨hx, hb, hml, hown, hts⟩ (c_Ac_isBound l dC dI cI cB cZ cJ ka hka0 hka1 oAc xc_what xc hac_what H.size) (cwV 1 hts (tb_V mw_1190 mw_1192 sl_53 mw_9 mw_1193) rfl rfl rfl ⟨rfl, by decide +kernel, by decide +kernel, by decide +kernel⟩ ⟨(Nat.le_of_ble_eq_true rfl), (Nat.le_of_ble_eq_true rfl)⟩) ⟨pw_blind, va_recv (q := (R_Ac, F_Ac, 8)) hK.1 hP (ci := 11) (q0 := 0) rfl rfl, pw_pre hPc hK hDc⟩ rfl rfl hl.1 rfl (lv_room (Nat.le_of_ble_eq_true rfl)) d_Ac_perform_9 ⟨(Nat.le_of_ble_eq_true rfl), (Nat.le_of_ble_eq_true rfl)⟩) hS (fun q _ h => hFc q h) hFc (fun r u t H locs ht hvm hw hB hz1 hk1 hS => ?_)
  have hP := pu_kept hP hk1
  obtain rfl : r = 0 := hw
  refine lv_if_ne (tgt := 17) hx hb d_Ac_perform_12 (by decide) (fun h => absurd rfl h) (fun _ => ?_)
  refine lv_iconst (v := 1) hx hb d_Ac_perform_15 (by decide) ?_
  exact W.iret (v := 1) hx hb hr (fun t ht hW => ⟨⟨_, (), rfl, (rfl), trivial⟩, hS.F ht⟩) hS.2.2 d_Ac_perform_16
abbrev t_Al_add_52 : List UInt8 := 177 :: []
abbrev t_Al_add_49 : List UInt8 := 181 :: 0 :: 21 :: t_Al_add_52
abbrev t_Al_add_48 : List UInt8 := 96 :: t_Al_add_49
abbrev t_Al_add_47 : List UInt8 := 4 :: t_Al_add_48
abbrev t_Al_add_44 : List UInt8 := 180 :: 0 :: 21 :: t_Al_add_47
abbrev t_Al_add_43 : List UInt8 := 89 :: t_Al_add_44
abbrev t_Al_add_42 : List UInt8 := 42 :: t_Al_add_43
abbrev t_Al_add_41 : List UInt8 := 79 :: t_Al_add_42
abbrev t_Al_add_40 : List UInt8 := 29 :: t_Al_add_41
abbrev t_Al_add_37 : List UInt8 := 180 :: 0 :: 21 :: t_Al_add_40
abbrev t_Al_add_36 : List UInt8 := 42 :: t_Al_add_37
abbrev t_Al_add_33 : List UInt8 := 180 :: 0 :: 18 :: t_Al_add_36
abbrev t_Al_add_32 : List UInt8 := 42 :: t_Al_add_33
abbrev t_Al_add_31 : List UInt8 := 79 :: t_Al_add_32
abbrev t_Al_add_30 : List UInt8 := 28 :: t_Al_add_31
abbrev t_Al_add_27 : List UInt8 := 180 :: 0 :: 21 :: t_Al_add_30
abbrev t_Al_add_26 : List UInt8 := 42 :: t_Al_add_27
abbrev t_Al_add_23 : List UInt8 := 180 :: 0 :: 15 :: t_Al_add_26
abbrev t_Al_add_22 : List UInt8 := 42 :: t_Al_add_23
abbrev t_Al_add_21 : List UInt8 := 79 :: t_Al_add_22
abbrev t_Al_add_20 : List UInt8 := 27 :: t_Al_add_21
abbrev t_Al_add_17 : List UInt8 := 180 :: 0 :: 21 :: t_Al_add_20
abbrev t_Al_add_16 : List UInt8 := 42 :: t_Al_add_17
abbrev t_Al_add_13 : List UInt8 := 180 :: 0 :: 9 :: t_Al_add_16
abbrev t_Al_add_12 : List UInt8 := 42 :: t_Al_add_13
abbrev t_Al_add_9 : List UInt8 := 162 :: 0 :: 43 :: t_Al_add_12
abbrev t_Al_add_8 : List UInt8 := 190 :: t_Al_add_9
abbrev t_Al_add_5 : List UInt8 := 180 :: 0 :: 9 :: t_Al_add_8
abbrev t_Al_add_4 : List UInt8 := 42 :: t_Al_add_5
abbrev t_Al_add_1 : List UInt8 := 180 :: 0 :: 21 :: t_Al_add_4
abbrev t_Al_add_0 : List UInt8 := 42 :: t_Al_add_1
theorem a_Al_add_0 : dk_at b_Al_add 0 t_Al_add_0 := dk_start (by decide +kernel)
theorem a_Al_add_1 : dk_at b_Al_add 1 t_Al_add_1 := dk_go 1 a_Al_add_0 rfl
theorem a_Al_add_4 : dk_at b_Al_add 4 t_Al_add_4 := dk_go 3 a_Al_add_1 rfl
theorem a_Al_add_5 : dk_at b_Al_add 5 t_Al_add_5 := dk_go 1 a_Al_add_4 rfl
theorem a_Al_add_8 : dk_at b_Al_add 8 t_Al_add_8 := dk_go 3 a_Al_add_5 rfl
theorem a_Al_add_9 : dk_at b_Al_add 9 t_Al_add_9 := dk_go 1 a_Al_add_8 rfl
theorem a_Al_add_12 : dk_at b_Al_add 12 t_Al_add_12 := dk_go 3 a_Al_add_9 rfl
theorem a_Al_add_13 : dk_at b_Al_add 13 t_Al_add_13 := dk_go 1 a_Al_add_12 rfl
theorem a_Al_add_16 : dk_at b_Al_add 16 t_Al_add_16 := dk_go 3 a_Al_add_13 rfl
theorem a_Al_add_17 : dk_at b_Al_add 17 t_Al_add_17 := dk_go 1 a_Al_add_16 rfl
theorem a_Al_add_20 : dk_at b_Al_add 20 t_Al_add_20 := dk_go 3 a_Al_add_17 rfl
theorem a_Al_add_21 : dk_at b_Al_add 21 t_Al_add_21 := dk_go 1 a_Al_add_20 rfl
theorem a_Al_add_22 : dk_at b_Al_add 22 t_Al_add_22 := dk_go 1 a_Al_add_21 rfl
theorem a_Al_add_23 : dk_at b_Al_add 23 t_Al_add_23 := dk_go 1 a_Al_add_22 rfl
theorem a_Al_add_26 : dk_at b_Al_add 26 t_Al_add_26 := dk_go 3 a_Al_add_23 rfl
theorem a_Al_add_27 : dk_at b_Al_add 27 t_Al_add_27 := dk_go 1 a_Al_add_26 rfl
theorem a_Al_add_30 : dk_at b_Al_add 30 t_Al_add_30 := dk_go 3 a_Al_add_27 rfl
theorem a_Al_add_31 : dk_at b_Al_add 31 t_Al_add_31 := dk_go 1 a_Al_add_30 rfl
theorem a_Al_add_32 : dk_at b_Al_add 32 t_Al_add_32 := dk_go 1 a_Al_add_31 rfl
theorem a_Al_add_33 : dk_at b_Al_add 33 t_Al_add_33 := dk_go 1 a_Al_add_32 rfl
theorem a_Al_add_36 : dk_at b_Al_add 36 t_Al_add_36 := dk_go 3 a_Al_add_33 rfl
theorem a_Al_add_37 : dk_at b_Al_add 37 t_Al_add_37 := dk_go 1 a_Al_add_36 rfl
theorem a_Al_add_40 : dk_at b_Al_add 40 t_Al_add_40 := dk_go 3 a_Al_add_37 rfl
theorem a_Al_add_41 : dk_at b_Al_add 41 t_Al_add_41 := dk_go 1 a_Al_add_40 rfl
theorem a_Al_add_42 : dk_at b_Al_add 42 t_Al_add_42 := dk_go 1 a_Al_add_41 rfl
theorem a_Al_add_43 : dk_at b_Al_add 43 t_Al_add_43 := dk_go 1 a_Al_add_42 rfl
theorem a_Al_add_44 : dk_at b_Al_add 44 t_Al_add_44 := dk_go 1 a_Al_add_43 rfl
theorem a_Al_add_47 : dk_at b_Al_add 47 t_Al_add_47 := dk_go 3 a_Al_add_44 rfl
theorem a_Al_add_48 : dk_at b_Al_add 48 t_Al_add_48 := dk_go 1 a_Al_add_47 rfl
theorem a_Al_add_49 : dk_at b_Al_add 49 t_Al_add_49 := dk_go 1 a_Al_add_48 rfl
theorem a_Al_add_52 : dk_at b_Al_add 52 t_Al_add_52 := dk_go 3 a_Al_add_49 rfl
theorem d_Al_add_0 : decode b_Al_add 0 = .ok (.aload_n 0, 1) := dk_0 a_Al_add_0 (dko_42 _)
theorem d_Al_add_1 : decode b_Al_add 1 = .ok (.getfield 21, 3) := dk_U2 a_Al_add_1 (dko_180 _) rfl
theorem d_Al_add_4 : decode b_Al_add 4 = .ok (.aload_n 0, 1) := dk_0 a_Al_add_4 (dko_42 _)
theorem d_Al_add_5 : decode b_Al_add 5 = .ok (.getfield 9, 3) := dk_U2 a_Al_add_5 (dko_180 _) rfl
theorem d_Al_add_8 : decode b_Al_add 8 = .ok (.arraylength, 1) := dk_0 a_Al_add_8 (dko_190 _)
theorem d_Al_add_9 : decode b_Al_add 9 = .ok (.if_icmp .ge 43, 3) := dk_S2 a_Al_add_9 (dko_162 _) (by decide +kernel)
theorem d_Al_add_12 : decode b_Al_add 12 = .ok (.aload_n 0, 1) := dk_0 a_Al_add_12 (dko_42 _)
theorem d_Al_add_13 : decode b_Al_add 13 = .ok (.getfield 9, 3) := dk_U2 a_Al_add_13 (dko_180 _) rfl
theorem d_Al_add_16 : decode b_Al_add 16 = .ok (.aload_n 0, 1) := dk_0 a_Al_add_16 (dko_42 _)
theorem d_Al_add_17 : decode b_Al_add 17 = .ok (.getfield 21, 3) := dk_U2 a_Al_add_17 (dko_180 _) rfl
theorem d_Al_add_20 : decode b_Al_add 20 = .ok (.iload_n 1, 1) := dk_0 a_Al_add_20 (dko_27 _)
theorem d_Al_add_21 : decode b_Al_add 21 = .ok (.iastore, 1) := dk_0 a_Al_add_21 (dko_79 _)
theorem d_Al_add_22 : decode b_Al_add 22 = .ok (.aload_n 0, 1) := dk_0 a_Al_add_22 (dko_42 _)
theorem d_Al_add_23 : decode b_Al_add 23 = .ok (.getfield 15, 3) := dk_U2 a_Al_add_23 (dko_180 _) rfl
theorem d_Al_add_26 : decode b_Al_add 26 = .ok (.aload_n 0, 1) := dk_0 a_Al_add_26 (dko_42 _)
theorem d_Al_add_27 : decode b_Al_add 27 = .ok (.getfield 21, 3) := dk_U2 a_Al_add_27 (dko_180 _) rfl
theorem d_Al_add_30 : decode b_Al_add 30 = .ok (.iload_n 2, 1) := dk_0 a_Al_add_30 (dko_28 _)
theorem d_Al_add_31 : decode b_Al_add 31 = .ok (.iastore, 1) := dk_0 a_Al_add_31 (dko_79 _)
theorem d_Al_add_32 : decode b_Al_add 32 = .ok (.aload_n 0, 1) := dk_0 a_Al_add_32 (dko_42 _)
theorem d_Al_add_33 : decode b_Al_add 33 = .ok (.getfield 18, 3) := dk_U2 a_Al_add_33 (dko_180 _) rfl
theorem d_Al_add_36 : decode b_Al_add 36 = .ok (.aload_n 0, 1) := dk_0 a_Al_add_36 (dko_42 _)
theorem d_Al_add_37 : decode b_Al_add 37 = .ok (.getfield 21, 3) := dk_U2 a_Al_add_37 (dko_180 _) rfl
theorem d_Al_add_40 : decode b_Al_add 40 = .ok (.iload_n 3, 1) := dk_0 a_Al_add_40 (dko_29 _)
theorem d_Al_add_41 : decode b_Al_add 41 = .ok (.iastore, 1) := dk_0 a_Al_add_41 (dko_79 _)
theorem d_Al_add_42 : decode b_Al_add 42 = .ok (.aload_n 0, 1) := dk_0 a_Al_add_42 (dko_42 _)
theorem d_Al_add_43 : decode b_Al_add 43 = .ok (.dup, 1) := dk_0 a_Al_add_43 (dko_89 _)
theorem d_Al_add_44 : decode b_Al_add 44 = .ok (.getfield 21, 3) := dk_U2 a_Al_add_44 (dko_180 _) rfl
theorem d_Al_add_47 : decode b_Al_add 47 = .ok (.iconst 1, 1) := dk_0 a_Al_add_47 (dko_4 _)
theorem d_Al_add_48 : decode b_Al_add 48 = .ok (.iadd, 1) := dk_0 a_Al_add_48 (dko_96 _)
theorem d_Al_add_49 : decode b_Al_add 49 = .ok (.putfield 21, 3) := dk_U2 a_Al_add_49 (dko_181 _) rfl
theorem d_Al_add_52 : decode b_Al_add 52 = .ok (.return_, 1) := dk_0 a_Al_add_52 (dko_177 _)
set_option maxHeartbeats 4000000 in
set_option maxRecDepth 100000 in
theorem c_Al_add (l : Launch) (dC : Nat → ClassId) (dI : Nat → Nat → Nat) (cI cB cZ cJ : ClassId) (nw : Int32) (no : Int32) (ki : Int32) (oAl : Nat) (xa_seconds : Nat) (xa_nodes : Nat) (xa_kinds : Nat) (xa : List Value) (hal_count : fx xa 0 (.int 0)) (hal_seconds : fx xa 1 (.ref xa_seconds)) (hal_nodes : fx xa 2 (.ref xa_nodes)) (hal_kinds : fx xa 3 (.ref xa_kinds)) (sz : Nat) : Met l y_Al_add w_Al_add ({ frames := 0, cells := 0, slots := 0, locals := 0 }) (va_Pc [.ref oAl, .int nw, .int no, .int ki] (PW dC dI cI cB cZ cJ [(oAl, .inr (2, xa)), (xa_seconds, .inl (cI, 200, .inl (fun _ => 0))), (xa_nodes, .inl (cI, 200, .inl (fun _ => 0))), (xa_kinds, .inl (cI, 200, .inl (fun _ => 0)))] sz)) (va_Qv (fun _ : Unit => True) (fun _ _ => True) (va_A [(oAl, .inr (2, xa)), (xa_seconds, .inl (cI, 200, .inl (fun _ => 0))), (xa_nodes, .inl (cI, 200, .inl (fun _ => 0))), (xa_kinds, .inl (cI, 200, .inl (fun _ => 0)))] sz)) 0 0 (va_A [(oAl, .inr (2, xa)), (xa_seconds, .inl (cI, 200, .inl (fun _ => 0))), (xa_nodes, .inl (cI, 200, .inl (fun _ => 0))), (xa_kinds, .inl (cI, 200, .inl (fun _ => 0)))] sz) := by
  refine Met.ofW (cc := b_Al_add) (maxL := 4) (ret := none) (by decide) rfl ?_
  intro p e s m args below meth c s₁ B hml hv
  obtain ⟨rfl, hsz, hP, hK, hD⟩ := hv
  have hx := B.exec
  have hb := B.bytes
  have hr := B.returns
  have hts := atoms_spec (ws := w_Al_add) B.pre
  have hown : s.vm.findClass R_Al = some m.cls := findClass_of_methodNamed B.named
  have hlocks := B.notSynchronized
  subst hsz
  have hD := hD.self (sz := s.heap.size)
  generalize hAe : va_A [(oAl, .inr (2, xa)), (xa_seconds, .inl (cI, 200, .inl (fun _ => 0))), (xa_nodes, .inl (cI, 200, .inl (fun _ => 0))), (xa_kinds, .inl (cI, 200, .inl (fun _ => 0)))] s.heap.size = A at hD ⊢
  have hA : ∀ q : Nat, s.heap.size ≤ q → A q := fun q h => by rw [← hAe]; exact Or.inr h
  have hS : va_S A s.heap s.heap [] := va_S.rf
  have hP : va_P (dC, dI) classes [(oAl, .inr (2, xa)), (xa_seconds, .inl (cI, 200, .inl (fun _ => 0))), (xa_nodes, .inl (cI, 200, .inl (fun _ => 0))), (xa_kinds, .inl (cI, 200, .inl (fun _ => 0)))] s.heap := hP
  have hl := lv_entry ([.ref oAl, .int nw, .int no, .int ki]) (n := 4) (Nat.le_of_ble_eq_true rfl)
  rw [lg_entry_eq]
  generalize (lg_sl ([.ref oAl, .int nw, .int no, .int ki]) ++ List.replicate (4 - (lg_sl ([.ref oAl, .int nw, .int no, .int ki])).length) Slot.unset).toArray = ls at hl ⊢
  have hl : lv_has ls 4 [(0, .ref oAl), (1, .int nw), (2, .int no), (3, .int ki)] := hl
  refine lv_aload_n hx hb d_Al_add_0 rfl (lv_at hl 0 rfl) ?_
  refine va_get (D := (dC, dI)) (ci := 2) (v := .int 0) (C := R_Al) (T := F_Al) (N := 4) hx hb hts (fun w h => List.mem_cons_of_mem _ (in_Al w h)) hown hK.1 hP 0 rfl rfl 0 (by decide) (hts _ (List.mem_cons_of_mem _ mw_60)) (fun _ h9 => h9) hal_count d_Al_add_1 ?_
  refine lv_aload_n hx hb d_Al_add_4 rfl (lv_at hl 0 rfl) ?_
  refine va_get (D := (dC, dI)) (ci := 2) (v := .ref xa_seconds) (C := R_Al) (T := F_Al) (N := 4) hx hb hts (fun w h => List.mem_cons_of_mem _ (in_Al w h)) hown hK.1 hP 0 rfl rfl 1 (by decide) (hts _ (List.mem_cons_of_mem _ mw_62)) (fun _ h9 => h9) hal_seconds d_Al_add_5 ?_
  refine va_alen hx hb hK.1 hP 1 0 rfl rfl (v := 200) rfl d_Al_add_8 ?_
  refine lv_icmp_ge (tgt := 52) hx hb d_Al_add_9 (by decide) (fun h => absurd h (by decide)) (fun _ => ?_)
  refine lv_aload_n hx hb d_Al_add_12 rfl (lv_at hl 0 rfl) ?_
  refine va_get (D := (dC, dI)) (ci := 2) (v := .ref xa_seconds) (C := R_Al) (T := F_Al) (N := 4) hx hb hts (fun w h => List.mem_cons_of_mem _ (in_Al w h)) hown hK.1 hP 0 rfl rfl 1 (by decide) (hts _ (List.mem_cons_of_mem _ mw_62)) (fun _ h9 => h9) hal_seconds d_Al_add_13 ?_
  refine lv_aload_n hx hb d_Al_add_16 rfl (lv_at hl 0 rfl) ?_
  refine va_get (D := (dC, dI)) (ci := 2) (v := .int 0) (C := R_Al) (T := F_Al) (N := 4) hx hb hts (fun w h => List.mem_cons_of_mem _ (in_Al w h)) hown hK.1 hP 0 rfl rfl 0 (by decide) (hts _ (List.mem_cons_of_mem _ mw_60)) (fun _ h9 => h9) hal_count d_Al_add_17 ?_
  refine lv_iload_n hx hb d_Al_add_20 rfl (lv_at hl 1 rfl) ?_
  refine va_iast hx hb hK.1 hP hD hS 1 0 rfl rfl (vp_in_iff.mpr (by decide)) d_Al_add_21 (fun H locs hP hD hS => ?_)
  have hP : va_P (dC, dI) classes [(oAl, .inr (2, xa)), (xa_seconds, .inl (cI, 200, .inl ((upd (fun _ => 0) (0 : Int32).toNatClampNeg nw)))), (xa_nodes, .inl (cI, 200, .inl (fun _ => 0))), (xa_kinds, .inl (cI, 200, .inl (fun _ => 0)))] H := hP
  have hD : va_D A [(oAl, .inr (2, xa)), (xa_seconds, .inl (cI, 200, .inl ((upd (fun _ => 0) (0 : Int32).toNatClampNeg nw)))), (xa_nodes, .inl (cI, 200, .inl (fun _ => 0))), (xa_kinds, .inl (cI, 200, .inl (fun _ => 0)))] := hD
  generalize (upd (fun _ => 0) (0 : Int32).toNatClampNeg nw) = f21_1 at hP hD
  refine lv_aload_n hx hb d_Al_add_22 rfl (lv_at hl 0 rfl) ?_
  refine va_get (D := (dC, dI)) (ci := 2) (v := .ref xa_nodes) (C := R_Al) (T := F_Al) (N := 4) hx hb hts (fun w h => List.mem_cons_of_mem _ (in_Al w h)) hown hK.1 hP 0 rfl rfl 2 (by decide) (hts _ (List.mem_cons_of_mem _ mw_63)) (fun _ h9 => h9) hal_nodes d_Al_add_23 ?_
  refine lv_aload_n hx hb d_Al_add_26 rfl (lv_at hl 0 rfl) ?_
  refine va_get (D := (dC, dI)) (ci := 2) (v := .int 0) (C := R_Al) (T := F_Al) (N := 4) hx hb hts (fun w h => List.mem_cons_of_mem _ (in_Al w h)) hown hK.1 hP 0 rfl rfl 0 (by decide) (hts _ (List.mem_cons_of_mem _ mw_60)) (fun _ h9 => h9) hal_count d_Al_add_27 ?_
  refine lv_iload_n hx hb d_Al_add_30 rfl (lv_at hl 2 rfl) ?_
  refine va_iast hx hb hK.1 hP hD hS 2 0 rfl rfl (vp_in_iff.mpr (by decide)) d_Al_add_31 (fun H locs hP hD hS => ?_)
  have hP : va_P (dC, dI) classes [(oAl, .inr (2, xa)), (xa_seconds, .inl (cI, 200, .inl f21_1)), (xa_nodes, .inl (cI, 200, .inl ((upd (fun _ => 0) (0 : Int32).toNatClampNeg no)))), (xa_kinds, .inl (cI, 200, .inl (fun _ => 0)))] H := hP
  have hD : va_D A [(oAl, .inr (2, xa)), (xa_seconds, .inl (cI, 200, .inl f21_1)), (xa_nodes, .inl (cI, 200, .inl ((upd (fun _ => 0) (0 : Int32).toNatClampNeg no)))), (xa_kinds, .inl (cI, 200, .inl (fun _ => 0)))] := hD
  generalize (upd (fun _ => 0) (0 : Int32).toNatClampNeg no) = f31_2 at hP hD
  refine lv_aload_n hx hb d_Al_add_32 rfl (lv_at hl 0 rfl) ?_
  refine va_get (D := (dC, dI)) (ci := 2) (v := .ref xa_kinds) (C := R_Al) (T := F_Al) (N := 4) hx hb hts (fun w h => List.mem_cons_of_mem _ (in_Al w h)) hown hK.1 hP 0 rfl rfl 3 (by decide) (hts _ (List.mem_cons_of_mem _ mw_64)) (fun _ h9 => h9) hal_kinds d_Al_add_33 ?_
  refine lv_aload_n hx hb d_Al_add_36 rfl (lv_at hl 0 rfl) ?_
  refine va_get (D := (dC, dI)) (ci := 2) (v := .int 0) (C := R_Al) (T := F_Al) (N := 4) hx hb hts (fun w h => List.mem_cons_of_mem _ (in_Al w h)) hown hK.1 hP 0 rfl rfl 0 (by decide) (hts _ (List.mem_cons_of_mem _ mw_60)) (fun _ h9 => h9) hal_count d_Al_add_37 ?_
  refine lv_iload_n hx hb d_Al_add_40 rfl (lv_at hl 3 rfl) ?_
  refine va_iast hx hb hK.1 hP hD hS 3 0 rfl rfl (vp_in_iff.mpr (by decide)) d_Al_add_41 (fun H locs hP hD hS => ?_)
  have hP : va_P (dC, dI) classes [(oAl, .inr (2, xa)), (xa_seconds, .inl (cI, 200, .inl f21_1)), (xa_nodes, .inl (cI, 200, .inl f31_2)), (xa_kinds, .inl (cI, 200, .inl ((upd (fun _ => 0) (0 : Int32).toNatClampNeg ki))))] H := hP
  have hD : va_D A [(oAl, .inr (2, xa)), (xa_seconds, .inl (cI, 200, .inl f21_1)), (xa_nodes, .inl (cI, 200, .inl f31_2)), (xa_kinds, .inl (cI, 200, .inl ((upd (fun _ => 0) (0 : Int32).toNatClampNeg ki))))] := hD
  generalize (upd (fun _ => 0) (0 : Int32).toNatClampNeg ki) = f41_3 at hP hD
  refine lv_aload_n hx hb d_Al_add_42 rfl (lv_at hl 0 rfl) ?_
  refine lv_dup hx hb d_Al_add_43 rfl ?_
  refine va_get (D := (dC, dI)) (ci := 2) (v := .int 0) (C := R_Al) (T := F_Al) (N := 4) hx hb hts (fun w h => List.mem_cons_of_mem _ (in_Al w h)) hown hK.1 hP 0 rfl rfl 0 (by decide) (hts _ (List.mem_cons_of_mem _ mw_60)) (fun _ h9 => h9) hal_count d_Al_add_44 ?_
  refine lv_iconst (v := 1) hx hb d_Al_add_47 (by decide) ?_
  refine lv_iadd hx hb d_Al_add_48 ?_
  refine lv_topi (fun x0 e0 => ?_)
  obtain rfl : x0 = 1 := e0.trans (by decide)
  refine va_put (D := (dC, dI)) (ci := 2) (v := .int 1) (ty := .int) (C := R_Al) (T := F_Al) (N := 4) hx hb hts (fun w h => List.mem_cons_of_mem _ (in_Al w h)) t_Al t_Al_ok n_Al hown hK.1 hP hD hS 0 rfl rfl 0 (by decide) (hts _ (List.mem_cons_of_mem _ mw_60)) (fun _ h9 => h9) rfl (by decide +kernel) rfl rfl (st_lt hal_count) d_Al_add_49 (fun H locs hP hD hS => ?_)
  have g49_0 : fx (xa.set 0 (.int 1)) 0 (.int 1) := (st_eq hal_count)
  have g49_3 : fx (xa.set 0 (.int 1)) 3 (.ref xa_kinds) := (st_ne hal_kinds (by decide))
  have g49_2 : fx (xa.set 0 (.int 1)) 2 (.ref xa_nodes) := (st_ne hal_nodes (by decide))
  have g49_1 : fx (xa.set 0 (.int 1)) 1 (.ref xa_seconds) := (st_ne hal_seconds (by decide))
  have hP : va_P (dC, dI) classes [(oAl, .inr (2, (xa.set 0 (.int 1)))), (xa_seconds, .inl (cI, 200, .inl f21_1)), (xa_nodes, .inl (cI, 200, .inl f31_2)), (xa_kinds, .inl (cI, 200, .inl f41_3))] H := hP
  have hD : va_D A [(oAl, .inr (2, (xa.set 0 (.int 1)))), (xa_seconds, .inl (cI, 200, .inl f21_1)), (xa_nodes, .inl (cI, 200, .inl f31_2)), (xa_kinds, .inl (cI, 200, .inl f41_3))] := hD
  exact W.vret hx hb hr (fun t ht hW => ⟨⟨(), rfl, trivial, trivial⟩, hS.F ht⟩) hS.2.2 d_Al_add_52
abbrev t_Bh_act_42 : List UInt8 := 172 :: []
abbrev t_Bh_act_41 : List UInt8 := 28 :: t_Bh_act_42
abbrev t_Bh_act_38 : List UInt8 := 182 :: 1 :: 8 :: t_Bh_act_41
abbrev t_Bh_act_37 : List UInt8 := 96 :: t_Bh_act_38
abbrev t_Bh_act_36 : List UInt8 := 28 :: t_Bh_act_37
abbrev t_Bh_act_34 : List UInt8 := 16 :: 10 :: t_Bh_act_36
abbrev t_Bh_act_33 : List UInt8 := 2 :: t_Bh_act_34
abbrev t_Bh_act_30 : List UInt8 := 180 :: 1 :: 5 :: t_Bh_act_33
abbrev t_Bh_act_27 : List UInt8 := 180 :: 0 :: 26 :: t_Bh_act_30
abbrev t_Bh_act_26 : List UInt8 := 42 :: t_Bh_act_27
abbrev t_Bh_act_23 : List UInt8 := 180 :: 0 :: 19 :: t_Bh_act_26
abbrev t_Bh_act_22 : List UInt8 := 42 :: t_Bh_act_23
abbrev t_Bh_act_19 : List UInt8 := 158 :: 0 :: 22 :: t_Bh_act_22
abbrev t_Bh_act_18 : List UInt8 := 28 :: t_Bh_act_19
abbrev t_Bh_act_17 : List UInt8 := 61 :: t_Bh_act_18
abbrev t_Bh_act_14 : List UInt8 := 182 :: 1 :: 1 :: t_Bh_act_17
abbrev t_Bh_act_13 : List UInt8 := 27 :: t_Bh_act_14
abbrev t_Bh_act_10 : List UInt8 := 180 :: 0 :: 53 :: t_Bh_act_13
abbrev t_Bh_act_9 : List UInt8 := 42 :: t_Bh_act_10
abbrev t_Bh_act_8 : List UInt8 := 172 :: t_Bh_act_9
abbrev t_Bh_act_7 : List UInt8 := 2 :: t_Bh_act_8
abbrev t_Bh_act_4 : List UInt8 := 154 :: 0 :: 5 :: t_Bh_act_7
abbrev t_Bh_act_1 : List UInt8 := 184 :: 0 :: 254 :: t_Bh_act_4
abbrev t_Bh_act_0 : List UInt8 := 27 :: t_Bh_act_1
theorem a_Bh_act_0 : dk_at b_Bh_act 0 t_Bh_act_0 := dk_start (by decide +kernel)
theorem a_Bh_act_1 : dk_at b_Bh_act 1 t_Bh_act_1 := dk_go 1 a_Bh_act_0 rfl
theorem a_Bh_act_4 : dk_at b_Bh_act 4 t_Bh_act_4 := dk_go 3 a_Bh_act_1 rfl
theorem a_Bh_act_7 : dk_at b_Bh_act 7 t_Bh_act_7 := dk_go 3 a_Bh_act_4 rfl
theorem a_Bh_act_8 : dk_at b_Bh_act 8 t_Bh_act_8 := dk_go 1 a_Bh_act_7 rfl
theorem a_Bh_act_9 : dk_at b_Bh_act 9 t_Bh_act_9 := dk_go 1 a_Bh_act_8 rfl
theorem a_Bh_act_10 : dk_at b_Bh_act 10 t_Bh_act_10 := dk_go 1 a_Bh_act_9 rfl
theorem a_Bh_act_13 : dk_at b_Bh_act 13 t_Bh_act_13 := dk_go 3 a_Bh_act_10 rfl
theorem a_Bh_act_14 : dk_at b_Bh_act 14 t_Bh_act_14 := dk_go 1 a_Bh_act_13 rfl
theorem a_Bh_act_17 : dk_at b_Bh_act 17 t_Bh_act_17 := dk_go 3 a_Bh_act_14 rfl
theorem a_Bh_act_18 : dk_at b_Bh_act 18 t_Bh_act_18 := dk_go 1 a_Bh_act_17 rfl
theorem a_Bh_act_19 : dk_at b_Bh_act 19 t_Bh_act_19 := dk_go 1 a_Bh_act_18 rfl
theorem a_Bh_act_22 : dk_at b_Bh_act 22 t_Bh_act_22 := dk_go 3 a_Bh_act_19 rfl
theorem a_Bh_act_23 : dk_at b_Bh_act 23 t_Bh_act_23 := dk_go 1 a_Bh_act_22 rfl
theorem a_Bh_act_26 : dk_at b_Bh_act 26 t_Bh_act_26 := dk_go 3 a_Bh_act_23 rfl
theorem a_Bh_act_27 : dk_at b_Bh_act 27 t_Bh_act_27 := dk_go 1 a_Bh_act_26 rfl
theorem a_Bh_act_30 : dk_at b_Bh_act 30 t_Bh_act_30 := dk_go 3 a_Bh_act_27 rfl
theorem a_Bh_act_33 : dk_at b_Bh_act 33 t_Bh_act_33 := dk_go 3 a_Bh_act_30 rfl
theorem a_Bh_act_34 : dk_at b_Bh_act 34 t_Bh_act_34 := dk_go 1 a_Bh_act_33 rfl
theorem a_Bh_act_36 : dk_at b_Bh_act 36 t_Bh_act_36 := dk_go 2 a_Bh_act_34 rfl
theorem a_Bh_act_37 : dk_at b_Bh_act 37 t_Bh_act_37 := dk_go 1 a_Bh_act_36 rfl
theorem a_Bh_act_38 : dk_at b_Bh_act 38 t_Bh_act_38 := dk_go 1 a_Bh_act_37 rfl
theorem a_Bh_act_41 : dk_at b_Bh_act 41 t_Bh_act_41 := dk_go 3 a_Bh_act_38 rfl
theorem a_Bh_act_42 : dk_at b_Bh_act 42 t_Bh_act_42 := dk_go 1 a_Bh_act_41 rfl
theorem d_Bh_act_0 : decode b_Bh_act 0 = .ok (.iload_n 1, 1) := dk_0 a_Bh_act_0 (dko_27 _)
theorem d_Bh_act_1 : decode b_Bh_act 1 = .ok (.invokestatic 254, 3) := dk_U2 a_Bh_act_1 (dko_184 _) rfl
theorem d_Bh_act_4 : decode b_Bh_act 4 = .ok (.ifCond .ne 5, 3) := dk_S2 a_Bh_act_4 (dko_154 _) (by decide +kernel)
theorem d_Bh_act_7 : decode b_Bh_act 7 = .ok (.iconst (-1), 1) := dk_0 a_Bh_act_7 (dko_2 _)
theorem d_Bh_act_8 : decode b_Bh_act 8 = .ok (.ireturn, 1) := dk_0 a_Bh_act_8 (dko_172 _)
theorem d_Bh_act_9 : decode b_Bh_act 9 = .ok (.aload_n 0, 1) := dk_0 a_Bh_act_9 (dko_42 _)
theorem d_Bh_act_10 : decode b_Bh_act 10 = .ok (.getfield 53, 3) := dk_U2 a_Bh_act_10 (dko_180 _) rfl
theorem d_Bh_act_13 : decode b_Bh_act 13 = .ok (.iload_n 1, 1) := dk_0 a_Bh_act_13 (dko_27 _)
theorem d_Bh_act_14 : decode b_Bh_act 14 = .ok (.invokevirtual 257, 3) := dk_U2 a_Bh_act_14 (dko_182 _) rfl
theorem d_Bh_act_17 : decode b_Bh_act 17 = .ok (.istore_n 2, 1) := dk_0 a_Bh_act_17 (dko_61 _)
theorem d_Bh_act_18 : decode b_Bh_act 18 = .ok (.iload_n 2, 1) := dk_0 a_Bh_act_18 (dko_28 _)
theorem d_Bh_act_19 : decode b_Bh_act 19 = .ok (.ifCond .le 22, 3) := dk_S2 a_Bh_act_19 (dko_158 _) (by decide +kernel)
theorem d_Bh_act_22 : decode b_Bh_act 22 = .ok (.aload_n 0, 1) := dk_0 a_Bh_act_22 (dko_42 _)
theorem d_Bh_act_23 : decode b_Bh_act 23 = .ok (.getfield 19, 3) := dk_U2 a_Bh_act_23 (dko_180 _) rfl
theorem d_Bh_act_26 : decode b_Bh_act 26 = .ok (.aload_n 0, 1) := dk_0 a_Bh_act_26 (dko_42 _)
theorem d_Bh_act_27 : decode b_Bh_act 27 = .ok (.getfield 26, 3) := dk_U2 a_Bh_act_27 (dko_180 _) rfl
theorem d_Bh_act_30 : decode b_Bh_act 30 = .ok (.getfield 261, 3) := dk_U2 a_Bh_act_30 (dko_180 _) rfl
theorem d_Bh_act_33 : decode b_Bh_act 33 = .ok (.iconst (-1), 1) := dk_0 a_Bh_act_33 (dko_2 _)
theorem d_Bh_act_34 : decode b_Bh_act 34 = .ok (.bipush 10, 2) := dk_S1 a_Bh_act_34 (dko_16 _) (by decide +kernel)
theorem d_Bh_act_36 : decode b_Bh_act 36 = .ok (.iload_n 2, 1) := dk_0 a_Bh_act_36 (dko_28 _)
theorem d_Bh_act_37 : decode b_Bh_act 37 = .ok (.iadd, 1) := dk_0 a_Bh_act_37 (dko_96 _)
theorem d_Bh_act_38 : decode b_Bh_act 38 = .ok (.invokevirtual 264, 3) := dk_U2 a_Bh_act_38 (dko_182 _) rfl
theorem d_Bh_act_41 : decode b_Bh_act 41 = .ok (.iload_n 2, 1) := dk_0 a_Bh_act_41 (dko_28 _)
theorem d_Bh_act_42 : decode b_Bh_act 42 = .ok (.ireturn, 1) := dk_0 a_Bh_act_42 (dko_172 _)
def fn_Bh_act (ka : Int32) : Int32 := (if ka < 0 then (-1) else (if 32 ≤ ka then (-1) else 1))
set_option maxHeartbeats 4000000 in
set_option maxRecDepth 100000 in
theorem c_Bh_act (l : Launch) (dC : Nat → ClassId) (dI : Nat → Nat → Nat) (cI cB cZ cJ : ClassId) (ka : Int32) (oB : Nat) (oAc : Nat) (xc_what : Nat) (oSt : Nat) (oAl : Nat) (xa_seconds : Nat) (xa_nodes : Nat) (xa_kinds : Nat) (xb : List Value) (hb_alarms : fx xb 1 (.ref oAl)) (hb_stock : fx xb 2 (.ref oSt)) (hb_acts : fx xb 5 (.ref oAc)) (xc : List Value) (hac_what : fx xc 4 (.ref xc_what)) (xs_ : List Value) (hst_now : fx xs_ 1 (.int 0)) (xa : List Value) (hal_count : fx xa 0 (.int 0)) (hal_seconds : fx xa 1 (.ref xa_seconds)) (hal_nodes : fx xa 2 (.ref xa_nodes)) (hal_kinds : fx xa 3 (.ref xa_kinds)) (sz : Nat) : Met l y_Bh_act w_Bh_act ({ frames := 2, cells := 0, slots := 0, locals := 42 }) (va_Pc [.ref oB, .int ka] (PW dC dI cI cB cZ cJ [(oB, .inr (0, xb)), (oAc, .inr (11, xc)), (xc_what, .inl (cI, 32, .inl ((fun _ => (-1))))), (oSt, .inr (4, xs_)), (oAl, .inr (2, xa)), (xa_seconds, .inl (cI, 200, .inl (fun _ => 0))), (xa_nodes, .inl (cI, 200, .inl (fun _ => 0))), (xa_kinds, .inl (cI, 200, .inl (fun _ => 0)))] sz)) (va_Qi (fun (r : Int32) (_ : Unit) => r = fn_Bh_act ka) (fun _ _ => True) (va_A [(oB, .inr (0, xb)), (oAc, .inr (11, xc)), (xc_what, .inl (cI, 32, .inl ((fun _ => (-1))))), (oSt, .inr (4, xs_)), (oAl, .inr (2, xa)), (xa_seconds, .inl (cI, 200, .inl (fun _ => 0))), (xa_nodes, .inl (cI, 200, .inl (fun _ => 0))), (xa_kinds, .inl (cI, 200, .inl (fun _ => 0)))] sz)) 0 0 (va_A [(oB, .inr (0, xb)), (oAc, .inr (11, xc)), (xc_what, .inl (cI, 32, .inl ((fun _ => (-1))))), (oSt, .inr (4, xs_)), (oAl, .inr (2, xa)), (xa_seconds, .inl (cI, 200, .inl (fun _ => 0))), (xa_nodes, .inl (cI, 200, .inl (fun _ => 0))), (xa_kinds, .inl (cI, 200, .inl (fun _ => 0)))] sz) := by
  refine Met.ofW (cc := b_Bh_act) (maxL := 3) (ret := (some .int)) (by decide) rfl ?_
  intro p e s m args below meth c s₁ B hml hv
  obtain ⟨rfl, hsz, hP, hK, hD⟩ := hv
  have hx := B.exec
  have hb := B.bytes
  have hr := B.returns
  have hts := atoms_spec (ws := w_Bh_act) B.pre
  have hown : s.vm.findClass R_Bh = some m.cls := findClass_of_methodNamed B.named
  have hlocks := B.notSynchronized
  subst hsz
  have hD := hD.self (sz := s.heap.size)
  generalize hAe : va_A [(oB, .inr (0, xb)), (oAc, .inr (11, xc)), (xc_what, .inl (cI, 32, .inl ((fun _ => (-1))))), (oSt, .inr (4, xs_)), (oAl, .inr (2, xa)), (xa_seconds, .inl (cI, 200, .inl (fun _ => 0))), (xa_nodes, .inl (cI, 200, .inl (fun _ => 0))), (xa_kinds, .inl (cI, 200, .inl (fun _ => 0)))] s.heap.size = A at hD ⊢
  have hA : ∀ q : Nat, s.heap.size ≤ q → A q := fun q h => by rw [← hAe]; exact Or.inr h
  have hS : va_S A s.heap s.heap [] := va_S.rf
  have hP : va_P (dC, dI) classes [(oB, .inr (0, xb)), (oAc, .inr (11, xc)), (xc_what, .inl (cI, 32, .inl ((fun _ => (-1))))), (oSt, .inr (4, xs_)), (oAl, .inr (2, xa)), (xa_seconds, .inl (cI, 200, .inl (fun _ => 0))), (xa_nodes, .inl (cI, 200, .inl (fun _ => 0))), (xa_kinds, .inl (cI, 200, .inl (fun _ => 0)))] s.heap := hP
  have hl := lv_entry ([.ref oB, .int ka]) (n := 3) (Nat.le_of_ble_eq_true rfl)
  rw [lg_entry_eq]
  generalize (lg_sl ([.ref oB, .int ka]) ++ List.replicate (3 - (lg_sl ([.ref oB, .int ka])).length) Slot.unset).toArray = ls at hl ⊢
  have hl : lv_has ls 3 [(0, .ref oB), (1, .int ka)] := hl
  refine lv_iload_n hx hb d_Bh_act_0 rfl (lv_at hl 1 rfl) ?_
  have hPc := hP.sub (ws' := []) [] rfl
  have hDc := hD.sub (ws' := []) [] (by decide) rfl
  have hFc := pu_free hS hA
  refine va_calli (va_runS (As := [.int ka]) (rest := []) ⟨hx, hb, hml, hown, hts⟩ (c_Ac_isAct l dC dI cI cB cZ cJ ka s.heap.size) (va_cwS 1 hts (tb_S2 mw_1185 mw_1179 mw_9 mw_1180) rfl rfl rfl ⟨by decide +kernel, by decide +kernel, by decide +kernel⟩ ⟨(Nat.le_of_ble_eq_true rfl), (Nat.le_of_ble_eq_true rfl)⟩) ⟨pw_blind, pw_pre hPc hK hDc⟩ rfl rfl hl.1 rfl (lv_room (Nat.le_of_ble_eq_true rfl)) d_Bh_act_1 ⟨(Nat.le_of_ble_eq_true rfl), (Nat.le_of_ble_eq_true rfl)⟩) hS (fun q _ h => hFc q h) hFc (fun r u t H locs ht hvm hw hB hz1 hk1 hS => ?_)
  have hP := pu_kept hP hk1
  by_cases b4_1 : ka < 0
  · obtain rfl : r = 0 := hw.trans (by unfold fn_Ac_isAct; rw [if_pos b4_1])
    refine lv_if_ne (tgt := 9) hx hb d_Bh_act_4 (by decide) (fun h => absurd rfl h) (fun _ => ?_)
    refine lv_iconst (v := (-1)) hx hb d_Bh_act_7 (by decide) ?_
    exact W.iret (v := (-1)) hx hb hr (fun t ht hW => ⟨⟨_, (), rfl, (by unfold fn_Bh_act; rw [if_pos b4_1]), trivial⟩, hS.F ht⟩) hS.2.2 d_Bh_act_8
  · by_cases b4_2 : 32 ≤ ka
    · obtain rfl : r = 0 := hw.trans (by unfold fn_Ac_isAct; rw [if_neg b4_1, if_pos b4_2])
      refine lv_if_ne (tgt := 9) hx hb d_Bh_act_4 (by decide) (fun h => absurd rfl h) (fun _ => ?_)
      refine lv_iconst (v := (-1)) hx hb d_Bh_act_7 (by decide) ?_
      exact W.iret (v := (-1)) hx hb hr (fun t ht hW => ⟨⟨_, (), rfl, (by unfold fn_Bh_act; rw [if_neg b4_1, if_pos b4_2]), trivial⟩, hS.F ht⟩) hS.2.2 d_Bh_act_8
    · obtain rfl : r = 1 := hw.trans (by unfold fn_Ac_isAct; rw [if_neg b4_1, if_neg b4_2])
      refine lv_if_ne (tgt := 9) hx hb d_Bh_act_4 (by decide) (fun _ => ?_) (fun h => absurd h (by decide))
      refine lv_aload_n hx hb d_Bh_act_9 rfl (lv_at hl 0 rfl) ?_
      refine va_get (D := (dC, dI)) (ci := 0) (v := .ref oAc) (C := R_Bh) (T := F_Bh) (N := 16) hx hb hts (fun w h => List.mem_cons_of_mem _ (in_Bh w h)) hown hK.1 hP 0 rfl rfl 5 (by decide) (hts _ (List.mem_cons_of_mem _ mw_689)) (fun _ h9 => h9) hb_acts d_Bh_act_10 ?_
      refine lv_iload_n hx hb d_Bh_act_13 rfl (lv_at hl 1 rfl) ?_
      have hPc := hP.sub (ws' := [(oAc, .inr (11, xc)), (xc_what, .inl (cI, 32, .inl ((fun _ => (-1)))))]) [1, 2] rfl
      have hDc := hD.sub (ws' := [(oAc, .inr (11, xc)), (xc_what, .inl (cI, 32, .inl ((fun _ => (-1)))))]) [1, 2] (by decide) rfl
      have hFc := pu_free hS hA
      refine va_calli (va_runV (C := R_Ac) (As := [.int ka]) (rest := []) ⟨hx, hb, hml, hown, hts⟩ (c_Ac_perform l dC dI cI cB cZ cJ ka b4_1 b4_2 oAc xc_what xc hac_what H.size) (cwV 1 hts (tb_V mw_1186 mw_1187 mw_1188 mw_9 mw_1189) rfl rfl rfl ⟨rfl, by decide +kernel, by decide +kernel, by decide +kernel⟩ ⟨(Nat.le_of_ble_eq_true rfl), (Nat.le_of_ble_eq_true rfl)⟩) ⟨pw_blind, va_recv (q := (R_Ac, F_Ac, 8)) hK.1 hP (ci := 11) (q0 := 1) rfl rfl, pw_pre hPc hK hDc⟩ rfl rfl hl.1 rfl (lv_room (Nat.le_of_ble_eq_true rfl)) d_Bh_act_14 ⟨(Nat.le_of_ble_eq_true rfl), (Nat.le_of_ble_eq_true rfl)⟩) hS (fun q _ h => hFc q h) hFc (fun r u t H locs ht hvm hw hB hz1 hk1 hS => ?_)
      have hP := pu_kept hP hk1
      obtain rfl : r = 1 := hw
      refine lv_istore_n hx hb d_Bh_act_17 rfl hl (by decide) rfl (fun ls hl => ?_)
      have hl : lv_has ls 3 [(2, .int 1), (0, .ref oB), (1, .int ka)] := hl
      refine lv_iload_n hx hb d_Bh_act_18 rfl (lv_at hl 0 rfl) ?_
      refine lv_if_le (tgt := 41) hx hb d_Bh_act_19 (by decide) (fun h => absurd h (by decide)) (fun _ => ?_)
      refine lv_aload_n hx hb d_Bh_act_22 rfl (lv_at hl 1 rfl) ?_
      refine va_get (D := (dC, dI)) (ci := 0) (v := .ref oAl) (C := R_Bh) (T := F_Bh) (N := 16) hx hb hts (fun w h => List.mem_cons_of_mem _ (in_Bh w h)) hown hK.1 hP 0 rfl rfl 1 (by decide) (hts _ (List.mem_cons_of_mem _ mw_685)) (fun _ h9 => h9) hb_alarms d_Bh_act_23 ?_
      refine lv_aload_n hx hb d_Bh_act_26 rfl (lv_at hl 1 rfl) ?_
      refine va_get (D := (dC, dI)) (ci := 0) (v := .ref oSt) (C := R_Bh) (T := F_Bh) (N := 16) hx hb hts (fun w h => List.mem_cons_of_mem _ (in_Bh w h)) hown hK.1 hP 0 rfl rfl 2 (by decide) (hts _ (List.mem_cons_of_mem _ mw_686)) (fun _ h9 => h9) hb_stock d_Bh_act_27 ?_
      refine va_get (D := (dC, dI)) (ci := 4) (v := .int 0) (C := R_St) (T := F_St) (N := 12) hx hb hts (fun w h => List.mem_cons_of_mem _ (in_St w h)) hown hK.1 hP 3 rfl rfl 1 (by decide) (hts _ (List.mem_cons_of_mem _ mw_156)) (fun _ h9 => h9) hst_now d_Bh_act_30 ?_
      refine lv_iconst (v := (-1)) hx hb d_Bh_act_33 (by decide) ?_
      refine lv_bipush (v := 10) hx hb d_Bh_act_34 (by decide) ?_
      refine lv_iload_n hx hb d_Bh_act_36 rfl (lv_at hl 0 rfl) ?_
      refine lv_iadd hx hb d_Bh_act_37 ?_
      refine lv_topi (fun x0 e0 => ?_)
      obtain rfl : x0 = 11 := e0.trans (by decide)
      have hPc := hP.sub (ws' := [(oAl, .inr (2, xa)), (xa_seconds, .inl (cI, 200, .inl (fun _ => 0))), (xa_nodes, .inl (cI, 200, .inl (fun _ => 0))), (xa_kinds, .inl (cI, 200, .inl (fun _ => 0)))]) [4, 5, 6, 7] rfl
      have hDc := hD.sub (ws' := [(oAl, .inr (2, xa)), (xa_seconds, .inl (cI, 200, .inl (fun _ => 0))), (xa_nodes, .inl (cI, 200, .inl (fun _ => 0))), (xa_kinds, .inl (cI, 200, .inl (fun _ => 0)))]) [4, 5, 6, 7] (by decide) rfl
      have hFc := va_free (wc := [(oAl, .inr (2, xa)), (xa_seconds, .inl (cI, 200, .inl (fun _ => 0))), (xa_nodes, .inl (cI, 200, .inl (fun _ => 0))), (xa_kinds, .inl (cI, 200, .inl (fun _ => 0)))]) hD hS hA [4, 5, 6, 7] rfl
      refine va_callv (va_runV (C := R_Al) (As := [.int 0, .int (-1), .int 11]) (rest := []) ⟨hx, hb, hml, hown, hts⟩ (c_Al_add l dC dI cI cB cZ cJ 0 (-1) 11 oAl xa_seconds xa_nodes xa_kinds xa hal_count hal_seconds hal_nodes hal_kinds H.size) (cwV 3 hts (tb_V mw_1289 mw_1290 mw_1291 mw_3 mw_1292) rfl rfl rfl ⟨rfl, by decide +kernel, by decide +kernel, by decide +kernel⟩ ⟨(Nat.le_of_ble_eq_true rfl), (Nat.le_of_ble_eq_true rfl)⟩) ⟨pw_blind, va_recv (q := (R_Al, F_Al, 4)) hK.1 hP (ci := 2) (q0 := 4) rfl rfl, pw_pre hPc hK hDc⟩ rfl rfl hl.1 rfl (lv_room (Nat.le_of_ble_eq_true rfl)) d_Bh_act_38 ⟨(Nat.le_of_ble_eq_true rfl), (Nat.le_of_ble_eq_true rfl)⟩) hS (fun q _ h => hFc q h) hFc (fun u t H locs ht hvm hw hB hz1 hk1 hS => ?_)
      obtain ⟨hP, hD⟩ := va_join (wr := [(oB, .inr (0, xb)), (oAc, .inr (11, xc)), (xc_what, .inl (cI, 32, .inl ((fun _ => (-1))))), (oSt, .inr (4, xs_))]) (w1 := []) hP hD [4, 5, 6, 7] [0, 1, 2, 3] rfl rfl (by decide) (by decide) hk1 hFc wn_P wn_D
      have hP : va_P (dC, dI) classes [(oB, .inr (0, xb)), (oAc, .inr (11, xc)), (xc_what, .inl (cI, 32, .inl ((fun _ => (-1))))), (oSt, .inr (4, xs_))] H := hP
      have hD : va_D A [(oB, .inr (0, xb)), (oAc, .inr (11, xc)), (xc_what, .inl (cI, 32, .inl ((fun _ => (-1))))), (oSt, .inr (4, xs_))] := hD
      refine lv_iload_n hx hb d_Bh_act_41 rfl (lv_at hl 0 rfl) ?_
      exact W.iret (v := 1) hx hb hr (fun t ht hW => ⟨⟨_, (), rfl, (by unfold fn_Bh_act; rw [if_neg b4_1, if_neg b4_2]), trivial⟩, hS.F ht⟩) hS.2.2 d_Bh_act_42
abbrev t_Bh_bars_22 : List UInt8 := 172 :: []
abbrev t_Bh_bars_21 : List UInt8 := 2 :: t_Bh_bars_22
abbrev t_Bh_bars_18 : List UInt8 := 167 :: 0 :: 4 :: t_Bh_bars_21
abbrev t_Bh_bars_15 : List UInt8 := 182 :: 1 :: 80 :: t_Bh_bars_18
abbrev t_Bh_bars_14 : List UInt8 := 27 :: t_Bh_bars_15
abbrev t_Bh_bars_11 : List UInt8 := 180 :: 0 :: 174 :: t_Bh_bars_14
abbrev t_Bh_bars_8 : List UInt8 := 180 :: 0 :: 53 :: t_Bh_bars_11
abbrev t_Bh_bars_7 : List UInt8 := 42 :: t_Bh_bars_8
abbrev t_Bh_bars_4 : List UInt8 := 153 :: 0 :: 17 :: t_Bh_bars_7
abbrev t_Bh_bars_1 : List UInt8 := 184 :: 0 :: 254 :: t_Bh_bars_4
abbrev t_Bh_bars_0 : List UInt8 := 27 :: t_Bh_bars_1
theorem a_Bh_bars_0 : dk_at b_Bh_bars 0 t_Bh_bars_0 := dk_start (by decide +kernel)
theorem a_Bh_bars_1 : dk_at b_Bh_bars 1 t_Bh_bars_1 := dk_go 1 a_Bh_bars_0 rfl
theorem a_Bh_bars_4 : dk_at b_Bh_bars 4 t_Bh_bars_4 := dk_go 3 a_Bh_bars_1 rfl
theorem a_Bh_bars_7 : dk_at b_Bh_bars 7 t_Bh_bars_7 := dk_go 3 a_Bh_bars_4 rfl
theorem a_Bh_bars_8 : dk_at b_Bh_bars 8 t_Bh_bars_8 := dk_go 1 a_Bh_bars_7 rfl
theorem a_Bh_bars_11 : dk_at b_Bh_bars 11 t_Bh_bars_11 := dk_go 3 a_Bh_bars_8 rfl
theorem a_Bh_bars_14 : dk_at b_Bh_bars 14 t_Bh_bars_14 := dk_go 3 a_Bh_bars_11 rfl
theorem a_Bh_bars_15 : dk_at b_Bh_bars 15 t_Bh_bars_15 := dk_go 1 a_Bh_bars_14 rfl
theorem a_Bh_bars_18 : dk_at b_Bh_bars 18 t_Bh_bars_18 := dk_go 3 a_Bh_bars_15 rfl
theorem a_Bh_bars_21 : dk_at b_Bh_bars 21 t_Bh_bars_21 := dk_go 3 a_Bh_bars_18 rfl
theorem a_Bh_bars_22 : dk_at b_Bh_bars 22 t_Bh_bars_22 := dk_go 1 a_Bh_bars_21 rfl
theorem d_Bh_bars_0 : decode b_Bh_bars 0 = .ok (.iload_n 1, 1) := dk_0 a_Bh_bars_0 (dko_27 _)
theorem d_Bh_bars_1 : decode b_Bh_bars 1 = .ok (.invokestatic 254, 3) := dk_U2 a_Bh_bars_1 (dko_184 _) rfl
theorem d_Bh_bars_4 : decode b_Bh_bars 4 = .ok (.ifCond .eq 17, 3) := dk_S2 a_Bh_bars_4 (dko_153 _) (by decide +kernel)
theorem d_Bh_bars_7 : decode b_Bh_bars 7 = .ok (.aload_n 0, 1) := dk_0 a_Bh_bars_7 (dko_42 _)
theorem d_Bh_bars_8 : decode b_Bh_bars 8 = .ok (.getfield 53, 3) := dk_U2 a_Bh_bars_8 (dko_180 _) rfl
theorem d_Bh_bars_11 : decode b_Bh_bars 11 = .ok (.getfield 174, 3) := dk_U2 a_Bh_bars_11 (dko_180 _) rfl
theorem d_Bh_bars_14 : decode b_Bh_bars 14 = .ok (.iload_n 1, 1) := dk_0 a_Bh_bars_14 (dko_27 _)
theorem d_Bh_bars_15 : decode b_Bh_bars 15 = .ok (.invokevirtual 336, 3) := dk_U2 a_Bh_bars_15 (dko_182 _) rfl
theorem d_Bh_bars_18 : decode b_Bh_bars 18 = .ok (.goto 4, 3) := dk_S2 a_Bh_bars_18 (dko_167 _) (by decide +kernel)
theorem d_Bh_bars_21 : decode b_Bh_bars 21 = .ok (.iconst (-1), 1) := dk_0 a_Bh_bars_21 (dko_2 _)
theorem d_Bh_bars_22 : decode b_Bh_bars 22 = .ok (.ireturn, 1) := dk_0 a_Bh_bars_22 (dko_172 _)
def fn_Bh_bars (ka : Int32) : Int32 := (if ka < 0 then (-1) else (if 32 ≤ ka then (-1) else 0))
set_option maxHeartbeats 4000000 in
set_option maxRecDepth 100000 in
theorem c_Bh_bars (l : Launch) (dC : Nat → ClassId) (dI : Nat → Nat → Nat) (cI cB cZ cJ : ClassId) (ka : Int32) (oB : Nat) (oAc : Nat) (oR1 : Nat) (xb : List Value) (hb_acts : fx xb 5 (.ref oAc)) (xc : List Value) (hac_rows : fx xc 3 (.ref oR1)) (xr : List Value) (hxr_count : fx xr 0 (.int 0)) (sz : Nat) : Met l y_Bh_bars w_Bh_bars ({ frames := 1, cells := 0, slots := 0, locals := 23 }) (va_Pc [.ref oB, .int ka] (PW dC dI cI cB cZ cJ [(oB, .inr (0, xb)), (oAc, .inr (11, xc)), (oR1, .inr (7, xr))] sz)) (va_Qi (fun (r : Int32) (_ : Unit) => r = fn_Bh_bars ka) (fun _ _ => True) (va_A [] sz)) 0 0 (va_A [] sz) := by
  refine Met.ofW (cc := b_Bh_bars) (maxL := 2) (ret := (some .int)) (by decide) rfl ?_
  intro p e s m args below meth c s₁ B hml hv
  obtain ⟨rfl, hsz, hP, hK, hD⟩ := hv
  have hx := B.exec
  have hb := B.bytes
  have hr := B.returns
  have hts := atoms_spec (ws := w_Bh_bars) B.pre
  have hown : s.vm.findClass R_Bh = some m.cls := findClass_of_methodNamed B.named
  have hlocks := B.notSynchronized
  subst hsz
  generalize hAe : va_A [] s.heap.size = A at ⊢
  have hA : ∀ q : Nat, s.heap.size ≤ q → A q := fun q h => by rw [← hAe]; exact Or.inr h
  have hS : va_S A s.heap s.heap [] := va_S.rf
  have hP : va_P (dC, dI) classes [(oB, .inr (0, xb)), (oAc, .inr (11, xc)), (oR1, .inr (7, xr))] s.heap := hP
  have hl := lv_entry ([.ref oB, .int ka]) (n := 2) (Nat.le_of_ble_eq_true rfl)
  rw [lg_entry_eq]
  generalize (lg_sl ([.ref oB, .int ka]) ++ List.replicate (2 - (lg_sl ([.ref oB, .int ka])).length) Slot.unset).toArray = ls at hl ⊢
  have hl : lv_has ls 2 [(0, .ref oB), (1, .int ka)] := hl
  refine lv_iload_n hx hb d_Bh_bars_0 rfl (lv_at hl 1 rfl) ?_
  have hPc := hP.sub (ws' := []) [] rfl
  have hDc := hD.sub (ws' := []) [] (by decide) rfl
  have hFc := pu_free hS hA
  refine va_calli (va_runS (As := [.int ka]) (rest := []) ⟨hx, hb, hml, hown, hts⟩ (c_Ac_isAct l dC dI cI cB cZ cJ ka s.heap.size) (va_cwS 1 hts (tb_S2 mw_1185 mw_1179 mw_9 mw_1180) rfl rfl rfl ⟨by decide +kernel, by decide +kernel, by decide +kernel⟩ ⟨(Nat.le_of_ble_eq_true rfl), (Nat.le_of_ble_eq_true rfl)⟩) ⟨pw_blind, pw_pre hPc hK hDc⟩ rfl rfl hl.1 rfl (lv_room (Nat.le_of_ble_eq_true rfl)) d_Bh_bars_1 ⟨(Nat.le_of_ble_eq_true rfl), (Nat.le_of_ble_eq_true rfl)⟩) hS (fun q _ h => hFc q h) hFc (fun r u t H locs ht hvm hw hB hz1 hk1 hS => ?_)
  have hP := pu_kept hP hk1
  by_cases b4_1 : ka < 0
  · obtain rfl : r = 0 := hw.trans (by unfold fn_Ac_isAct; rw [if_pos b4_1])
    refine lv_if_eq (tgt := 21) hx hb d_Bh_bars_4 (by decide) (fun _ => ?_) (fun h => absurd (by decide) h)
    refine lv_iconst (v := (-1)) hx hb d_Bh_bars_21 (by decide) ?_
    exact W.iret (v := (-1)) hx hb hr (fun t ht hW => ⟨⟨_, (), rfl, (by unfold fn_Bh_bars; rw [if_pos b4_1]), trivial⟩, hS.F ht⟩) hS.2.2 d_Bh_bars_22
  · by_cases b4_2 : 32 ≤ ka
    · obtain rfl : r = 0 := hw.trans (by unfold fn_Ac_isAct; rw [if_neg b4_1, if_pos b4_2])
      refine lv_if_eq (tgt := 21) hx hb d_Bh_bars_4 (by decide) (fun _ => ?_) (fun h => absurd (by decide) h)
      refine lv_iconst (v := (-1)) hx hb d_Bh_bars_21 (by decide) ?_
      exact W.iret (v := (-1)) hx hb hr (fun t ht hW => ⟨⟨_, (), rfl, (by unfold fn_Bh_bars; rw [if_neg b4_1, if_pos b4_2]), trivial⟩, hS.F ht⟩) hS.2.2 d_Bh_bars_22
    · obtain rfl : r = 1 := hw.trans (by unfold fn_Ac_isAct; rw [if_neg b4_1, if_neg b4_2])
      refine lv_if_eq (tgt := 21) hx hb d_Bh_bars_4 (by decide) (fun h => absurd h (by decide)) (fun _ => ?_)
      refine lv_aload_n hx hb d_Bh_bars_7 rfl (lv_at hl 0 rfl) ?_
      refine va_get (D := (dC, dI)) (ci := 0) (v := .ref oAc) (C := R_Bh) (T := F_Bh) (N := 16) hx hb hts (fun w h => List.mem_cons_of_mem _ (in_Bh w h)) hown hK.1 hP 0 rfl rfl 5 (by decide) (hts _ (List.mem_cons_of_mem _ mw_689)) (fun _ h9 => h9) hb_acts d_Bh_bars_8 ?_
      refine va_get (D := (dC, dI)) (ci := 11) (v := .ref oR1) (C := R_Ac) (T := F_Ac) (N := 8) hx hb hts (fun w h => List.mem_cons_of_mem _ (in_Ac w h)) hown hK.1 hP 1 rfl rfl 3 (by decide) (hts _ (List.mem_cons_of_mem _ mw_394)) (fun _ h9 => h9) hac_rows d_Bh_bars_11 ?_
      refine lv_iload_n hx hb d_Bh_bars_14 rfl (lv_at hl 1 rfl) ?_
      have hPc := hP.sub (ws' := [(oR1, .inr (7, xr))]) [2] rfl
      have hDc := hD.sub (ws' := [(oR1, .inr (7, xr))]) [2] (by decide) rfl
      have hFc := pu_free hS hA
      refine va_calli (va_runV (C := R_Ro) (As := [.int ka]) (rest := []) ⟨hx, hb, hml, hown, hts⟩ (c_Ro_barring l dC dI cI cB cZ cJ ka oR1 xr hxr_count H.size) (cwV 1 hts (tb_V mw_1508 mw_1209 mw_1210 mw_10 mw_1211) rfl rfl rfl ⟨rfl, by decide +kernel, by decide +kernel, by decide +kernel⟩ ⟨(Nat.le_of_ble_eq_true rfl), (Nat.le_of_ble_eq_true rfl)⟩) ⟨pw_blind, va_recv (q := (R_Ro, F_Ro, 18)) hK.1 hP (ci := 7) (q0 := 2) rfl rfl, pw_pre hPc hK hDc⟩ rfl rfl hl.1 rfl (lv_room (Nat.le_of_ble_eq_true rfl)) d_Bh_bars_15 ⟨(Nat.le_of_ble_eq_true rfl), (Nat.le_of_ble_eq_true rfl)⟩) hS (fun q _ h => hFc q h) hFc (fun r u t H locs ht hvm hw hB hz1 hk1 hS => ?_)
      have hP := pu_kept hP hk1
      obtain rfl : r = 0 := hw
      refine lv_goto (tgt := 22) hx hb d_Bh_bars_18 (by decide) ?_
      exact W.iret (v := 0) hx hb hr (fun t ht hW => ⟨⟨_, (), rfl, (by unfold fn_Bh_bars; rw [if_neg b4_1, if_neg b4_2]), trivial⟩, hS.F ht⟩) hS.2.2 d_Bh_bars_22
abbrev t_Ru_giveAnswer_49 : List UInt8 := 172 :: []
abbrev t_Ru_giveAnswer_48 : List UInt8 := 4 :: t_Ru_giveAnswer_49
abbrev t_Ru_giveAnswer_45 : List UInt8 := 182 :: 0 :: 183 :: t_Ru_giveAnswer_48
abbrev t_Ru_giveAnswer_44 : List UInt8 := 31 :: t_Ru_giveAnswer_45
abbrev t_Ru_giveAnswer_43 : List UInt8 := 46 :: t_Ru_giveAnswer_44
abbrev t_Ru_giveAnswer_42 : List UInt8 := 29 :: t_Ru_giveAnswer_43
abbrev t_Ru_giveAnswer_39 : List UInt8 := 180 :: 0 :: 22 :: t_Ru_giveAnswer_42
abbrev t_Ru_giveAnswer_38 : List UInt8 := 42 :: t_Ru_giveAnswer_39
abbrev t_Ru_giveAnswer_37 : List UInt8 := 42 :: t_Ru_giveAnswer_38
abbrev t_Ru_giveAnswer_36 : List UInt8 := 80 :: t_Ru_giveAnswer_37
abbrev t_Ru_giveAnswer_35 : List UInt8 := 10 :: t_Ru_giveAnswer_36
abbrev t_Ru_giveAnswer_34 : List UInt8 := 29 :: t_Ru_giveAnswer_35
abbrev t_Ru_giveAnswer_31 : List UInt8 := 180 :: 0 :: 38 :: t_Ru_giveAnswer_34
abbrev t_Ru_giveAnswer_30 : List UInt8 := 42 :: t_Ru_giveAnswer_31
abbrev t_Ru_giveAnswer_29 : List UInt8 := 172 :: t_Ru_giveAnswer_30
abbrev t_Ru_giveAnswer_28 : List UInt8 := 3 :: t_Ru_giveAnswer_29
abbrev t_Ru_giveAnswer_25 : List UInt8 := 156 :: 0 :: 5 :: t_Ru_giveAnswer_28
abbrev t_Ru_giveAnswer_24 : List UInt8 := 29 :: t_Ru_giveAnswer_25
abbrev t_Ru_giveAnswer_23 : List UInt8 := 62 :: t_Ru_giveAnswer_24
abbrev t_Ru_giveAnswer_22 : List UInt8 := 2 :: t_Ru_giveAnswer_23
abbrev t_Ru_giveAnswer_19 : List UInt8 := 167 :: 0 :: 4 :: t_Ru_giveAnswer_22
abbrev t_Ru_giveAnswer_16 : List UInt8 := 182 :: 0 :: 212 :: t_Ru_giveAnswer_19
abbrev t_Ru_giveAnswer_15 : List UInt8 := 3 :: t_Ru_giveAnswer_16
abbrev t_Ru_giveAnswer_14 : List UInt8 := 4 :: t_Ru_giveAnswer_15
abbrev t_Ru_giveAnswer_13 : List UInt8 := 3 :: t_Ru_giveAnswer_14
abbrev t_Ru_giveAnswer_12 : List UInt8 := 42 :: t_Ru_giveAnswer_13
abbrev t_Ru_giveAnswer_9 : List UInt8 := 154 :: 0 :: 13 :: t_Ru_giveAnswer_12
abbrev t_Ru_giveAnswer_6 : List UInt8 := 180 :: 0 :: 18 :: t_Ru_giveAnswer_9
abbrev t_Ru_giveAnswer_5 : List UInt8 := 42 :: t_Ru_giveAnswer_6
abbrev t_Ru_giveAnswer_2 : List UInt8 := 181 :: 0 :: 216 :: t_Ru_giveAnswer_5
abbrev t_Ru_giveAnswer_1 : List UInt8 := 3 :: t_Ru_giveAnswer_2
abbrev t_Ru_giveAnswer_0 : List UInt8 := 42 :: t_Ru_giveAnswer_1
theorem a_Ru_giveAnswer_0 : dk_at b_Ru_giveAnswer 0 t_Ru_giveAnswer_0 := dk_start (by decide +kernel)
theorem a_Ru_giveAnswer_1 : dk_at b_Ru_giveAnswer 1 t_Ru_giveAnswer_1 := dk_go 1 a_Ru_giveAnswer_0 rfl
theorem a_Ru_giveAnswer_2 : dk_at b_Ru_giveAnswer 2 t_Ru_giveAnswer_2 := dk_go 1 a_Ru_giveAnswer_1 rfl
theorem a_Ru_giveAnswer_5 : dk_at b_Ru_giveAnswer 5 t_Ru_giveAnswer_5 := dk_go 3 a_Ru_giveAnswer_2 rfl
theorem a_Ru_giveAnswer_6 : dk_at b_Ru_giveAnswer 6 t_Ru_giveAnswer_6 := dk_go 1 a_Ru_giveAnswer_5 rfl
theorem a_Ru_giveAnswer_9 : dk_at b_Ru_giveAnswer 9 t_Ru_giveAnswer_9 := dk_go 3 a_Ru_giveAnswer_6 rfl
theorem a_Ru_giveAnswer_12 : dk_at b_Ru_giveAnswer 12 t_Ru_giveAnswer_12 := dk_go 3 a_Ru_giveAnswer_9 rfl
theorem a_Ru_giveAnswer_13 : dk_at b_Ru_giveAnswer 13 t_Ru_giveAnswer_13 := dk_go 1 a_Ru_giveAnswer_12 rfl
theorem a_Ru_giveAnswer_14 : dk_at b_Ru_giveAnswer 14 t_Ru_giveAnswer_14 := dk_go 1 a_Ru_giveAnswer_13 rfl
theorem a_Ru_giveAnswer_15 : dk_at b_Ru_giveAnswer 15 t_Ru_giveAnswer_15 := dk_go 1 a_Ru_giveAnswer_14 rfl
theorem a_Ru_giveAnswer_16 : dk_at b_Ru_giveAnswer 16 t_Ru_giveAnswer_16 := dk_go 1 a_Ru_giveAnswer_15 rfl
theorem a_Ru_giveAnswer_19 : dk_at b_Ru_giveAnswer 19 t_Ru_giveAnswer_19 := dk_go 3 a_Ru_giveAnswer_16 rfl
theorem a_Ru_giveAnswer_22 : dk_at b_Ru_giveAnswer 22 t_Ru_giveAnswer_22 := dk_go 3 a_Ru_giveAnswer_19 rfl
theorem a_Ru_giveAnswer_23 : dk_at b_Ru_giveAnswer 23 t_Ru_giveAnswer_23 := dk_go 1 a_Ru_giveAnswer_22 rfl
theorem a_Ru_giveAnswer_24 : dk_at b_Ru_giveAnswer 24 t_Ru_giveAnswer_24 := dk_go 1 a_Ru_giveAnswer_23 rfl
theorem a_Ru_giveAnswer_25 : dk_at b_Ru_giveAnswer 25 t_Ru_giveAnswer_25 := dk_go 1 a_Ru_giveAnswer_24 rfl
theorem a_Ru_giveAnswer_28 : dk_at b_Ru_giveAnswer 28 t_Ru_giveAnswer_28 := dk_go 3 a_Ru_giveAnswer_25 rfl
theorem a_Ru_giveAnswer_29 : dk_at b_Ru_giveAnswer 29 t_Ru_giveAnswer_29 := dk_go 1 a_Ru_giveAnswer_28 rfl
theorem a_Ru_giveAnswer_30 : dk_at b_Ru_giveAnswer 30 t_Ru_giveAnswer_30 := dk_go 1 a_Ru_giveAnswer_29 rfl
theorem a_Ru_giveAnswer_31 : dk_at b_Ru_giveAnswer 31 t_Ru_giveAnswer_31 := dk_go 1 a_Ru_giveAnswer_30 rfl
theorem a_Ru_giveAnswer_34 : dk_at b_Ru_giveAnswer 34 t_Ru_giveAnswer_34 := dk_go 3 a_Ru_giveAnswer_31 rfl
theorem a_Ru_giveAnswer_35 : dk_at b_Ru_giveAnswer 35 t_Ru_giveAnswer_35 := dk_go 1 a_Ru_giveAnswer_34 rfl
theorem a_Ru_giveAnswer_36 : dk_at b_Ru_giveAnswer 36 t_Ru_giveAnswer_36 := dk_go 1 a_Ru_giveAnswer_35 rfl
theorem a_Ru_giveAnswer_37 : dk_at b_Ru_giveAnswer 37 t_Ru_giveAnswer_37 := dk_go 1 a_Ru_giveAnswer_36 rfl
theorem a_Ru_giveAnswer_38 : dk_at b_Ru_giveAnswer 38 t_Ru_giveAnswer_38 := dk_go 1 a_Ru_giveAnswer_37 rfl
theorem a_Ru_giveAnswer_39 : dk_at b_Ru_giveAnswer 39 t_Ru_giveAnswer_39 := dk_go 1 a_Ru_giveAnswer_38 rfl
theorem a_Ru_giveAnswer_42 : dk_at b_Ru_giveAnswer 42 t_Ru_giveAnswer_42 := dk_go 3 a_Ru_giveAnswer_39 rfl
theorem a_Ru_giveAnswer_43 : dk_at b_Ru_giveAnswer 43 t_Ru_giveAnswer_43 := dk_go 1 a_Ru_giveAnswer_42 rfl
theorem a_Ru_giveAnswer_44 : dk_at b_Ru_giveAnswer 44 t_Ru_giveAnswer_44 := dk_go 1 a_Ru_giveAnswer_43 rfl
theorem a_Ru_giveAnswer_45 : dk_at b_Ru_giveAnswer 45 t_Ru_giveAnswer_45 := dk_go 1 a_Ru_giveAnswer_44 rfl
theorem a_Ru_giveAnswer_48 : dk_at b_Ru_giveAnswer 48 t_Ru_giveAnswer_48 := dk_go 3 a_Ru_giveAnswer_45 rfl
theorem a_Ru_giveAnswer_49 : dk_at b_Ru_giveAnswer 49 t_Ru_giveAnswer_49 := dk_go 1 a_Ru_giveAnswer_48 rfl
theorem d_Ru_giveAnswer_0 : decode b_Ru_giveAnswer 0 = .ok (.aload_n 0, 1) := dk_0 a_Ru_giveAnswer_0 (dko_42 _)
theorem d_Ru_giveAnswer_1 : decode b_Ru_giveAnswer 1 = .ok (.iconst 0, 1) := dk_0 a_Ru_giveAnswer_1 (dko_3 _)
theorem d_Ru_giveAnswer_2 : decode b_Ru_giveAnswer 2 = .ok (.putfield 216, 3) := dk_U2 a_Ru_giveAnswer_2 (dko_181 _) rfl
theorem d_Ru_giveAnswer_5 : decode b_Ru_giveAnswer 5 = .ok (.aload_n 0, 1) := dk_0 a_Ru_giveAnswer_5 (dko_42 _)
theorem d_Ru_giveAnswer_6 : decode b_Ru_giveAnswer 6 = .ok (.getfield 18, 3) := dk_U2 a_Ru_giveAnswer_6 (dko_180 _) rfl
theorem d_Ru_giveAnswer_9 : decode b_Ru_giveAnswer 9 = .ok (.ifCond .ne 13, 3) := dk_S2 a_Ru_giveAnswer_9 (dko_154 _) (by decide +kernel)
theorem d_Ru_giveAnswer_22 : decode b_Ru_giveAnswer 22 = .ok (.iconst (-1), 1) := dk_0 a_Ru_giveAnswer_22 (dko_2 _)
theorem d_Ru_giveAnswer_23 : decode b_Ru_giveAnswer 23 = .ok (.istore_n 3, 1) := dk_0 a_Ru_giveAnswer_23 (dko_62 _)
theorem d_Ru_giveAnswer_24 : decode b_Ru_giveAnswer 24 = .ok (.iload_n 3, 1) := dk_0 a_Ru_giveAnswer_24 (dko_29 _)
theorem d_Ru_giveAnswer_25 : decode b_Ru_giveAnswer 25 = .ok (.ifCond .ge 5, 3) := dk_S2 a_Ru_giveAnswer_25 (dko_156 _) (by decide +kernel)
theorem d_Ru_giveAnswer_28 : decode b_Ru_giveAnswer 28 = .ok (.iconst 0, 1) := dk_0 a_Ru_giveAnswer_28 (dko_3 _)
theorem d_Ru_giveAnswer_29 : decode b_Ru_giveAnswer 29 = .ok (.ireturn, 1) := dk_0 a_Ru_giveAnswer_29 (dko_172 _)
set_option maxHeartbeats 4000000 in
set_option maxRecDepth 100000 in
theorem c_Ru_giveAnswer (l : Launch) (dC : Nat → ClassId) (dI : Nat → Nat → Nat) (cI cB cZ cJ : ClassId) (vv : Int64) (oRu : Nat) (xn : List Value) (hru_state : fx xn 4 (.int 4)) (hru_skipped : fx xn 15 (.int 0)) (sz : Nat) : Met l y_Ru_giveAnswer w_Ru_giveAnswer ({ frames := 0, cells := 0, slots := 0, locals := 0 }) (va_Pc [.ref oRu, .long vv] (PW dC dI cI cB cZ cJ [(oRu, .inr (10, xn))] sz)) (va_Qi (fun (r : Int32) (_ : Unit) => r = 0) (fun _ _ => True) (va_A [(oRu, .inr (10, xn))] sz)) 0 0 (va_A [(oRu, .inr (10, xn))] sz) := by
  refine Met.ofW (cc := b_Ru_giveAnswer) (maxL := 4) (ret := (some .boolean)) (by decide) rfl ?_
  intro p e s m args below meth c s₁ B hml hv
  obtain ⟨rfl, hsz, hP, hK, hD⟩ := hv
  have hx := B.exec
  have hb := B.bytes
  have hr := B.returns
  have hts := atoms_spec (ws := w_Ru_giveAnswer) B.pre
  have hown : s.vm.findClass R_Ru = some m.cls := findClass_of_methodNamed B.named
  have hlocks := B.notSynchronized
  subst hsz
  have hD := hD.self (sz := s.heap.size)
  generalize hAe : va_A [(oRu, .inr (10, xn))] s.heap.size = A at hD ⊢
  have hA : ∀ q : Nat, s.heap.size ≤ q → A q := fun q h => by rw [← hAe]; exact Or.inr h
  have hS : va_S A s.heap s.heap [] := va_S.rf
  have hP : va_P (dC, dI) classes [(oRu, .inr (10, xn))] s.heap := hP
  have hl := lv_entry ([.ref oRu, .long vv]) (n := 4) (Nat.le_of_ble_eq_true rfl)
  rw [lg_entry_eq]
  generalize (lg_sl ([.ref oRu, .long vv]) ++ List.replicate (4 - (lg_sl ([.ref oRu, .long vv])).length) Slot.unset).toArray = ls at hl ⊢
  have hl : lv_has ls 4 [(0, .ref oRu), (1, .long vv)] := hl
  refine lv_aload_n hx hb d_Ru_giveAnswer_0 rfl (lv_at hl 0 rfl) ?_
  refine lv_iconst (v := 0) hx hb d_Ru_giveAnswer_1 (by decide) ?_
  refine va_put (D := (dC, dI)) (ci := 10) (v := .int 0) (ty := .int) (C := R_Ru) (T := F_Ru) (N := 21) hx hb hts (fun w h => List.mem_cons_of_mem _ (in_Ru w h)) t_Ru t_Ru_ok n_Ru hown hK.1 hP hD hS 0 rfl rfl 15 (by decide) (hts _ (List.mem_cons_of_mem _ mw_528)) (fun _ h9 => h9) rfl (by decide +kernel) rfl rfl (st_lt hru_skipped) d_Ru_giveAnswer_2 (fun H locs hP hD hS => ?_)
  have g2_15 : fx (xn.set 15 (.int 0)) 15 (.int 0) := (st_eq hru_skipped)
  have g2_4 : fx (xn.set 15 (.int 0)) 4 (.int 4) := (st_ne hru_state (by decide))
  have hP : va_P (dC, dI) classes [(oRu, .inr (10, (xn.set 15 (.int 0))))] H := hP
  have hD : va_D A [(oRu, .inr (10, (xn.set 15 (.int 0))))] := hD
  refine lv_aload_n hx hb d_Ru_giveAnswer_5 rfl (lv_at hl 0 rfl) ?_
  refine va_get (D := (dC, dI)) (ci := 10) (v := .int 4) (C := R_Ru) (T := F_Ru) (N := 21) hx hb hts (fun w h => List.mem_cons_of_mem _ (in_Ru w h)) hown hK.1 hP 0 rfl rfl 4 (by decide) (hts _ (List.mem_cons_of_mem _ mw_516)) (fun _ h9 => h9) g2_4 d_Ru_giveAnswer_6 ?_
  refine lv_if_ne (tgt := 22) hx hb d_Ru_giveAnswer_9 (by decide) (fun _ => ?_) (fun h => absurd h (by decide))
  refine lv_iconst (v := (-1)) hx hb d_Ru_giveAnswer_22 (by decide) ?_
  refine lv_istore_n hx hb d_Ru_giveAnswer_23 rfl hl (by decide) rfl (fun ls hl => ?_)
  have hl : lv_has ls 4 [(3, .int (-1)), (0, .ref oRu), (1, .long vv)] := hl
  refine lv_iload_n hx hb d_Ru_giveAnswer_24 rfl (lv_at hl 0 rfl) ?_
  refine lv_if_ge (tgt := 30) hx hb d_Ru_giveAnswer_25 (by decide) (fun h => absurd h (by decide)) (fun _ => ?_)
  refine lv_iconst (v := 0) hx hb d_Ru_giveAnswer_28 (by decide) ?_
  exact W.zret (v := 0) (ty := .boolean) hx hb hr (by decide) (fun t ht hW => ⟨⟨_, (), rfl, (rfl), trivial⟩, hS.F ht⟩) hS.2.2 d_Ru_giveAnswer_29
abbrev t_Bh_answer_8 : List UInt8 := 172 :: []
abbrev t_Bh_answer_5 : List UInt8 := 182 :: 1 :: 60 :: t_Bh_answer_8
abbrev t_Bh_answer_4 : List UInt8 := 31 :: t_Bh_answer_5
abbrev t_Bh_answer_1 : List UInt8 := 180 :: 0 :: 62 :: t_Bh_answer_4
abbrev t_Bh_answer_0 : List UInt8 := 42 :: t_Bh_answer_1
theorem a_Bh_answer_0 : dk_at b_Bh_answer 0 t_Bh_answer_0 := dk_start (by decide +kernel)
theorem a_Bh_answer_1 : dk_at b_Bh_answer 1 t_Bh_answer_1 := dk_go 1 a_Bh_answer_0 rfl
theorem a_Bh_answer_4 : dk_at b_Bh_answer 4 t_Bh_answer_4 := dk_go 3 a_Bh_answer_1 rfl
theorem a_Bh_answer_5 : dk_at b_Bh_answer 5 t_Bh_answer_5 := dk_go 1 a_Bh_answer_4 rfl
theorem a_Bh_answer_8 : dk_at b_Bh_answer 8 t_Bh_answer_8 := dk_go 3 a_Bh_answer_5 rfl
theorem d_Bh_answer_0 : decode b_Bh_answer 0 = .ok (.aload_n 0, 1) := dk_0 a_Bh_answer_0 (dko_42 _)
theorem d_Bh_answer_1 : decode b_Bh_answer 1 = .ok (.getfield 62, 3) := dk_U2 a_Bh_answer_1 (dko_180 _) rfl
theorem d_Bh_answer_4 : decode b_Bh_answer 4 = .ok (.lload_n 1, 1) := dk_0 a_Bh_answer_4 (dko_31 _)
theorem d_Bh_answer_5 : decode b_Bh_answer 5 = .ok (.invokevirtual 316, 3) := dk_U2 a_Bh_answer_5 (dko_182 _) rfl
theorem d_Bh_answer_8 : decode b_Bh_answer 8 = .ok (.ireturn, 1) := dk_0 a_Bh_answer_8 (dko_172 _)
set_option maxHeartbeats 4000000 in
set_option maxRecDepth 100000 in
theorem c_Bh_answer (l : Launch) (dC : Nat → ClassId) (dI : Nat → Nat → Nat) (cI cB cZ cJ : ClassId) (vv : Int64) (oB : Nat) (oRu : Nat) (xb : List Value) (hb_run : fx xb 6 (.ref oRu)) (xn : List Value) (hru_state : fx xn 4 (.int 4)) (hru_skipped : fx xn 15 (.int 0)) (sz : Nat) : Met l y_Bh_answer w_Bh_answer ({ frames := 1, cells := 0, slots := 0, locals := 23 }) (va_Pc [.ref oB, .long vv] (PW dC dI cI cB cZ cJ [(oB, .inr (0, xb)), (oRu, .inr (10, xn))] sz)) (va_Qi (fun (r : Int32) (_ : Unit) => r = 0) (fun _ _ => True) (va_A [(oB, .inr (0, xb)), (oRu, .inr (10, xn))] sz)) 0 0 (va_A [(oB, .inr (0, xb)), (oRu, .inr (10, xn))] sz) := by
  refine Met.ofW (cc := b_Bh_answer) (maxL := 3) (ret := (some .boolean)) (by decide) rfl ?_
  intro p e s m args below meth c s₁ B hml hv
  obtain ⟨rfl, hsz, hP, hK, hD⟩ := hv
  have hx := B.exec
  have hb := B.bytes
  have hr := B.returns
  have hts := atoms_spec (ws := w_Bh_answer) B.pre
  have hown : s.vm.findClass R_Bh = some m.cls := findClass_of_methodNamed B.named
  have hlocks := B.notSynchronized
  subst hsz
  have hD := hD.self (sz := s.heap.size)
  generalize hAe : va_A [(oB, .inr (0, xb)), (oRu, .inr (10, xn))] s.heap.size = A at hD ⊢
  have hA : ∀ q : Nat, s.heap.size ≤ q → A q := fun q h => by rw [← hAe]; exact Or.inr h
  have hS : va_S A s.heap s.heap [] := va_S.rf
  have hP : va_P (dC, dI) classes [(oB, .inr (0, xb)), (oRu, .inr (10, xn))] s.heap := hP
  have hl := lv_entry ([.ref oB, .long vv]) (n := 3) (Nat.le_of_ble_eq_true rfl)
  rw [lg_entry_eq]
  generalize (lg_sl ([.ref oB, .long vv]) ++ List.replicate (3 - (lg_sl ([.ref oB, .long vv])).length) Slot.unset).toArray = ls at hl ⊢
  have hl : lv_has ls 3 [(0, .ref oB), (1, .long vv)] := hl
  refine lv_aload_n hx hb d_Bh_answer_0 rfl (lv_at hl 0 rfl) ?_
  refine va_get (D := (dC, dI)) (ci := 0) (v := .ref oRu) (C := R_Bh) (T := F_Bh) (N := 16) hx hb hts (fun w h => List.mem_cons_of_mem _ (in_Bh w h)) hown hK.1 hP 0 rfl rfl 6 (by decide) (hts _ (List.mem_cons_of_mem _ mw_690)) (fun _ h9 => h9) hb_run d_Bh_answer_1 ?_
  refine lv_lload_n hx hb d_Bh_answer_4 rfl (lv_at hl 1 rfl) ?_
  have hPc := hP.sub (ws' := [(oRu, .inr (10, xn))]) [1] rfl
  have hDc := hD.sub (ws' := [(oRu, .inr (10, xn))]) [1] (by decide) rfl
  have hFc := va_free (wc := [(oRu, .inr (10, xn))]) hD hS hA [1] rfl
  refine va_calli (va_runV (C := R_Ru) (As := [.long vv]) (rest := []) ⟨hx, hb, hml, hown, hts⟩ (c_Ru_giveAnswer l dC dI cI cB cZ cJ vv oRu xn hru_state hru_skipped s.heap.size) (cwV 1 hts (tb_V mw_1472 mw_1473 mw_1474 mw_11 mw_1475) rfl rfl rfl ⟨rfl, by decide +kernel, by decide +kernel, by decide +kernel⟩ ⟨(Nat.le_of_ble_eq_true rfl), (Nat.le_of_ble_eq_true rfl)⟩) ⟨pw_blind, va_recv (q := (R_Ru, F_Ru, 21)) hK.1 hP (ci := 10) (q0 := 1) rfl rfl, pw_pre hPc hK hDc⟩ rfl rfl hl.1 rfl (lv_room (Nat.le_of_ble_eq_true rfl)) d_Bh_answer_5 ⟨(Nat.le_of_ble_eq_true rfl), (Nat.le_of_ble_eq_true rfl)⟩) hS (fun q _ h => hFc q h) hFc (fun r u t H locs ht hvm hw hB hz1 hk1 hS => ?_)
  obtain ⟨hP, hD⟩ := va_join (wr := [(oB, .inr (0, xb))]) (w1 := []) hP hD [1] [0] rfl rfl (by decide) (by decide) hk1 hFc wn_P wn_D
  have hP : va_P (dC, dI) classes [(oB, .inr (0, xb))] H := hP
  have hD : va_D A [(oB, .inr (0, xb))] := hD
  obtain rfl : r = 0 := hw
  exact W.zret (v := 0) (ty := .boolean) hx hb hr (by decide) (fun t ht hW => ⟨⟨_, (), rfl, (rfl), trivial⟩, hS.F ht⟩) hS.2.2 d_Bh_answer_8
abbrev t_Ru_standingNode_42 : List UInt8 := 172 :: []
abbrev t_Ru_standingNode_41 : List UInt8 := 46 :: t_Ru_standingNode_42
abbrev t_Ru_standingNode_40 : List UInt8 := 28 :: t_Ru_standingNode_41
abbrev t_Ru_standingNode_37 : List UInt8 := 180 :: 0 :: 22 :: t_Ru_standingNode_40
abbrev t_Ru_standingNode_36 : List UInt8 := 42 :: t_Ru_standingNode_37
abbrev t_Ru_standingNode_33 : List UInt8 := 167 :: 0 :: 9 :: t_Ru_standingNode_36
abbrev t_Ru_standingNode_32 : List UInt8 := 2 :: t_Ru_standingNode_33
abbrev t_Ru_standingNode_29 : List UInt8 := 156 :: 0 :: 7 :: t_Ru_standingNode_32
abbrev t_Ru_standingNode_28 : List UInt8 := 28 :: t_Ru_standingNode_29
abbrev t_Ru_standingNode_27 : List UInt8 := 61 :: t_Ru_standingNode_28
abbrev t_Ru_standingNode_26 : List UInt8 := 2 :: t_Ru_standingNode_27
abbrev t_Ru_standingNode_23 : List UInt8 := 167 :: 0 :: 4 :: t_Ru_standingNode_26
abbrev t_Ru_standingNode_20 : List UInt8 := 182 :: 0 :: 212 :: t_Ru_standingNode_23
abbrev t_Ru_standingNode_19 : List UInt8 := 3 :: t_Ru_standingNode_20
abbrev t_Ru_standingNode_18 : List UInt8 := 3 :: t_Ru_standingNode_19
abbrev t_Ru_standingNode_17 : List UInt8 := 3 :: t_Ru_standingNode_18
abbrev t_Ru_standingNode_16 : List UInt8 := 42 :: t_Ru_standingNode_17
abbrev t_Ru_standingNode_13 : List UInt8 := 155 :: 0 :: 13 :: t_Ru_standingNode_16
abbrev t_Ru_standingNode_12 : List UInt8 := 27 :: t_Ru_standingNode_13
abbrev t_Ru_standingNode_9 : List UInt8 := 153 :: 0 :: 17 :: t_Ru_standingNode_12
abbrev t_Ru_standingNode_6 : List UInt8 := 182 :: 0 :: 219 :: t_Ru_standingNode_9
abbrev t_Ru_standingNode_5 : List UInt8 := 42 :: t_Ru_standingNode_6
abbrev t_Ru_standingNode_2 : List UInt8 := 181 :: 0 :: 216 :: t_Ru_standingNode_5
abbrev t_Ru_standingNode_1 : List UInt8 := 27 :: t_Ru_standingNode_2
abbrev t_Ru_standingNode_0 : List UInt8 := 42 :: t_Ru_standingNode_1
theorem a_Ru_standingNode_0 : dk_at b_Ru_standingNode 0 t_Ru_standingNode_0 := dk_start (by decide +kernel)
theorem a_Ru_standingNode_1 : dk_at b_Ru_standingNode 1 t_Ru_standingNode_1 := dk_go 1 a_Ru_standingNode_0 rfl
theorem a_Ru_standingNode_2 : dk_at b_Ru_standingNode 2 t_Ru_standingNode_2 := dk_go 1 a_Ru_standingNode_1 rfl
theorem a_Ru_standingNode_5 : dk_at b_Ru_standingNode 5 t_Ru_standingNode_5 := dk_go 3 a_Ru_standingNode_2 rfl
theorem a_Ru_standingNode_6 : dk_at b_Ru_standingNode 6 t_Ru_standingNode_6 := dk_go 1 a_Ru_standingNode_5 rfl
theorem a_Ru_standingNode_9 : dk_at b_Ru_standingNode 9 t_Ru_standingNode_9 := dk_go 3 a_Ru_standingNode_6 rfl
theorem a_Ru_standingNode_12 : dk_at b_Ru_standingNode 12 t_Ru_standingNode_12 := dk_go 3 a_Ru_standingNode_9 rfl
theorem a_Ru_standingNode_13 : dk_at b_Ru_standingNode 13 t_Ru_standingNode_13 := dk_go 1 a_Ru_standingNode_12 rfl
theorem a_Ru_standingNode_16 : dk_at b_Ru_standingNode 16 t_Ru_standingNode_16 := dk_go 3 a_Ru_standingNode_13 rfl
theorem a_Ru_standingNode_17 : dk_at b_Ru_standingNode 17 t_Ru_standingNode_17 := dk_go 1 a_Ru_standingNode_16 rfl
theorem a_Ru_standingNode_18 : dk_at b_Ru_standingNode 18 t_Ru_standingNode_18 := dk_go 1 a_Ru_standingNode_17 rfl
theorem a_Ru_standingNode_19 : dk_at b_Ru_standingNode 19 t_Ru_standingNode_19 := dk_go 1 a_Ru_standingNode_18 rfl
theorem a_Ru_standingNode_20 : dk_at b_Ru_standingNode 20 t_Ru_standingNode_20 := dk_go 1 a_Ru_standingNode_19 rfl
theorem a_Ru_standingNode_23 : dk_at b_Ru_standingNode 23 t_Ru_standingNode_23 := dk_go 3 a_Ru_standingNode_20 rfl
theorem a_Ru_standingNode_26 : dk_at b_Ru_standingNode 26 t_Ru_standingNode_26 := dk_go 3 a_Ru_standingNode_23 rfl
theorem a_Ru_standingNode_27 : dk_at b_Ru_standingNode 27 t_Ru_standingNode_27 := dk_go 1 a_Ru_standingNode_26 rfl
theorem a_Ru_standingNode_28 : dk_at b_Ru_standingNode 28 t_Ru_standingNode_28 := dk_go 1 a_Ru_standingNode_27 rfl
theorem a_Ru_standingNode_29 : dk_at b_Ru_standingNode 29 t_Ru_standingNode_29 := dk_go 1 a_Ru_standingNode_28 rfl
theorem a_Ru_standingNode_32 : dk_at b_Ru_standingNode 32 t_Ru_standingNode_32 := dk_go 3 a_Ru_standingNode_29 rfl
theorem a_Ru_standingNode_33 : dk_at b_Ru_standingNode 33 t_Ru_standingNode_33 := dk_go 1 a_Ru_standingNode_32 rfl
theorem a_Ru_standingNode_36 : dk_at b_Ru_standingNode 36 t_Ru_standingNode_36 := dk_go 3 a_Ru_standingNode_33 rfl
theorem a_Ru_standingNode_37 : dk_at b_Ru_standingNode 37 t_Ru_standingNode_37 := dk_go 1 a_Ru_standingNode_36 rfl
theorem a_Ru_standingNode_40 : dk_at b_Ru_standingNode 40 t_Ru_standingNode_40 := dk_go 3 a_Ru_standingNode_37 rfl
theorem a_Ru_standingNode_41 : dk_at b_Ru_standingNode 41 t_Ru_standingNode_41 := dk_go 1 a_Ru_standingNode_40 rfl
theorem a_Ru_standingNode_42 : dk_at b_Ru_standingNode 42 t_Ru_standingNode_42 := dk_go 1 a_Ru_standingNode_41 rfl
theorem d_Ru_standingNode_0 : decode b_Ru_standingNode 0 = .ok (.aload_n 0, 1) := dk_0 a_Ru_standingNode_0 (dko_42 _)
theorem d_Ru_standingNode_1 : decode b_Ru_standingNode 1 = .ok (.iload_n 1, 1) := dk_0 a_Ru_standingNode_1 (dko_27 _)
theorem d_Ru_standingNode_2 : decode b_Ru_standingNode 2 = .ok (.putfield 216, 3) := dk_U2 a_Ru_standingNode_2 (dko_181 _) rfl
theorem d_Ru_standingNode_5 : decode b_Ru_standingNode 5 = .ok (.aload_n 0, 1) := dk_0 a_Ru_standingNode_5 (dko_42 _)
theorem d_Ru_standingNode_6 : decode b_Ru_standingNode 6 = .ok (.invokevirtual 219, 3) := dk_U2 a_Ru_standingNode_6 (dko_182 _) rfl
theorem d_Ru_standingNode_9 : decode b_Ru_standingNode 9 = .ok (.ifCond .eq 17, 3) := dk_S2 a_Ru_standingNode_9 (dko_153 _) (by decide +kernel)
theorem d_Ru_standingNode_26 : decode b_Ru_standingNode 26 = .ok (.iconst (-1), 1) := dk_0 a_Ru_standingNode_26 (dko_2 _)
theorem d_Ru_standingNode_27 : decode b_Ru_standingNode 27 = .ok (.istore_n 2, 1) := dk_0 a_Ru_standingNode_27 (dko_61 _)
theorem d_Ru_standingNode_28 : decode b_Ru_standingNode 28 = .ok (.iload_n 2, 1) := dk_0 a_Ru_standingNode_28 (dko_28 _)
theorem d_Ru_standingNode_29 : decode b_Ru_standingNode 29 = .ok (.ifCond .ge 7, 3) := dk_S2 a_Ru_standingNode_29 (dko_156 _) (by decide +kernel)
theorem d_Ru_standingNode_32 : decode b_Ru_standingNode 32 = .ok (.iconst (-1), 1) := dk_0 a_Ru_standingNode_32 (dko_2 _)
theorem d_Ru_standingNode_33 : decode b_Ru_standingNode 33 = .ok (.goto 9, 3) := dk_S2 a_Ru_standingNode_33 (dko_167 _) (by decide +kernel)
theorem d_Ru_standingNode_42 : decode b_Ru_standingNode 42 = .ok (.ireturn, 1) := dk_0 a_Ru_standingNode_42 (dko_172 _)
set_option maxHeartbeats 4000000 in
set_option maxRecDepth 100000 in
theorem c_Ru_standingNode (l : Launch) (dC : Nat → ClassId) (dI : Nat → Nat → Nat) (cI cB cZ cJ : ClassId) (kk : Int32) (oRu : Nat) (xn : List Value) (hru_state : fx xn 4 (.int 4)) (hru_skipped : fx xn 15 (.int 0)) (sz : Nat) : Met l y_Ru_standingNode w_Ru_standingNode ({ frames := 1, cells := 0, slots := 0, locals := 20 }) (va_Pc [.ref oRu, .int kk] (PW dC dI cI cB cZ cJ [(oRu, .inr (10, xn))] sz)) (va_Qi (fun (r : Int32) (_ : Unit) => r = (-1)) (fun _ _ => True) (va_A [(oRu, .inr (10, xn))] sz)) 0 0 (va_A [(oRu, .inr (10, xn))] sz) := by
  refine Met.ofW (cc := b_Ru_standingNode) (maxL := 3) (ret := (some .int)) (by decide) rfl ?_
  intro p e s m args below meth c s₁ B hml hv
  obtain ⟨rfl, hsz, hP, hK, hD⟩ := hv
  have hx := B.exec
  have hb := B.bytes
  have hr := B.returns
  have hts := atoms_spec (ws := w_Ru_standingNode) B.pre
  have hown : s.vm.findClass R_Ru = some m.cls := findClass_of_methodNamed B.named
  have hlocks := B.notSynchronized
  subst hsz
  have hD := hD.self (sz := s.heap.size)
  generalize hAe : va_A [(oRu, .inr (10, xn))] s.heap.size = A at hD ⊢
  have hA : ∀ q : Nat, s.heap.size ≤ q → A q := fun q h => by rw [← hAe]; exact Or.inr h
  have hS : va_S A s.heap s.heap [] := va_S.rf
  have hP : va_P (dC, dI) classes [(oRu, .inr (10, xn))] s.heap := hP
  have hl := lv_entry ([.ref oRu, .int kk]) (n := 3) (Nat.le_of_ble_eq_true rfl)
  rw [lg_entry_eq]
  generalize (lg_sl ([.ref oRu, .int kk]) ++ List.replicate (3 - (lg_sl ([.ref oRu, .int kk])).length) Slot.unset).toArray = ls at hl ⊢
  have hl : lv_has ls 3 [(0, .ref oRu), (1, .int kk)] := hl
  refine lv_aload_n hx hb d_Ru_standingNode_0 rfl (lv_at hl 0 rfl) ?_
  refine lv_iload_n hx hb d_Ru_standingNode_1 rfl (lv_at hl 1 rfl) ?_
  refine va_put (D := (dC, dI)) (ci := 10) (v := .int kk) (ty := .int) (C := R_Ru) (T := F_Ru) (N := 21) hx hb hts (fun w h => List.mem_cons_of_mem _ (in_Ru w h)) t_Ru t_Ru_ok n_Ru hown hK.1 hP hD hS 0 rfl rfl 15 (by decide) (hts _ (List.mem_cons_of_mem _ mw_528)) (fun _ h9 => h9) rfl (by decide +kernel) rfl rfl (st_lt hru_skipped) d_Ru_standingNode_2 (fun H locs hP hD hS => ?_)
  have g2_15 : fx (xn.set 15 (.int kk)) 15 (.int kk) := (st_eq hru_skipped)
  have g2_4 : fx (xn.set 15 (.int kk)) 4 (.int 4) := (st_ne hru_state (by decide))
  have hP : va_P (dC, dI) classes [(oRu, .inr (10, (xn.set 15 (.int kk))))] H := hP
  have hD : va_D A [(oRu, .inr (10, (xn.set 15 (.int kk))))] := hD
  refine lv_aload_n hx hb d_Ru_standingNode_5 rfl (lv_at hl 0 rfl) ?_
  have hPc := hP.sub (ws' := [(oRu, .inr (10, (xn.set 15 (.int kk))))]) [0] rfl
  have hDc := hD.sub (ws' := [(oRu, .inr (10, (xn.set 15 (.int kk))))]) [0] (by decide) rfl
  have hFc := pu_free hS hA
  refine va_calli (va_runV (C := R_Ru) (As := []) (rest := []) ⟨hx, hb, hml, hown, hts⟩ (c_Ru_isAlive l dC dI cI cB cZ cJ oRu ((xn.set 15 (.int kk))) g2_4 H.size) (cwV 0 hts (tb_V mw_1530 mw_1298 mw_1299 mw_11 mw_1300) rfl rfl rfl ⟨rfl, by decide +kernel, by decide +kernel, by decide +kernel⟩ ⟨(Nat.le_of_ble_eq_true rfl), (Nat.le_of_ble_eq_true rfl)⟩) ⟨pw_blind, va_recv (q := (R_Ru, F_Ru, 21)) hK.1 hP (ci := 10) (q0 := 0) rfl rfl, pw_pre hPc hK hDc⟩ rfl rfl hl.1 rfl (lv_room (Nat.le_of_ble_eq_true rfl)) d_Ru_standingNode_6 ⟨(Nat.le_of_ble_eq_true rfl), (Nat.le_of_ble_eq_true rfl)⟩) hS (fun q _ h => hFc q h) hFc (fun r u t H locs ht hvm hw hB hz1 hk1 hS => ?_)
  have hP := pu_kept hP hk1
  obtain rfl : r = 0 := hw
  refine lv_if_eq (tgt := 26) hx hb d_Ru_standingNode_9 (by decide) (fun _ => ?_) (fun h => absurd (by decide) h)
  refine lv_iconst (v := (-1)) hx hb d_Ru_standingNode_26 (by decide) ?_
  refine lv_istore_n hx hb d_Ru_standingNode_27 rfl hl (by decide) rfl (fun ls hl => ?_)
  have hl : lv_has ls 3 [(2, .int (-1)), (0, .ref oRu), (1, .int kk)] := hl
  refine lv_iload_n hx hb d_Ru_standingNode_28 rfl (lv_at hl 0 rfl) ?_
  refine lv_if_ge (tgt := 36) hx hb d_Ru_standingNode_29 (by decide) (fun h => absurd h (by decide)) (fun _ => ?_)
  refine lv_iconst (v := (-1)) hx hb d_Ru_standingNode_32 (by decide) ?_
  refine lv_goto (tgt := 42) hx hb d_Ru_standingNode_33 (by decide) ?_
  exact W.iret (v := (-1)) hx hb hr (fun t ht hW => ⟨⟨_, (), rfl, (rfl), trivial⟩, hS.F ht⟩) hS.2.2 d_Ru_standingNode_42
abbrev t_Bh_still_8 : List UInt8 := 172 :: []
abbrev t_Bh_still_5 : List UInt8 := 182 :: 1 :: 89 :: t_Bh_still_8
abbrev t_Bh_still_4 : List UInt8 := 27 :: t_Bh_still_5
abbrev t_Bh_still_1 : List UInt8 := 180 :: 0 :: 62 :: t_Bh_still_4
abbrev t_Bh_still_0 : List UInt8 := 42 :: t_Bh_still_1
theorem a_Bh_still_0 : dk_at b_Bh_still 0 t_Bh_still_0 := dk_start (by decide +kernel)
theorem a_Bh_still_1 : dk_at b_Bh_still 1 t_Bh_still_1 := dk_go 1 a_Bh_still_0 rfl
theorem a_Bh_still_4 : dk_at b_Bh_still 4 t_Bh_still_4 := dk_go 3 a_Bh_still_1 rfl
theorem a_Bh_still_5 : dk_at b_Bh_still 5 t_Bh_still_5 := dk_go 1 a_Bh_still_4 rfl
theorem a_Bh_still_8 : dk_at b_Bh_still 8 t_Bh_still_8 := dk_go 3 a_Bh_still_5 rfl
theorem d_Bh_still_0 : decode b_Bh_still 0 = .ok (.aload_n 0, 1) := dk_0 a_Bh_still_0 (dko_42 _)
theorem d_Bh_still_1 : decode b_Bh_still 1 = .ok (.getfield 62, 3) := dk_U2 a_Bh_still_1 (dko_180 _) rfl
theorem d_Bh_still_4 : decode b_Bh_still 4 = .ok (.iload_n 1, 1) := dk_0 a_Bh_still_4 (dko_27 _)
theorem d_Bh_still_5 : decode b_Bh_still 5 = .ok (.invokevirtual 345, 3) := dk_U2 a_Bh_still_5 (dko_182 _) rfl
theorem d_Bh_still_8 : decode b_Bh_still 8 = .ok (.ireturn, 1) := dk_0 a_Bh_still_8 (dko_172 _)
set_option maxHeartbeats 4000000 in
set_option maxRecDepth 100000 in
theorem c_Bh_still (l : Launch) (dC : Nat → ClassId) (dI : Nat → Nat → Nat) (cI cB cZ cJ : ClassId) (kk : Int32) (oB : Nat) (oRu : Nat) (xb : List Value) (hb_run : fx xb 6 (.ref oRu)) (xn : List Value) (hru_state : fx xn 4 (.int 4)) (hru_skipped : fx xn 15 (.int 0)) (sz : Nat) : Met l y_Bh_still w_Bh_still ({ frames := 2, cells := 0, slots := 0, locals := 42 }) (va_Pc [.ref oB, .int kk] (PW dC dI cI cB cZ cJ [(oB, .inr (0, xb)), (oRu, .inr (10, xn))] sz)) (va_Qi (fun (r : Int32) (_ : Unit) => r = (-1)) (fun _ _ => True) (va_A [(oB, .inr (0, xb)), (oRu, .inr (10, xn))] sz)) 0 0 (va_A [(oB, .inr (0, xb)), (oRu, .inr (10, xn))] sz) := by
  refine Met.ofW (cc := b_Bh_still) (maxL := 2) (ret := (some .int)) (by decide) rfl ?_
  intro p e s m args below meth c s₁ B hml hv
  obtain ⟨rfl, hsz, hP, hK, hD⟩ := hv
  have hx := B.exec
  have hb := B.bytes
  have hr := B.returns
  have hts := atoms_spec (ws := w_Bh_still) B.pre
  have hown : s.vm.findClass R_Bh = some m.cls := findClass_of_methodNamed B.named
  have hlocks := B.notSynchronized
  subst hsz
  have hD := hD.self (sz := s.heap.size)
  generalize hAe : va_A [(oB, .inr (0, xb)), (oRu, .inr (10, xn))] s.heap.size = A at hD ⊢
  have hA : ∀ q : Nat, s.heap.size ≤ q → A q := fun q h => by rw [← hAe]; exact Or.inr h
  have hS : va_S A s.heap s.heap [] := va_S.rf
  have hP : va_P (dC, dI) classes [(oB, .inr (0, xb)), (oRu, .inr (10, xn))] s.heap := hP
  have hl := lv_entry ([.ref oB, .int kk]) (n := 2) (Nat.le_of_ble_eq_true rfl)
  rw [lg_entry_eq]
  generalize (lg_sl ([.ref oB, .int kk]) ++ List.replicate (2 - (lg_sl ([.ref oB, .int kk])).length) Slot.unset).toArray = ls at hl ⊢
  have hl : lv_has ls 2 [(0, .ref oB), (1, .int kk)] := hl
  refine lv_aload_n hx hb d_Bh_still_0 rfl (lv_at hl 0 rfl) ?_
  refine va_get (D := (dC, dI)) (ci := 0) (v := .ref oRu) (C := R_Bh) (T := F_Bh) (N := 16) hx hb hts (fun w h => List.mem_cons_of_mem _ (in_Bh w h)) hown hK.1 hP 0 rfl rfl 6 (by decide) (hts _ (List.mem_cons_of_mem _ mw_690)) (fun _ h9 => h9) hb_run d_Bh_still_1 ?_
  refine lv_iload_n hx hb d_Bh_still_4 rfl (lv_at hl 1 rfl) ?_
  have hPc := hP.sub (ws' := [(oRu, .inr (10, xn))]) [1] rfl
  have hDc := hD.sub (ws' := [(oRu, .inr (10, xn))]) [1] (by decide) rfl
  have hFc := va_free (wc := [(oRu, .inr (10, xn))]) hD hS hA [1] rfl
  refine va_calli (va_runV (C := R_Ru) (As := [.int kk]) (rest := []) ⟨hx, hb, hml, hown, hts⟩ (c_Ru_standingNode l dC dI cI cB cZ cJ kk oRu xn hru_state hru_skipped s.heap.size) (cwV 1 hts (tb_V mw_1526 mw_1527 mw_1528 mw_11 mw_1529) rfl rfl rfl ⟨rfl, by decide +kernel, by decide +kernel, by decide +kernel⟩ ⟨(Nat.le_of_ble_eq_true rfl), (Nat.le_of_ble_eq_true rfl)⟩) ⟨pw_blind, va_recv (q := (R_Ru, F_Ru, 21)) hK.1 hP (ci := 10) (q0 := 1) rfl rfl, pw_pre hPc hK hDc⟩ rfl rfl hl.1 rfl (lv_room (Nat.le_of_ble_eq_true rfl)) d_Bh_still_5 ⟨(Nat.le_of_ble_eq_true rfl), (Nat.le_of_ble_eq_true rfl)⟩) hS (fun q _ h => hFc q h) hFc (fun r u t H locs ht hvm hw hB hz1 hk1 hS => ?_)
  obtain ⟨hP, hD⟩ := va_join (wr := [(oB, .inr (0, xb))]) (w1 := []) hP hD [1] [0] rfl rfl (by decide) (by decide) hk1 hFc wn_P wn_D
  have hP : va_P (dC, dI) classes [(oB, .inr (0, xb))] H := hP
  have hD : va_D A [(oB, .inr (0, xb))] := hD
  obtain rfl : r = (-1) := hw
  exact W.iret (v := (-1)) hx hb hr (fun t ht hW => ⟨⟨_, (), rfl, (rfl), trivial⟩, hS.F ht⟩) hS.2.2 d_Bh_still_8
abbrev t_Tp_hasRoom_22 : List UInt8 := 172 :: []
abbrev t_Tp_hasRoom_21 : List UInt8 := 3 :: t_Tp_hasRoom_22
abbrev t_Tp_hasRoom_18 : List UInt8 := 167 :: 0 :: 4 :: t_Tp_hasRoom_21
abbrev t_Tp_hasRoom_17 : List UInt8 := 4 :: t_Tp_hasRoom_18
abbrev t_Tp_hasRoom_14 : List UInt8 := 163 :: 0 :: 7 :: t_Tp_hasRoom_17
abbrev t_Tp_hasRoom_13 : List UInt8 := 104 :: t_Tp_hasRoom_14
abbrev t_Tp_hasRoom_12 : List UInt8 := 190 :: t_Tp_hasRoom_13
abbrev t_Tp_hasRoom_9 : List UInt8 := 180 :: 0 :: 9 :: t_Tp_hasRoom_12
abbrev t_Tp_hasRoom_8 : List UInt8 := 42 :: t_Tp_hasRoom_9
abbrev t_Tp_hasRoom_7 : List UInt8 := 7 :: t_Tp_hasRoom_8
abbrev t_Tp_hasRoom_6 : List UInt8 := 96 :: t_Tp_hasRoom_7
abbrev t_Tp_hasRoom_4 : List UInt8 := 16 :: 20 :: t_Tp_hasRoom_6
abbrev t_Tp_hasRoom_1 : List UInt8 := 180 :: 0 :: 15 :: t_Tp_hasRoom_4
abbrev t_Tp_hasRoom_0 : List UInt8 := 42 :: t_Tp_hasRoom_1
theorem a_Tp_hasRoom_0 : dk_at b_Tp_hasRoom 0 t_Tp_hasRoom_0 := dk_start (by decide +kernel)
theorem a_Tp_hasRoom_1 : dk_at b_Tp_hasRoom 1 t_Tp_hasRoom_1 := dk_go 1 a_Tp_hasRoom_0 rfl
theorem a_Tp_hasRoom_4 : dk_at b_Tp_hasRoom 4 t_Tp_hasRoom_4 := dk_go 3 a_Tp_hasRoom_1 rfl
theorem a_Tp_hasRoom_6 : dk_at b_Tp_hasRoom 6 t_Tp_hasRoom_6 := dk_go 2 a_Tp_hasRoom_4 rfl
theorem a_Tp_hasRoom_7 : dk_at b_Tp_hasRoom 7 t_Tp_hasRoom_7 := dk_go 1 a_Tp_hasRoom_6 rfl
theorem a_Tp_hasRoom_8 : dk_at b_Tp_hasRoom 8 t_Tp_hasRoom_8 := dk_go 1 a_Tp_hasRoom_7 rfl
theorem a_Tp_hasRoom_9 : dk_at b_Tp_hasRoom 9 t_Tp_hasRoom_9 := dk_go 1 a_Tp_hasRoom_8 rfl
theorem a_Tp_hasRoom_12 : dk_at b_Tp_hasRoom 12 t_Tp_hasRoom_12 := dk_go 3 a_Tp_hasRoom_9 rfl
theorem a_Tp_hasRoom_13 : dk_at b_Tp_hasRoom 13 t_Tp_hasRoom_13 := dk_go 1 a_Tp_hasRoom_12 rfl
theorem a_Tp_hasRoom_14 : dk_at b_Tp_hasRoom 14 t_Tp_hasRoom_14 := dk_go 1 a_Tp_hasRoom_13 rfl
theorem a_Tp_hasRoom_17 : dk_at b_Tp_hasRoom 17 t_Tp_hasRoom_17 := dk_go 3 a_Tp_hasRoom_14 rfl
theorem a_Tp_hasRoom_18 : dk_at b_Tp_hasRoom 18 t_Tp_hasRoom_18 := dk_go 1 a_Tp_hasRoom_17 rfl
theorem a_Tp_hasRoom_21 : dk_at b_Tp_hasRoom 21 t_Tp_hasRoom_21 := dk_go 3 a_Tp_hasRoom_18 rfl
theorem a_Tp_hasRoom_22 : dk_at b_Tp_hasRoom 22 t_Tp_hasRoom_22 := dk_go 1 a_Tp_hasRoom_21 rfl
theorem d_Tp_hasRoom_0 : decode b_Tp_hasRoom 0 = .ok (.aload_n 0, 1) := dk_0 a_Tp_hasRoom_0 (dko_42 _)
theorem d_Tp_hasRoom_1 : decode b_Tp_hasRoom 1 = .ok (.getfield 15, 3) := dk_U2 a_Tp_hasRoom_1 (dko_180 _) rfl
theorem d_Tp_hasRoom_4 : decode b_Tp_hasRoom 4 = .ok (.bipush 20, 2) := dk_S1 a_Tp_hasRoom_4 (dko_16 _) (by decide +kernel)
theorem d_Tp_hasRoom_6 : decode b_Tp_hasRoom 6 = .ok (.iadd, 1) := dk_0 a_Tp_hasRoom_6 (dko_96 _)
theorem d_Tp_hasRoom_7 : decode b_Tp_hasRoom 7 = .ok (.iconst 4, 1) := dk_0 a_Tp_hasRoom_7 (dko_7 _)
theorem d_Tp_hasRoom_8 : decode b_Tp_hasRoom 8 = .ok (.aload_n 0, 1) := dk_0 a_Tp_hasRoom_8 (dko_42 _)
theorem d_Tp_hasRoom_9 : decode b_Tp_hasRoom 9 = .ok (.getfield 9, 3) := dk_U2 a_Tp_hasRoom_9 (dko_180 _) rfl
theorem d_Tp_hasRoom_12 : decode b_Tp_hasRoom 12 = .ok (.arraylength, 1) := dk_0 a_Tp_hasRoom_12 (dko_190 _)
theorem d_Tp_hasRoom_13 : decode b_Tp_hasRoom 13 = .ok (.imul, 1) := dk_0 a_Tp_hasRoom_13 (dko_104 _)
theorem d_Tp_hasRoom_14 : decode b_Tp_hasRoom 14 = .ok (.if_icmp .gt 7, 3) := dk_S2 a_Tp_hasRoom_14 (dko_163 _) (by decide +kernel)
theorem d_Tp_hasRoom_17 : decode b_Tp_hasRoom 17 = .ok (.iconst 1, 1) := dk_0 a_Tp_hasRoom_17 (dko_4 _)
theorem d_Tp_hasRoom_18 : decode b_Tp_hasRoom 18 = .ok (.goto 4, 3) := dk_S2 a_Tp_hasRoom_18 (dko_167 _) (by decide +kernel)
theorem d_Tp_hasRoom_22 : decode b_Tp_hasRoom 22 = .ok (.ireturn, 1) := dk_0 a_Tp_hasRoom_22 (dko_172 _)
set_option maxHeartbeats 4000000 in
set_option maxRecDepth 100000 in
theorem c_Tp_hasRoom (l : Launch) (dC : Nat → ClassId) (dI : Nat → Nat → Nat) (cI cB cZ cJ : ClassId) (oTp : Nat) (xt_cells : Nat) (xt : List Value) (htp_cells : fx xt 0 (.ref xt_cells)) (htp_length : fx xt 1 (.int 0)) (sz : Nat) : Met l y_Tp_hasRoom w_Tp_hasRoom ({ frames := 0, cells := 0, slots := 0, locals := 0 }) (va_Pc [.ref oTp] (PW dC dI cI cB cZ cJ [(oTp, .inr (1, xt)), (xt_cells, .inl (cI, 1005, .inl (fun _ => 0)))] sz)) (va_Qi (fun (r : Int32) (_ : Unit) => r = 1) (fun _ _ => True) (va_A [] sz)) 0 0 (va_A [] sz) := by
  refine Met.ofW (cc := b_Tp_hasRoom) (maxL := 1) (ret := (some .boolean)) (by decide) rfl ?_
  intro p e s m args below meth c s₁ B hml hv
  obtain ⟨rfl, hsz, hP, hK, hD⟩ := hv
  have hx := B.exec
  have hb := B.bytes
  have hr := B.returns
  have hts := atoms_spec (ws := w_Tp_hasRoom) B.pre
  have hown : s.vm.findClass R_Tp = some m.cls := findClass_of_methodNamed B.named
  have hlocks := B.notSynchronized
  subst hsz
  generalize hAe : va_A [] s.heap.size = A at ⊢
  have hA : ∀ q : Nat, s.heap.size ≤ q → A q := fun q h => by rw [← hAe]; exact Or.inr h
  have hS : va_S A s.heap s.heap [] := va_S.rf
  have hP : va_P (dC, dI) classes [(oTp, .inr (1, xt)), (xt_cells, .inl (cI, 1005, .inl (fun _ => 0)))] s.heap := hP
  have hl := lv_entry ([.ref oTp]) (n := 1) (Nat.le_of_ble_eq_true rfl)
  rw [lg_entry_eq]
  generalize (lg_sl ([.ref oTp]) ++ List.replicate (1 - (lg_sl ([.ref oTp])).length) Slot.unset).toArray = ls at hl ⊢
  have hl : lv_has ls 1 [(0, .ref oTp)] := hl
  refine lv_aload_n hx hb d_Tp_hasRoom_0 rfl (lv_at hl 0 rfl) ?_
  refine va_get (D := (dC, dI)) (ci := 1) (v := .int 0) (C := R_Tp) (T := F_Tp) (N := 3) hx hb hts (fun w h => List.mem_cons_of_mem _ (in_Tp w h)) hown hK.1 hP 0 rfl rfl 1 (by decide) (hts _ (List.mem_cons_of_mem _ mw_39)) (fun _ h9 => h9) htp_length d_Tp_hasRoom_1 ?_
  refine lv_bipush (v := 20) hx hb d_Tp_hasRoom_4 (by decide) ?_
  refine lv_iadd hx hb d_Tp_hasRoom_6 ?_
  refine lv_topi (fun x0 e0 => ?_)
  obtain rfl : x0 = 20 := e0.trans (by decide)
  refine lv_iconst (v := 4) hx hb d_Tp_hasRoom_7 (by decide) ?_
  refine lv_aload_n hx hb d_Tp_hasRoom_8 rfl (lv_at hl 0 rfl) ?_
  refine va_get (D := (dC, dI)) (ci := 1) (v := .ref xt_cells) (C := R_Tp) (T := F_Tp) (N := 3) hx hb hts (fun w h => List.mem_cons_of_mem _ (in_Tp w h)) hown hK.1 hP 0 rfl rfl 0 (by decide) (hts _ (List.mem_cons_of_mem _ mw_38)) (fun _ h9 => h9) htp_cells d_Tp_hasRoom_9 ?_
  refine va_alen hx hb hK.1 hP 1 0 rfl rfl (v := 1005) rfl d_Tp_hasRoom_12 ?_
  refine lv_imul hx hb d_Tp_hasRoom_13 ?_
  refine lv_topi (fun x0 e0 => ?_)
  obtain rfl : x0 = 4020 := e0.trans (by decide)
  refine lv_icmp_gt (tgt := 21) hx hb d_Tp_hasRoom_14 (by decide) (fun h => absurd h (by decide)) (fun _ => ?_)
  refine lv_iconst (v := 1) hx hb d_Tp_hasRoom_17 (by decide) ?_
  refine lv_goto (tgt := 22) hx hb d_Tp_hasRoom_18 (by decide) ?_
  exact W.zret (v := 1) (ty := .boolean) hx hb hr (by decide) (fun t ht hW => ⟨⟨_, (), rfl, (rfl), trivial⟩, hS.F ht⟩) hS.2.2 d_Tp_hasRoom_22
